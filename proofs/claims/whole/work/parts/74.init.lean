/-! the constructors' layout -/
def nz_f (f : Nat → Nat → Int32) (z : Nat) : Nat → Nat → Int32 := fun a b => if a = z then 0 else f a b
def sm_R (M M' : Mm) (a : Nat) : Prop := mm_s M' a = mm_s M a ∧ mm_r M' a = mm_r M a
section
variable {M M1 M2 : Mm} {f f1 f2 : Nat → Nat → Int32} {q k a z n t ci i v : Nat} {d : Nat × Nat}
theorem nz_e {j : Nat} : nz_f f z z j = 0 := if_pos rfl
theorem nz_o (h : a ≠ z) : nz_f f z a = f a := funext fun _ => if_neg h
theorem xi_nw {K : Nat → Mm → Rr} (hz : mm_z M = z) (h0 : 0 < z) : fo_nw (mm_wi M f) d K = K z (mm_wi (mm_nw M d) (nz_f f z)) := by
  unfold fo_nw
  rw [wi_z, hz, if_pos (by omega)]
  subst hz
  rfl
theorem nw_s (hz : mm_z M = z) : mm_s (mm_nw M d) z = d := by subst hz; exact if_pos rfl
theorem nw_z (hz : mm_z M = z) : mm_z (mm_nw M d) = z + 1 := by subst hz; rfl
theorem nw_o (hz : mm_z M = z) (h : a ≠ z) : sm_R M (mm_nw M d) a := by
  subst hz
  exact ⟨if_neg h, funext fun _ => if_neg h⟩
theorem pr_o (h : a ≠ q) : sm_R M (mm_pr M q k (some v)) a := ⟨rfl, funext fun _ => if_neg fun e => h e.1⟩
theorem pr_e : mm_r (mm_pr M q k (some v)) q k = some v := if_pos ⟨rfl, rfl⟩
theorem pr_k {j : Nat} (h : j ≠ k) : mm_r (mm_pr M q k (some v)) q j = mm_r M q j := if_neg fun e => h e.2
theorem sm_t (h1 : sm_R M M1 a) (h2 : sm_R M1 M2 a) : sm_R M M2 a := ⟨by rw [h2.1, h1.1], by rw [h2.2, h1.2]⟩
theorem sm_f : sm_R M M a := ⟨rfl, rfl⟩
theorem xi_sr {K : Mm → Rr} {i' : Int32} (hi' : i' = nI i) (h : mm_s M q = (t + 2, n)) (hi : i < n) (hn : n < 2 ^ 31) (hv : mm_s M v = (1, ci)) : fo_sr (mm_wi M f) t ci q i' v K = K (mm_wi (mm_pr M q i (some v)) f) := by
  subst hi'
  unfold fo_sr
  rw [wi_s, h, if_pos ⟨rfl, nI_in hi hn, hv⟩, nI_clamp (Nat.lt_trans hi hn)]
  rfl
theorem te_Lo (hL : te_L M q) (h : ∀ a, q ≤ a → a < q + 2 → sm_R M M1 a) : te_L M1 q := by
  unfold te_L at *
  rw [(h q (by omega) (by omega)).1, (h q (by omega) (by omega)).2, (h (q + 1) (by omega) (by omega)).1]; exact hL
theorem st_Lo (hL : st_L M q) (h : ∀ a, q ≤ a → a < q + 9 → sm_R M M1 a) : st_L M1 q := by
  obtain ⟨l0, l1, l2, l3, l4, l5, t1, t2, t3, s1, s2⟩ := hL
  unfold st_L
  rw [(h q (by omega) (by omega)).1, (h q (by omega) (by omega)).2, (h (q + 7) (by omega) (by omega)).1, (h (q + 8) (by omega) (by omega)).1]
  exact ⟨l0, l1, l2, l3, l4, l5, te_Lo t1 fun a x y => h a (by omega) (by omega), te_Lo t2 fun a x y => h a (by omega) (by omega), te_Lo t3 fun a x y => h a (by omega) (by omega), s1, s2⟩
theorem ag_Lo (hL : ag_L M q) (h : ∀ a, q ≤ a → a < q + 12 → sm_R M M1 a) : ag_L M1 q := by
  obtain ⟨l0, l1, l2, l3⟩ := hL
  unfold ag_L
  rw [(h q (by omega) (by omega)).1, (h q (by omega) (by omega)).2, (h (q + 1) (by omega) (by omega)).1, (h (q + 1) (by omega) (by omega)).2]
  exact ⟨l0, l1, l2, fun c hc => ⟨(l3 c hc).1, by rw [(h (q + 2 + c) (by omega) (by omega)).1]; exact (l3 c hc).2⟩⟩
theorem hi_Lo (hL : hi_L M q) (h : ∀ a, q ≤ a → a < q + 110 → sm_R M M1 a) : hi_L M1 q := by
  obtain ⟨l0, l1, l2, l3⟩ := hL
  unfold hi_L
  rw [(h q (by omega) (by omega)).1, (h q (by omega) (by omega)).2, (h (q + 1) (by omega) (by omega)).1, (h (q + 1) (by omega) (by omega)).2]
  exact ⟨l0, l1, l2, fun c hc => ⟨(l3 c hc).1, st_Lo (l3 c hc).2 fun a x y => h a (by omega) (by omega)⟩⟩
theorem ru_Lo (hL : ru_L M q) (h : ∀ a, q ≤ a → a < q + 3 → sm_R M M1 a) : ru_L M1 q := by
  unfold ru_L at *
  rw [(h q (by omega) (by omega)).1, (h q (by omega) (by omega)).2, (h (q + 1) (by omega) (by omega)).1, (h (q + 2) (by omega) (by omega)).1]; exact hL
theorem tx_Lo (hL : tx_L M q) (h : ∀ a, q ≤ a → a < q + 2 → sm_R M M1 a) : tx_L M1 q := by
  unfold tx_L at *
  rw [(h q (by omega) (by omega)).1, (h q (by omega) (by omega)).2, (h (q + 1) (by omega) (by omega)).1]; exact hL
theorem se_Lo (hL : se_L M q) (h : ∀ a, q ≤ a → a < q + 61 → sm_R M M1 a) : se_L M1 q := by
  obtain ⟨l0, l1, l2, l3, l4, l5, l6, l7, l8, l9⟩ := hL
  unfold se_L
  rw [(h q (by omega) (by omega)).1, (h q (by omega) (by omega)).2, (h (q + 4) (by omega) (by omega)).1, (h (q + 4) (by omega) (by omega)).2, (h (q + 5) (by omega) (by omega)).1, (h (q + 5) (by omega) (by omega)).2, (h (q + 6) (by omega) (by omega)).1, (h (q + 6) (by omega) (by omega)).2]
  refine ⟨l0, l1, ru_Lo l2 fun a x y => h a (by omega) (by omega), l3, l4, l5, l6, l7, l8, fun i hi => ?_⟩
  obtain ⟨a1, a2, a3, a4, a5, a6⟩ := l9 i hi
  exact ⟨a1, a2, a3, st_Lo a4 fun a x y => h a (by omega) (by omega), st_Lo a5 fun a x y => h a (by omega) (by omega), st_Lo a6 fun a x y => h a (by omega) (by omega)⟩
theorem op_nw (hz : mm_z M = z) (h0 : 0 < z) : ∃ M' f', (∀ K : Nat → Mm → Rr, fo_nw (mm_wi M f) d K = K z (mm_wi M' f')) ∧ mm_z M' = z + 1 ∧ mm_s M' z = d ∧ (∀ j, f' z j = 0) ∧ ∀ a, a ≠ z → sm_R M M' a ∧ f' a = f a :=
  ⟨mm_nw M d, nz_f f z, fun K => xi_nw hz h0, nw_z hz, nw_s hz, fun j => nz_e, fun a ha => ⟨nw_o hz ha, nz_o ha⟩⟩
theorem op_pr (hs : mm_s M q = (1, ci)) : ∃ M', (∀ K : Mm → Rr, fo_pr (mm_wi M f) ci q k v K = K (mm_wi M' f)) ∧ mm_z M' = mm_z M ∧ mm_s M' q = (1, ci) ∧ mm_r M' q k = some v ∧ (∀ j, j ≠ k → mm_r M' q j = mm_r M q j) ∧ ∀ a, a ≠ q → sm_R M M' a :=
  ⟨mm_pr M q k (some v), fun K => xi_pr hs, rfl, hs, pr_e, fun j hj => pr_k hj, fun a ha => pr_o ha⟩
theorem op_sr {i' : Int32} (hi' : i' = nI i) (h : mm_s M q = (t + 2, n)) (hi : i < n) (hn : n < 2 ^ 31) (hv : mm_s M v = (1, ci)) : ∃ M', (∀ K : Mm → Rr, fo_sr (mm_wi M f) t ci q i' v K = K (mm_wi M' f)) ∧ mm_z M' = mm_z M ∧ mm_s M' q = (t + 2, n) ∧ mm_r M' q i = some v ∧ (∀ j, j ≠ i → mm_r M' q j = mm_r M q j) ∧ ∀ a, a ≠ q → sm_R M M' a :=
  ⟨mm_pr M q i (some v), fun K => xi_sr hi' h hi hn hv, rfl, h, pr_e, fun j hj => pr_k hj, fun a ha => pr_o ha⟩
theorem in_te (hz : mm_z M = z) (h0 : 0 < z) : ∃ M' f', (∀ K : Nat → Mm → Rr, (fo_nw (mm_wi M f) (1, 6) fun a M1 => fo_cl (fn_Te_init M1 a) fun _ M2 => K a M2) = K z (mm_wi M' f')) ∧ mm_z M' = z + 2 ∧ te_L M' z ∧ ∀ a, a < z → sm_R M M' a ∧ f' a = f a := by
  obtain ⟨M1, f1, e1, z1, s1, -, o1⟩ := op_nw (d := (1, 6)) (f := f) hz h0
  obtain ⟨M2, f2, e2, z2, s2, -, o2⟩ := op_nw (d := (2, 8)) (f := f1) z1 (by omega)
  have s1' : mm_s M2 z = (1, 6) := by rw [(o2 z (by omega)).1.1]; exact s1
  obtain ⟨M3, e3, z3, s3, r3, -, o3⟩ := op_pr (k := 0) (v := z + 1) (f := f2) s1'
  refine ⟨M3, up_2 f2 z 1 0, fun K => ?_, by rw [z3, z2], ⟨s3, r3, by rw [(o3 _ (by omega)).1]; exact s2⟩, fun a ha => ⟨sm_t (o1 a (by omega)).1 (sm_t (o2 a (by omega)).1 (o3 a (by omega))), by rw [up_oa (by omega), (o2 a (by omega)).2, (o1 a (by omega)).2]⟩⟩
  rw [e1, fn_Te_init, e2, e3, xi_pi s3, xi_cl]
theorem in_st (hz : mm_z M = z) (h0 : 0 < z) : ∃ M' f', (∀ K : Nat → Mm → Rr, (fo_nw (mm_wi M f) (1, 5) fun a M1 => fo_cl (fn_St_init M1 a) fun _ M2 => K a M2) = K z (mm_wi M' f')) ∧ mm_z M' = z + 9 ∧ st_L M' z ∧ ∀ a, a < z → sm_R M M' a ∧ f' a = f a := by
  obtain ⟨M0, f0, e0, z0, s0, -, o0⟩ := op_nw (d := (1, 5)) (f := f) hz h0
  obtain ⟨M1, f1, e1, z1, t1, o1⟩ := in_te (f := up_2 f0 z 0 0) z0 (by omega)
  have s1 : mm_s M1 z = (1, 5) := by rw [(o1 z (by omega)).1.1]; exact s0
  obtain ⟨N1, g1, y1, u1, r1, k1, p1⟩ := op_pr (k := 1) (v := z + 1) (f := f1) s1
  obtain ⟨M2, f2, e2, z2, t2, o2⟩ := in_te (f := f1) (y1.trans z1) (by omega)
  have s2 : mm_s M2 z = (1, 5) := by rw [(o2 z (by omega)).1.1]; exact u1
  obtain ⟨N2, g2, y2, u2, r2, k2, p2⟩ := op_pr (k := 2) (v := z + 1 + 2) (f := f2) s2
  obtain ⟨M3, f3, e3, z3, t3, o3⟩ := in_te (f := f2) (y2.trans z2) (by omega)
  have s3 : mm_s M3 z = (1, 5) := by rw [(o3 z (by omega)).1.1]; exact u2
  obtain ⟨N3, g3, y3, u3, r3, k3, p3⟩ := op_pr (k := 3) (v := z + 1 + 2 + 2) (f := f3) s3
  obtain ⟨M4, f4, e4, z4, t4, -, o4⟩ := op_nw (d := (2, 9)) (f := f3) (y3.trans z3) (by omega)
  have s4 : mm_s M4 z = (1, 5) := by rw [(o4 z (by omega)).1.1]; exact u3
  obtain ⟨N4, g4, y4, u4, r4, k4, p4⟩ := op_pr (k := 4) (v := z + 1 + 2 + 2 + 2) (f := f4) s4
  obtain ⟨M5, f5, e5, z5, t5, -, o5⟩ := op_nw (d := (2, 10)) (f := f4) (y4.trans z4) (by omega)
  have s5 : mm_s M5 z = (1, 5) := by rw [(o5 z (by omega)).1.1]; exact u4
  obtain ⟨N5, g5, y5, u5, r5, k5, p5⟩ := op_pr (k := 5) (v := z + 1 + 2 + 2 + 2 + 1) (f := f5) s5
  have c5 : ∀ a, a ≠ z → a < z + 8 → sm_R N4 N5 a := fun a h1 h2 => sm_t (o5 a (by omega)).1 (p5 a h1)
  have c4 : ∀ a, a ≠ z → a < z + 7 → sm_R N3 N5 a := fun a h1 h2 => sm_t (sm_t (o4 a (by omega)).1 (p4 a h1)) (c5 a h1 (by omega))
  have c3 : ∀ a, a ≠ z → a < z + 7 → sm_R M3 N5 a := fun a h1 h2 => sm_t (p3 a h1) (c4 a h1 h2)
  have c2 : ∀ a, a ≠ z → a < z + 5 → sm_R M2 N5 a := fun a h1 h2 => sm_t (p2 a h1) (sm_t (o3 a (by omega)).1 (c3 a h1 (by omega)))
  have c1 : ∀ a, a ≠ z → a < z + 3 → sm_R M1 N5 a := fun a h1 h2 => sm_t (p1 a h1) (sm_t (o2 a (by omega)).1 (c2 a h1 (by omega)))
  have q5 : mm_r M5 z = mm_r N4 z := (o5 z (by omega)).1.2
  have q4 : mm_r M4 z = mm_r N3 z := (o4 z (by omega)).1.2
  have q3 : mm_r M3 z = mm_r N2 z := (o3 z (by omega)).1.2
  have q2 : mm_r M2 z = mm_r N1 z := (o2 z (by omega)).1.2
  refine ⟨N5, f5, fun K => ?_, by rw [y5, z5], ⟨u5, ?_, ?_, ?_, ?_, r5, ?_, ?_, ?_, ?_, ?_⟩, fun a ha => ⟨sm_t (o0 a (by omega)).1 (sm_t (o1 a (by omega)).1 (c1 a (by omega) (by omega))), ?_⟩⟩
  · rw [e0, fn_St_init, xi_pi s0, e1, g1, e2, g2, e3, g3, e4, g4, e5, g5, xi_cl]
  · rw [k5 1 (by omega), q5, k4 1 (by omega), q4, k3 1 (by omega), q3, k2 1 (by omega), q2, r1]
  · rw [k5 2 (by omega), q5, k4 2 (by omega), q4, k3 2 (by omega), q3, r2]
  · rw [k5 3 (by omega), q5, k4 3 (by omega), q4, r3]
  · rw [k5 4 (by omega), q5, r4]
  · exact te_Lo t1 fun a x y => c1 a (by omega) (by omega)
  · exact te_Lo t2 fun a x y => c2 a (by omega) (by omega)
  · exact te_Lo t3 fun a x y => c3 a (by omega) (by omega)
  · rw [(c5 _ (by omega) (by omega)).1, (p4 _ (by omega)).1]; exact t4
  · rw [(p5 _ (by omega)).1]; exact t5
  · rw [(o5 a (by omega)).2, (o4 a (by omega)).2, (o3 a (by omega)).2, (o2 a (by omega)).2, (o1 a (by omega)).2, up_oa (by omega), (o0 a (by omega)).2]
theorem cl_init (s0 : mm_s M q = (1, 1)) : ∃ f', fn_Cl_init (mm_wi M f) q = some (0, mm_wi M f') ∧ ∀ a, a ≠ q → f' a = f a := by
  rw [fn_Cl_init, xi_pi s0, xi_pi s0, xi_pi s0, xi_pi s0, xi_pz0 s0, xi_pi s0, xi_pi s0, xi_pi s0, xi_pi s0, xi_pi s0, xi_pi s0, xi_pi s0, xi_pi s0]
  exact ⟨_, rfl, fun a ha => by rw [up_oa ha, up_oa ha, up_oa ha, up_oa ha, up_oa ha, up_oa ha, up_oa ha, up_oa ha, up_oa ha, up_oa ha, up_oa ha, up_oa ha, up_oa ha]⟩
theorem in_cl (hz : mm_z M = z) (h0 : 0 < z) : ∃ M' f', (∀ K : Nat → Mm → Rr, (fo_nw (mm_wi M f) (1, 1) fun a M1 => fo_cl (fn_Cl_init M1 a) fun _ M2 => K a M2) = K z (mm_wi M' f')) ∧ mm_z M' = z + 1 ∧ mm_s M' z = (1, 1) ∧ ∀ a, a < z → sm_R M M' a ∧ f' a = f a := by
  obtain ⟨M1, f1, e1, z1, s1, -, o1⟩ := op_nw (d := (1, 1)) (f := f) hz h0
  obtain ⟨f', e2, e3⟩ := cl_init (f := f1) s1
  exact ⟨M1, f', fun K => by rw [e1, e2, xi_cl], z1, s1, fun a ha => ⟨(o1 a (by omega)).1, by rw [e3 a (by omega), (o1 a (by omega)).2]⟩⟩
def ia_P (M0 : Mm) (f0 : Nat → Nat → Int32) (z i : Nat) (M : Mm) (f : Nat → Nat → Int32) : Prop := mm_z M = z + 2 + i ∧ mm_s M z = (1, 0) ∧ mm_r M z 0 = some (z + 1) ∧ mm_s M (z + 1) = (6, 10) ∧ (∀ c, c < i → mm_r M (z + 1) c = some (z + 2 + c) ∧ mm_s M (z + 2 + c) = (1, 1)) ∧ ∀ a, a < z → sm_R M0 M a ∧ f a = f0 a
theorem ia_st {M0 : Mm} {f0 : Nat → Nat → Int32} {i' : Int32} (hi' : i' = nI i) (hi : i < 10) (h : ia_P M0 f0 z i M f) : ∃ M' f', (∀ K : Mm → Rr, (fo_gr (mm_wi M f) 0 z 0 fun a27 => fo_nw (mm_wi M f) (1, 1) fun a31 M31 => fo_cl (fn_Cl_init M31 a31) fun _ M35 => fo_sr M35 4 1 a27 i' a31 fun M38 => K M38) = K (mm_wi M' f')) ∧ ia_P M0 f0 z (i + 1) M' f' := by
  obtain ⟨h1, h2, h3, h4, h5, h6⟩ := h
  obtain ⟨M1, f1, e1, z1, s1, o1⟩ := in_cl (f := f) h1 (by omega)
  have s2 : mm_s M1 (z + 1) = (6, 10) := by rw [(o1 _ (by omega)).1.1]; exact h4
  obtain ⟨M2, e2, z2, s3, r2, k2, o2⟩ := op_sr (t := 4) (f := f1) hi' s2 hi (by decide) s1
  refine ⟨M2, f1, fun K => ?_, by rw [z2, z1]; rfl, ?_, ?_, s3, fun c hc => ?_, fun a ha => ⟨sm_t (h6 a ha).1 (sm_t (o1 a (by omega)).1 (o2 a (by omega))), by rw [(o1 a (by omega)).2]; exact (h6 a ha).2⟩⟩
  · rw [xi_gr h2 h3, e1, e2]
  · rw [(o2 _ (by omega)).1, (o1 _ (by omega)).1.1]; exact h2
  · rw [(o2 _ (by omega)).2, (o1 _ (by omega)).1.2]; exact h3
  · by_cases hci : c = i
    · subst hci; exact ⟨r2, by rw [(o2 _ (by omega)).1]; exact s1⟩
    · exact ⟨by rw [k2 c hci, (o1 _ (by omega)).1.2]; exact (h5 c (by omega)).1, by rw [(o2 _ (by omega)).1, (o1 _ (by omega)).1.1]; exact (h5 c (by omega)).2⟩
theorem in_ag (hz : mm_z M = z) (h0 : 0 < z) : ∃ M' f', (∀ K : Nat → Mm → Rr, (fo_nw (mm_wi M f) (1, 0) fun a M1 => fo_cl (fn_Ag_init M1 a) fun _ M2 => K a M2) = K z (mm_wi M' f')) ∧ mm_z M' = z + 12 ∧ ag_L M' z ∧ ∀ a, a < z → sm_R M M' a ∧ f' a = f a := by
  obtain ⟨A1, b1, c1, y1, u1, -, w1⟩ := op_nw (d := (1, 0)) (f := f) hz h0
  obtain ⟨A2, b2, c2, y2, u2, -, w2⟩ := op_nw (d := (6, 10)) (f := b1) y1 (by omega)
  obtain ⟨A3, c3, y3, u3, r3, -, w3⟩ := op_pr (k := 0) (v := z + 1) (f := b2) (show mm_s A2 z = (1, 0) by rw [(w2 z (by omega)).1.1]; exact u1)
  have p0 : ia_P M f z 0 A3 (up_2 b2 z 1 0) := ⟨by rw [y3, y2], u3, r3, by rw [(w3 _ (by omega)).1]; exact u2, fun c hc => by omega, fun a ha => ⟨sm_t (w1 a (by omega)).1 (sm_t (w2 a (by omega)).1 (w3 a (by omega))), by rw [up_oa (by omega), (w2 a (by omega)).2, (w1 a (by omega)).2]⟩⟩
  obtain ⟨M1, f1, e1, p1⟩ := ia_st (i := 0) (i' := 0) rfl (by omega) p0
  obtain ⟨M2, f2, e2, p2⟩ := ia_st (i := 1) (i' := 1) rfl (by omega) p1
  obtain ⟨M3, f3, e3, p3⟩ := ia_st (i := 2) (i' := 2) rfl (by omega) p2
  obtain ⟨M4, f4, e4, p4⟩ := ia_st (i := 3) (i' := 3) rfl (by omega) p3
  obtain ⟨M5, f5, e5, p5⟩ := ia_st (i := 4) (i' := 4) rfl (by omega) p4
  obtain ⟨M6, f6, e6, p6⟩ := ia_st (i := 5) (i' := 5) rfl (by omega) p5
  obtain ⟨M7, f7, e7, p7⟩ := ia_st (i := 6) (i' := 6) rfl (by omega) p6
  obtain ⟨M8, f8, e8, p8⟩ := ia_st (i := 7) (i' := 7) rfl (by omega) p7
  obtain ⟨M9, f9, e9, p9⟩ := ia_st (i := 8) (i' := 8) rfl (by omega) p8
  obtain ⟨M10, f10, e10, p10⟩ := ia_st (i := 9) (i' := 9) rfl (by omega) p9
  obtain ⟨h1, h2, h3, h4, h5, h6⟩ := p10
  refine ⟨M10, f10, fun K => ?_, h1, ⟨h2, h3, h4, h5⟩, h6⟩
  rw [c1, fn_Ag_init, c2, c3, xi_pi u3, e1, e2, e3, e4, e5, e6, e7, e8, e9, e10, xi_cl]
def ih_P (M0 : Mm) (f0 : Nat → Nat → Int32) (z i : Nat) (M : Mm) (f : Nat → Nat → Int32) : Prop := mm_z M = z + 2 + 9 * i ∧ mm_s M z = (1, 2) ∧ mm_r M z 0 = some (z + 1) ∧ mm_s M (z + 1) = (7, 12) ∧ (∀ c, c < i → mm_r M (z + 1) c = some (z + 2 + 9 * c) ∧ st_L M (z + 2 + 9 * c)) ∧ (f z 1 = 0 ∧ f z 2 = 0) ∧ ∀ a, a < z → sm_R M0 M a ∧ f a = f0 a
theorem ih_st {M0 : Mm} {f0 : Nat → Nat → Int32} {i' : Int32} (hi' : i' = nI i) (hi : i < 12) (h : ih_P M0 f0 z i M f) : ∃ M' f', (∀ K : Mm → Rr, (fo_gr (mm_wi M f) 2 z 0 fun a32 => fo_nw (mm_wi M f) (1, 5) fun a36 M36 => fo_cl (fn_St_init M36 a36) fun _ M40 => fo_sr M40 5 5 a32 i' a36 fun M43 => K M43) = K (mm_wi M' f')) ∧ ih_P M0 f0 z (i + 1) M' f' := by
  obtain ⟨h1, h2, h3, h4, h5, h7, h6⟩ := h
  obtain ⟨M1, f1, e1, z1, s1, o1⟩ := in_st (f := f) h1 (by omega)
  have s2 : mm_s M1 (z + 1) = (7, 12) := by rw [(o1 _ (by omega)).1.1]; exact h4
  obtain ⟨M2, e2, z2, s3, r2, k2, o2⟩ := op_sr (t := 5) (f := f1) hi' s2 hi (by decide) s1.1
  refine ⟨M2, f1, fun K => ?_, by rw [z2, z1]; omega, ?_, ?_, s3, fun c hc => ?_, ?_, fun a ha => ⟨sm_t (h6 a ha).1 (sm_t (o1 a (by omega)).1 (o2 a (by omega))), by rw [(o1 a (by omega)).2]; exact (h6 a ha).2⟩⟩
  · rw [xi_gr h2 h3, e1, e2]
  · rw [(o2 _ (by omega)).1, (o1 _ (by omega)).1.1]; exact h2
  · rw [(o2 _ (by omega)).2, (o1 _ (by omega)).1.2]; exact h3
  · by_cases hci : c = i
    · subst hci; exact ⟨r2, st_Lo s1 fun a x y => o2 a (by omega)⟩
    · exact ⟨by rw [k2 c hci, (o1 _ (by omega)).1.2]; exact (h5 c (by omega)).1, st_Lo (h5 c (by omega)).2 fun a x y => sm_t (o1 a (by omega)).1 (o2 a (by omega))⟩
  · rw [(o1 z (by omega)).2]; exact h7
theorem in_hi (hz : mm_z M = z) (h0 : 0 < z) : ∃ M' f', (∀ K : Nat → Mm → Rr, (fo_nw (mm_wi M f) (1, 2) fun a M1 => fo_cl (fn_Hi_init M1 a) fun _ M2 => K a M2) = K z (mm_wi M' f')) ∧ mm_z M' = z + 110 ∧ hi_L M' z ∧ (f' z 1 = 0 ∧ f' z 2 = 0) ∧ ∀ a, a < z → sm_R M M' a ∧ f' a = f a := by
  obtain ⟨A1, b1, c1, y1, u1, -, w1⟩ := op_nw (d := (1, 2)) (f := f) hz h0
  obtain ⟨A2, b2, c2, y2, u2, -, w2⟩ := op_nw (d := (7, 12)) (f := b1) y1 (by omega)
  obtain ⟨A3, c3, y3, u3, r3, -, w3⟩ := op_pr (k := 0) (v := z + 1) (f := b2) (show mm_s A2 z = (1, 2) by rw [(w2 z (by omega)).1.1]; exact u1)
  have p0 : ih_P M f z 0 A3 (up_2 (up_2 b2 z 1 0) z 2 0) := ⟨by rw [y3, y2], u3, r3, by rw [(w3 _ (by omega)).1]; exact u2, fun c hc => by omega, ⟨by rw [up_k (by omega), up_e], up_e⟩, fun a ha => ⟨sm_t (w1 a (by omega)).1 (sm_t (w2 a (by omega)).1 (w3 a (by omega))), by rw [up_oa (by omega), up_oa (by omega), (w2 a (by omega)).2, (w1 a (by omega)).2]⟩⟩
  obtain ⟨M1, f1, e1, p1⟩ := ih_st (i := 0) (i' := 0) rfl (by omega) p0
  obtain ⟨M2, f2, e2, p2⟩ := ih_st (i := 1) (i' := 1) rfl (by omega) p1
  obtain ⟨M3, f3, e3, p3⟩ := ih_st (i := 2) (i' := 2) rfl (by omega) p2
  obtain ⟨M4, f4, e4, p4⟩ := ih_st (i := 3) (i' := 3) rfl (by omega) p3
  obtain ⟨M5, f5, e5, p5⟩ := ih_st (i := 4) (i' := 4) rfl (by omega) p4
  obtain ⟨M6, f6, e6, p6⟩ := ih_st (i := 5) (i' := 5) rfl (by omega) p5
  obtain ⟨M7, f7, e7, p7⟩ := ih_st (i := 6) (i' := 6) rfl (by omega) p6
  obtain ⟨M8, f8, e8, p8⟩ := ih_st (i := 7) (i' := 7) rfl (by omega) p7
  obtain ⟨M9, f9, e9, p9⟩ := ih_st (i := 8) (i' := 8) rfl (by omega) p8
  obtain ⟨M10, f10, e10, p10⟩ := ih_st (i := 9) (i' := 9) rfl (by omega) p9
  obtain ⟨M11, f11, e11, p11⟩ := ih_st (i := 10) (i' := 10) rfl (by omega) p10
  obtain ⟨M12, f12, e12, p12⟩ := ih_st (i := 11) (i' := 11) rfl (by omega) p11
  obtain ⟨h1, h2, h3, h4, h5, h7, h6⟩ := p12
  refine ⟨M12, f12, fun K => ?_, h1, ⟨h2, h3, h4, h5⟩, h7, h6⟩
  rw [c1, fn_Hi_init, c2, c3, xi_pi u3, xi_pi u3, e1, e2, e3, e4, e5, e6, e7, e8, e9, e10, e11, e12, xi_cl]
end
