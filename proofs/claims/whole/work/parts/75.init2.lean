/-! the constructors' layout: search, monitor, model -/
section
variable {M M1 M2 : Mm} {f f1 f2 : Nat → Nat → Int32} {q k a z n t ci i v : Nat} {d : Nat × Nat}
theorem in_tx (hz : mm_z M = z) (h0 : 0 < z) : ∃ M' f', (∀ K : Nat → Mm → Rr, (fo_nw (mm_wi M f) (1, 7) fun a M1 => fo_cl (fn_Tx_init M1 a) fun _ M2 => K a M2) = K z (mm_wi M' f')) ∧ mm_z M' = z + 2 ∧ tx_L M' z ∧ f' z 1 = 0 ∧ ∀ a, a < z → sm_R M M' a ∧ f' a = f a := by
  obtain ⟨M1, f1, e1, z1, s1, -, o1⟩ := op_nw (d := (1, 7)) (f := f) hz h0
  obtain ⟨M2, f2, e2, z2, s2, -, o2⟩ := op_nw (d := (4, 120)) (f := f1) z1 (by omega)
  have s1' : mm_s M2 z = (1, 7) := by rw [(o2 z (by omega)).1.1]; exact s1
  obtain ⟨M3, e3, z3, s3, r3, -, o3⟩ := op_pr (k := 0) (v := z + 1) (f := f2) s1'
  refine ⟨M3, up_2 (up_2 (up_2 (up_2 (up_2 f2 z 1 0) z 2 0) z 3 (-1)) z 4 (-1)) z 5 (-1), fun K => ?_, by rw [z3, z2], ⟨s3, r3, by rw [(o3 _ (by omega)).1]; exact s2⟩, ?_, fun a ha => ⟨sm_t (o1 a (by omega)).1 (sm_t (o2 a (by omega)).1 (o3 a (by omega))), by rw [up_oa (by omega), up_oa (by omega), up_oa (by omega), up_oa (by omega), up_oa (by omega), (o2 a (by omega)).2, (o1 a (by omega)).2]⟩⟩
  · rw [e1, fn_Tx_init, e2, e3, xi_pi s3, xi_pi s3, xi_pi s3, xi_pi s3, xi_pi s3, xi_cl]
  · rw [up_k (by omega), up_k (by omega), up_k (by omega), up_k (by omega), up_e]
theorem in_ru (hz : mm_z M = z) (h0 : 0 < z) : ∃ M' f', (∀ K : Nat → Mm → Rr, (fo_nw (mm_wi M f) (1, 3) fun a M1 => fo_cl (fn_Ru_init M1 a) fun _ M2 => K a M2) = K z (mm_wi M' f')) ∧ mm_z M' = z + 3 ∧ ru_L M' z ∧ (∀ j, f' (z + 1) j = 0) ∧ ∀ a, a < z → sm_R M M' a ∧ f' a = f a := by
  obtain ⟨M1, f1, e1, z1, s1, -, o1⟩ := op_nw (d := (1, 3)) (f := f) hz h0
  obtain ⟨M2, f2, e2, z2, s2, i2, o2⟩ := op_nw (d := (3, 61)) (f := f1) z1 (by omega)
  obtain ⟨M3, e3, z3, s3, r3, -, o3⟩ := op_pr (k := 0) (v := z + 1) (f := f2) (show mm_s M2 z = (1, 3) by rw [(o2 z (by omega)).1.1]; exact s1)
  obtain ⟨M4, f4, e4, z4, s4, -, o4⟩ := op_nw (d := (2, 800)) (f := f2) (z3.trans z2) (by omega)
  obtain ⟨M5, e5, z5, s5, r5, k5, o5⟩ := op_pr (k := 1) (v := z + 1 + 1) (f := f4) (show mm_s M4 z = (1, 3) by rw [(o4 z (by omega)).1.1]; exact s3)
  refine ⟨M5, up_2 f4 z 2 0, fun K => ?_, by rw [z5, z4], ⟨s5, ?_, r5, ?_, ?_⟩, fun j => ?_, fun a ha => ⟨sm_t (o1 a (by omega)).1 (sm_t (o2 a (by omega)).1 (sm_t (o3 a (by omega)) (sm_t (o4 a (by omega)).1 (o5 a (by omega))))), ?_⟩⟩
  · rw [e1, fn_Ru_init, e2, e3, e4, e5, xi_pi s5, xi_cl]
  · rw [k5 0 (by omega), (o4 z (by omega)).1.2]; exact r3
  · rw [(o5 _ (by omega)).1, (o4 _ (by omega)).1.1, (o3 _ (by omega)).1]; exact s2
  · rw [(o5 _ (by omega)).1]; exact s4
  · rw [up_o (by omega), (o4 _ (by omega)).2]; exact i2 j
  · rw [up_oa (by omega), (o4 _ (by omega)).2, (o2 _ (by omega)).2, (o1 _ (by omega)).2]
def is_P (M0 : Mm) (f0 : Nat → Nat → Int32) (z n : Nat) (M : Mm) (f : Nat → Nat → Int32) : Prop := mm_z M = z + 7 + 9 * n ∧ mm_s M z = (1, 4) ∧ mm_r M z 0 = some (z + 1) ∧ (∀ c, c < 3 → mm_r M z (1 + c) = some (z + 4 + c) ∧ mm_s M (z + 4 + c) = (7, 2)) ∧ ru_L M (z + 1) ∧ (∀ j, f (z + 2) j = 0) ∧ (∀ c, c < n → mm_r M (z + 4 + c % 3) (c / 3) = some (z + 7 + 9 * c) ∧ st_L M (z + 7 + 9 * c)) ∧ ∀ a, a < z → sm_R M0 M a ∧ f a = f0 a
theorem is_st {M0 : Mm} {f0 : Nat → Nat → Int32} {i' : Int32} (hk : k = 1 + n % 3) (hi' : i' = nI (n / 3)) (hn : n < 6) (h : is_P M0 f0 z n M f) : ∃ M' f', (∀ K : Mm → Rr, (fo_gr (mm_wi M f) 4 z k fun a32 => fo_nw (mm_wi M f) (1, 5) fun a36 M36 => fo_cl (fn_St_init M36 a36) fun _ M40 => fo_sr M40 5 5 a32 i' a36 fun M43 => K M43) = K (mm_wi M' f')) ∧ is_P M0 f0 z (n + 1) M' f' := by
  obtain ⟨h1, h2, h3, h4, h5, h7, h8, h6⟩ := h
  obtain ⟨M1, f1, e1, z1, s1, o1⟩ := in_st (f := f) h1 (by omega)
  obtain ⟨g1, g2⟩ := h4 (n % 3) (by omega)
  have s2 : mm_s M1 (z + 4 + n % 3) = (7, 2) := by rw [(o1 _ (by omega)).1.1]; exact g2
  obtain ⟨M2, e2, z2, s3, r2, k2, o2⟩ := op_sr (t := 5) (f := f1) hi' s2 (by omega) (by decide) s1.1
  refine ⟨M2, f1, fun K => ?_, by rw [z2, z1]; omega, ?_, ?_, fun c hc => ⟨?_, ?_⟩, ?_, fun j => ?_, fun c hc => ?_, fun a ha => ⟨sm_t (h6 a ha).1 (sm_t (o1 a (by omega)).1 (o2 a (by omega))), by rw [(o1 a (by omega)).2]; exact (h6 a ha).2⟩⟩
  · rw [hk, xi_gr h2 g1, e1, e2]
  · rw [(o2 _ (by omega)).1, (o1 _ (by omega)).1.1]; exact h2
  · rw [(o2 _ (by omega)).2, (o1 _ (by omega)).1.2]; exact h3
  · rw [(o2 _ (by omega)).2, (o1 _ (by omega)).1.2]; exact (h4 c hc).1
  · by_cases hcn : c = n % 3
    · rw [hcn]; exact s3
    · rw [(o2 _ (by omega)).1, (o1 _ (by omega)).1.1]; exact (h4 c hc).2
  · exact ru_Lo h5 fun a x y => sm_t (o1 a (by omega)).1 (o2 a (by omega))
  · rw [(o1 _ (by omega)).2]; exact h7 j
  · by_cases hcn : c = n
    · subst hcn; exact ⟨r2, st_Lo s1 fun a x y => o2 a (by omega)⟩
    · obtain ⟨q1, q2⟩ := h8 c (by omega)
      refine ⟨?_, st_Lo q2 fun a x y => sm_t (o1 a (by omega)).1 (o2 a (by omega))⟩
      by_cases hm : c % 3 = n % 3
      · rw [hm, k2 (c / 3) (by omega), (o1 _ (by omega)).1.2, ← hm]; exact q1
      · rw [(o2 _ (by omega)).2, (o1 _ (by omega)).1.2]; exact q1
theorem in_se (hz : mm_z M = z) (h0 : 0 < z) : ∃ M' f', (∀ K : Nat → Mm → Rr, (fo_nw (mm_wi M f) (1, 4) fun a M1 => fo_cl (fn_Se_init M1 a) fun _ M2 => K a M2) = K z (mm_wi M' f')) ∧ mm_z M' = z + 61 ∧ se_L M' z ∧ (∀ j, f' (z + 2) j = 0) ∧ ∀ a, a < z → sm_R M M' a ∧ f' a = f a := by
  obtain ⟨A1, b1, c1, y1, u1, -, w1⟩ := op_nw (d := (1, 4)) (f := f) hz h0
  obtain ⟨A2, b2, c2, y2, u2, i2, w2⟩ := in_ru (f := b1) y1 (by omega)
  obtain ⟨A3, c3, y3, u3, r3, k3, w3⟩ := op_pr (k := 0) (v := z + 1) (f := b2) (show mm_s A2 z = (1, 4) by rw [(w2 z (by omega)).1.1]; exact u1)
  obtain ⟨A4, b4, c4, y4, u4, -, w4⟩ := op_nw (d := (7, 2)) (f := b2) (y3.trans y2) (by omega)
  obtain ⟨A5, c5, y5, u5, r5, k5, w5⟩ := op_pr (k := 1) (v := z + 1 + 3) (f := b4) (show mm_s A4 z = (1, 4) by rw [(w4 z (by omega)).1.1]; exact u3)
  obtain ⟨A6, b6, c6, y6, u6, -, w6⟩ := op_nw (d := (7, 2)) (f := b4) (y5.trans y4) (by omega)
  obtain ⟨A7, c7, y7, u7, r7, k7, w7⟩ := op_pr (k := 2) (v := z + 1 + 3 + 1) (f := b6) (show mm_s A6 z = (1, 4) by rw [(w6 z (by omega)).1.1]; exact u5)
  obtain ⟨A8, b8, c8, y8, u8, -, w8⟩ := op_nw (d := (7, 2)) (f := b6) (y7.trans y6) (by omega)
  obtain ⟨A9, c9, y9, u9, r9, k9, w9⟩ := op_pr (k := 3) (v := z + 1 + 3 + 1 + 1) (f := b8) (show mm_s A8 z = (1, 4) by rw [(w8 z (by omega)).1.1]; exact u7)
  have v9 : ∀ a, a ≠ z → a < z + 6 → sm_R A7 A9 a := fun a h1 h2 => sm_t (w8 a (by omega)).1 (w9 a h1)
  have v7 : ∀ a, a ≠ z → a < z + 5 → sm_R A5 A9 a := fun a h1 h2 => sm_t (w6 a (by omega)).1 (sm_t (w7 a h1) (v9 a h1 (by omega)))
  have v5 : ∀ a, a ≠ z → a < z + 4 → sm_R A2 A9 a := fun a h1 h2 => sm_t (w3 a h1) (sm_t (w4 a (by omega)).1 (sm_t (w5 a h1) (v7 a h1 (by omega))))
  have p0 : is_P M f z 0 A9 b8 := by
    refine ⟨by rw [y9, y8], u9, ?_, fun c hc => ?_, ru_Lo u2 fun a x y => v5 a (by omega) (by omega), fun j => ?_, fun c hc => by omega, fun a ha => ⟨sm_t (w1 a (by omega)).1 (sm_t (w2 a (by omega)).1 (v5 a (by omega) (by omega))), ?_⟩⟩
    · rw [k9 0 (by omega), (w8 z (by omega)).1.2, k7 0 (by omega), (w6 z (by omega)).1.2, k5 0 (by omega), (w4 z (by omega)).1.2]; exact r3
    · obtain rfl | rfl | rfl : c = 0 ∨ c = 1 ∨ c = 2 := by omega
      · exact ⟨by rw [k9 _ (by omega), (w8 z (by omega)).1.2, k7 _ (by omega), (w6 z (by omega)).1.2]; exact r5, by rw [(v7 _ (by omega) (by omega)).1, (w5 _ (by omega)).1]; exact u4⟩
      · exact ⟨by rw [k9 _ (by omega), (w8 z (by omega)).1.2]; exact r7, by rw [(v9 _ (by omega) (by omega)).1, (w7 _ (by omega)).1]; exact u6⟩
      · exact ⟨r9, by rw [(w9 _ (by omega)).1]; exact u8⟩
    · rw [(w8 _ (by omega)).2, (w6 _ (by omega)).2, (w4 _ (by omega)).2]; exact i2 j
    · rw [(w8 _ (by omega)).2, (w6 _ (by omega)).2, (w4 _ (by omega)).2, (w2 _ (by omega)).2, (w1 _ (by omega)).2]
  obtain ⟨M1, f1, e1, p1⟩ := is_st (n := 0) (k := 1) (i' := 0) rfl rfl (by omega) p0
  obtain ⟨M2, f2, e2, p2⟩ := is_st (n := 1) (k := 2) (i' := 0) rfl rfl (by omega) p1
  obtain ⟨M3, f3, e3, p3⟩ := is_st (n := 2) (k := 3) (i' := 0) rfl rfl (by omega) p2
  obtain ⟨M4, f4, e4, p4⟩ := is_st (n := 3) (k := 1) (i' := 1) rfl rfl (by omega) p3
  obtain ⟨M5, f5, e5, p5⟩ := is_st (n := 4) (k := 2) (i' := 1) rfl rfl (by omega) p4
  obtain ⟨M6, f6, e6, p6⟩ := is_st (n := 5) (k := 3) (i' := 1) rfl rfl (by omega) p5
  obtain ⟨h1, h2, h3, h4, h5, h7, h8, h6⟩ := p6
  refine ⟨M6, f6, fun K => ?_, h1, ⟨h2, h3, h5, (h4 0 (by omega)).1, (h4 1 (by omega)).1, (h4 2 (by omega)).1, (h4 0 (by omega)).2, (h4 1 (by omega)).2, (h4 2 (by omega)).2, fun i hi => ?_⟩, h7, h6⟩
  · rw [c1, fn_Se_init, c2, c3, c4, c5, c6, c7, c8, c9, e1, e2, e3, e4, e5, e6, xi_cl]
  · obtain rfl | rfl : i = 0 ∨ i = 1 := by omega
    · exact ⟨(h8 0 (by omega)).1, (h8 1 (by omega)).1, (h8 2 (by omega)).1, (h8 0 (by omega)).2, (h8 1 (by omega)).2, (h8 2 (by omega)).2⟩
    · exact ⟨(h8 3 (by omega)).1, (h8 4 (by omega)).1, (h8 5 (by omega)).1, (h8 3 (by omega)).2, (h8 4 (by omega)).2, (h8 5 (by omega)).2⟩
end
