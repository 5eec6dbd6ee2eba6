/-! the constructors' layout: monitor, model -/
section
variable {M M1 M2 : Mm} {f f1 f2 : Nat → Nat → Int32} {q k a z n t ci i v : Nat} {d : Nat × Nat}
theorem in_pm (hz : mm_z M = z) (h0 : 0 < z) : ∃ M' f', (∀ K : Nat → Mm → Rr, (fo_nw (mm_wi M f) (1, 8) fun a M1 => fo_cl (fn_Pm_init M1 a) fun _ M2 => K a M2) = K z (mm_wi M' f')) ∧ mm_z M' = z + 216 ∧ sl_L M' z (z + 3) (z + 15) ∧ f' (z + 1) 1 = 0 ∧ f' z 1 = -1 ∧ f' z 2 = 0 ∧ (∀ j, f' (z + 157) j = 0) ∧ (f' (z + 45) 1 = 0 ∧ f' (z + 45) 2 = 0) ∧ ∀ a, a < z → sm_R M M' a ∧ f' a = f a := by
  obtain ⟨A0, b0, c0, y0, u0, -, w0⟩ := op_nw (d := (1, 8)) (f := f) hz h0
  obtain ⟨A1, b1, c1, y1, u1, i1, w1⟩ := in_tx (f := b0) y0 (by omega)
  obtain ⟨B1, d1, m1, t1, r1, k1, x1⟩ := op_pr (k := 0) (v := z + 1) (f := b1) (show mm_s A1 z = (1, 8) by rw [(w1 z (by omega)).1.1]; exact u0)
  obtain ⟨A2, b2, c2, y2, u2, w2⟩ := in_ag (f := up_2 (up_2 b1 z 1 (-1)) z 2 0) (m1.trans y1) (by omega)
  obtain ⟨B2, d2, m2, t2, r2, k2, x2⟩ := op_pr (k := 3) (v := z + 1 + 2) (f := b2) (show mm_s A2 z = (1, 8) by rw [(w2 z (by omega)).1.1]; exact t1)
  obtain ⟨A3, b3, c3, y3, u3, w3⟩ := in_ag (f := b2) (m2.trans y2) (by omega)
  obtain ⟨B3, d3, m3, t3, r3, k3, x3⟩ := op_pr (k := 4) (v := z + 1 + 2 + 12) (f := b3) (show mm_s A3 z = (1, 8) by rw [(w3 z (by omega)).1.1]; exact t2)
  obtain ⟨A4, b4, c4, y4, u4, w4⟩ := in_st (f := b3) (m3.trans y3) (by omega)
  obtain ⟨B4, d4, m4, t4, r4, k4, x4⟩ := op_pr (k := 5) (v := z + 1 + 2 + 12 + 12) (f := b4) (show mm_s A4 z = (1, 8) by rw [(w4 z (by omega)).1.1]; exact t3)
  obtain ⟨A5, b5, c5, y5, u5, w5⟩ := in_st (f := b4) (m4.trans y4) (by omega)
  obtain ⟨B5, d5, m5, t5, r5, k5, x5⟩ := op_pr (k := 6) (v := z + 1 + 2 + 12 + 12 + 9) (f := b5) (show mm_s A5 z = (1, 8) by rw [(w5 z (by omega)).1.1]; exact t4)
  obtain ⟨A6, b6, c6, y6, u6, i6, w6⟩ := in_hi (f := b5) (m5.trans y5) (by omega)
  obtain ⟨B6, d6, m6, t6, r6, k6, x6⟩ := op_pr (k := 7) (v := z + 1 + 2 + 12 + 12 + 9 + 9) (f := b6) (show mm_s A6 z = (1, 8) by rw [(w6 z (by omega)).1.1]; exact t5)
  obtain ⟨A7, b7, c7, y7, u7, i7, w7⟩ := in_se (f := b6) (m6.trans y6) (by omega)
  obtain ⟨B7, d7, m7, t7, r7, k7, x7⟩ := op_pr (k := 8) (v := z + 1 + 2 + 12 + 12 + 9 + 9 + 110) (f := b7) (show mm_s A7 z = (1, 8) by rw [(w7 z (by omega)).1.1]; exact t6)
  have u7' : se_L B7 (z + 155) := se_Lo u7 fun a p q => x7 a (by omega)
  obtain ⟨B8, d8, m8, t8, r8, k8, x8⟩ := op_pr (k := 9) (v := z + 156) (f := b7) t7
  have s7 : ∀ a, a ≠ z → a < z + 216 → sm_R A7 B8 a := fun a h1 h2 => sm_t (x7 a h1) (x8 a h1)
  have s6 : ∀ a, a ≠ z → a < z + 155 → sm_R A6 B8 a := fun a h1 h2 => sm_t (x6 a h1) (sm_t (w7 a (by omega)).1 (s7 a h1 (by omega)))
  have s5 : ∀ a, a ≠ z → a < z + 45 → sm_R A5 B8 a := fun a h1 h2 => sm_t (x5 a h1) (sm_t (w6 a (by omega)).1 (s6 a h1 (by omega)))
  have s4 : ∀ a, a ≠ z → a < z + 36 → sm_R A4 B8 a := fun a h1 h2 => sm_t (x4 a h1) (sm_t (w5 a (by omega)).1 (s5 a h1 (by omega)))
  have s3 : ∀ a, a ≠ z → a < z + 27 → sm_R A3 B8 a := fun a h1 h2 => sm_t (x3 a h1) (sm_t (w4 a (by omega)).1 (s4 a h1 (by omega)))
  have s2 : ∀ a, a ≠ z → a < z + 15 → sm_R A2 B8 a := fun a h1 h2 => sm_t (x2 a h1) (sm_t (w3 a (by omega)).1 (s3 a h1 (by omega)))
  have s1 : ∀ a, a ≠ z → a < z + 3 → sm_R A1 B8 a := fun a h1 h2 => sm_t (x1 a h1) (sm_t (w2 a (by omega)).1 (s2 a h1 (by omega)))
  have q7 : mm_r A7 z = mm_r B6 z := (w7 z (by omega)).1.2
  have q6 : mm_r A6 z = mm_r B5 z := (w6 z (by omega)).1.2
  have q5 : mm_r A5 z = mm_r B4 z := (w5 z (by omega)).1.2
  have q4 : mm_r A4 z = mm_r B3 z := (w4 z (by omega)).1.2
  have q3 : mm_r A3 z = mm_r B2 z := (w3 z (by omega)).1.2
  have q2 : mm_r A2 z = mm_r B1 z := (w2 z (by omega)).1.2
  have i72 : ∀ a, a < z + 155 → b7 a = b6 a := fun a h => (w7 a (by omega)).2
  have i62 : ∀ a, a < z + 45 → b6 a = b5 a := fun a h => (w6 a (by omega)).2
  have i22 : ∀ a, a < z + 3 → b7 a = up_2 (up_2 b1 z 1 (-1)) z 2 0 a := fun a h => by rw [i72 a (by omega), i62 a (by omega), (w5 a (by omega)).2, (w4 a (by omega)).2, (w3 a (by omega)).2, (w2 a (by omega)).2]
  refine ⟨B8, b7, fun K => ?_, by rw [m8, m7, y7], ⟨t8, ?_, ?_, ?_, ?_, ?_, ?_, ?_, r8, tx_Lo u1 fun a p q => s1 a (by omega) (by omega), ag_Lo u2 fun a p q => s2 a (by omega) (by omega), ag_Lo u3 fun a p q => s3 a (by omega) (by omega), st_Lo u4 fun a p q => s4 a (by omega) (by omega), st_Lo u5 fun a p q => s5 a (by omega) (by omega), hi_Lo u6 fun a p q => s6 a (by omega) (by omega), se_Lo u7 fun a p q => s7 a (by omega) (by omega), .inl ⟨rfl, rfl⟩⟩, ?_, ?_, ?_, fun j => i7 j, ?_, fun a ha => ⟨sm_t (w0 a (by omega)).1 (sm_t (w1 a (by omega)).1 (s1 a (by omega) (by omega))), ?_⟩⟩
  · rw [c0, fn_Pm_init, c1, d1, xi_pi t1, xi_pz0 t1, c2, d2, c3, d3, c4, d4, c5, d5, c6, d6, c7, d7, xi_gr t7 r7, xi_gr (M := B7) u7'.1 u7'.2.1, d8, xi_cl]
  · rw [k8 0 (by omega), k7 0 (by omega), q7, k6 0 (by omega), q6, k5 0 (by omega), q5, k4 0 (by omega), q4, k3 0 (by omega), q3, k2 0 (by omega), q2, r1]
  · rw [k8 3 (by omega), k7 3 (by omega), q7, k6 3 (by omega), q6, k5 3 (by omega), q5, k4 3 (by omega), q4, k3 3 (by omega), q3, r2]
  · rw [k8 4 (by omega), k7 4 (by omega), q7, k6 4 (by omega), q6, k5 4 (by omega), q5, k4 4 (by omega), q4, r3]
  · rw [k8 5 (by omega), k7 5 (by omega), q7, k6 5 (by omega), q6, k5 5 (by omega), q5, r4]
  · rw [k8 6 (by omega), k7 6 (by omega), q7, k6 6 (by omega), q6, r5]
  · rw [k8 7 (by omega), k7 7 (by omega), q7, r6]
  · rw [k8 8 (by omega), r7]
  · rw [i22 _ (by omega), up_o (by omega), up_o (by omega)]; exact i1
  · rw [i22 _ (by omega), up_k (by omega), up_e]
  · rw [i22 _ (by omega), up_e]
  · rw [i72 _ (by omega)]; exact i6
  · rw [i22 _ (by omega), up_oa (by omega), up_oa (by omega), (w1 a (by omega)).2, (w0 a (by omega)).2]
def im_P (M0 : Mm) (f0 : Nat → Nat → Int32) (z k : Nat) (w : Int32) (M : Mm) (f : Nat → Nat → Int32) : Prop := mm_z M = z + 1 + k ∧ mm_s M z = (1, 9) ∧ (∀ e ∈ mo_T.take k, mm_r M z e.1 = some (z + e.2.1) ∧ mm_s M (z + e.2.1) = e.2.2) ∧ (∀ j, j ≠ 3 → f z j = 0) ∧ f z 3 = w ∧ (∀ a j, z < a → a < z + 1 + k → f a j = 0) ∧ ∀ a, a < z → sm_R M0 M a ∧ f a = f0 a
theorem im_st {M0 : Mm} {f0 : Nat → Nat → Int32} {w : Int32} {kf : Nat} (h0 : 0 < z) (he : mo_T.take (k + 1) = mo_T.take k ++ [(kf, k + 1, d)]) (hl : ∀ e ∈ mo_T.take k, e.1 ≠ kf ∧ e.2.1 < k + 1) (h : im_P M0 f0 z k w M f) : ∃ M' f', (∀ K : Mm → Rr, (fo_nw (mm_wi M f) d fun a M1 => fo_pr M1 9 z kf a fun M2 => K M2) = K (mm_wi M' f')) ∧ im_P M0 f0 z (k + 1) w M' f' := by
  obtain ⟨h1, h2, h3, h4, h5, h6, h7⟩ := h
  obtain ⟨M1, f1, e1, z1, s1, i1, o1⟩ := op_nw (d := d) (f := f) h1 (by omega)
  obtain ⟨M2, e2, z2, s2, r2, k2, o2⟩ := op_pr (k := kf) (v := z + 1 + k) (f := f1) (show mm_s M1 z = (1, 9) by rw [(o1 z (by omega)).1.1]; exact h2)
  refine ⟨M2, f1, fun K => by rw [e1, e2], by rw [z2, z1]; rfl, s2, fun e hm => ?_, fun j hj => by rw [(o1 z (by omega)).2]; exact h4 j hj, by rw [(o1 z (by omega)).2]; exact h5, fun a j q1 q2 => ?_, fun a ha => ⟨sm_t (h7 a ha).1 (sm_t (o1 a (by omega)).1 (o2 a (by omega))), by rw [(o1 a (by omega)).2]; exact (h7 a ha).2⟩⟩
  · rw [he, List.mem_append, List.mem_singleton] at hm
    rcases hm with hm | hm
    · obtain ⟨g1, g2⟩ := hl e hm
      obtain ⟨g3, g4⟩ := h3 e hm
      refine ⟨by rw [k2 _ g1, (o1 z (by omega)).1.2]; exact g3, ?_⟩
      by_cases hz0 : e.2.1 = 0
      · rw [hz0, Nat.add_zero] at g4 ⊢
        rw [s2, ← h2]; exact g4
      · rw [(o2 _ (by omega)).1, (o1 _ (by omega)).1.1]; exact g4
    · subst hm
      refine ⟨by rw [r2]; show some (z + 1 + k) = some (z + (k + 1)); congr 1; omega, ?_⟩
      show mm_s M2 (z + (k + 1)) = d
      rw [show z + (k + 1) = z + 1 + k by omega, (o2 _ (by omega)).1]; exact s1
  · by_cases hz1 : a = z + 1 + k
    · rw [hz1]; exact i1 j
    · rw [(o1 a hz1).2]; exact h6 a j q1 (by omega)
theorem in_mo (hz : mm_z M = z) (h0 : 0 < z) : ∃ M' f', (∀ K : Nat → Mm → Rr, (fo_nw (mm_wi M f) (1, 9) fun a M1 => fo_cl (fn_Mo_init M1 a) fun _ M2 => K a M2) = K z (mm_wi M' f')) ∧ mm_z M' = z + 16 ∧ mo_L M' z ∧ (∀ j, j ≠ 3 → f' z j = 0) ∧ f' z 3 = -1 ∧ (∀ j, f' (z + 2) j = 0) ∧ ∀ a, a < z → sm_R M M' a ∧ f' a = f a := by
  obtain ⟨A0, b0, c0, y0, u0, i0, w0⟩ := op_nw (d := (1, 9)) (f := f) hz h0
  have p0 : im_P M f z 0 0 A0 b0 := ⟨y0, u0, fun e he => by simp at he, fun j _ => i0 j, i0 3, fun a j q1 q2 => by omega, fun a ha => w0 a (by omega)⟩
  obtain ⟨M1, f1, e1, p1⟩ := im_st (k := 0) (kf := 2) (d := (2, 121)) h0 (by decide) (by decide) p0
  have p1' : im_P M f z 1 (-1) M1 (up_2 f1 z 3 (-1)) := by
    obtain ⟨h1, h2, h3, h4, h5, h6, h7⟩ := p1
    exact ⟨h1, h2, h3, fun j hj => by rw [up_k hj]; exact h4 j hj, up_e, fun a j q1 q2 => by rw [up_o (by omega)]; exact h6 a j q1 q2, fun a ha => ⟨(h7 a ha).1, by rw [up_oa (by omega)]; exact (h7 a ha).2⟩⟩
  obtain ⟨M2, f2, e2, p2⟩ := im_st (k := 1) (kf := 4) (d := (3, 61)) h0 (by decide) (by decide) p1'
  obtain ⟨M3, f3, e3, p3⟩ := im_st (k := 2) (kf := 8) (d := (2, 20)) h0 (by decide) (by decide) p2
  obtain ⟨M4, f4, e4, p4⟩ := im_st (k := 3) (kf := 9) (d := (2, 20)) h0 (by decide) (by decide) p3
  obtain ⟨M5, f5, e5, p5⟩ := im_st (k := 4) (kf := 10) (d := (2, 20)) h0 (by decide) (by decide) p4
  obtain ⟨M6, f6, e6, p6⟩ := im_st (k := 5) (kf := 11) (d := (3, 20)) h0 (by decide) (by decide) p5
  obtain ⟨M7, f7, e7, p7⟩ := im_st (k := 6) (kf := 12) (d := (2, 20)) h0 (by decide) (by decide) p6
  obtain ⟨M8, f8, e8, p8⟩ := im_st (k := 7) (kf := 13) (d := (2, 20)) h0 (by decide) (by decide) p7
  obtain ⟨M9, f9, e9, p9⟩ := im_st (k := 8) (kf := 14) (d := (2, 20)) h0 (by decide) (by decide) p8
  obtain ⟨M10, f10, e10, p10⟩ := im_st (k := 9) (kf := 15) (d := (2, 20)) h0 (by decide) (by decide) p9
  obtain ⟨M11, f11, e11, p11⟩ := im_st (k := 10) (kf := 16) (d := (2, 20)) h0 (by decide) (by decide) p10
  obtain ⟨M12, f12, e12, p12⟩ := im_st (k := 11) (kf := 17) (d := (2, 20)) h0 (by decide) (by decide) p11
  obtain ⟨M13, f13, e13, p13⟩ := im_st (k := 12) (kf := 18) (d := (2, 20)) h0 (by decide) (by decide) p12
  obtain ⟨M14, f14, e14, p14⟩ := im_st (k := 13) (kf := 19) (d := (2, 1207)) h0 (by decide) (by decide) p13
  obtain ⟨M15, f15, e15, p15⟩ := im_st (k := 14) (kf := 22) (d := (2, 1200)) h0 (by decide) (by decide) p14
  obtain ⟨h1, h2, h3, h4, h5, h6, h7⟩ := p15
  refine ⟨M15, f15, fun K => ?_, h1, ⟨h2, h3⟩, h4, h5, fun j => h6 _ _ (by omega) (by omega), h7⟩
  rw [c0, fn_Mo_init, e1, xi_pi p1.2.1, e2, e3, e4, e5, e6, e7, e8, e9, e10, e11, e12, e13, e14, e15, xi_cl]
end
