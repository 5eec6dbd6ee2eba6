theorem pu_law (sz b L : Nat) (xs : Nat → Int32) (hb : b < sz) (hL : L ≤ 1536) : ∃ M', fn_Lw_law (mm_0 sz b L xs) b = some (1, M') := by
  obtain ⟨M1, f1, e1, z1, l1, t1, v1, v2, v3, v4, o1⟩ := in_pm (M := mm_0 sz b L xs) (f := mm_i (mm_0 sz b L xs)) (z := sz) rfl (by omega)
  obtain ⟨M2, f2, e2, z2, l2, w1, w2, w3, o2⟩ := in_mo (f := f1) z1 (by omega)
  obtain ⟨M3, f3, e3, z3, s3, -, o3⟩ := op_nw (d := (5, 1)) (f := f2) z2 (by omega)
  have s12 : ∀ a, a < sz + 216 → sm_R M1 M3 a := fun a ha => sm_t (o2 a ha).1 (o3 a (by omega)).1
  have f12 : ∀ a, a < sz + 216 → f3 a = f1 a := fun a ha => by rw [(o3 a (by omega)).2, (o2 a ha).2]
  have f23 : ∀ a, a < sz + 232 → f3 a = f2 a := fun a ha => (o3 a (by omega)).2
  obtain ⟨c0, c1, c2, c3, c4, c5, c6, c7, c8, k1, k2, k3, k4, k5, k6, k7, k8⟩ := l1
  have hsl : sl_L M3 sz (sz + 3) (sz + 15) := by
    unfold sl_L
    rw [(s12 sz (by omega)).1, (s12 sz (by omega)).2]
    exact ⟨c0, c1, c2, c3, c4, c5, c6, c7, c8, tx_Lo k1 fun a p q => s12 a (by omega), ag_Lo k2 fun a p q => s12 a (by omega), ag_Lo k3 fun a p q => s12 a (by omega), st_Lo k4 fun a p q => s12 a (by omega), st_Lo k5 fun a p q => s12 a (by omega), hi_Lo k6 fun a p q => s12 a (by omega), se_Lo k7 fun a p q => s12 a (by omega), k8⟩
  have hmo : mo_L M3 (sz + 216) := by
    obtain ⟨g1, g2⟩ := l2
    refine ⟨by rw [(o3 _ (by omega)).1.1]; exact g1, fun e he => ?_⟩
    have hlt : ∀ e ∈ mo_T, e.2.1 < 16 := by decide
    have := hlt e he
    rw [(o3 (sz + 216) (by omega)).1.2, (o3 (sz + 216 + e.2.1) (by omega)).1.1]
    exact g2 e he
  have hsb : mm_s M3 b = (8, L) := by
    rw [(s12 b (by omega)).1, (o1 b hb).1.1]
    exact if_pos rfl
  have hq : lq_R M3 f3 sz b L xs := by
    refine ⟨sz + 3, sz + 15, [], -1, fun _ => false, none, 0, hsl, hmo, s3, hsb, hb, fun j => ?_, ⟨?_, by simp, by simp, fun j y hy => by simp at hy⟩, ⟨?_, ?_, fun j hj => ?_, fun _ => ⟨?_, by simp, 0, by omega, ?_, fun j s hs => by simp at hs⟩, fun n A S H e => (by cases e)⟩, ⟨?_, by simp, by simp, fun j y hy => by simp at hy⟩, ⟨?_, ?_, fun j hj => ?_, ?_, by omega, fun _ => ?_, fun n A S H e => (by cases e)⟩, fun n A S H e => (by cases e)⟩
    · rw [f12 b (by omega), (o1 b hb).2]
      exact if_pos rfl
    · rw [f12 _ (by omega)]; exact t1
    · rw [f12 _ (by omega)]; exact v1
    · rw [f12 _ (by omega)]; exact v2
    · rw [f12 _ (by omega)]; exact v3 j
    · rw [f12 _ (by omega)]; exact v4.1
    · rw [f12 _ (by omega)]; exact v4.2
    · rw [f23 _ (by omega)]; exact w1 1 (by omega)
    · rw [f23 _ (by omega)]; exact w2
    · rw [f23 _ (by omega)]; exact w1 6 (by omega)
    · rw [f23 _ (by omega)]; exact w3 j
    · rw [f23 _ (by omega)]; exact w1 5 (by omega)
    · rw [f23 _ (by omega)]; exact w1 20 (by omega)
  obtain ⟨M', hM'⟩ := lq_loop (x := sz) (b := b) (xs := xs) hL fo_N 0 M3 f3 (by omega) (by show _ < 2000; omega) hq
  refine ⟨M', ?_⟩
  rw [fn_Lw_law]
  exact ((e1 _).trans ((e2 _).trans (e3 _))).trans hM'
