/-! the reference keeps and gives back states -/
def mh_R (f : Nat → Nat → Int32) (m : Nat) (S : Sp) (H : List Sp) : Prop := ms_R f m 0 S ∧ f m 20 = nI H.length ∧ H.length ≤ 12 ∧ ∀ j s, H[j]? = some s → ms_R f m (71 * (j + 1)) s
section
variable {M : Mm} {f : Nat → Nat → Int32} {m : Nat} {S S' : Sp} {H : List Sp}
theorem mo_shift (hL : mo_L M m) : ∀ w kk f, w ≤ 11 → w < kk → ∃ f', fo_fx (fun _ _ => none) (lp_Mo_settle_33 m) kk (mm_wi M f) (nI w) = fo_fx (fun _ _ => none) (lp_Mo_settle_33 m) (kk - w) (mm_wi M f') (nI 0) ∧ (∀ j i, i < 71 → f' (m + 14) (71 * j + i) = if 2 ≤ j ∧ j ≤ w + 1 then f (m + 14) (71 * (j - 1) + i) else f (m + 14) (71 * j + i)) ∧ ∀ a, a ≠ m + 14 → f' a = f a := by
  intro w
  induction w with
  | zero =>
    intro kk f _ _
    exact ⟨f, rfl, fun j i hi => by rw [if_neg (by omega)], fun a _ => rfl⟩
  | succ w ih =>
    intro kk f hw hk
    obtain ⟨kk, rfl⟩ : ∃ k', kk = k' + 1 := ⟨kk - 1, by omega⟩
    obtain ⟨f1, a1, a2, a3⟩ := mo_copy (M := M) (f := f) (s := w + 1) (t := w + 2) hL (by omega) (by omega) (by omega)
    rw [fx_s, lp_Mo_settle_33, if_neg (nI_nle (by omega) (by omega)), nI_1, a1, xi_cv hL.1, sb_m1 (by omega), Nat.add_sub_cancel]
    obtain ⟨f2, b1, b2, b3⟩ := ih kk f1 (by omega) (by omega)
    refine ⟨f2, by rw [b1, show kk + 1 - (w + 1) = kk - w by omega], fun j i hi => ?_, fun a ha => by rw [b3 a ha]; exact funext fun j => a3 a j (by omega)⟩
    rw [b2 j i hi]
    by_cases h1 : 2 ≤ j ∧ j ≤ w + 1
    · rw [if_pos h1, if_pos (by omega), a3 _ _ (by omega)]
    · rw [if_neg h1]
      by_cases h2 : j = w + 2
      · subst h2
        rw [if_pos (by omega), a2 i hi]; rfl
      · rw [if_neg (by omega), a3 _ _ (by omega)]
theorem ms_sl {f' : Nat → Nat → Int32} {b b' : Nat} (h : ms_R f m b S) (h0 : ∀ i, i < 71 → f' (m + 14) (b' + i) = f (m + 14) (b + i)) : ms_R f' m b' S := ms_mv h h0
theorem mo_settle (hL : mo_L M m) (hH : mh_R f m S H) (hS : ms_R f m 923 S') (h23 : f m 23 = 0) : ∃ f', fn_Mo_settle (mm_wi M f) m = some (f m 24, mm_wi M f') ∧ mh_R f' m S' ((S :: H).take 12) ∧ ∀ a j, (a ≠ m ∨ j ≠ 20) → (a ≠ m + 14 ∨ 923 ≤ j) → f' a j = f a j := by
  obtain ⟨h1, h2, h3, h4⟩ := hH
  rw [fn_Mo_settle, xi_gi hL.1, h23, if_pos (show (0 : Int32) = 0 from rfl), xi_gi hL.1, h2, xi_jp]
  have e0 : (if 12 ≤ nI H.length then fo_fx (fun _ _ => none) (lp_Mo_settle_33 m) fo_N (mm_wi M f) 11 else fo_gi (mm_wi M f) 9 m 20 fun v24 => fo_fx (fun _ _ => none) (lp_Mo_settle_33 m) fo_N (mm_wi M f) v24) = fo_fx (fun _ _ => none) (lp_Mo_settle_33 m) fo_N (mm_wi M f) (nI (if 12 ≤ H.length then 11 else H.length)) := by
    by_cases h : 12 ≤ H.length
    · rw [if_pos (show (12 : Int32) ≤ nI H.length from nI_le (a := 12) h (by omega)), if_pos h]; rfl
    · rw [if_neg (by rw [show (12 : Int32) = nI 12 from rfl, nI_leI (by omega) (by omega)]; exact h), if_neg h, xi_gi hL.1, h2]
  have e0' := e0
  dsimp only
  rw [e0]
  clear e0 e0'
  generalize hw : (if 12 ≤ H.length then 11 else H.length) = w
  have hw' : w ≤ 11 ∧ (w = 11 ∧ 12 ≤ H.length ∨ w = H.length ∧ H.length < 12) := by
    by_cases h : 12 ≤ H.length
    · rw [if_pos h] at hw; omega
    · rw [if_neg h] at hw; omega
  obtain ⟨hw1, hw2⟩ := hw'
  obtain ⟨f1, a1, a2, a3⟩ := mo_shift (f := f) hL w fo_N hw1 (by show _ < 2000; omega)
  obtain ⟨k', hk'⟩ : ∃ k', fo_N - w = k' + 1 := ⟨fo_N - w - 1, by show _ = _; unfold fo_N; omega⟩
  rw [a1, hk', fx_s, lp_Mo_settle_33, if_pos (show nI 0 ≤ 0 by decide), xi_gi hL.1, a3 m (by omega), h2]
  have e1 : ∀ J : Int32 → Rr, fo_jp J (fun j72 => if 12 ≤ nI H.length then j72 12 else fo_gi (mm_wi M f1) 9 m 20 fun v62 => j72 (v62 + 1)) = J (nI ((S :: H).take 12).length) := by
    intro J
    rw [xi_jp, List.length_take, List.length_cons]
    by_cases h : 12 ≤ H.length
    · rw [if_pos (show (12 : Int32) ≤ nI H.length from nI_le (a := 12) h (by omega)), Nat.min_eq_left (by omega)]; rfl
    · rw [if_neg (by rw [show (12 : Int32) = nI 12 from rfl, nI_leI (by omega) (by omega)]; exact h), xi_gi hL.1, a3 m (by omega), h2, nI_1, Nat.min_eq_right (by omega)]
  rw [e1, xi_pi hL.1]
  clear e1
  obtain ⟨f2, b1, b2, b3⟩ := mo_copy (M := M) (f := up_2 f1 m 20 (nI ((S :: H).take 12).length)) (s := 0) (t := 1) hL (by omega) (by omega) (by omega)
  obtain ⟨f3, c1, c2, c3⟩ := mo_copy (M := M) (f := f2) (s := 13) (t := 0) hL (by omega) (by omega) (by omega)
  rw [show (fn_Mo_copy (mm_wi M (up_2 f1 m 20 (nI ((S :: H).take 12).length))) m 0 1) = _ from b1, xi_cv hL.1, show (fn_Mo_copy (mm_wi M f2) m 13 0) = _ from c1, xi_cv hL.1, xi_gi hL.1]
  have h24 : f3 m 24 = f m 24 := by rw [c3 _ _ (by omega), b3 _ _ (by omega), up_k (by omega), a3 m (by omega)]
  rw [h24]
  have q1 : ∀ j i, i < 71 → 2 ≤ j → j ≤ w + 1 → f3 (m + 14) (71 * j + i) = f (m + 14) (71 * (j - 1) + i) := by
    intro j i hi hj1 hj2
    rw [c3 _ _ (by omega), b3 _ _ (by omega), up_o (by omega), a2 j i hi, if_pos ⟨hj1, hj2⟩]
  have q2 : ∀ i, i < 71 → f3 (m + 14) (71 * 1 + i) = f (m + 14) i := by
    intro i hi
    have := a2 0 i hi
    rw [if_neg (by omega), Nat.mul_zero, Nat.zero_add] at this
    have h5 := b2 i hi
    rw [Nat.mul_zero, Nat.zero_add] at h5
    rw [c3 _ _ (by omega), h5, up_o (by omega), this]
  have q3 : ∀ i, i < 71 → f3 (m + 14) (0 + i) = f (m + 14) (923 + i) := by
    intro i hi
    have := a2 13 i hi
    rw [if_neg (by omega)] at this
    have h5 := c2 i hi
    rw [Nat.mul_zero] at h5
    rw [h5, b3 _ _ (by omega), up_o (by omega), this]
  refine ⟨f3, rfl, ⟨ms_mv hS q3, ?_, by rw [List.length_take]; omega, fun j s hs => ?_⟩, fun a j g1 g2 => ?_⟩
  · rw [c3 _ _ (by omega), b3 _ _ (by omega), up_e]
  · have hj := (List.getElem?_eq_some_iff.mp hs).1
    rw [List.length_take, List.length_cons] at hj
    rw [List.getElem?_take, if_pos (by omega)] at hs
    cases j with
    | zero => cases hs; exact ms_mv (b := 0) h1 fun i hi => by rw [show (0 : Nat) + i = i from Nat.zero_add i]; exact q2 i hi
    | succ j =>
      rw [List.getElem?_cons_succ] at hs
      exact ms_mv (h4 j s hs) fun i hi => q1 (j + 1 + 1) i hi (by omega) (by omega)
  · by_cases ha : a = m + 14
    · subst ha
      obtain ⟨jj, ii, hjj, hii⟩ : ∃ jj ii, j = 71 * jj + ii ∧ ii < 71 := ⟨j / 71, j % 71, by omega, by omega⟩
      subst hjj
      rw [c3 _ _ (by omega), b3 _ _ (by omega), up_o (by omega), a2 jj ii hii, if_neg (by omega)]
    · rw [c3 _ _ (by omega), b3 _ _ (by omega)]
      by_cases hm : a = m
      · rw [up_k (by omega), a3 a ha]
      · rw [up_o hm, a3 a ha]
theorem mo_undo_lp {K : Nat} (hL : mo_L M m) (hK : K ≤ 12) : ∀ kk i f, i ≤ K → K - i < kk → f m 20 = nI K → ∃ f', fo_fx (fun _ _ => none) (lp_Mo_undo_16 m) kk (mm_wi M f) (nI i) = some (1, mm_wi M f') ∧ (∀ j t, t < 71 → f' (m + 14) (71 * j + t) = if i ≤ j ∧ j < K then f (m + 14) (71 * (j + 1) + t) else f (m + 14) (71 * j + t)) ∧ (1 ≤ K → f' m 20 = nI (K - 1)) ∧ ∀ a j, (a ≠ m ∨ j ≠ 20) → a ≠ m + 14 → f' a j = f a j := by
  intro kk
  induction kk with
  | zero => intro i f _ h; omega
  | succ kk ih =>
    intro i f hi hk h20
    rw [fx_s, lp_Mo_undo_16, xi_gi hL.1, h20]
    by_cases h : K ≤ i
    · rw [if_pos (nI_le h (by omega)), xi_gi hL.1, h20, xi_pi hL.1, xi_rz1]
      refine ⟨_, rfl, fun j t ht => by rw [if_neg (by omega), up_o (by omega)], fun h1 => ?_, fun a j g1 g2 => ?_⟩
      · obtain ⟨K', rfl⟩ : ∃ K', K = K' + 1 := ⟨K - 1, by omega⟩
        rw [up_e, nI_pred]; rfl
      · by_cases ha : a = m
        · rw [up_k (by omega)]
        · rw [up_o ha]
    · rw [if_neg (by rw [nI_leI (by omega) (by omega)]; exact h), nI_1]
      obtain ⟨f1, a1, a2, a3⟩ := mo_copy (M := M) (f := f) (s := i + 1) (t := i) hL (by omega) (by omega) (by omega)
      rw [a1, xi_cv hL.1]
      obtain ⟨f2, b1, b2, b3, b4⟩ := ih (i + 1) f1 (by omega) (by omega) (by rw [a3 _ _ (by omega)]; exact h20)
      refine ⟨f2, b1, fun j t ht => ?_, b3, fun a j g1 g2 => by rw [b4 a j g1 g2, a3 _ _ (by omega)]⟩
      rw [b2 j t ht]
      by_cases h1 : i + 1 ≤ j ∧ j < K
      · rw [if_pos h1, if_pos (by omega), a3 _ _ (by omega)]
      · rw [if_neg h1]
        by_cases h2 : j = i
        · subst h2; rw [if_pos (by omega), a2 t ht]
        · rw [if_neg (by omega), a3 _ _ (by omega)]
theorem mo_undo_s (hL : mo_L M m) (hH : mh_R f m S (S' :: H)) : ∃ f', fn_Mo_undo (mm_wi M f) m = some (1, mm_wi M f') ∧ mh_R f' m S' H ∧ ∀ a j, (a ≠ m ∨ (j ≠ 0 ∧ j ≠ 20)) → (a ≠ m + 14 ∨ 923 ≤ j) → f' a j = f a j := by
  obtain ⟨h1, h2, h3, h4⟩ := hH
  rw [List.length_cons] at h2 h3
  rw [fn_Mo_undo, xi_pi hL.1, xi_gi hL.1, up_k (by omega), h2, if_neg (nI_ne0 (by omega) (by omega))]
  obtain ⟨f1, a1, a2, a3, a4⟩ := mo_undo_lp (K := H.length + 1) hL (by omega) fo_N 0 (up_2 f m 0 0) (by omega) (by show _ < 2000; omega) (by rw [up_k (by omega)]; exact h2)
  refine ⟨f1, a1, ⟨?_, a3 (by omega), by omega, fun j s hs => ?_⟩, fun a j g1 g2 => ?_⟩
  · refine ms_mv (h4 0 S' rfl) fun i hi => ?_
    have := a2 0 i hi
    rw [if_pos (by omega), up_o (by omega)] at this
    exact this
  · have hj := (List.getElem?_eq_some_iff.mp hs).1
    refine ms_mv (h4 (j + 1) s hs) fun i hi => ?_
    rw [a2 (j + 1) i hi, if_pos (by omega), up_o (by omega)]
  · by_cases ha : a = m + 14
    · subst ha
      obtain ⟨jj, ii, hjj, hii⟩ : ∃ jj ii, j = 71 * jj + ii ∧ ii < 71 := ⟨j / 71, j % 71, by omega, by omega⟩
      subst hjj
      rw [a2 jj ii hii, if_neg (by omega), up_o (by omega)]
    · rw [a4 a j (by omega) ha]
      by_cases hm : a = m
      · rw [up_k (by omega)]
      · rw [up_o hm]
theorem mo_undo_0 (hL : mo_L M m) (h20 : f m 20 = 0) : fn_Mo_undo (mm_wi M f) m = some (0, mm_wi M (up_2 f m 0 0)) := by
  rw [fn_Mo_undo, xi_pi hL.1, xi_gi hL.1, up_k (by omega), h20, if_pos rfl, xi_rz0]
end
