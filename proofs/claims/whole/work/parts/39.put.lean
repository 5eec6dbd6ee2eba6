/-! the class's text: put -/
section
variable {M : Mm} {t : Nat} {T : List Nat} {x : Int64}
theorem bs_at {i : Nat} (h : i < bl_n x 8 0) : (bs_l x)[i]? = some (by_n x i) := by
  unfold bs_l
  simp [h]
theorem bs_len : (bs_l x).length = bl_n x 8 0 := by simp [bs_l]
theorem bs_8 : bl_n x 8 0 ≤ 8 := (bl_le x 8 0).1
def pt_ok (x : Int64) (T : List Nat) : Bool := bg_n x && decide (T.length + bl_n x 8 0 ≤ 120)
theorem bg_of (h : ∀ i, i < bl_n x 8 0 → 33 ≤ by_n x i ∧ by_n x i ≤ 126) : bg_n x = true := by
  unfold bg_n
  rw [List.all_eq_true]
  intro c hc
  obtain ⟨i, hi⟩ := List.getElem?_of_mem hc
  have hl := (List.getElem?_eq_some_iff.mp hi).1
  rw [bs_len] at hl
  rw [bs_at hl] at hi
  cases hi
  have := h i hl
  simp [this]
theorem bg_no {i : Nat} (hi : i < bl_n x 8 0) (h : ¬ (33 ≤ by_n x i ∧ by_n x i ≤ 126)) : bg_n x = false := by
  cases hb : bg_n x with
  | false => rfl
  | true =>
    unfold bg_n at hb
    rw [List.all_eq_true] at hb
    have := hb _ (List.mem_of_getElem? (bs_at hi))
    simp at this
    exact absurd this h
theorem tx_put2 (hL : tx_L M t) (h120 : T.length + bl_n x 8 0 ≤ 120) (hT : ∀ y ∈ T, 33 ≤ y ∧ y ≤ 126) (hg : ∀ i, i < bl_n x 8 0 → 33 ≤ by_n x i ∧ by_n x i ≤ 126) : ∀ m j f, j ≤ bl_n x 8 0 → bl_n x 8 0 - j < m → f t 1 = nI T.length → (∀ k y, (T ++ (bs_l x).take j)[k]? = some y → f (t + 1) k = nI y) → ∃ f', fo_fx (fun _ _ => none) (lp_Tx_put_61 t x (nI (bl_n x 8 0))) m (mm_wi M f) (nI j) = some (1, mm_wi M f') ∧ tx_R f' t (T ++ bs_l x) ∧ ∀ a, a ≠ t → a ≠ t + 1 → f' a = f a := by
  have h8 := bs_8 (x := x)
  intro m
  induction m with
  | zero => intro j f _ h; omega
  | succ m ih =>
    intro j f hj hm h1 h2
    rw [fx_s, lp_Tx_put_61]
    by_cases h : bl_n x 8 0 ≤ j
    · rw [if_pos (nI_le h (by omega)), xi_gi hL.1, h1, nI_add, xi_pi hL.1, xi_rz1]
      rw [List.take_of_length_le (by rw [bs_len]; omega)] at h2
      refine ⟨_, rfl, ⟨by rw [up_e, List.length_append, bs_len], by rw [List.length_append, bs_len]; omega, fun y hy => ?_, fun k y hy => by rw [up_o (by omega)]; exact h2 k y hy⟩, fun a ha _ => up_oa ha⟩
      rcases List.mem_append.mp hy with hy | hy
      · exact hT y hy
      · obtain ⟨i, hi⟩ := List.getElem?_of_mem hy
        have hl := (List.getElem?_eq_some_iff.mp hi).1
        rw [bs_len] at hl
        rw [bs_at hl] at hi
        cases hi
        exact hg i hl
    · have hb := by_lt x j
      have hc : (((nI (by_n x j)).toUInt32 % 65536).toInt32) = nI (by_n x j) := (sb_byte _ hb).2.1
      have hnar : vp_nar .char (nI (by_n x j)) = nI (by_n x j) := by
        have h9 : ∀ b, b < 256 → vp_nar .char (nI b) = nI b := by decide +kernel
        exact h9 _ hb
      rw [if_neg (by rw [nI_leI (by omega) (by omega)]; exact h), xi_gr hL.1 hL.2.1, xi_gi hL.1, h1, fn_Tx_characterOf, by_c x (by omega), xi_cl, hc, nI_add]
      unfold fo_sc
      rw [wi_s, hL.2.2, if_pos ⟨rfl, nI_in (by omega) (by decide)⟩, nI_clamp (by omega), hnar, nI_1]
      obtain ⟨f1, e1, a1, a2⟩ := ih (j + 1) (up_2 f (t + 1) (T.length + j) (nI (by_n x j))) (by omega) (by omega) (by rw [up_o (by omega)]; exact h1) (fun k y hy => by
        rw [List.getElem?_append] at hy
        by_cases hk : k = T.length + j
        · subst hk
          rw [if_neg (by omega), show T.length + j - T.length = j by omega, List.getElem?_take, if_pos (by omega), bs_at (by omega)] at hy
          cases hy
          exact up_e
        · rw [up_k hk]
          apply h2
          rw [List.getElem?_append]
          by_cases hk2 : k < T.length
          · rw [if_pos hk2] at hy ⊢; exact hy
          · rw [if_neg hk2] at hy ⊢
            rw [List.getElem?_take] at hy ⊢
            by_cases hk3 : k - T.length < j + 1
            · rw [if_pos hk3] at hy
              rw [if_pos (by omega)]; exact hy
            · rw [if_neg hk3] at hy; cases hy)
      exact ⟨f1, e1, a1, fun a x y => by rw [a2 a x y, up_oa y]⟩
theorem tx_put1 {f : Nat → Nat → Int32} (hL : tx_L M t) (hR : tx_R f t T) : ∀ m i, i ≤ 8 → 8 - i < m → bl_n x (8 - i) i = bl_n x 8 0 → (∀ j, j < i → 33 ≤ by_n x j ∧ by_n x j ≤ 126) → ∃ f', fo_fx (fun _ _ => none) (lp_Tx_put_2 t x) m (mm_wi M f) (nI i) = some (bz (pt_ok x T), mm_wi M f') ∧ tx_R f' t (if pt_ok x T = true then T ++ bs_l x else T) ∧ ∀ a, a ≠ t → a ≠ t + 1 → f' a = f a := by
  obtain ⟨h1, h2, h3, h4⟩ := hR
  have h8 := bs_8 (x := x)
  intro m
  induction m with
  | zero => intro i _ h; omega
  | succ m ih =>
    intro i hi hm hbl hgood
    have hexit : i = bl_n x 8 0 → ∃ f', (fo_gi (mm_wi M f) 7 t 1 fun v46 => if (v46 + nI i) ≤ 120 then fo_fx (fun _ _ => none) (lp_Tx_put_61 t x (nI i)) fo_N (mm_wi M f) 0 else fo_rz 0 (mm_wi M f)) = some (bz (pt_ok x T), mm_wi M f') ∧ tx_R f' t (if pt_ok x T = true then T ++ bs_l x else T) ∧ ∀ a, a ≠ t → a ≠ t + 1 → f' a = f a := by
      intro hie
      have hg := bg_of (x := x) fun j hj => hgood j (by omega)
      rw [xi_gi hL.1, h1, nI_add]
      unfold pt_ok
      rw [hg, Bool.true_and]
      by_cases hl : T.length + bl_n x 8 0 ≤ 120
      · rw [if_pos (show nI (T.length + i) ≤ 120 from nI_le (b := 120) (by omega) (by omega)), decide_eq_true hl, if_pos rfl, hie]
        exact tx_put2 hL hl h3 (fun j hj => hgood j (by omega)) fo_N 0 f (by omega) (by show _ < 2000; omega) h1 (by simpa using h4)
      · rw [if_neg (by rw [show (120 : Int32) = nI 120 from rfl, nI_leI (by omega) (by omega)]; omega), xi_rz0, decide_eq_false hl, if_neg (by simp)]
        exact ⟨f, rfl, ⟨h1, h2, h3, h4⟩, fun _ _ _ => rfl⟩
    rw [fx_s, lp_Tx_put_2, xi_jp]
    by_cases h : 8 ≤ i
    · have hi8 : i = 8 := by omega
      rw [if_pos (show (8 : Int32) ≤ nI i from nI_le (a := 8) h (by omega))]
      refine hexit ?_
      rw [← hbl, hi8]; rfl
    · have hb := by_lt x i
      rw [if_neg (by rw [li_8, nI_leI (by omega) (by omega)]; exact h), fn_Tx_characterOf, by_c x (by omega), xi_cl]
      have hbs : bl_n x (8 - i) i = if by_n x i = 0 then i else bl_n x (8 - (i + 1)) (i + 1) := by
        rw [show 8 - i = (8 - (i + 1)) + 1 by omega]; rfl
      by_cases h0 : by_n x i = 0
      · rw [if_pos (by rw [h0]; rfl)]
        refine hexit ?_
        rw [hbs, if_pos h0] at hbl
        exact hbl
      · rw [hbs, if_neg h0] at hbl
        have hlt : i < bl_n x 8 0 := by
          have := (bl_le x (8 - (i + 1)) (i + 1)).2
          omega
        rw [if_neg (nI_ne0 (by omega) (by omega)), fn_Tx_characterOf, by_c x (by omega), xi_cl]
        have hbad : ¬ (33 ≤ by_n x i ∧ by_n x i ≤ 126) → pt_ok x T = false := fun hh => by
          unfold pt_ok; rw [bg_no hlt hh, Bool.false_and]
        by_cases h33 : by_n x i < 33
        · rw [if_pos (show nI (by_n x i) < 33 from nI_lt (b := 33) h33 (by omega)), xi_rz0, hbad (by omega), if_neg (by simp)]
          exact ⟨f, rfl, ⟨h1, h2, h3, h4⟩, fun _ _ _ => rfl⟩
        · rw [if_neg (by rw [show (33 : Int32) = nI 33 from rfl, nI_ltI (by omega) (by omega)]; exact h33)]
          by_cases h126 : by_n x i ≤ 126
          · rw [if_pos (show nI (by_n x i) ≤ 126 from nI_le (b := 126) h126 (by omega)), nI_1]
            exact ih (i + 1) (by omega) (by omega) hbl fun j hj => by
              by_cases hji : j = i
              · rw [hji]; omega
              · exact hgood j (by omega)
          · rw [if_neg (by rw [show (126 : Int32) = nI 126 from rfl, nI_leI (by omega) (by omega)]; exact h126), xi_rz0, hbad (by omega), if_neg (by simp)]
            exact ⟨f, rfl, ⟨h1, h2, h3, h4⟩, fun _ _ _ => rfl⟩
theorem tx_put {f : Nat → Nat → Int32} (hL : tx_L M t) (hR : tx_R f t T) : ∃ f', fn_Tx_put (mm_wi M f) t x = some (bz (pt_ok x T), mm_wi M f') ∧ tx_R f' t (if pt_ok x T = true then T ++ bs_l x else T) ∧ ∀ a, a ≠ t → a ≠ t + 1 → f' a = f a :=
  tx_put1 hL hR fo_N 0 (by omega) (by decide) rfl fun j hj => absurd hj (by omega)
end
