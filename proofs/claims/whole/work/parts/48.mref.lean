/-! the reference's readAll and references -/
section
variable {M : Mm} {f : Nat → Nat → Int32} {m B n : Nat} {T : List Nat} {A : Nat → Nat → Nat}
theorem mo_readAll (hL : mo_L M m) (hB : B ≤ 10) (hR : mt_R f m T) : ∃ f', fn_Mo_readAll (mm_wi M f) m (nI B) = some (rv_n (ra_n T 10 0 0 (fun _ _ => 0)), mm_wi M f') ∧ (∀ n A', ra_n T 10 0 0 (fun _ _ => 0) = .inr (n, A') → n ≤ 10 ∧ ∀ c, c < n → mc_R f' m (B + c) (A' c)) ∧ ∀ a b, (a < m + 3 ∨ m + 14 ≤ a ∨ b < B ∨ B + 10 ≤ b) → f' a b = f a b :=
  mo_all_lp hL hB fo_N 0 0 f (fun _ _ => 0) (by omega) (by decide) (by omega) hR fun c hc => absurd hc (by omega)
theorem mo_round_lp {c : Nat} (hL : mo_L M m) (hB : B ≤ 10) (hn : n ≤ 10) (hA : ∀ c, c < n → mc_R f m (B + c) (A c) ∧ cl_B (A c)) (hc : c < n) (hr : ∀ x, x < n → A x 7 = 4 → A x 8 < n) : ∀ k i x, i ≤ 10 → 10 - i < k → x < n → fo_fx (fun _ _ _ => none) (lp_Mo_goesRound_8 (mm_wi M f) m (nI B) (nI c)) k (nI x) 0 (nI i) = some (bz (lr_n A c (10 - i) x), mm_wi M f) := by
  intro k
  induction k with
  | zero => intro i x _ h; omega
  | succ k ih =>
    intro i x hi hk hx
    rw [fx_s, lp_Mo_goesRound_8]
    by_cases h : 10 ≤ i
    · rw [if_pos (show (10 : Int32) ≤ nI i from nI_le (a := 10) h (by omega)), xi_rz0, show 10 - i = 0 by omega]; rfl
    · obtain ⟨⟨-, -, g1, g2, -⟩, hb⟩ := hA x hx
      have h7 := hb.2.2.2.2.2.1
      rw [if_neg (by rw [li_10, nI_leI (by omega) (by omega)]; exact h), if_pos rfl, xi_gr hL.1 (mr_15 hL), nI_add, xi_ai (t := 0) (ms_15 hL) (by omega) (by decide), g1, show 10 - i = (10 - (i + 1)) + 1 by omega]
      unfold lr_n
      by_cases e : A x 7 = 4
      · have e8 := hr x hx e
        rw [e, if_pos (show nI 4 = 4 from rfl), if_pos rfl, xi_gr hL.1 (mr_16 hL), xi_ai (t := 0) (ms_16 hL) (by omega) (by decide), g2, xi_jp, nI_1]
        dsimp only
        by_cases e2 : A x 8 = c
        · rw [if_pos (by rw [e2]), if_pos e2]
          obtain ⟨k', rfl⟩ : ∃ k', k = k' + 1 := ⟨k - 1, by omega⟩
          rw [fx_s, lp_Mo_goesRound_8]
          by_cases h2 : 10 ≤ i + 1
          · rw [if_pos (show (10 : Int32) ≤ nI (i + 1) from nI_le (a := 10) h2 (by omega)), xi_rz1]; rfl
          · rw [if_neg (by rw [li_10, nI_leI (by omega) (by omega)]; exact h2), if_neg (show ¬ (1 : Int32) = 0 by decide), xi_rz1]; rfl
        · rw [if_neg (by rw [nI_eq (by omega) (by omega)]; exact e2), if_neg e2]
          exact ih (i + 1) (A x 8) (by omega) (by omega) e8
      · rw [if_neg (show ¬ nI (A x 7) = 4 from fun hh => e ((nI_eq (b := 4) (by omega) (by omega)).mp hh)), if_neg e, xi_rz0]; rfl
end
