/-! the reference's readAll -/
section
variable {M : Mm} {m B : Nat} {T : List Nat}
theorem mo_all_lp (hL : mo_L M m) (hB : B ≤ 10) : ∀ k i p f A, i ≤ 9 → 12 < k + i → p ≤ 13 * i → mt_R f m T → (∀ c, c < i → mc_R f m (B + c) (A c)) → ∃ f', fo_fx (fun _ _ _ _ => none) (lp_Mo_readAll_7 m (nI B)) k (mm_wi M f) (nI i) (nI p) 1 = some (rv_n (ra_n T (10 - i) i p A), mm_wi M f') ∧ (∀ n A', ra_n T (10 - i) i p A = .inr (n, A') → n ≤ 10 ∧ ∀ c, c < n → mc_R f' m (B + c) (A' c)) ∧ ∀ a b, (a < m + 3 ∨ m + 14 ≤ a ∨ b < B ∨ B + 10 ≤ b) → f' a b = f a b := by
  intro k
  induction k with
  | zero => intro i p f A h1 h2; omega
  | succ k ih =>
    intro i p f A hi hk hp hR hA
    obtain ⟨k', rfl⟩ : ∃ k', k = k' + 1 := ⟨k - 1, by omega⟩
    obtain ⟨f1, x1, a1, b1⟩ := mo_clause (p := p) (j := B + i) hL hR (by omega) (by omega)
    have hR1 := fm_mt (by omega) b1 hR
    have fr1 : ∀ a b, (a < m + 3 ∨ m + 14 ≤ a ∨ b < B ∨ B + 10 ≤ b) → f1 a b = f a b := fun a b h => b1 a b (by omega)
    rw [fx_s, lp_Mo_readAll_7, if_neg (show ¬ (1 : Int32) = 0 by decide), nI_add, x1, xi_cv hL.1, xi_nm, nI_1, xi_jp, show 10 - i = (9 - i) + 1 by omega]
    dsimp only
    rw [xi_jp]
    dsimp only
    unfold ra_n
    cases hc : ps_cl T p with
    | inl e =>
      have he := ps_cl_e hc
      rw [show ml_v (.inl e) = mv_e e from rfl, if_pos (mv_neg e (by omega)), xi_jp, if_pos rfl]
      dsimp only
      rw [mo_all_e (by omega)]
      exact ⟨f1, rfl, fun n A' hx => (by cases hx), fr1⟩
    | inr y =>
      obtain ⟨p', C⟩ := y
      have hp' := (ps_cl_B hc).1
      have a2 := a1 p' C hc
      have hca := ca_lt (p := p') hR
      have hA1 : ∀ c, c < i + 1 → mc_R f1 m (B + c) (up_A A i C c) := by
        intro c hci
        unfold up_A
        by_cases h : c = i
        · subst h; rw [if_pos rfl]; exact a2
        · rw [if_neg h]
          exact mc_cg (hA c (by omega)) fun x => b1 x _ (by omega)
      have hl := hR.2.1
      rw [show ml_v (.inr (p', C)) = nI p' from rfl, if_neg (nI_pos (by omega)), mo_charAt hL hR1 (by omega), xi_cv hL.1]
      dsimp only
      by_cases h59 : ca_n T p' = 59
      · have hne : ¬ p' = T.length := fun h => by rw [ca_0 (by omega)] at h59; omega
        rw [h59, if_pos (show nI 59 = 59 from rfl), if_neg hne]
        by_cases h9 : i = 9
        · rw [if_pos (show (10 : Int32) ≤ nI (i + 1) from nI_le (a := 10) (by omega) (by omega)), xi_jp, if_pos rfl]
          dsimp only
          rw [mo_all_0 (p := p') (n := i + 1) hL hR1 (by omega) (by omega), if_neg hne, if_pos (.inl h9)]
          exact ⟨f1, rfl, fun n A' hx => (by cases hx), fr1⟩
        · rw [if_neg (by rw [li_10, nI_leI (by omega) (by omega)]; omega), xi_jp, if_neg (show ¬ (1 : Int32) = 0 by decide)]
          dsimp only
          rw [nI_1, if_neg (fun h => h.elim h9 (fun h => h rfl))]
          obtain ⟨f2, x2, d1, d2⟩ := ih (i + 1) (p' + 1) f1 (up_A A i C) (by omega) (by omega) (by omega) hR1 hA1
          rw [show 10 - (i + 1) = 9 - i by omega] at x2 d1
          exact ⟨f2, x2, d1, fun a b h => by rw [d2 a b h, fr1 a b h]⟩
      · rw [if_neg (show ¬ nI (ca_n T p') = 59 from fun h => h59 ((nI_eq (b := 59) (by omega) (by omega)).mp h)), xi_jp, if_pos rfl]
        dsimp only
        rw [mo_all_0 (p := p') (n := i + 1) hL hR1 (by omega) (by omega)]
        by_cases hpl : p' = T.length
        · rw [if_pos hpl, if_pos hpl]
          exact ⟨f1, rfl, fun n A' hx => (by cases hx; exact ⟨by omega, hA1⟩), fr1⟩
        · rw [if_neg hpl, if_neg hpl, if_pos (.inr h59)]
          exact ⟨f1, rfl, fun n A' hx => (by cases hx), fr1⟩
end
