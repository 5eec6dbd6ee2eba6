/-! the class's text: readInto, put -/
section
variable {M : Mm} {t g : Nat} {T : List Nat}
def ra_v (o : Nat ⊕ (Nat × (Nat → Nat → Nat))) : Int32 := match o with | .inl e => nI e | .inr (n, A) => fz (ft_n A n)
theorem tx_into_lp (hL : tx_L M t) (hLg : ag_L M g) (hd : t + 2 ≤ g ∨ g + 12 ≤ t) : ∀ m i p f A, i ≤ 9 → 10 - i < m → p ≤ 13 * i → tx_P f t T p → (∀ c, c < i → cl_R f (g + 2 + c) (A c) ∧ cl_B (A c)) → ∃ f', fo_fx (fun _ _ => none) (lp_Tx_readInto_7 t g) m (mm_wi M f) (nI i) = some (ra_v (ra_n T (10 - i) i p A), mm_wi M f') ∧ tx_R f' t T ∧ (∀ n A', ra_n T (10 - i) i p A = .inr (n, A') → ag_R f' g n A') ∧ ∀ a, a ≠ t → (a < g ∨ g + 12 ≤ a) → f' a = f a := by
  intro m
  induction m with
  | zero => intro i p f A _ h; omega
  | succ m ih =>
    intro i p f A hi hm hp hP hA
    obtain ⟨s1, s2⟩ := hLg.2.2.2 i (by omega)
    rw [fx_s, lp_Tx_readInto_7, if_neg (by rw [li_10, nI_leI (by omega) (by omega)]; omega), xi_gr hLg.1 hLg.2.1, xi_ar (t := 4) hLg.2.2.1 (by omega) (by decide) s1]
    obtain ⟨f1, e1, a1, a2, a3⟩ := tx_clause (q := g + 2 + i) hL s2 (by omega) (by omega) hP (by omega)
    rw [e1, xi_cv hL.1, show 10 - i = (9 - i) + 1 by omega]
    unfold ra_n
    unfold pl_cl at a1
    have b3 : ∀ a, a ≠ t → (a < g ∨ g + 12 ≤ a) → f1 a = f a := fun a x y => a3 a x (by omega)
    cases hc : ps_cl T p with
    | inl e =>
      rw [hc] at a1
      rw [if_pos (by exact bz_f rfl), xi_gi hL.1, a1.2]
      exact ⟨f1, rfl, a1.1, fun n A' hx => (by cases hx), b3⟩
    | inr y =>
      obtain ⟨p', C⟩ := y
      obtain ⟨c1, c2⟩ := ps_cl_B hc
      rw [hc] at a1
      have a4 := a2 p' C hc
      dsimp only at a1 ⊢
      have hA1 : ∀ c, c < i + 1 → cl_R f1 (g + 2 + c) (up_A A i C c) ∧ cl_B (up_A A i C c) := by
        intro c hci
        unfold up_A
        by_cases h : c = i
        · subst h; rw [if_pos rfl]; exact ⟨a4, c2⟩
        · rw [if_neg h]
          exact ⟨cl_cg (hA c (by omega)).1 (a3 _ (by omega) (by omega)), (hA c (by omega)).2⟩
      have hl := hP.1.2.1
      rw [if_neg (by exact bz_t rfl), xi_gi hL.1, xi_gi hL.1, a1.2, a1.1.1]
      by_cases h1 : p' = T.length
      · rw [if_pos (by rw [h1]), if_pos h1, xi_pi hLg.1, nI_1]
        have hag : ag_R (up_2 f1 g 1 (nI (i + 1))) g (i + 1) (up_A A i C) := ⟨up_e, by omega, fun c hci => ⟨cl_cg (hA1 c hci).1 (up_oa (by omega)), (hA1 c hci).2⟩⟩
        rw [ag_fault hLg hag, xi_cv hLg.1]
        refine ⟨_, rfl, ?_, fun n A' hx => (by cases hx; exact hag), fun a x y => by rw [up_oa (by omega), b3 a x y]⟩
        exact (tx_uq (q := g) (k := 1) (v := nI (i + 1)) a1 (by omega) (by omega)).1
      · rw [if_neg (by rw [nI_eq (by omega) (by omega)]; exact h1), if_neg h1]
        by_cases h9 : i = 9
        · rw [if_pos (by rw [h9]; rfl), xi_gi hL.1, a1.2, if_pos (.inl h9)]
          exact ⟨f1, rfl, a1.1, fun n A' hx => (by cases hx), b3⟩
        · rw [if_neg (by rw [show (9 : Int32) = nI 9 from rfl, nI_eq (by omega) (by omega)]; exact h9)]
          by_cases h59 : ca_n T p' = 59
          · rw [tk_y (w := 59) 59 rfl hL a1 (by omega) h59 (by omega) (by omega), xi_cv hL.1, if_neg (by decide), if_neg (by omega), nI_1]
            obtain ⟨f2, e2, d1, d2, d3⟩ := ih (i + 1) (p' + 1) (up_2 f1 t 2 (nI (p' + 1))) (up_A A i C) (by omega) (by omega) (by omega) (tx_pl a1) (fun c hci => ⟨cl_cg (hA1 c hci).1 (up_oa (by omega)), (hA1 c hci).2⟩)
            rw [show 10 - (i + 1) = 9 - i by omega] at e2 d2
            exact ⟨f2, e2, d1, d2, fun a x y => by rw [d3 a x y, up_oa x, b3 a x y]⟩
          · rw [tk_n (w := 59) 59 rfl hL a1 (by omega) h59 (by omega) (by omega), xi_cv hL.1, if_pos rfl, xi_gi hL.1, a1.2, if_pos (.inr h59)]
            exact ⟨f1, rfl, a1.1, fun n A' hx => (by cases hx), b3⟩
theorem tx_into {f : Nat → Nat → Int32} (hL : tx_L M t) (hLg : ag_L M g) (hd : t + 2 ≤ g ∨ g + 12 ≤ t) (hR : tx_R f t T) : ∃ f', fn_Tx_readInto (mm_wi M f) t g = some (rt_v (rt_n T), mm_wi M f') ∧ tx_R f' t T ∧ (∀ n A', rt_n T = .inr (n, A') → ag_R f' g n A') ∧ ∀ a, a ≠ t → (a < g ∨ g + 12 ≤ a) → f' a = f a := by
  rw [fn_Tx_readInto, xi_pi hL.1]
  have hP0 : tx_P (up_2 f t 2 0) t T 0 := by
    obtain ⟨h1, h2, h3, h4⟩ := hR
    exact ⟨⟨by rw [up_k (by omega)]; exact h1, h2, h3, fun j x hx => by rw [up_o (by omega)]; exact h4 j x hx⟩, up_e⟩
  obtain ⟨f1, e1, a1, a2, a3⟩ := tx_into_lp (T := T) hL hLg hd fo_N 0 0 (up_2 f t 2 0) (fun _ _ => 0) (by omega) (by decide) (by omega) hP0 (fun c hc => absurd hc (by omega))
  have hv : ra_v (ra_n T (10 - 0) 0 0 (fun _ _ => 0)) = rt_v (rt_n T) := by
    unfold rt_n ra_v rt_v
    rw [Nat.sub_zero]
    cases ra_n T 10 0 0 (fun _ _ => 0) with
    | inl e => rfl
    | inr y =>
      obtain ⟨n, A⟩ := y
      dsimp only
      cases ft_n A n <;> rfl
  rw [hv] at e1
  refine ⟨f1, e1, a1, fun n A' hx => ?_, fun a x y => by rw [a3 a x y, up_oa x]⟩
  apply a2
  unfold rt_n at hx
  rw [Nat.sub_zero]
  cases hr : ra_n T 10 0 0 (fun _ _ => 0) with
  | inl e => rw [hr] at hx; cases hx
  | inr y =>
    obtain ⟨n1, A1⟩ := y
    rw [hr] at hx
    dsimp only at hx
    cases hf : ft_n A1 n1 with
    | some e => rw [hf] at hx; cases hx
    | none => rw [hf] at hx; cases hx; rfl
end
