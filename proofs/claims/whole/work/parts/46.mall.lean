/-! the reference reads a whole agreement -/
section
variable {M : Mm} {m B : Nat} {T : List Nat}
theorem mc_cg {f f' : Nat → Nat → Int32} {j : Nat} {C : Nat → Nat} (h : mc_R f m j C) (h0 : ∀ x, f' x j = f x j) : mc_R f' m j C := by
  unfold mc_R mg_R mb_R ma_R at *
  simp only [h0]
  exact h
def rv_n (o : Nat ⊕ (Nat × (Nat → Nat → Nat))) : Int32 := match o with | .inl e => mv_e e | .inr (n, _) => nI n
theorem mo_all_0 {f : Nat → Nat → Int32} {k n p : Nat} (hL : mo_L M m) (hR : mt_R f m T) (hp : p ≤ 400) (hn : n ≤ 10) : fo_fx (fun _ _ _ _ => none) (lp_Mo_readAll_7 m (nI B)) (k + 1) (mm_wi M f) (nI n) (nI p) 0 = some (if p = T.length then nI n else mv_e p, mm_wi M f) := by
  have h2 := hR.2.1
  rw [fx_s, lp_Mo_readAll_7, if_pos rfl, if_pos (nI_pos' (by omega)), xi_gi hL.1, hR.1]
  by_cases h : p = T.length
  · rw [if_pos (by rw [h]), if_pos h]
  · rw [if_neg (by rw [nI_eq (by omega) (by omega)]; exact h), if_neg h, mv_1]
theorem mo_all_e {f : Nat → Nat → Int32} {k n e : Nat} (he : e < 1000) : fo_fx (fun _ _ _ _ => none) (lp_Mo_readAll_7 m (nI B)) (k + 1) (mm_wi M f) (nI n) (mv_e e) 0 = some (mv_e e, mm_wi M f) := by
  rw [fx_s, lp_Mo_readAll_7, if_pos rfl, if_neg (mv_nle he)]
theorem ps_k_e {p a e : Nat} (h : ps_k T p a = .inl e) : e ≤ p + 3 := by
  unfold ps_k at h
  repeat' split at h
  all_goals (cases h <;> omega)
theorem ps_a_e {p e : Nat} (h : ps_a T p = .inl e) : e ≤ p + 3 := by
  unfold ps_a at h
  split at h
  · split at h <;> (cases h <;> omega)
  · split at h
    · cases h2 : ps_2 T (p + 1) with
      | inl e' => have := ps_2_e h2; rw [h2] at h; cases h; omega
      | inr y =>
        rw [h2] at h
        dsimp only at h
        split at h <;> (cases h <;> omega)
    · split at h
      · exact ps_k_e h
      · split at h
        · exact ps_k_e h
        · split at h
          · exact ps_k_e h
          · cases h; omega
theorem ps_cl_e {p e : Nat} (h : ps_cl T p = .inl e) : e ≤ p + 20 := by
  unfold ps_cl at h
  cases ht : ps_t T p with
  | inl e' => have := ps_t_e ht; rw [ht] at h; cases h; omega
  | inr y =>
    obtain ⟨p1, t, t1, t2⟩ := y
    have a1 := (ps_t_B ht).1
    rw [ht] at h
    dsimp only at h
    cases hc : ps_c T p1 with
    | inl e' => have := ps_c_e hc; rw [hc] at h; cases h; omega
    | inr y =>
      obtain ⟨p2, b, b1, b2, b3⟩ := y
      have c1 := (ps_c_B hc).1
      rw [hc] at h
      dsimp only at h
      split at h
      · cases ha : ps_a T (p2 + 1) with
        | inr y => rw [ha] at h; cases h
        | inl e' =>
          rw [ha] at h
          cases h
          have : e ≤ p2 + 1 + 3 := by
            exact ps_a_e ha
          omega
      · cases h; omega
end
