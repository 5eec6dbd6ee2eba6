/-! the reference's clauses -/
section
variable {M : Mm} {f : Nat → Nat → Int32} {m p j : Nat} {T : List Nat}
theorem ps_t_e {e : Nat} (h : ps_t T p = .inl e) : e ≤ p + 1 := by
  unfold ps_t at h
  have hd : ∀ tt, ps_d T p tt = .inl e → e ≤ p + 1 := by
    intro tt h
    unfold ps_d at h
    cases hr : rd_n T (p + 1) 48 10 with
    | none => rw [hr] at h; cases h; omega
    | some d => rw [hr] at h; cases h
  split at h
  · cases h
  · split at h
    · cases h
    · split at h
      · exact hd 2 h
      · split at h
        · exact hd 3 h
        · cases hr : rd_n T p 65 3 with
          | none => rw [hr] at h; cases h; omega
          | some w =>
            rw [hr] at h
            dsimp only at h
            cases hr2 : rd_n T (p + 1) 97 5 with
            | none => rw [hr2] at h; cases h; omega
            | some k => rw [hr2] at h; cases h
theorem ps_c_e {e : Nat} (h : ps_c T p = .inl e) : e ≤ p + 4 := by
  unfold ps_c at h
  split at h
  · cases h2 : ps_2 T (p + 1) with
    | inl e' =>
      have := ps_2_e h2
      rw [h2] at h; cases h; omega
    | inr y =>
      obtain ⟨w, v⟩ := y
      rw [h2] at h
      dsimp only at h
      cases hr : rd_n T (p + 3) 48 10 with
      | none => rw [hr] at h; cases h; omega
      | some x =>
        rw [hr] at h
        dsimp only at h
        split at h
        · cases h
        · cases h; omega
  · cases h
def mc_R (f : Nat → Nat → Int32) (m j : Nat) (C : Nat → Nat) : Prop := mg_R f m j (C 0) (C 1) (C 2) ∧ mb_R f m j (C 3) (C 4) (C 5) (C 6) ∧ ma_R f m j (C 7) (C 8) (C 9) (C 10)
def ml_v (o : Nat ⊕ (Nat × (Nat → Nat))) : Int32 := match o with | .inl e => mv_e e | .inr (p', _) => nI p'
theorem fm_w {f' : Nat → Nat → Int32} {lo hi lo' hi' : Nat} (h : fr_M f f' lo hi j) (h1 : lo' ≤ lo) (h2 : hi ≤ hi') : fr_M f f' lo' hi' j := fun a b x => h a b (by omega)
theorem mo_clause (hL : mo_L M m) (hR : mt_R f m T) (hp : p ≤ 400) (hj : j < 20) : ∃ f', fn_Mo_readClause (mm_wi M f) m (nI j) (nI p) = some (ml_v (ps_cl T p), mm_wi M f') ∧ (∀ p' C, ps_cl T p = .inr (p', C) → mc_R f' m j C) ∧ fr_M f f' (m + 3) (m + 14) j := by
  rw [fn_Mo_readClause]
  obtain ⟨f1, x1, a1, b1⟩ := mo_trig (p := p) hL hR (by omega) hj
  rw [x1, xi_cv hL.1, xi_jp]
  dsimp only
  unfold ps_cl
  have hR1 := fm_mt (by omega) b1 hR
  have w1 := fm_w (lo' := m + 3) (hi' := m + 14) b1 (by omega) (by omega)
  cases ht : ps_t T p with
  | inl e =>
    have he := ps_t_e ht
    rw [show mt_v (.inl e) = mv_e e from rfl, if_neg (mv_nle (by omega)), xi_jp, if_pos (mv_neg e (by omega))]
    dsimp only
    rw [if_neg (mv_nle (by omega))]
    exact ⟨f1, rfl, fun p' C hx => (by cases hx), w1⟩
  | inr y =>
    obtain ⟨p1, t0, t1, t2⟩ := y
    have hB := (ps_t_B ht).1
    have a2 := a1 _ _ _ _ ht
    obtain ⟨f2, x2, c1, d1⟩ := mo_bound (p := p1) hL hR1 (by omega) hj
    rw [show mt_v (.inr (p1, t0, t1, t2)) = nI p1 from rfl, if_pos (nI_pos' (by omega)), x2, xi_cv hL.1, xi_jp]
    dsimp only
    have hR2 := fm_mt (by omega) d1 hR1
    have w2 := fm_tr w1 (fm_w (lo' := m + 3) (hi' := m + 14) d1 (by omega) (by omega))
    cases hc : ps_c T p1 with
    | inl e =>
      have he := ps_c_e hc
      rw [show mc_v (.inl e) = mv_e e from rfl, if_pos (mv_neg e (by omega)), if_neg (mv_nle (by omega))]
      exact ⟨f2, rfl, fun p' C hx => (by cases hx), w2⟩
    | inr y =>
      obtain ⟨p2, b, d2, d3, d4⟩ := y
      have hB2 := (ps_c_B hc).1
      have c2 := c1 _ _ _ _ _ hc
      have hca := ca_lt (p := p2) hR
      rw [show mc_v (.inr (p2, b, d2, d3, d4)) = nI p2 from rfl, if_neg (nI_pos (by omega)), mo_charAt hL hR2 (by omega), xi_cv hL.1, xi_jp]
      dsimp only
      by_cases c6 : ca_n T p2 = 62
      · obtain ⟨f3, x3, g1, k1⟩ := mo_act (p := p2 + 1) hL hR2 (by omega) hj
        rw [c6, if_pos (show nI 62 = 62 from rfl), if_pos rfl, nI_1, if_pos (nI_pos' (by omega)), x3, xi_cv hL.1]
        have w3 := fm_tr w2 (fm_w (lo' := m + 3) (hi' := m + 14) k1 (by omega) (by omega))
        cases ha : ps_a T (p2 + 1) with
        | inl e => exact ⟨f3, rfl, fun p' C hx => (by cases hx), w3⟩
        | inr y =>
          obtain ⟨p3, a, k2, k3, k4⟩ := y
          have g2 := g1 _ _ _ _ _ ha
          refine ⟨f3, rfl, fun p' C hx => ?_, w3⟩
          cases hx
          have m1 : ∀ x, x < m + 10 → f3 x j = f2 x j := fun x hx => k1 x j (by omega)
          have m2 : ∀ x, x < m + 6 → f3 x j = f1 x j := fun x hx => by rw [m1 x (by omega), d1 x j (by omega)]
          obtain ⟨n1, n2, n3⟩ := a2
          obtain ⟨o1, o2⟩ := c2
          exact ⟨⟨by rw [m2 _ (by omega)]; exact n1, fun h => by rw [m2 _ (by omega)]; exact n2 h, fun h => by rw [m2 _ (by omega)]; exact n3 h⟩, ⟨by rw [m1 _ (by omega)]; exact o1, fun h => by rw [m1 _ (by omega), m1 _ (by omega), m1 _ (by omega)]; exact o2 h⟩, g2⟩
      · rw [if_neg (show ¬ nI (ca_n T p2) = 62 from fun h => c6 ((nI_eq (b := 62) (by omega) (by omega)).mp h)), if_neg c6, mv_1, if_neg (mv_nle (by omega))]
        exact ⟨f2, rfl, fun p' C hx => (by cases hx), w2⟩
end
