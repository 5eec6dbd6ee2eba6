/-! the reference's conditions -/
section
variable {M : Mm} {f : Nat → Nat → Int32} {m p j : Nat} {T : List Nat}
theorem xi_sz {q n i : Nat} {b : Bool} {K : Mm → Rr} (h : mm_s M q = (3, n)) (hi : i < n) (hn : n < 2 ^ 31) : fo_sz (mm_wi M f) q (nI i) (bz b) K = K (mm_wi M (up_2 f q i (bz b))) := by
  unfold fo_sz
  have hv : vp_nar .boolean (bz b) = bz b := by cases b <;> decide
  rw [wi_s, h, if_pos ⟨rfl, nI_in hi hn⟩, nI_clamp (Nat.lt_trans hi hn), hv]
  rfl
theorem ps_2_rd {w v : Nat} (h : ps_2 T p = .inr (w, v)) : rd_n T p 65 3 = some w ∧ rd_n T (p + 1) 65 3 = some v := by
  unfold ps_2 at h
  cases hr : rd_n T p 65 3 with
  | none => rw [hr] at h; cases h
  | some w' =>
    rw [hr] at h
    dsimp only at h
    split at h
    · cases h
    · cases hr2 : rd_n T (p + 1) 65 3 with
      | none => rw [hr2] at h; cases h
      | some v' => rw [hr2] at h; cases h; exact ⟨rfl, rfl⟩
theorem ps_2_e {e : Nat} (h : ps_2 T p = .inl e) : e ≤ p + 1 := by
  unfold ps_2 at h
  cases hr : rd_n T p 65 3 with
  | none => rw [hr] at h; cases h; omega
  | some w' =>
    rw [hr] at h
    dsimp only at h
    split at h
    · cases h; omega
    · cases hr2 : rd_n T (p + 1) 65 3 with
      | none => rw [hr2] at h; cases h; omega
      | some v' => rw [hr2] at h; cases h
def mc_v (o : Nat ⊕ (Nat × Nat × Nat × Nat × Nat)) : Int32 := match o with | .inl e => mv_e e | .inr (p', _) => nI p'
def mb_R (f : Nat → Nat → Int32) (m j a b c d : Nat) : Prop := f (m + 6) j = nI a ∧ (a = 1 → f (m + 7) j = nI b ∧ f (m + 8) j = nI c ∧ f (m + 9) j = nI d)
theorem mo_bound (hL : mo_L M m) (hR : mt_R f m T) (hp : p ≤ 500) (hj : j < 20) : ∃ f', fn_Mo_readBound (mm_wi M f) m (nI j) (nI p) = some (mc_v (ps_c T p), mm_wi M f') ∧ (∀ p' a b c d, ps_c T p = .inr (p', a, b, c, d) → mb_R f' m j a b c d) ∧ fr_M f f' (m + 6) (m + 10) j := by
  have hca := ca_lt (p := p) hR
  have e6 : ∀ v, fr_M f (up_2 f (m + 6) j v) (m + 6) (m + 10) j := fun v => fm_up (by omega) (by omega)
  rw [fn_Mo_readBound, xi_gr hL.1 (mr_11 hL), mo_charAt hL hR (by omega), xi_cv hL.1, xi_jp]
  dsimp only
  unfold ps_c
  by_cases c1 : ca_n T p = 91
  · rw [c1, if_pos (show nI 91 = 91 from rfl), if_pos rfl, show (1 : Int32) = bz true from rfl, xi_sz (ms_11 hL) hj (by decide), xi_gr hL.1 (mr_11 hL), xi_ai (t := 1) (ms_11 hL) hj (by decide), up_e, if_neg (by decide), xi_gr hL.1 (mr_12 hL), show bz true = (1 : Int32) from rfl, nI_1]
    have e7 := fm_tr (e6 1) (fm_up (lo := m + 6) (hi := m + 10) (a := m + 7) (v := fz (rd_n T (p + 1) 65 3)) (by omega) (by omega))
    have e8 := fm_tr e7 (fm_up (lo := m + 6) (hi := m + 10) (a := m + 8) (v := fz (rd_n T (p + 2) 65 3)) (by omega) (by omega))
    have e9 := fm_tr e8 (fm_up (lo := m + 6) (hi := m + 10) (a := m + 9) (v := fz (rd_n T (p + 3) 48 10)) (by omega) (by omega))
    rw [mo_party hL (fm_mt (by omega) (e6 1) hR) (by omega), xi_cv hL.1, xi_si (ms_12 hL) hj (by decide), xi_gr hL.1 (mr_13 hL), show nI p + 2 = nI (p + 2) from nI_add p 2, mo_party hL (fm_mt (by omega) e7 hR) (by omega), xi_cv hL.1, xi_si (ms_13 hL) hj (by decide), xi_gr hL.1 (mr_14 hL), show nI p + 3 = nI (p + 3) from nI_add p 3, mo_digit hL (fm_mt (by omega) e8 hR) (by omega), xi_cv hL.1, xi_si (ms_14 hL) hj (by decide), mo_overPair hL (fm_mt (by omega) e9 hR) (by omega), xi_cv hL.1]
    unfold po_v
    cases h2 : ps_2 T (p + 1) with
    | inl e =>
      have he := ps_2_e h2
      dsimp only
      rw [if_neg (mv_nle (by omega))]
      exact ⟨_, rfl, fun p' a b c d hx => (by cases hx), e9⟩
    | inr y =>
      obtain ⟨w, v⟩ := y
      obtain ⟨g1, g2⟩ := ps_2_rd h2
      dsimp only
      rw [show p + 1 + 2 = p + 3 by omega, show p + 1 + 3 = p + 4 by omega]
      cases h3 : rd_n T (p + 3) 48 10 with
      | none =>
        dsimp only
        rw [h3] at e9
        rw [if_neg (mv_nle (by omega))]
        exact ⟨_, rfl, fun p' a b c d hx => (by cases hx), e9⟩
      | some d =>
        dsimp only
        rw [h3] at e9
        rw [if_pos (nI_pos' (by omega)), mo_charAt hL (fm_mt (by omega) e9 hR) (by omega), xi_cv hL.1]
        have hc4 := ca_lt (p := p + 4) hR
        by_cases c4 : ca_n T (p + 4) = 93
        · rw [c4, if_pos (show nI 93 = 93 from rfl), if_pos rfl, nI_1]
          refine ⟨_, rfl, fun p' a b c d' hx => ?_, e9⟩
          cases hx
          refine ⟨by rw [up_o (by omega), up_o (by omega), up_o (by omega), up_e]; rfl, fun _ => ⟨?_, ?_, ?_⟩⟩
          · rw [up_o (by omega), up_o (by omega), up_e, g1]; rfl
          · rw [up_o (by omega), up_e, show p + 2 = p + 1 + 1 by omega, g2]; rfl
          · rw [up_e]; rfl
        · rw [if_neg c4, if_neg (show ¬ nI (ca_n T (p + 4)) = 93 from fun h => c4 ((nI_eq (b := 93) (by omega) (by omega)).mp h)), mv_1]
          exact ⟨_, rfl, fun p' a b c d hx => (by cases hx), e9⟩
  · rw [if_neg (show ¬ nI (ca_n T p) = 91 from fun h => c1 ((nI_eq (b := 91) (by omega) (by omega)).mp h)), if_neg c1, show (0 : Int32) = bz false from rfl, xi_sz (ms_11 hL) hj (by decide), xi_gr hL.1 (mr_11 hL), xi_ai (t := 1) (ms_11 hL) hj (by decide), up_e, if_pos (by decide)]
    exact ⟨_, rfl, fun p' a b c d hx => (by cases hx; exact ⟨up_e, fun h => (by cases h)⟩), e6 _⟩
end
