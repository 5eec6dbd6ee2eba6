/-! the reference's actions -/
section
variable {M : Mm} {f : Nat → Nat → Int32} {m p j : Nat} {T : List Nat}
def ma_R (f : Nat → Nat → Int32) (m j a b c d : Nat) : Prop := f (m + 10) j = nI a ∧ f (m + 11) j = nI b ∧ (a ≤ 3 → f (m + 12) j = nI c ∧ f (m + 13) j = nI d)
theorem mo_act_k {aa : Nat} (hL : mo_L M m) (hR : mt_R f m T) (hp : p ≤ 500) (hj : j < 20) (h10 : f (m + 10) j = nI aa) (ha : aa < 3) : ∃ f', (fo_gr (mm_wi M f) 9 m 16 fun a120 => fo_cv (mm_wi M f) 9 m (fn_Mo_party (mm_wi M f) m (nI p + 1)) fun v128 M128 => fo_si M128 a120 (nI j) v128 fun M131 => fo_gr M131 9 m 17 fun a133 => fo_gr M131 9 m 15 fun a138 => fo_ai M131 0 a138 (nI j) fun v142 => fo_jp (fun (Mj164 : Mm) (s164_2 : Int32) => fo_si Mj164 a133 (nI j) s164_2 fun M164 => fo_gr M164 9 m 18 fun a166 => fo_cv M164 9 m (fn_Mo_digit M164 m (nI p + 3)) fun v174 M174 => fo_si M174 a166 (nI j) v174 fun M177 => fo_gr M177 9 m 15 fun a179 => fo_ai M177 0 a179 (nI j) fun v183 => if v183 = 3 then fo_cv M177 9 m (fn_Mo_overPair M177 m (nI p + 1)) fun v192 M192 => some (v192, M192) else fo_gr M177 9 m 16 fun a197 => fo_ai M177 0 a197 (nI j) fun v201 => if 0 ≤ v201 then fo_gr M177 9 m 17 fun a213 => fo_ai M177 0 a213 (nI j) fun v217 => if 0 ≤ v217 then fo_gr M177 9 m 18 fun a229 => fo_ai M177 0 a229 (nI j) fun v233 => if 0 ≤ v233 then some ((nI p + 4), M177) else some (((-4) - nI p), M177) else some (((-3) - nI p), M177) else some (((-2) - nI p), M177)) (fun j164 => if v142 = 3 then fo_cv M131 9 m (fn_Mo_party M131 m (nI p + 2)) fun v151 M151 => j164 M151 v151 else fo_cv M131 9 m (fn_Mo_kind M131 m (nI p + 2)) fun v161 M161 => j164 M161 v161)) = some (mc_v (ps_k T p aa), mm_wi M f') ∧ (∀ p' a b c d, ps_k T p aa = .inr (p', a, b, c, d) → ma_R f' m j a b c d) ∧ fr_M f f' (m + 10) (m + 14) j := by
  have e11 := fm_up (f := f) (j := j) (lo := m + 10) (hi := m + 14) (a := m + 11) (v := fz (rd_n T (p + 1) 65 3)) (by omega) (by omega)
  have e12 := fm_tr e11 (fm_up (lo := m + 10) (hi := m + 14) (a := m + 12) (v := fz (rd_n T (p + 2) 97 5)) (by omega) (by omega))
  have e13 := fm_tr e12 (fm_up (lo := m + 10) (hi := m + 14) (a := m + 13) (v := fz (rd_n T (p + 3) 48 10)) (by omega) (by omega))
  have hn3 : ¬ nI aa = 3 := fun h => by
    have := (nI_eq (b := 3) (by omega) (by omega)).mp h
    omega
  rw [xi_gr hL.1 (mr_16 hL), nI_1, mo_party hL hR (by omega), xi_cv hL.1, xi_si (ms_16 hL) hj (by decide), xi_gr hL.1 (mr_17 hL), xi_gr hL.1 (mr_15 hL), xi_ai (t := 0) (ms_15 hL) hj (by decide), up_o (by omega), h10, xi_jp, if_neg hn3, show nI p + 2 = nI (p + 2) from nI_add p 2, mo_kind hL (fm_mt (by omega) e11 hR) (by omega), xi_cv hL.1]
  dsimp only
  rw [xi_si (ms_17 hL) hj (by decide), xi_gr hL.1 (mr_18 hL), show nI p + 3 = nI (p + 3) from nI_add p 3, mo_digit hL (fm_mt (by omega) e12 hR) (by omega), xi_cv hL.1, xi_si (ms_18 hL) hj (by decide), xi_gr hL.1 (mr_15 hL), xi_ai (t := 0) (ms_15 hL) hj (by decide), up_o (by omega), up_o (by omega), up_o (by omega), h10, if_neg hn3, xi_gr hL.1 (mr_16 hL), xi_ai (t := 0) (ms_16 hL) hj (by decide), up_o (by omega), up_o (by omega), up_e]
  unfold ps_k
  cases h1 : rd_n T (p + 1) 65 3 with
  | none =>
    rw [h1] at e13
    rw [fz_n, if_neg (show ¬ (0 : Int32) ≤ -1 by decide), mv_2 (by omega)]
    exact ⟨_, rfl, fun p' a b c d hx => (by cases hx), e13⟩
  | some w =>
    have hw := rd_ca h1 (by omega)
    rw [h1] at e13
    rw [fz_s, if_pos (nI_pos' (by omega)), xi_gr hL.1 (mr_17 hL), xi_ai (t := 0) (ms_17 hL) hj (by decide), up_o (by omega), up_e]
    dsimp only
    cases h2 : rd_n T (p + 2) 97 5 with
    | none =>
      rw [h2] at e13
      rw [fz_n, if_neg (show ¬ (0 : Int32) ≤ -1 by decide), mv_3 (by omega)]
      exact ⟨_, rfl, fun p' a b c d hx => (by cases hx), e13⟩
    | some k =>
      have hk := rd_ca h2 (by omega)
      rw [h2] at e13
      rw [fz_s, if_pos (nI_pos' (by omega)), xi_gr hL.1 (mr_18 hL), xi_ai (t := 0) (ms_18 hL) hj (by decide), up_e]
      dsimp only
      cases h3 : rd_n T (p + 3) 48 10 with
      | none =>
        rw [h3] at e13
        rw [fz_n, if_neg (show ¬ (0 : Int32) ≤ -1 by decide), mv_4 (by omega)]
        exact ⟨_, rfl, fun p' a b c d hx => (by cases hx), e13⟩
      | some d =>
        have hd := rd_ca h3 (by omega)
        rw [h3] at e13
        rw [fz_s, if_pos (nI_pos' (by omega)), show nI p + 4 = nI (p + 4) from nI_add p 4]
        refine ⟨_, rfl, fun p' a b c d' hx => ?_, e13⟩
        cases hx
        refine ⟨?_, ?_, fun _ => ⟨?_, ?_⟩⟩
        · rw [up_o (by omega), up_o (by omega), up_o (by omega)]; exact h10
        · rw [up_o (by omega), up_o (by omega), up_e]
          first | rfl | done
        · rw [up_o (by omega), up_e]
          first | rfl | done
        · rw [up_e]
          first | rfl | done
end
