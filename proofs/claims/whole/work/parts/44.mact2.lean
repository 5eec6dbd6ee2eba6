/-! the reference's actions, all five -/
section
variable {M : Mm} {f : Nat → Nat → Int32} {m p j : Nat} {T : List Nat}
theorem mo_act (hL : mo_L M m) (hR : mt_R f m T) (hp : p ≤ 500) (hj : j < 20) : ∃ f', fn_Mo_readAction (mm_wi M f) m (nI j) (nI p) = some (mc_v (ps_a T p), mm_wi M f') ∧ (∀ p' a b c d, ps_a T p = .inr (p', a, b, c, d) → ma_R f' m j a b c d) ∧ fr_M f f' (m + 10) (m + 14) j := by
  have hca := ca_lt (p := p) hR
  have e10 : ∀ v, fr_M f (up_2 f (m + 10) j v) (m + 10) (m + 14) j := fun v => fm_up (by omega) (by omega)
  have hne : ∀ d : Nat, d < 127 → ¬ ca_n T p = d → ¬ nI (ca_n T p) = nI d := fun d h1 h => by rw [nI_eq (by omega) (by omega)]; exact h
  rw [fn_Mo_readAction, mo_charAt hL hR (by omega), xi_cv hL.1, xi_gr hL.1 (mr_15 hL), xi_jp]
  dsimp only
  have hterm : ∀ aa : Nat, aa < 3 → sg_n T p = some aa → ∀ v : Int32, v = nI aa → ∃ f', (fo_si (mm_wi M f) (m + 10) (nI j) v fun M62 => fo_gr M62 9 m 15 fun a64 => fo_ai M62 0 a64 (nI j) fun v68 => if 0 ≤ v68 then fo_gr M62 9 m 15 fun a77 => fo_ai M62 0 a77 (nI j) fun v81 => if v81 = 4 then fo_gr M62 9 m 16 fun a87 => fo_cv M62 9 m (fn_Mo_digit M62 m (nI p + 1)) fun v95 M95 => fo_si M95 a87 (nI j) v95 fun M98 => fo_gr M98 9 m 16 fun a100 => fo_ai M98 0 a100 (nI j) fun v104 => if 0 ≤ v104 then some ((nI p + 2), M98) else some (((-2) - nI p), M98) else fo_gr M62 9 m 16 fun a120 => fo_cv M62 9 m (fn_Mo_party M62 m (nI p + 1)) fun v128 M128 => fo_si M128 a120 (nI j) v128 fun M131 => fo_gr M131 9 m 17 fun a133 => fo_gr M131 9 m 15 fun a138 => fo_ai M131 0 a138 (nI j) fun v142 => fo_jp (fun (Mj164 : Mm) (s164_2 : Int32) => fo_si Mj164 a133 (nI j) s164_2 fun M164 => fo_gr M164 9 m 18 fun a166 => fo_cv M164 9 m (fn_Mo_digit M164 m (nI p + 3)) fun v174 M174 => fo_si M174 a166 (nI j) v174 fun M177 => fo_gr M177 9 m 15 fun a179 => fo_ai M177 0 a179 (nI j) fun v183 => if v183 = 3 then fo_cv M177 9 m (fn_Mo_overPair M177 m (nI p + 1)) fun v192 M192 => some (v192, M192) else fo_gr M177 9 m 16 fun a197 => fo_ai M177 0 a197 (nI j) fun v201 => if 0 ≤ v201 then fo_gr M177 9 m 17 fun a213 => fo_ai M177 0 a213 (nI j) fun v217 => if 0 ≤ v217 then fo_gr M177 9 m 18 fun a229 => fo_ai M177 0 a229 (nI j) fun v233 => if 0 ≤ v233 then some ((nI p + 4), M177) else some (((-4) - nI p), M177) else some (((-3) - nI p), M177) else some (((-2) - nI p), M177)) (fun j164 => if v142 = 3 then fo_cv M131 9 m (fn_Mo_party M131 m (nI p + 2)) fun v151 M151 => j164 M151 v151 else fo_cv M131 9 m (fn_Mo_kind M131 m (nI p + 2)) fun v161 M161 => j164 M161 v161) else some (((-1) - nI p), M62)) = some (mc_v (ps_a T p), mm_wi M f') ∧ (∀ p' a b c d, ps_a T p = .inr (p', a, b, c, d) → ma_R f' m j a b c d) ∧ fr_M f f' (m + 10) (m + 14) j := by
    intro aa haa hsg v hv
    subst hv
    rw [(ps_a_k hsg).1, xi_si (ms_15 hL) hj (by decide), xi_gr hL.1 (mr_15 hL), xi_ai (t := 0) (ms_15 hL) hj (by decide), up_e, if_pos (nI_pos' (by omega)), xi_gr hL.1 (mr_15 hL), xi_ai (t := 0) (ms_15 hL) hj (by decide), up_e, if_neg (fun h => by
      have := (nI_eq (b := 4) (by omega) (by omega)).mp h
      omega)]
    obtain ⟨f1, x1, a1, b1⟩ := mo_act_k (aa := aa) hL (fm_mt (by omega) (e10 (nI aa)) hR) hp hj up_e haa
    exact ⟨f1, x1, a1, fm_tr (e10 _) b1⟩
  by_cases c1 : ca_n T p = 33
  · rw [c1, if_pos (show nI 33 = 33 from rfl)]
    exact hterm 0 (by omega) (by unfold sg_n; rw [if_pos c1]) 0 rfl
  · rw [if_neg (show ¬ nI (ca_n T p) = 33 from hne 33 (by omega) c1)]
    by_cases c2 : ca_n T p = 126
    · rw [c2, if_pos (show nI 126 = 126 from rfl)]
      exact hterm 1 (by omega) (by unfold sg_n; rw [if_neg c1, if_pos c2]) 1 rfl
    · rw [if_neg (show ¬ nI (ca_n T p) = 126 from hne 126 (by omega) c2)]
      by_cases c3 : ca_n T p = 63
      · rw [c3, if_pos (show nI 63 = 63 from rfl)]
        exact hterm 2 (by omega) (by unfold sg_n; rw [if_neg c1, if_neg c2, if_pos c3]) 2 rfl
      · rw [if_neg (show ¬ nI (ca_n T p) = 63 from hne 63 (by omega) c3)]
        clear hterm
        by_cases c4 : ca_n T p = 36
        · have es : ps_a T p = match ps_2 T (p + 1) with | .inl e => .inl e | .inr (w, v) => match rd_n T (p + 3) 48 10 with | none => .inl (p + 3) | some d => .inr (p + 4, 3, w, v, d) := by unfold ps_a; rw [if_neg (by omega), if_pos c4]; rfl
          rw [es, c4, if_pos (show nI 36 = 36 from rfl), xi_si (ms_15 hL) hj (by decide), xi_gr hL.1 (mr_15 hL), xi_ai (t := 0) (ms_15 hL) hj (by decide), up_e, if_pos (show (0 : Int32) ≤ 3 by decide), xi_gr hL.1 (mr_15 hL), xi_ai (t := 0) (ms_15 hL) hj (by decide), up_e, if_neg (show ¬ (3 : Int32) = 4 by decide)]
          have e11 := fm_tr (e10 3) (fm_up (lo := m + 10) (hi := m + 14) (a := m + 11) (v := fz (rd_n T (p + 1) 65 3)) (by omega) (by omega))
          have e12 := fm_tr e11 (fm_up (lo := m + 10) (hi := m + 14) (a := m + 12) (v := fz (rd_n T (p + 2) 65 3)) (by omega) (by omega))
          have e13 := fm_tr e12 (fm_up (lo := m + 10) (hi := m + 14) (a := m + 13) (v := fz (rd_n T (p + 3) 48 10)) (by omega) (by omega))
          rw [xi_gr hL.1 (mr_16 hL), nI_1, mo_party hL (fm_mt (by omega) (e10 3) hR) (by omega), xi_cv hL.1, xi_si (ms_16 hL) hj (by decide), xi_gr hL.1 (mr_17 hL), xi_gr hL.1 (mr_15 hL), xi_ai (t := 0) (ms_15 hL) hj (by decide), up_o (by omega), up_e, xi_jp, if_pos rfl, show nI p + 2 = nI (p + 2) from nI_add p 2, mo_party hL (fm_mt (by omega) e11 hR) (by omega), xi_cv hL.1]
          dsimp only
          rw [xi_si (ms_17 hL) hj (by decide), xi_gr hL.1 (mr_18 hL), show nI p + 3 = nI (p + 3) from nI_add p 3, mo_digit hL (fm_mt (by omega) e12 hR) (by omega), xi_cv hL.1, xi_si (ms_18 hL) hj (by decide), xi_gr hL.1 (mr_15 hL), xi_ai (t := 0) (ms_15 hL) hj (by decide), up_o (by omega), up_o (by omega), up_o (by omega), up_e, if_pos rfl, mo_overPair hL (fm_mt (by omega) e13 hR) (by omega), xi_cv hL.1]
          unfold po_v
          rw [show p + 1 + 2 = p + 3 by omega, show p + 1 + 3 = p + 4 by omega]
          refine ⟨_, ?_, fun p' a b c d hx => ?_, e13⟩
          · cases h2 : ps_2 T (p + 1) with
            | inl e => rfl
            | inr y =>
              dsimp only
              cases h3 : rd_n T (p + 3) 48 10 with
              | none => rfl
              | some d => rfl
          · cases h2 : ps_2 T (p + 1) with
            | inl e => rw [h2] at hx; cases hx
            | inr y =>
              obtain ⟨w, v⟩ := y
              obtain ⟨g1, g2⟩ := ps_2_rd h2
              rw [h2] at hx
              dsimp only at hx
              cases h3 : rd_n T (p + 3) 48 10 with
              | none => rw [h3] at hx; cases hx
              | some d' =>
                rw [h3] at hx
                cases hx
                refine ⟨by rw [up_o (by omega), up_o (by omega), up_o (by omega), up_e]; rfl, by rw [up_o (by omega), up_o (by omega), up_e, g1]; rfl, fun _ => ⟨?_, ?_⟩⟩
                · rw [up_o (by omega), up_e, show p + 2 = p + 1 + 1 by omega, g2]; rfl
                · rw [up_e]; rfl
        · rw [if_neg (show ¬ nI (ca_n T p) = 36 from hne 36 (by omega) c4)]
          by_cases c5 : ca_n T p = 61
          · have es : ps_a T p = match rd_n T (p + 1) 48 10 with | none => .inl (p + 1) | some d => .inr (p + 2, 4, d, 0, 0) := by unfold ps_a; rw [if_pos c5]; rfl
            have e11 := fm_tr (e10 4) (fm_up (lo := m + 10) (hi := m + 14) (a := m + 11) (v := fz (rd_n T (p + 1) 48 10)) (by omega) (by omega))
            rw [es, c5, if_pos (show nI 61 = 61 from rfl), xi_si (ms_15 hL) hj (by decide), xi_gr hL.1 (mr_15 hL), xi_ai (t := 0) (ms_15 hL) hj (by decide), up_e, if_pos (show (0 : Int32) ≤ 4 by decide), xi_gr hL.1 (mr_15 hL), xi_ai (t := 0) (ms_15 hL) hj (by decide), up_e, if_pos rfl, xi_gr hL.1 (mr_16 hL), nI_1, mo_digit hL (fm_mt (by omega) (e10 4) hR) (by omega), xi_cv hL.1, xi_si (ms_16 hL) hj (by decide), xi_gr hL.1 (mr_16 hL), xi_ai (t := 0) (ms_16 hL) hj (by decide), up_e]
            cases h3 : rd_n T (p + 1) 48 10 with
            | none =>
              rw [h3] at e11
              rw [fz_n, if_neg (show ¬ (0 : Int32) ≤ -1 by decide), mv_2 (by omega)]
              exact ⟨_, rfl, fun p' a b c d hx => (by cases hx), e11⟩
            | some d =>
              have hd := rd_ca h3 (by omega)
              rw [h3] at e11
              rw [fz_s, if_pos (nI_pos' (by omega)), show nI p + 2 = nI (p + 2) from nI_add p 2]
              refine ⟨_, rfl, fun p' a b c d' hx => ?_, e11⟩
              cases hx
              exact ⟨by rw [up_o (by omega), up_e]; rfl, up_e, fun h => absurd h (by omega)⟩
          · have es : ps_a T p = .inl p := by unfold ps_a; rw [if_neg c5, if_neg c4, if_neg c1, if_neg c2, if_neg c3]
            rw [es, if_neg (show ¬ nI (ca_n T p) = 61 from hne 61 (by omega) c5), xi_si (ms_15 hL) hj (by decide), xi_gr hL.1 (mr_15 hL), xi_ai (t := 0) (ms_15 hL) hj (by decide), up_e, if_neg (show ¬ (0 : Int32) ≤ -1 by decide), mv_1]
            exact ⟨_, rfl, fun p' a b c d hx => (by cases hx), e10 _⟩
end
