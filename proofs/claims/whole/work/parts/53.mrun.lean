/-! the reference acts and runs -/
section
variable {f f' : Nat → Nat → Int32} {m b : Nat} {S : Sp} {l : List Nat}
theorem ms_sD (h : ms_R f m b S) (hl : mp_R f' (m + 14) (b + 1) l) (h0 : ∀ j, (j < b + 1 ∨ b + 1 + 17 ≤ j) → f' (m + 14) j = f (m + 14) j) : ms_R f' m b (sp_sD S l) := by
  obtain ⟨h1, h2, h3, h4, h5, h6, h7⟩ := h
  exact ⟨by rw [h0 _ (by omega)]; exact h1, h2, hl, mp_mv h4 fun j hj => h0 _ (by omega), mp_mv h5 fun j hj => h0 _ (by omega), fun j hj => by rw [h0 _ (by omega)]; exact h6 j hj, fun j hj => by rw [h0 _ (by omega)]; exact h7 j hj⟩
theorem ms_sB (h : ms_R f m b S) (hl : mp_R f' (m + 14) (b + 18) l) (h0 : ∀ j, (j < b + 18 ∨ b + 18 + 17 ≤ j) → f' (m + 14) j = f (m + 14) j) : ms_R f' m b (sp_sB S l) := by
  obtain ⟨h1, h2, h3, h4, h5, h6, h7⟩ := h
  exact ⟨by rw [h0 _ (by omega)]; exact h1, h2, mp_mv h3 fun j hj => h0 _ (by omega), hl, mp_mv h5 fun j hj => h0 _ (by omega), fun j hj => by rw [h0 _ (by omega)]; exact h6 j hj, fun j hj => by rw [h0 _ (by omega)]; exact h7 j hj⟩
theorem ms_sP (h : ms_R f m b S) (hl : mp_R f' (m + 14) (b + 35) l) (h0 : ∀ j, (j < b + 35 ∨ b + 35 + 17 ≤ j) → f' (m + 14) j = f (m + 14) j) : ms_R f' m b (sp_sP S l) := by
  obtain ⟨h1, h2, h3, h4, h5, h6, h7⟩ := h
  exact ⟨by rw [h0 _ (by omega)]; exact h1, h2, mp_mv h3 fun j hj => h0 _ (by omega), mp_mv h4 fun j hj => h0 _ (by omega), hl, fun j hj => by rw [h0 _ (by omega)]; exact h6 j hj, fun j hj => by rw [h0 _ (by omega)]; exact h7 j hj⟩
theorem ms_so {x : Nat} {v : Int32} (h : ms_R f m b S) (hx : x < 9) (hv : f' (m + 14) (b + 52 + x) = v) (h0 : ∀ j, j ≠ b + 52 + x → f' (m + 14) j = f (m + 14) j) : ms_R f' m b (sp_so S x v) := by
  obtain ⟨h1, h2, h3, h4, h5, h6, h7⟩ := h
  refine ⟨by rw [h0 _ (by omega)]; exact h1, h2, mp_mv h3 fun j hj => h0 _ (by omega), mp_mv h4 fun j hj => h0 _ (by omega), mp_mv h5 fun j hj => h0 _ (by omega), fun j hj => ?_, fun j hj => by rw [h0 _ (by omega)]; exact h7 j hj⟩
  show _ = if j = x then v else sp_o S j
  by_cases e : j = x
  · subst e; rw [if_pos rfl]; exact hv
  · rw [if_neg e, h0 _ (by omega)]; exact h6 j hj
theorem ms_sc {v : Nat → Int32} (h : ms_R f m b S) (hv : ∀ j, j < 10 → f' (m + 14) (b + 61 + j) = v j) (h0 : ∀ j, (j < b + 61 ∨ b + 71 ≤ j) → f' (m + 14) j = f (m + 14) j) : ms_R f' m b (sp_sc S v) := by
  obtain ⟨h1, h2, h3, h4, h5, h6, h7⟩ := h
  exact ⟨by rw [h0 _ (by omega)]; exact h1, h2, mp_mv h3 fun j hj => h0 _ (by omega), mp_mv h4 fun j hj => h0 _ (by omega), mp_mv h5 fun j hj => h0 _ (by omega), fun j hj => by rw [h0 _ (by omega)]; exact h6 j hj, hv⟩
end
/-- what an act in the slot at b may change -/
def fx_R (f f' : Nat → Nat → Int32) (m b : Nat) : Prop := ∀ x j, (x ≠ m ∨ (j ≠ 21 ∧ j ≠ 23)) → (x ≠ m + 14 ∨ j < b ∨ b + 71 ≤ j) → x ≠ m + 15 → f' x j = f x j
section
variable {M : Mm} {f : Nat → Nat → Int32} {m bk n s o : Nat} {o' : Int32} {A : Nat → Nat → Nat} {fr : Nat → Bool} {W l : List Nat} {S : Sp}
theorem fx_w {f' : Nat → Nat → Int32} {b : Nat} (h : fx_R f f' m b) : fw_R f f' m b := fun a j x y z => h a j (by omega) y z
theorem fx_tr {f' f2 : Nat → Nat → Int32} {b : Nat} (h : fx_R f f' m b) (h2 : fx_R f' f2 m b) : fx_R f f2 m b := fun a j x y z => by rw [h2 a j x y z, h a j x y z]
theorem mo_putl {c d : Nat} (hL : mo_L M m) (hs : s ≤ 16) (ho : o' = nI o) (ho2 : o ≤ 35) (hR : mp_R f (m + 14) (71 * s + o) l) (hc : c < 100) (hd : 100 * d + c < 7000) (h23 : f m 23 = 0) : ∃ f', fn_Mo_put (mm_wi M f) m (nI s) o' (nI c) (nI d) = some (0, mm_wi M f') ∧ (l.length < 8 → f' m 23 = 0 ∧ mp_R f' (m + 14) (71 * s + o) (te_ins (100 * d + c) l)) ∧ (¬ l.length < 8 → f' m 23 = 1 ∧ ∀ j, f' (m + 14) j = f (m + 14) j) ∧ ∀ x j, (x ≠ m ∨ j ≠ 23) → (x ≠ m + 14 ∨ j < 71 * s + o ∨ 71 * s + o + 17 ≤ j) → f' x j = f x j := by
  obtain ⟨h1, k, h2, h3⟩ := hR
  obtain ⟨f', e1, e2, e3, e4⟩ := mo_put hL hs ho ho2 h2 hc hd h23
  rw [h3.length_eq] at e2 e3
  exact ⟨f', e1, fun h => ⟨(e2 h).1, te_ins_S h1, _, (e2 h).2, in_perm h3⟩, e3, e4⟩
theorem mo_doit {c : Nat} (hL : mo_L M m) (hs : s ≤ 16) (hW : mw_R f m bk n A fr) (hQ : mq_R f m W) (hS : ms_R f m (71 * s) S) (hc : c < n) (h12 : A c 7 = 4 → W.length < 1200) (h23 : f m 23 = 0) : ∃ f', fn_Mo_act (mm_wi M f) m (nI s) (nI c) = some (0, mm_wi M f') ∧ (∀ S' E, sp_act A fr c S = some (S', E) → f' m 23 = 0 ∧ ms_R f' m (71 * s) S' ∧ mq_R f' m (W ++ E)) ∧ (sp_act A fr c S = none → f' m 23 = 1 ∧ ∃ S', ms_R f' m (71 * s) S') ∧ fx_R f f' m (71 * s) := by
  have w1 := hW.1
  have w2 := hW.2.1
  have w3 := hW.2.2.1
  have w6 := hW.2.2.2.2.2
  obtain ⟨⟨-, -, ⟨a1, a2, a3⟩⟩, hB⟩ := hW.2.2.2.2.1 c hc
  obtain ⟨-, -, -, -, -, m6, m7, m8, m9⟩ := hB
  have hd := hS.2.1
  rw [fn_Mo_act, xi_gi hL.1, w3, xi_nm, nx_b, xi_gr hL.1 (mr_19 hL), nx_0, xi_ai (t := 0) (ms_19 hL) (by omega) (by decide), hS.1, xi_gr hL.1 (mr_15 hL), xi_ai (t := 0) (ms_15 hL) (by omega) (by decide), a1]
  by_cases e0 : A c 7 = 0
  · obtain ⟨j1, j2, j3⟩ := m7 (by omega)
    obtain ⟨i1, i2⟩ := a3 (by omega)
    clear m7 m8 m9 a3 h12
    have hbd := bd_le fr 70 (sp_d S) (A c 10) (by omega) (by omega)
    rw [sp_act_0 e0, e0, if_pos (show nI 0 = 0 from rfl), xi_gr hL.1 (mr_18 hL), xi_ai (t := 0) (ms_18 hL) (by omega) (by decide), i2, mo_bd hL w6 hd (by omega), xi_cv hL.1]
    generalize bd_n fr 70 (sp_d S) (A c 10) = bb at *
    obtain ⟨f', e1, e2, e3, e4⟩ := mo_putl (o := 1) (o' := 1) (c := c) (d := bb) hL hs rfl (by omega) hS.2.2.1 (by omega) (by omega) h23
    rw [e1, xi_cv hL.1]
    refine ⟨f', rfl, fun S' E hx => ?_, fun hx => ?_, fun x j g1 g2 g3 => e4 x j (by omega) (by omega)⟩
    · by_cases h8 : (sp_D S).length < 8
      · rw [if_pos h8] at hx
        cases hx
        rw [List.append_nil]
        exact ⟨(e2 h8).1, ms_sD hS (e2 h8).2 fun j hj => e4 _ _ (by omega) (by omega), mq_cg hQ (e4 _ _ (by omega) (by omega)) (funext fun j => e4 _ _ (by omega) (by omega))⟩
      · rw [if_neg h8] at hx; cases hx
    · by_cases h8 : (sp_D S).length < 8
      · rw [if_pos h8] at hx; cases hx
      · exact ⟨(e3 h8).1, S, ms_cg hS fun j _ _ => (e3 h8).2 j⟩
  · rw [if_neg (show ¬ nI (A c 7) = 0 from fun hh => e0 ((nI_eq (b := 0) (by omega) (by omega)).mp hh))]
    by_cases e3 : 3 ≤ A c 7
    · rw [if_pos (show 3 ≤ nI (A c 7) from nI_le (a := 3) e3 (by omega))]
      by_cases e3' : A c 7 = 3
      · obtain ⟨j1, j2, j3⟩ := m8 e3'
        obtain ⟨i1, i2⟩ := a3 (by omega)
        clear m7 m8 m9 a3 h12
        have ho := hS.2.2.2.2.2.1 (3 * A c 8 + A c 9) (by omega)
        rw [sp_act_3 e3', e3', if_pos (show nI 3 = 3 from rfl), xi_gr hL.1 (mr_16 hL), xi_ai (t := 0) (ms_16 hL) (by omega) (by decide), a2, xi_gr hL.1 (mr_17 hL), xi_ai (t := 0) (ms_17 hL) (by omega) (by decide), i1, xi_nm, show (52 : Int32) = nI 52 from rfl, nI_add, show 3 * nI (A c 8) = nI (3 * A c 8) from nI_xm 3 _, nI_add, nI_add, show 71 * s + 52 + 3 * A c 8 + A c 9 = 71 * s + 52 + (3 * A c 8 + A c 9) by omega, xi_gi hL.1, h23, xi_jp, xi_jp]
        dsimp only
        rw [if_pos (show (0 : Int32) = 0 from rfl), xi_gr hL.1 (mr_19 hL), xi_ai (t := 0) (ms_19 hL) (by omega) (by decide), ho, xi_gr hL.1 (mr_18 hL), xi_ai (t := 0) (ms_18 hL) (by omega) (by decide), i2]
        by_cases h8 : sp_o S (3 * A c 8 + A c 9) + nI (A c 10) ≤ 999
        · rw [if_pos h8, if_pos h8, xi_pz0 hL.1, xi_gr hL.1 (mr_19 hL), xi_gr hL.1 (mr_19 hL), xi_ai (t := 0) (ms_19 hL) (by omega) (by decide), up_o (by omega), ho, xi_gr hL.1 (mr_18 hL), xi_ai (t := 0) (ms_18 hL) (by omega) (by decide), up_o (by omega), i2, xi_si (ms_19 hL) (by omega) (by decide)]
          refine ⟨_, rfl, fun S' E hx => ?_, fun hx => (by cases hx), fun x j g1 g2 g3 => ?_⟩
          · cases hx
            rw [List.append_nil]
            refine ⟨by rw [up_o (by omega), up_e], ms_so hS (by omega) up_e fun j hj => by rw [up_k hj, up_o (by omega)], mq_cg hQ (by rw [up_o (by omega), up_k (by omega)]) (by rw [up_oa (by omega), up_oa (by omega)])⟩
          · by_cases hx : x = m + 14
            · rw [up_k (by omega), up_o (by omega)]
            · rw [up_o hx]
              by_cases hx2 : x = m
              · rw [up_k (by omega)]
              · rw [up_o hx2]
        · rw [if_neg h8, if_neg h8, xi_pz1 hL.1, xi_gr hL.1 (mr_19 hL), xi_gr hL.1 (mr_19 hL), xi_ai (t := 0) (ms_19 hL) (by omega) (by decide), up_o (by omega), ho, xi_gr hL.1 (mr_18 hL), xi_ai (t := 0) (ms_18 hL) (by omega) (by decide), up_o (by omega), i2, xi_si (ms_19 hL) (by omega) (by decide)]
          refine ⟨_, rfl, fun S' E hx => (by cases hx), fun hx => ⟨by rw [up_o (by omega), up_e], _, ms_so hS (by omega) up_e fun j hj => by rw [up_k hj, up_o (by omega)]⟩, fun x j g1 g2 g3 => ?_⟩
          by_cases hx : x = m + 14
          · rw [up_k (by omega), up_o (by omega)]
          · rw [up_o hx]
            by_cases hx2 : x = m
            · rw [up_k (by omega)]
            · rw [up_o hx2]
      · have e4 : A c 7 = 4 := by omega
        have hl := h12 e4
        clear m7 m8 m9 a3 h12
        rw [sp_act_4 e4, if_neg (show ¬ nI (A c 7) = 3 from fun hh => e3' ((nI_eq (b := 3) (by omega) (by omega)).mp hh)), xi_gr hL.1 (mr_22 hL), xi_gi hL.1, hQ.1, xi_gr hL.1 (mr_16 hL), xi_ai (t := 0) (ms_16 hL) (by omega) (by decide), a2, xi_si (ms_22 hL) (by omega) (by decide), xi_gi hL.1, up_o (by omega), hQ.1, nI_1, xi_pi hL.1]
        refine ⟨_, rfl, fun S' E hx => ?_, fun hx => (by cases hx), fun x j g1 g2 g3 => ?_⟩
        · cases hx
          exact ⟨by rw [up_k (by omega), up_o (by omega)]; exact h23, ms_cg hS fun j _ _ => by rw [up_o (by omega), up_o (by omega)], mq_app hQ rfl hl⟩
        · by_cases hx : x = m
          · rw [up_k (by omega), up_o (by omega)]
          · rw [up_o hx, up_o g3]
    · obtain ⟨j1, j2, j3⟩ := m7 (by omega)
      obtain ⟨i1, i2⟩ := a3 (by omega)
      clear m7 m8 m9 a3 h12
      rw [if_neg (by rw [show (3 : Int32) = nI 3 from rfl, nI_leI (by omega) (by omega)]; exact e3), xi_jp]
      dsimp only
      by_cases e1 : A c 7 = 1
      · rw [sp_act_1 e1, e1, if_pos (show nI 1 = 1 from rfl), xi_gr hL.1 (mr_18 hL), xi_ai (t := 0) (ms_18 hL) (by omega) (by decide), i2, nI_add]
        obtain ⟨f', e1, e2, e3, e4⟩ := mo_putl (o := 18) (o' := 18) (c := c) (d := sp_d S + A c 10) hL hs rfl (by omega) hS.2.2.2.1 (by omega) (by omega) h23
        rw [e1, xi_cv hL.1]
        refine ⟨f', rfl, fun S' E hx => ?_, fun hx => ?_, fun x j g1 g2 g3 => e4 x j (by omega) (by omega)⟩
        · by_cases h8 : (sp_B S).length < 8
          · rw [if_pos h8] at hx
            cases hx
            rw [List.append_nil]
            exact ⟨(e2 h8).1, ms_sB hS (e2 h8).2 fun j hj => e4 _ _ (by omega) (by omega), mq_cg hQ (e4 _ _ (by omega) (by omega)) (funext fun j => e4 _ _ (by omega) (by omega))⟩
          · rw [if_neg h8] at hx; cases hx
        · by_cases h8 : (sp_B S).length < 8
          · rw [if_pos h8] at hx; cases hx
          · exact ⟨(e3 h8).1, S, ms_cg hS fun j _ _ => (e3 h8).2 j⟩
      · have e2 : A c 7 = 2 := by omega
        rw [sp_act_2 e2, if_neg (show ¬ nI (A c 7) = 1 from fun hh => e1 ((nI_eq (b := 1) (by omega) (by omega)).mp hh)), xi_gr hL.1 (mr_18 hL), xi_ai (t := 0) (ms_18 hL) (by omega) (by decide), i2, nI_add]
        obtain ⟨f', e1, e2, e3, e4⟩ := mo_putl (o := 35) (o' := 35) (c := c) (d := sp_d S + A c 10) hL hs rfl (by omega) hS.2.2.2.2.1 (by omega) (by omega) h23
        rw [e1, xi_cv hL.1]
        refine ⟨f', rfl, fun S' E hx => ?_, fun hx => ?_, fun x j g1 g2 g3 => e4 x j (by omega) (by omega)⟩
        · by_cases h8 : (sp_P S).length < 8
          · rw [if_pos h8] at hx
            cases hx
            rw [List.append_nil]
            exact ⟨(e2 h8).1, ms_sP hS (e2 h8).2 fun j hj => e4 _ _ (by omega) (by omega), mq_cg hQ (e4 _ _ (by omega) (by omega)) (funext fun j => e4 _ _ (by omega) (by omega))⟩
          · rw [if_neg h8] at hx; cases hx
        · by_cases h8 : (sp_P S).length < 8
          · rw [if_pos h8] at hx; cases hx
          · exact ⟨(e3 h8).1, S, ms_cg hS fun j _ _ => (e3 h8).2 j⟩
theorem mo_holds {c : Nat} {J : Int32 → Rr} (hL : mo_L M m) (hs : s ≤ 16) (hW : mw_R f m bk n A fr) (hS : ms_R f m (71 * s) S) (hc : c < n) : (fo_gr (mm_wi M f) 9 m 11 fun a33 => fo_ai (mm_wi M f) 1 a33 (nI (10 * bk + c)) fun v37 => fo_jp J (fun j83 => fo_jp (j83 1) (fun j78 => if v37 = 0 then j78 else fo_gr (mm_wi M f) 9 m 19 fun a42 => fo_gr (mm_wi M f) 9 m 12 fun a54 => fo_ai (mm_wi M f) 0 a54 (nI (10 * bk + c)) fun v58 => fo_gr (mm_wi M f) 9 m 13 fun a62 => fo_ai (mm_wi M f) 0 a62 (nI (10 * bk + c)) fun v66 => fo_ai (mm_wi M f) 0 a42 ((((71 * nI s) + 52) + (3 * v58)) + v66) fun v68 => fo_gr (mm_wi M f) 9 m 14 fun a70 => fo_ai (mm_wi M f) 0 a70 (nI (10 * bk + c)) fun v74 => if v68 ≤ v74 then j83 0 else j78))) = J (bz (sp_hold A c S)) := by
  have w1 := hW.1
  have w2 := hW.2.1
  obtain ⟨⟨-, ⟨b1, b2⟩, -⟩, hB⟩ := hW.2.2.2.2.1 c hc
  obtain ⟨-, -, -, m4, m5, -⟩ := hB
  rw [xi_gr hL.1 (mr_11 hL), xi_ai (t := 1) (ms_11 hL) (by omega) (by decide), b1, xi_jp, xi_jp]
  unfold sp_hold
  by_cases e : A c 3 = 0
  · rw [if_pos (by rw [e]; rfl), decide_eq_true e]; rfl
  · have e1 : A c 3 = 1 := by omega
    obtain ⟨g1, g2, g3⟩ := b2 e1
    obtain ⟨q1, q2, q3⟩ := m5 e1
    clear m5 b2
    have ho := hS.2.2.2.2.2.1 (3 * A c 4 + A c 5) (by omega)
    rw [if_neg (show ¬ nI (A c 3) = 0 from fun hh => e ((nI_eq (b := 0) (by omega) (by omega)).mp hh)), decide_eq_false e, xi_gr hL.1 (mr_19 hL), xi_gr hL.1 (mr_12 hL), xi_ai (t := 0) (ms_12 hL) (by omega) (by decide), g1, xi_gr hL.1 (mr_13 hL), xi_ai (t := 0) (ms_13 hL) (by omega) (by decide), g2, nx_0, show (52 : Int32) = nI 52 from rfl, nI_add, show 3 * nI (A c 4) = nI (3 * A c 4) from nI_xm 3 _, nI_add, nI_add, show 71 * s + 52 + 3 * A c 4 + A c 5 = 71 * s + 52 + (3 * A c 4 + A c 5) by omega, xi_ai (t := 0) (ms_19 hL) (by omega) (by decide), ho, xi_gr hL.1 (mr_14 hL), xi_ai (t := 0) (ms_14 hL) (by omega) (by decide), g3]
    by_cases h : sp_o S (3 * A c 4 + A c 5) ≤ nI (A c 6)
    · rw [if_pos h, decide_eq_true h]; rfl
    · rw [if_neg h, decide_eq_false h]; rfl
theorem mo_run_lp {dp : Nat → Nat} (hL : mo_L M m) (hs : s ≤ 16) (hdp : dp_W n A dp) : ∀ k kk i f S W Q, W.drop i = Q → i ≤ W.length → (∀ c ∈ Q, c < n) → i + ph_n dp Q ≤ 800 → ph_n dp Q ≤ k → k < kk → mw_R f m bk n A fr → mq_R f m W → ms_R f m (71 * s) S → f m 23 = 0 → ∃ f', fo_fx (fun _ _ => none) (lp_Mo_run_2 m (nI s)) kk (mm_wi M f) (nI i) = some (0, mm_wi M f') ∧ (∀ S', sp_run A fr k Q S = some S' → f' m 23 = 0 ∧ ms_R f' m (71 * s) S') ∧ (sp_run A fr k Q S = none → f' m 23 = 1 ∧ ∃ S', ms_R f' m (71 * s) S') ∧ fx_R f f' m (71 * s) := by
  intro k
  induction k with
  | zero =>
    intro kk i f S W Q hWQ hi hQ h800 hk hm hA hW hS h23
    obtain ⟨kk, rfl⟩ : ∃ m', kk = m' + 1 := ⟨kk - 1, by omega⟩
    have hg := ph_ge hdp hQ
    have hl : Q.length = W.length - i := by rw [← hWQ]; simp
    have h8 := hW.2.1
    rw [fx_s, lp_Mo_run_2, xi_gi hL.1, hW.1, if_pos (nI_le (by omega) (by omega))]
    exact ⟨f, rfl, fun s' hs => by cases hs; exact ⟨h23, hS⟩, fun hx => (by cases hx), fun a _ _ _ _ => rfl⟩
  | succ k ih =>
    intro kk i f S W Q hWQ hi hQ h800 hk hm hA hW hS h23
    obtain ⟨kk, rfl⟩ : ∃ m', kk = m' + 1 := ⟨kk - 1, by omega⟩
    have hl : Q.length = W.length - i := by rw [← hWQ]; simp
    have h8 := hW.2.1
    have h10 := hA.2.1
    rw [fx_s, lp_Mo_run_2, xi_gi hL.1, hW.1]
    cases Q with
    | nil =>
      rw [List.length_nil] at hl
      rw [if_pos (nI_le (by omega) (by omega))]
      exact ⟨f, rfl, fun s' hs => by cases hs; exact ⟨h23, hS⟩, fun hx => (by cases hx), fun a _ _ _ _ => rfl⟩
    | cons c Q =>
      rw [List.length_cons] at hl
      rw [ph_cons] at h800 hk
      have hcn := hQ c (by simp)
      have hQ' : ∀ x ∈ Q, x < n := fun x hx => hQ x (by simp [hx])
      obtain ⟨d1, d2, d3⟩ := hdp c hcn
      have hg := ph_ge hdp hQ'
      have hWi : W[i]? = some c := by
        have := congrArg (fun l => l[0]?) hWQ
        simpa using this
      have hWd : W.drop (i + 1) = Q := by
        have := te_drop hWi
        rw [hWQ] at this
        cases this; rfl
      have hm1 : k < kk := by omega
      rw [if_neg (by rw [nI_leI (by omega) (by omega)]; omega), xi_gi hL.1, h23, if_pos (show (0 : Int32) = 0 from rfl), xi_gi hL.1, hA.2.2.1, xi_gr hL.1 (mr_22 hL), xi_ai (t := 0) (ms_22 hL) (by omega) (by decide), hW.2.2 i c hWi, xi_nm, nx_b, mo_holds hL hs hA hS hcn, xi_jp]
      dsimp only
      cases hh : sp_hold A c S with
      | false =>
        rw [if_pos (bz_f rfl), nI_1]
        obtain ⟨f', e, g1, g2, g3⟩ := ih kk (i + 1) f S W Q hWd (by omega) hQ' (by omega) (by omega) hm1 hA hW hS h23
        have er : sp_run A fr (k + 1) (c :: Q) S = sp_run A fr k Q S := by
          rw [sp_run, if_neg (by rw [hh]; simp)]
        rw [er]
        exact ⟨f', e, g1, g2, g3⟩
      | true =>
        have h4 := (hA.2.2.2.2.1 c hcn).2.2.2.2.2.2.1
        rw [if_neg (bz_t rfl), xi_gr hL.1 (mr_22 hL), xi_ai (t := 0) (ms_22 hL) (by omega) (by decide), hW.2.2 i c hWi]
        obtain ⟨f1, e1, a1, a0, b1⟩ := mo_doit hL hs hA hW hS hcn (fun e4 => by have := (d3 e4).2; have := (hdp _ (d3 e4).1).1; omega) h23
        rw [e1, xi_cv hL.1]
        cases hact : sp_act A fr c S with
        | none =>
          have er : sp_run A fr (k + 1) (c :: Q) S = none := by rw [sp_run, if_pos hh, hact]
          rw [er]
          obtain ⟨h1, h1s⟩ := a0 hact
          obtain ⟨kk', rfl⟩ : ∃ m', kk = m' + 1 := ⟨kk - 1, by omega⟩
          rw [fx_s, lp_Mo_run_2, xi_gi hL.1]
          refine ⟨f1, ?_, fun s' hx => (by cases hx), fun _ => ⟨h1, h1s⟩, b1⟩
          rw [xi_gi hL.1, h1, if_neg (show ¬ (1 : Int32) = 0 by decide)]
          split <;> rfl
        | some y =>
          obtain ⟨s1, E⟩ := y
          have er : sp_run A fr (k + 1) (c :: Q) S = sp_run A fr k (Q ++ E) s1 := by rw [sp_run, if_pos hh, hact]
          rw [er]
          obtain ⟨a4, a2, a3⟩ := a1 s1 E hact
          rw [nI_1]
          have hE := sp_act_E hact h4
          have hph : ph_n dp E < dp c := by
            rcases hE with rfl | ⟨e4, rfl⟩
            · simp [ph_n]; omega
            · have := (d3 e4).2
              simpa [ph_n] using this
          have hEn : ∀ x ∈ E, x < n := by
            rcases hE with rfl | ⟨e4, rfl⟩
            · simp
            · intro x hx
              rw [List.mem_singleton] at hx
              subst hx
              exact (d3 e4).1
          clear d3
          obtain ⟨f2, e2, g1, g2, g3⟩ := ih kk (i + 1) f1 s1 (W ++ E) (Q ++ E) (by rw [List.drop_append_of_le_length (by omega), hWd]) (by rw [List.length_append]; omega) (fun x hx => by
            rcases List.mem_append.mp hx with hx | hx
            · exact hQ' x hx
            · exact hEn x hx) (by rw [ph_app]; omega) (by rw [ph_app]; omega) hm1 (mw_fw hA (fx_w b1)) a3 a2 a4
          exact ⟨f2, e2, g1, g2, fx_tr b1 g3⟩
theorem mo_run {dp : Nat → Nat} {s' : Int32} (hs' : s' = nI s) (hL : mo_L M m) (hs : s ≤ 16) (hdp : dp_W n A dp) (hQ : ∀ c ∈ W, c < n) (h8 : ph_n dp W ≤ 800) (hA : mw_R f m bk n A fr) (hW : mq_R f m W) (hS : ms_R f m (71 * s) S) (h23 : f m 23 = 0) : ∃ f', fn_Mo_run (mm_wi M f) m s' = some (0, mm_wi M f') ∧ (∀ S', sp_run A fr 800 W S = some S' → f' m 23 = 0 ∧ ms_R f' m (71 * s) S') ∧ (sp_run A fr 800 W S = none → f' m 23 = 1 ∧ ∃ S', ms_R f' m (71 * s) S') ∧ fx_R f f' m (71 * s) := by
  subst hs'
  exact mo_run_lp hL hs hdp 800 fo_N 0 f S W W (List.drop_zero) (by omega) hQ (by omega) h8 (by decide) hA hW hS h23
end
