/-! the class's text: triggers, conditions, actions, clauses -/
section
variable {M : Mm} {f : Nat → Nat → Int32} {t p q : Nat} {T : List Nat}
theorem tk_y {w : Int32} (c : Nat) (hw : w = nI c) (hL : tx_L M t) (hP : tx_P f t T p) (hp : p ≤ 1000) (h : ca_n T p = c) (hc : 0 < c) (hc2 : c < 1000) : fn_Tx_takes (mm_wi M f) t w = some (1, mm_wi M (up_2 f t 2 (nI (p + 1)))) := by
  subst hw; exact tx_takes_y hL hP hp hc hc2 h
theorem tk_n {w : Int32} (c : Nat) (hw : w = nI c) (hL : tx_L M t) (hP : tx_P f t T p) (hp : p ≤ 1000) (h : ¬ ca_n T p = c) (hc : 0 < c) (hc2 : c < 1000) : fn_Tx_takes (mm_wi M f) t w = some (0, mm_wi M f) := by
  subst hw; exact tx_takes_n hL hP hp hc hc2 h
theorem tx_num (hL : tx_L M t) (hq : mm_s M q = (1, 1)) (h1 : q ≠ t) (h2 : q ≠ t + 1) (hP : tx_P f t T p) (hp : p ≤ 1000) : ∃ f', fn_Tx_readTriggerNumber (mm_wi M f) t q = some (bz (rd_n T p 48 10).isSome, mm_wi M f') ∧ tx_P f' t T (if (rd_n T p 48 10).isSome = true then p + 1 else p) ∧ (∀ x, rd_n T p 48 10 = some x → f' q 3 = nI x) ∧ (∀ k, k ≠ 3 → f' q k = f q k) ∧ fr_T f f' t q := by
  rw [fn_Tx_readTriggerNumber]
  cases h : rd_n T p 48 10 with
  | none =>
    rw [tx_dig_n hL hP hp h, xi_cv hL.1, xi_pi hq, xi_gi hq, up_e, if_pos rfl, xi_rz0]
    exact ⟨_, rfl, tx_uq hP h1 h2, fun x hx => (by cases hx), fun k hk => up_k hk, fun a _ hb => up_oa hb⟩
  | some x =>
    have := (rd_ca h (by omega)).1
    rw [tx_dig_y hL hP hp h, xi_cv hL.1, xi_pi hq, xi_gi hq, up_e, if_neg (tx_m1 (by omega)), xi_rz1]
    exact ⟨_, rfl, tx_uq (tx_pl hP) h1 h2, fun y hy => (by cases hy; exact up_e), fun k hk => by rw [up_k hk, up_o h1], fun a ha hb => by rw [up_oa hb, up_oa ha]⟩
def pt_pl (T : List Nat) (p : Nat) : Nat := match ps_t T p with | .inl e => e | .inr (p', _) => p'
def tg_R (f : Nat → Nat → Int32) (q a b c : Nat) : Prop := f q 0 = tc_n a ∧ (a = 1 → f q 1 = nI b ∧ f q 2 = nI c) ∧ (a = 2 ∨ a = 3 → f q 3 = nI b)
theorem tx_trig (hL : tx_L M t) (hq : mm_s M q = (1, 1)) (h1 : q ≠ t) (h2 : q ≠ t + 1) (hP : tx_P f t T p) (hp : p ≤ 500) : ∃ f', fn_Tx_readTrigger (mm_wi M f) t q = some (bz (sm_ok (ps_t T p)), mm_wi M f') ∧ tx_P f' t T (pt_pl T p) ∧ (∀ p' a b c, ps_t T p = .inr (p', a, b, c) → tg_R f' q a b c) ∧ (∀ k, 4 ≤ k → f' q k = f q k) ∧ fr_T f f' t q := by
  rw [fn_Tx_readTrigger]
  unfold pt_pl ps_t
  by_cases e1 : ca_n T p = 115
  · rw [tk_y (w := 115) 115 rfl hL hP (by omega) e1 (by omega) (by omega), xi_cv hL.1, if_neg (by decide), xi_pi hq, xi_rz1, if_pos e1]
    exact ⟨_, rfl, tx_uq (tx_pl hP) h1 h2, fun p' a b c hx => (by cases hx; exact ⟨up_e, fun h => (by cases h), fun h => (by rcases h with h | h <;> cases h)⟩), fun k hk => by rw [up_k (by omega), up_o h1], fun a ha hb => by rw [up_oa hb, up_oa ha]⟩
  · rw [tk_n (w := 115) 115 rfl hL hP (by omega) e1 (by omega) (by omega), xi_cv hL.1, if_pos rfl, if_neg e1]
    by_cases e2 : ca_n T p = 61
    · rw [tk_y (w := 61) 61 rfl hL hP (by omega) e2 (by omega) (by omega), xi_cv hL.1, if_neg (by decide), xi_pi hq, xi_rz1, if_pos e2]
      exact ⟨_, rfl, tx_uq (tx_pl hP) h1 h2, fun p' a b c hx => (by cases hx; exact ⟨up_e, fun h => (by cases h), fun h => (by rcases h with h | h <;> cases h)⟩), fun k hk => by rw [up_k (by omega), up_o h1], fun a ha hb => by rw [up_oa hb, up_oa ha]⟩
    · rw [tk_n (w := 61) 61 rfl hL hP (by omega) e2 (by omega) (by omega), xi_cv hL.1, if_pos rfl, if_neg e2]
      have hnum : ∀ (tt : Nat) (v : Int32), (tt = 2 ∨ tt = 3) → v = tc_n tt → ∃ f', (fo_pi (mm_wi M (up_2 f t 2 (nI (p + 1)))) 1 q 0 v fun M46 => fo_cv M46 7 t (fn_Tx_readTriggerNumber M46 t q) fun v51 M51 => fo_rz v51 M51) = some (bz (sm_ok (ps_d T p tt)), mm_wi M f') ∧ tx_P f' t T (match ps_d T p tt with | .inl e => e | .inr (p', _) => p') ∧ (∀ p' a b c, ps_d T p tt = .inr (p', a, b, c) → tg_R f' q a b c) ∧ (∀ k, 4 ≤ k → f' q k = f q k) ∧ fr_T f f' t q := by
        intro tt v ht hv
        rw [xi_pi hq]
        obtain ⟨f1, e, a1, a2, a3, a4⟩ := tx_num (q := q) hL hq h1 h2 (tx_uq (q := q) (k := 0) (v := v) (tx_pl (p' := p + 1) hP) h1 h2) (by omega)
        rw [e, xi_cv hL.1, xi_rz (bz_01 _)]
        unfold ps_d
        have hfr : fr_T f f1 t q := fun a ha hb => by rw [a4 a ha hb, up_oa hb, up_oa ha]
        have hk4 : ∀ k, 4 ≤ k → f1 q k = f q k := fun k hk => by rw [a3 k (by omega), up_k (by omega), up_o h1]
        cases hr : rd_n T (p + 1) 48 10 with
        | none =>
          rw [hr] at a1 a2
          exact ⟨f1, rfl, a1, fun p' a b c hx => (by cases hx), hk4, hfr⟩
        | some x =>
          rw [hr] at a1 a2
          refine ⟨f1, rfl, a1, fun p' a b c hx => ?_, hk4, hfr⟩
          cases hx
          exact ⟨by rw [a3 0 (by omega), up_e, hv], fun h => absurd h (by omega), fun _ => a2 x rfl⟩
      by_cases e3 : ca_n T p = 120
      · rw [tk_y (w := 120) 120 rfl hL hP (by omega) e3 (by omega) (by omega), xi_cv hL.1, if_neg (by decide), if_pos e3]
        exact hnum 2 120 (.inl rfl) rfl
      · rw [tk_n (w := 120) 120 rfl hL hP (by omega) e3 (by omega) (by omega), xi_cv hL.1, if_pos rfl, if_neg e3]
        by_cases e4 : ca_n T p = 102
        · rw [tk_y (w := 102) 102 rfl hL hP (by omega) e4 (by omega) (by omega), xi_cv hL.1, if_neg (by decide), if_pos e4]
          exact hnum 3 102 (.inr rfl) rfl
        · rw [tk_n (w := 102) 102 rfl hL hP (by omega) e4 (by omega) (by omega), xi_cv hL.1, if_pos rfl, if_neg e4, xi_pi hq]
          have hP0 := tx_uq (q := q) (k := 0) (v := 101) hP h1 h2
          cases hr : rd_n T p 65 3 with
          | none =>
            rw [tx_par_n hL hP0 (by omega) hr, xi_cv hL.1, xi_pi hq, xi_gi hq, up_e, if_pos rfl, xi_rz0]
            exact ⟨_, rfl, tx_uq hP0 h1 h2, fun p' a b c hx => (by cases hx), fun k hk => by rw [up_k (by omega), up_k (by omega)], fun a ha hb => by rw [up_oa hb, up_oa hb]⟩
          | some w =>
            have hw := (rd_ca hr (by omega)).1
            rw [tx_par_y hL hP0 (by omega) hr, xi_cv hL.1, xi_pi hq, xi_gi hq, up_e, if_neg (tx_m1 (by omega))]
            have hP1 := tx_uq (q := q) (k := 1) (v := nI w) (tx_pl (p' := p + 1) hP0) h1 h2
            dsimp only
            cases hr2 : rd_n T (p + 1) 97 5 with
            | none =>
              rw [tx_kin_n hL hP1 (by omega) hr2, xi_cv hL.1, xi_pi hq, xi_gi hq, up_e, if_pos rfl, xi_rz0]
              exact ⟨_, rfl, tx_uq hP1 h1 h2, fun p' a b c hx => (by cases hx), fun k hk => by rw [up_k (by omega), up_k (by omega), up_o h1, up_k (by omega)], fun a ha hb => by rw [up_oa hb, up_oa hb, up_oa ha, up_oa hb]⟩
            | some k =>
              have hk := (rd_ca hr2 (by omega)).1
              rw [tx_kin_y hL hP1 (by omega) hr2, xi_cv hL.1, xi_pi hq, xi_gi hq, up_e, if_neg (tx_m1 (by omega)), xi_rz1]
              refine ⟨_, rfl, tx_uq (tx_pl hP1) h1 h2, fun p' a b c hx => ?_, fun k hk => by rw [up_k (by omega), up_o h1, up_k (by omega), up_o h1, up_k (by omega)], fun a ha hb => by rw [up_oa hb, up_oa ha, up_oa hb, up_oa ha, up_oa hb]⟩
              cases hx
              exact ⟨by rw [up_k (by omega), up_o h1, up_k (by omega), up_o h1, up_e]; rfl, fun _ => ⟨by rw [up_k (by omega), up_o h1, up_e], up_e⟩, fun h => (by rcases h with h | h <;> cases h)⟩
def pc_pl (T : List Nat) (p : Nat) : Nat := match ps_c T p with | .inl e => e | .inr (p', _) => p'
def cd_R (f : Nat → Nat → Int32) (q a b c d : Nat) : Prop := f q 4 = nI a ∧ (a = 1 → f q 5 = nI b ∧ f q 6 = nI c ∧ f q 7 = nI d)
theorem tx_cond (hL : tx_L M t) (hq : mm_s M q = (1, 1)) (h1 : q ≠ t) (h2 : q ≠ t + 1) (hP : tx_P f t T p) (hp : p ≤ 500) : ∃ f', fn_Tx_readCondition (mm_wi M f) t q = some (bz (sm_ok (ps_c T p)), mm_wi M f') ∧ tx_P f' t T (pc_pl T p) ∧ (∀ p' a b c d, ps_c T p = .inr (p', a, b, c, d) → cd_R f' q a b c d) ∧ (∀ k, (k < 4 ∨ 8 ≤ k) → f' q k = f q k) ∧ fr_T f f' t q := by
  rw [fn_Tx_readCondition]
  unfold pc_pl ps_c
  by_cases e1 : ca_n T p = 91
  · rw [tk_y (w := 91) 91 rfl hL hP (by omega) e1 (by omega) (by omega), xi_cv hL.1, xi_pz1 hq, xi_gi hq, up_e, if_neg (by decide), if_pos e1]
    have hP0 := tx_uq (q := q) (k := 4) (v := 1) (tx_pl (p' := p + 1) hP) h1 h2
    obtain ⟨f1, g1, a1, a2, a3⟩ := tx_two hL hP0 (by omega)
    rw [g1, xi_cv hL.1]
    unfold p2_pl at a1
    have b1 : fr_T f f1 t q := fun a ha hb => by rw [a3 a ha, up_oa hb, up_oa ha]
    have c1 : ∀ k, k ≠ 4 → f1 q k = f q k := fun k hk => by rw [a3 q h1, up_k hk, up_o h1]
    have d1 : f1 q 4 = 1 := by rw [a3 q h1, up_e]
    cases h3 : ps_2 T (p + 1) with
    | inl e =>
      rw [h3] at a1
      rw [if_pos (by rfl), xi_rz0]
      exact ⟨f1, rfl, a1, fun p' a b c d hx => (by cases hx), fun k hk => c1 k (by omega), b1⟩
    | inr y =>
      obtain ⟨w, v⟩ := y
      rw [h3] at a1
      obtain ⟨w1, v1, w2, v2⟩ := a2 w v h3
      dsimp only at a1
      rw [if_neg (show ¬ bz (sm_ok (Sum.inr (w, v) : Nat ⊕ (Nat × Nat))) = 0 from fun h => absurd h (show ¬ (1 : Int32) = 0 by decide))]
      obtain ⟨f2, g2, a4, a5, a6, a7, a8⟩ := tx_digit hL a1 (by omega)
      rw [g2, xi_cv hL.1]
      have b2 : fr_T f f2 t q := fun a ha hb => by rw [a8 a ha, b1 a ha hb]
      have c2 : ∀ k, k ≠ 4 → f2 q k = f q k := fun k hk => by rw [a8 q h1, c1 k hk]
      have d2 : f2 q 4 = 1 := by rw [a8 q h1, d1]
      dsimp only
      cases h4 : rd_n T (p + 3) 48 10 with
      | none =>
        rw [show p + 1 + 2 = p + 3 by omega, h4] at a4
        rw [if_pos (by rfl), xi_rz0]
        exact ⟨f2, rfl, a4, fun p' a b c d hx => (by cases hx), fun k hk => c2 k (by omega), b2⟩
      | some d =>
        rw [show p + 1 + 2 = p + 3 by omega, h4] at a4 a5
        have d5 := a5 d rfl
        rw [if_pos (by rfl)] at a4
        rw [if_neg (show ¬ bz (some d).isSome = 0 from fun h => absurd h (show ¬ (1 : Int32) = 0 by decide)), xi_gi hL.1, xi_pi hq, xi_gi hL.1, xi_pi hq, xi_gi hL.1, xi_pi hq]
        have ht : t ≠ q := fun h => h1 h.symm
        rw [up_o ht, up_o ht, up_o ht, a6, a7, w1, v1, d5]
        have hP3 := tx_uq (q := q) (k := 7) (v := nI d) (tx_uq (q := q) (k := 6) (v := nI v) (tx_uq (q := q) (k := 5) (v := nI w) a4 h1 h2) h1 h2) h1 h2
        have hfin : ∀ x : Int32, cd_R (up_2 (up_2 (up_2 (up_2 f2 q 5 (nI w)) q 6 (nI v)) q 7 (nI d)) t 2 x) q 1 w v d := fun x => ⟨by rw [up_o h1, up_k (by omega), up_k (by omega), up_k (by omega), d2]; rfl, fun _ => ⟨by rw [up_o h1, up_k (by omega), up_k (by omega), up_e], by rw [up_o h1, up_k (by omega), up_e], by rw [up_o h1, up_e]⟩⟩
        dsimp only
        by_cases e5 : ca_n T (p + 4) = 93
        · rw [tk_y (w := 93) 93 rfl hL hP3 (by omega) e5 (by omega) (by omega), xi_cv hL.1, xi_rz1, if_pos e5]
          refine ⟨_, rfl, tx_pl hP3, fun p' a b c d' hx => (by cases hx; exact hfin _), fun k hk => ?_, fun a ha hb => ?_⟩
          · rw [up_o h1, up_k (by omega), up_k (by omega), up_k (by omega)]; exact c2 k (by omega)
          · rw [up_oa ha, up_oa hb, up_oa hb, up_oa hb]; exact b2 a ha hb
        · rw [tk_n (w := 93) 93 rfl hL hP3 (by omega) e5 (by omega) (by omega), xi_cv hL.1, xi_rz0, if_neg e5]
          refine ⟨_, rfl, hP3, fun p' a b c d' hx => (by cases hx), fun k hk => ?_, fun a ha hb => ?_⟩
          · rw [up_k (by omega), up_k (by omega), up_k (by omega)]; exact c2 k (by omega)
          · rw [up_oa hb, up_oa hb, up_oa hb]; exact b2 a ha hb
  · rw [tk_n (w := 91) 91 rfl hL hP (by omega) e1 (by omega) (by omega), xi_cv hL.1, xi_pz0 hq, xi_gi hq, up_e, if_pos rfl, xi_rz1, if_neg e1]
    exact ⟨_, rfl, tx_uq hP h1 h2, fun p' a b c d hx => (by cases hx; exact ⟨up_e, fun h => (by cases h)⟩), fun k hk => up_k (by omega), fun a ha hb => up_oa hb⟩
end
