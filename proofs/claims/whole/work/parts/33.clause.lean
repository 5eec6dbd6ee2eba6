/-! the class's text: actions and clauses -/
section
variable {M : Mm} {f : Nat → Nat → Int32} {t p q : Nat} {T : List Nat}
def pa_pl (T : List Nat) (p : Nat) : Nat := match ps_a T p with | .inl e => e | .inr (p', _) => p'
def at_R (f : Nat → Nat → Int32) (q a b c d : Nat) : Prop := f q 8 = ac_n a ∧ (a < 3 → f q 9 = nI b ∧ f q 10 = nI c ∧ f q 12 = nI d) ∧ (a = 3 → f q 9 = nI b ∧ f q 11 = nI c ∧ f q 12 = nI d ∧ f q 10 = -1) ∧ (a = 4 → f q 12 = nI b ∧ f q 9 = -1)
theorem bz_t {b : Bool} (h : b = true) : ¬ bz b = 0 := by subst h; decide
theorem bz_f {b : Bool} (h : b = false) : bz b = 0 := by subst h; rfl
/-- the digit at an action's end -/
theorem tx_adig (hL : tx_L M t) (hq : mm_s M q = (1, 1)) (h1 : q ≠ t) (h2 : q ≠ t + 1) (hP : tx_P f t T p) (hp : p ≤ 900) : ∃ f', (fo_cv (mm_wi M f) 7 t (fn_Tx_readDigit (mm_wi M f) t) fun v110 M110 => if v110 = 0 then fo_rz 0 M110 else fo_gi M110 7 t 5 fun v120 => fo_pi M110 1 q 12 v120 fun M123 => fo_rz 1 M123) = some (bz (rd_n T p 48 10).isSome, mm_wi M f') ∧ tx_P f' t T (if (rd_n T p 48 10).isSome = true then p + 1 else p) ∧ (∀ x, rd_n T p 48 10 = some x → f' q 12 = nI x) ∧ (∀ k, k ≠ 12 → f' q k = f q k) ∧ fr_T f f' t q := by
  obtain ⟨f1, e1, a1, a2, a3, a4, a5⟩ := tx_digit hL hP (by omega)
  rw [e1, xi_cv hL.1]
  cases h : rd_n T p 48 10 with
  | none =>
    rw [h] at a1
    rw [if_pos (by rfl), xi_rz0]
    exact ⟨f1, rfl, a1, fun x hx => (by cases hx), fun k _ => by rw [a5 q h1], fun a ha _ => a5 a ha⟩
  | some x =>
    rw [h] at a1 a2
    have := a2 x rfl
    rw [if_neg (by exact bz_t rfl), xi_gi hL.1, xi_pi hq, xi_rz1, this]
    exact ⟨_, rfl, tx_uq a1 h1 h2, fun y hy => (by cases hy; exact up_e), fun k hk => by rw [up_k hk, a5 q h1], fun a ha hb => by rw [up_oa hb, a5 a ha]⟩
def pk_pl (T : List Nat) (p : Nat) : Nat := match rd_n T p 65 3 with | none => p | some _ => match rd_n T (p + 1) 97 5 with | none => p + 1 | some _ => p + 2
theorem tx_pk (hL : tx_L M t) (hP : tx_P f t T p) (hp : p ≤ 900) : ∃ f', fn_Tx_readPartyAndKind (mm_wi M f) t = some (bz ((rd_n T p 65 3).isSome && (rd_n T (p + 1) 97 5).isSome), mm_wi M f') ∧ tx_P f' t T (pk_pl T p) ∧ (∀ w k, rd_n T p 65 3 = some w → rd_n T (p + 1) 97 5 = some k → f' t 3 = nI w ∧ f' t 4 = nI k) ∧ ∀ a, a ≠ t → f' a = f a := by
  rw [fn_Tx_readPartyAndKind]
  unfold pk_pl
  cases h : rd_n T p 65 3 with
  | none =>
    rw [tx_par_n hL hP (by omega) h, xi_cv hL.1, xi_pi hL.1, xi_gi hL.1, up_e, if_pos rfl, xi_rz0]
    exact ⟨_, rfl, tx_up hP (by omega), fun w k hx => (by cases hx), fun a ha => up_oa ha⟩
  | some w =>
    have hw := (rd_ca h (by omega)).1
    have hP1 := tx_up (k := 3) (v := nI w) (tx_pl (p' := p + 1) hP) (by omega)
    rw [tx_par_y hL hP (by omega) h, xi_cv hL.1, xi_pi hL.1, xi_gi hL.1, up_e, if_neg (tx_m1 (by omega))]
    dsimp only
    cases h2 : rd_n T (p + 1) 97 5 with
    | none =>
      rw [tx_kin_n hL hP1 (by omega) h2, xi_cv hL.1, xi_pi hL.1, xi_gi hL.1, up_e, if_pos rfl, xi_rz0]
      exact ⟨_, rfl, tx_up hP1 (by omega), fun w k _ hx => (by cases hx), fun a ha => by rw [up_oa ha, up_oa ha, up_oa ha]⟩
    | some k =>
      have hk := (rd_ca h2 (by omega)).1
      rw [tx_kin_y hL hP1 (by omega) h2, xi_cv hL.1, xi_pi hL.1, xi_gi hL.1, up_e, if_neg (tx_m1 (by omega)), xi_rz1]
      exact ⟨_, rfl, tx_up (tx_pl hP1) (by omega), fun w' k' hx hy => (by cases hx; cases hy; exact ⟨by rw [up_k (by omega), up_k (by omega), up_e], up_e⟩), fun a ha => by rw [up_oa ha, up_oa ha, up_oa ha, up_oa ha]⟩
def sg_n (T : List Nat) (p : Nat) : Option Nat := if ca_n T p = 33 then some 0 else if ca_n T p = 126 then some 1 else if ca_n T p = 63 then some 2 else none
theorem tx_sign (hL : tx_L M t) (hq : mm_s M q = (1, 1)) (h1 : q ≠ t) (h2 : q ≠ t + 1) (hP : tx_P f t T p) (hp : p ≤ 900) : ∃ f', fn_Tx_readTermSign (mm_wi M f) t q = some (bz (sg_n T p).isSome, mm_wi M f') ∧ tx_P f' t T (if (sg_n T p).isSome = true then p + 1 else p) ∧ (∀ a, sg_n T p = some a → f' q 8 = ac_n a) ∧ (∀ k, k ≠ 8 → f' q k = f q k) ∧ fr_T f f' t q := by
  rw [fn_Tx_readTermSign]
  unfold sg_n
  by_cases e1 : ca_n T p = 33
  · rw [tk_y (w := 33) 33 rfl hL hP (by omega) e1 (by omega) (by omega), xi_cv hL.1, if_neg (by decide), xi_pi hq, xi_rz1, if_pos e1]
    exact ⟨_, rfl, tx_uq (tx_pl hP) h1 h2, fun a hx => (by cases hx; exact up_e), fun k hk => by rw [up_k hk, up_o h1], fun a ha hb => by rw [up_oa hb, up_oa ha]⟩
  · rw [tk_n (w := 33) 33 rfl hL hP (by omega) e1 (by omega) (by omega), xi_cv hL.1, if_pos rfl, if_neg e1]
    by_cases e2 : ca_n T p = 126
    · rw [tk_y (w := 126) 126 rfl hL hP (by omega) e2 (by omega) (by omega), xi_cv hL.1, if_neg (by decide), xi_pi hq, xi_rz1, if_pos e2]
      exact ⟨_, rfl, tx_uq (tx_pl hP) h1 h2, fun a hx => (by cases hx; exact up_e), fun k hk => by rw [up_k hk, up_o h1], fun a ha hb => by rw [up_oa hb, up_oa ha]⟩
    · have hP0 := tx_uq (q := q) (k := 8) (v := 63) hP h1 h2
      rw [tk_n (w := 126) 126 rfl hL hP (by omega) e2 (by omega) (by omega), xi_cv hL.1, if_pos rfl, if_neg e2, xi_pi hq]
      by_cases e3 : ca_n T p = 63
      · rw [tk_y (w := 63) 63 rfl hL hP0 (by omega) e3 (by omega) (by omega), xi_cv hL.1, xi_rz1, if_pos e3]
        exact ⟨_, rfl, tx_pl hP0, fun a hx => (by cases hx; rw [up_o h1, up_e]; rfl), fun k hk => by rw [up_o h1, up_k hk], fun a ha hb => by rw [up_oa ha, up_oa hb]⟩
      · rw [tk_n (w := 63) 63 rfl hL hP0 (by omega) e3 (by omega) (by omega), xi_cv hL.1, xi_rz0, if_neg e3]
        exact ⟨_, rfl, hP0, fun a hx => (by cases hx), fun k hk => by rw [up_k hk], fun a ha hb => by rw [up_oa hb]⟩
theorem ps_a_k {a : Nat} (h : sg_n T p = some a) : ps_a T p = ps_k T p a ∧ a < 3 := by
  unfold sg_n at h
  unfold ps_a
  by_cases e1 : ca_n T p = 33
  · rw [if_pos e1] at h; cases h; rw [e1]; exact ⟨rfl, by omega⟩
  · rw [if_neg e1] at h
    by_cases e2 : ca_n T p = 126
    · rw [if_pos e2] at h; cases h; rw [e2]; exact ⟨rfl, by omega⟩
    · rw [if_neg e2] at h
      by_cases e3 : ca_n T p = 63
      · rw [if_pos e3] at h; cases h; rw [e3]; exact ⟨rfl, by omega⟩
      · rw [if_neg e3] at h; cases h
theorem tx_act (hL : tx_L M t) (hq : mm_s M q = (1, 1)) (h1 : q ≠ t) (h2 : q ≠ t + 1) (hP : tx_P f t T p) (hp : p ≤ 500) : ∃ f', fn_Tx_readAction (mm_wi M f) t q = some (bz (sm_ok (ps_a T p)), mm_wi M f') ∧ tx_P f' t T (pa_pl T p) ∧ (∀ p' a b c d, ps_a T p = .inr (p', a, b, c, d) → at_R f' q a b c d) ∧ (∀ k, k < 8 → f' q k = f q k) ∧ fr_T f f' t q := by
  rw [fn_Tx_readAction, xi_pi hq, xi_pi hq, xi_pi hq]
  have hP0 := tx_uq (q := q) (k := 11) (v := -1) (tx_uq (q := q) (k := 10) (v := -1) (tx_uq (q := q) (k := 9) (v := -1) hP h1 h2) h1 h2) h1 h2
  have g9 : up_2 (up_2 (up_2 f q 9 (-1)) q 10 (-1)) q 11 (-1) q 9 = -1 := by rw [up_k (by omega), up_k (by omega), up_e]
  have g10 : up_2 (up_2 (up_2 f q 9 (-1)) q 10 (-1)) q 11 (-1) q 10 = -1 := by rw [up_k (by omega), up_e]
  have gk : ∀ k, k < 8 → up_2 (up_2 (up_2 f q 9 (-1)) q 10 (-1)) q 11 (-1) q k = f q k := fun k hk => by rw [up_k (by omega), up_k (by omega), up_k (by omega)]
  have ga : fr_T f (up_2 (up_2 (up_2 f q 9 (-1)) q 10 (-1)) q 11 (-1)) t q := fun a _ hb => by rw [up_oa hb, up_oa hb, up_oa hb]
  generalize up_2 (up_2 (up_2 f q 9 (-1)) q 10 (-1)) q 11 (-1) = f0 at *
  unfold pa_pl
  by_cases e1 : ca_n T p = 61
  · have es : ps_a T p = match rd_n T (p + 1) 48 10 with | none => .inl (p + 1) | some d => .inr (p + 2, 4, d, 0, 0) := by unfold ps_a; rw [if_pos e1]; rfl
    rw [tk_y (w := 61) 61 rfl hL hP0 (by omega) e1 (by omega) (by omega), xi_cv hL.1, xi_jp, if_neg (by decide), xi_pi hq]
    obtain ⟨f1, e, a1, a2, a3, a4⟩ := tx_adig (q := q) hL hq h1 h2 (tx_uq (q := q) (k := 8) (v := 61) (tx_pl (p' := p + 1) hP0) h1 h2) (by omega)
    dsimp only
    rw [e, es]
    have bk : ∀ k, k < 8 → f1 q k = f q k := fun k hk => by rw [a3 k (by omega), up_k (by omega), up_o h1, gk k hk]
    have ba : fr_T f f1 t q := fun a ha hb => by rw [a4 a ha hb, up_oa hb, up_oa ha, ga a ha hb]
    cases hr : rd_n T (p + 1) 48 10 with
    | none => rw [hr] at a1; exact ⟨f1, rfl, a1, fun p' a b c d hx => (by cases hx), bk, ba⟩
    | some x =>
      rw [hr] at a1 a2
      refine ⟨f1, rfl, a1, fun p' a b c d hx => ?_, bk, ba⟩
      cases hx
      exact ⟨by rw [a3 8 (by omega), up_e]; rfl, fun h => absurd h (by omega), fun h => absurd h (by omega), fun _ => ⟨a2 x rfl, by rw [a3 9 (by omega), up_k (by omega), up_o h1, g9]⟩⟩
  · rw [tk_n (w := 61) 61 rfl hL hP0 (by omega) e1 (by omega) (by omega), xi_cv hL.1, xi_jp, if_pos rfl]
    by_cases e2 : ca_n T p = 36
    · have es : ps_a T p = match ps_2 T (p + 1) with | .inl e => .inl e | .inr (w, v) => match rd_n T (p + 3) 48 10 with | none => .inl (p + 3) | some d => .inr (p + 4, 3, w, v, d) := by unfold ps_a; rw [if_neg e1, if_pos e2]; rfl
      rw [tk_y (w := 36) 36 rfl hL hP0 (by omega) e2 (by omega) (by omega), xi_cv hL.1, if_neg (by decide), xi_pi hq]
      obtain ⟨f1, x1, a1, a2, a3⟩ := tx_two hL (tx_uq (q := q) (k := 8) (v := 36) (tx_pl (p' := p + 1) hP0) h1 h2) (by omega)
      rw [x1, xi_cv hL.1]
      unfold p2_pl at a1
      have bk : ∀ k, k ≠ 8 → f1 q k = f0 q k := fun k hk => by rw [a3 q h1, up_k hk, up_o h1]
      have b8 : f1 q 8 = 36 := by rw [a3 q h1, up_e]
      have ba : fr_T f f1 t q := fun a ha hb => by rw [a3 a ha, up_oa hb, up_oa ha, ga a ha hb]
      rw [es]
      cases h3 : ps_2 T (p + 1) with
      | inl e =>
        rw [h3] at a1
        rw [if_pos (by exact bz_f rfl), xi_rz0]
        exact ⟨f1, rfl, a1, fun p' a b c d hx => (by cases hx), fun k hk => by rw [bk k (by omega), gk k hk], ba⟩
      | inr y =>
        obtain ⟨w, v⟩ := y
        rw [h3] at a1
        obtain ⟨w1, v1, w2, v2⟩ := a2 w v h3
        dsimp only at a1
        have ht : t ≠ q := fun h => h1 h.symm
        rw [if_neg (by exact bz_t rfl), xi_gi hL.1, xi_pi hq, xi_gi hL.1, xi_pi hq, up_o ht, w1, v1]
        obtain ⟨f2, e, a4, a5, a6, a7⟩ := tx_adig (q := q) hL hq h1 h2 (tx_uq (q := q) (k := 11) (v := nI v) (tx_uq (q := q) (k := 9) (v := nI w) a1 h1 h2) h1 h2) (by omega)
        dsimp only
        rw [e]
        have ck : ∀ k, k < 8 → f2 q k = f q k := fun k hk => by rw [a6 k (by omega), up_k (by omega), up_k (by omega), bk k (by omega), gk k hk]
        have ca : fr_T f f2 t q := fun a ha hb => by rw [a7 a ha hb, up_oa hb, up_oa hb, ba a ha hb]
        rw [show p + 1 + 2 = p + 3 by omega] at a4 a5 ⊢
        cases hr : rd_n T (p + 3) 48 10 with
        | none => rw [hr] at a4; exact ⟨f2, rfl, a4, fun p' a b c d hx => (by cases hx), ck, ca⟩
        | some x =>
          rw [hr] at a4 a5
          refine ⟨f2, rfl, a4, fun p' a b c d hx => ?_, ck, ca⟩
          cases hx
          exact ⟨by rw [a6 8 (by omega), up_k (by omega), up_k (by omega), b8]; rfl, fun h => absurd h (by omega), fun _ => ⟨by rw [a6 9 (by omega), up_k (by omega), up_e], by rw [a6 11 (by omega), up_e], a5 x rfl, by rw [a6 10 (by omega), up_k (by omega), up_k (by omega), bk 10 (by omega), g10]⟩, fun h => absurd h (by omega)⟩
    · rw [tk_n (w := 36) 36 rfl hL hP0 (by omega) e2 (by omega) (by omega), xi_cv hL.1, if_pos rfl]
      obtain ⟨f1, x1, a1, a2, a3, a4⟩ := tx_sign (q := q) hL hq h1 h2 hP0 (by omega)
      rw [x1, xi_cv hL.1]
      cases hs : sg_n T p with
      | none =>
        have es : ps_a T p = .inl p := by
          unfold sg_n at hs
          unfold ps_a
          rw [if_neg e1, if_neg e2]
          by_cases e3 : ca_n T p = 33
          · rw [if_pos e3] at hs; cases hs
          · rw [if_neg e3] at hs ⊢
            by_cases e4 : ca_n T p = 126
            · rw [if_pos e4] at hs; cases hs
            · rw [if_neg e4] at hs ⊢
              by_cases e5 : ca_n T p = 63
              · rw [if_pos e5] at hs; cases hs
              · rw [if_neg e5]
        rw [hs] at a1
        rw [if_pos (by exact bz_f rfl), xi_rz0, es]
        exact ⟨f1, rfl, a1, fun p' a b c d hx => (by cases hx), fun k hk => by rw [a3 k (by omega), gk k hk], fun a ha hb => by rw [a4 a ha hb, ga a ha hb]⟩
      | some aa =>
        obtain ⟨es, haa⟩ := ps_a_k hs
        rw [hs] at a1 a2
        rw [if_pos (show (some aa).isSome = true from rfl)] at a1
        have b8 := a2 aa rfl
        rw [if_neg (by exact bz_t rfl), es]
        obtain ⟨f2, x2, c1, c2, c3⟩ := tx_pk hL a1 (by omega)
        rw [x2, xi_cv hL.1]
        unfold pk_pl at c1
        unfold ps_k
        have dk : ∀ k, k ≠ 8 → f2 q k = f0 q k := fun k hk => by rw [c3 q h1, a3 k hk]
        have da : fr_T f f2 t q := fun a ha hb => by rw [c3 a ha, a4 a ha hb, ga a ha hb]
        cases hw : rd_n T (p + 1) 65 3 with
        | none =>
          rw [hw] at c1
          rw [if_pos (by exact bz_f rfl), xi_rz0]
          exact ⟨f2, rfl, c1, fun p' a b c d hx => (by cases hx), fun k hk => by rw [dk k (by omega), gk k hk], da⟩
        | some w =>
          rw [hw] at c1 c2
          dsimp only at c1 ⊢
          rw [show p + 1 + 1 = p + 2 by omega] at c1 c2 ⊢
          cases hk : rd_n T (p + 2) 97 5 with
          | none =>
            rw [hk] at c1
            rw [if_pos (by exact bz_f rfl), xi_rz0]
            exact ⟨f2, rfl, c1, fun p' a b c d hx => (by cases hx), fun k hk => by rw [dk k (by omega), gk k hk], da⟩
          | some kk =>
            rw [hk] at c1 c2
            obtain ⟨w1, k1⟩ := c2 w kk rfl rfl
            dsimp only at c1 ⊢
            have ht : t ≠ q := fun h => h1 h.symm
            rw [if_neg (by exact bz_t rfl), xi_gi hL.1, xi_pi hq, xi_gi hL.1, xi_pi hq, up_o ht, w1, k1]
            obtain ⟨f3, e, a6, a7, a8, a9⟩ := tx_adig (q := q) hL hq h1 h2 (tx_uq (q := q) (k := 10) (v := nI kk) (tx_uq (q := q) (k := 9) (v := nI w) c1 h1 h2) h1 h2) (by omega)
            rw [e]
            have ck : ∀ k, k < 8 → f3 q k = f q k := fun k hk => by rw [a8 k (by omega), up_k (by omega), up_k (by omega), dk k (by omega), gk k hk]
            have ca : fr_T f f3 t q := fun a ha hb => by rw [a9 a ha hb, up_oa hb, up_oa hb, da a ha hb]
            rw [show p + 1 + 2 = p + 3 by omega] at a6 a7 ⊢
            cases hr : rd_n T (p + 3) 48 10 with
            | none => rw [hr] at a6; exact ⟨f3, rfl, a6, fun p' a b c d hx => (by cases hx), ck, ca⟩
            | some x =>
              rw [hr] at a6 a7
              refine ⟨f3, rfl, a6, fun p' a b c d hx => ?_, ck, ca⟩
              cases hx
              exact ⟨by rw [a8 8 (by omega), up_k (by omega), up_k (by omega), c3 q h1, b8], fun _ => ⟨by rw [a8 9 (by omega), up_k (by omega), up_e], by rw [a8 10 (by omega), up_e], a7 x rfl⟩, fun h => absurd h (by omega), fun h => absurd h (by omega)⟩
end
