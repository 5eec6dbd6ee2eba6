/-! the class's text: reading -/
def ca_n (T : List Nat) (p : Nat) : Nat := T.getD p 0
def rd_n (T : List Nat) (p least many : Nat) : Option Nat := if least ≤ ca_n T p ∧ ca_n T p < least + many then some (ca_n T p - least) else none
def ps_d (T : List Nat) (p t : Nat) : Nat ⊕ (Nat × Nat × Nat × Nat) := match rd_n T (p + 1) 48 10 with | some d => .inr (p + 2, t, d, 0) | none => .inl (p + 1)
def ps_t (T : List Nat) (p : Nat) : Nat ⊕ (Nat × Nat × Nat × Nat) :=
  if ca_n T p = 115 then .inr (p + 1, 0, 0, 0) else if ca_n T p = 61 then .inr (p + 1, 4, 0, 0) else if ca_n T p = 120 then ps_d T p 2 else if ca_n T p = 102 then ps_d T p 3 else
  match rd_n T p 65 3 with | none => .inl p | some w => match rd_n T (p + 1) 97 5 with | none => .inl (p + 1) | some k => .inr (p + 2, 1, w, k)
def ps_2 (T : List Nat) (p : Nat) : Nat ⊕ (Nat × Nat) :=
  match rd_n T p 65 3 with | none => .inl p | some w => if ca_n T (p + 1) = 65 + w then .inl (p + 1) else match rd_n T (p + 1) 65 3 with | none => .inl (p + 1) | some v => .inr (w, v)
def ps_c (T : List Nat) (p : Nat) : Nat ⊕ (Nat × Nat × Nat × Nat × Nat) :=
  if ca_n T p = 91 then (match ps_2 T (p + 1) with | .inl e => .inl e | .inr (w, v) => match rd_n T (p + 3) 48 10 with | none => .inl (p + 3) | some d => if ca_n T (p + 4) = 93 then .inr (p + 5, 1, w, v, d) else .inl (p + 4)) else .inr (p, 0, 0, 0, 0)
def ps_k (T : List Nat) (p a : Nat) : Nat ⊕ (Nat × Nat × Nat × Nat × Nat) :=
  match rd_n T (p + 1) 65 3 with | none => .inl (p + 1) | some w => match rd_n T (p + 2) 97 5 with | none => .inl (p + 2) | some k => match rd_n T (p + 3) 48 10 with | none => .inl (p + 3) | some d => .inr (p + 4, a, w, k, d)
def ps_a (T : List Nat) (p : Nat) : Nat ⊕ (Nat × Nat × Nat × Nat × Nat) :=
  if ca_n T p = 61 then (match rd_n T (p + 1) 48 10 with | none => .inl (p + 1) | some d => .inr (p + 2, 4, d, 0, 0))
  else if ca_n T p = 36 then (match ps_2 T (p + 1) with | .inl e => .inl e | .inr (w, v) => match rd_n T (p + 3) 48 10 with | none => .inl (p + 3) | some d => .inr (p + 4, 3, w, v, d))
  else if ca_n T p = 33 then ps_k T p 0 else if ca_n T p = 126 then ps_k T p 1 else if ca_n T p = 63 then ps_k T p 2 else .inl p
def tx_L (M : Mm) (t : Nat) : Prop := mm_s M t = (1, 7) ∧ mm_r M t 0 = some (t + 1) ∧ mm_s M (t + 1) = (4, 120)
def tx_R (f : Nat → Nat → Int32) (t : Nat) (T : List Nat) : Prop := f t 1 = nI T.length ∧ T.length ≤ 120 ∧ (∀ x ∈ T, 33 ≤ x ∧ x ≤ 126) ∧ ∀ j x, T[j]? = some x → f (t + 1) j = nI x
theorem ca_0 {T : List Nat} {p : Nat} (h : T.length ≤ p) : ca_n T p = 0 := by
  unfold ca_n
  simp [List.getD, List.getElem?_eq_none h]
theorem ca_s {T : List Nat} {p x : Nat} (h : T[p]? = some x) : ca_n T p = x := by
  unfold ca_n
  simp [List.getD, h]
theorem rd_ca {T : List Nat} {p a b x : Nat} (h : rd_n T p a b = some x) (ha : 0 < a) : x < b ∧ ca_n T p = a + x ∧ p < T.length := by
  unfold rd_n at h
  split at h
  · next hc =>
    cases h
    refine ⟨by omega, by omega, ?_⟩
    by_cases hp : p < T.length
    · exact hp
    · rw [ca_0 (by omega)] at hc; omega
  · cases h
section
variable {M : Mm} {f : Nat → Nat → Int32} {t p : Nat} {T : List Nat}
/-- the text stays, the place is p -/
def tx_P (f : Nat → Nat → Int32) (t : Nat) (T : List Nat) (p : Nat) : Prop := tx_R f t T ∧ f t 2 = nI p
theorem tx_up {k : Nat} {v : Int32} (h : tx_P f t T p) (hk : 3 ≤ k) : tx_P (up_2 f t k v) t T p := by
  obtain ⟨⟨h1, h2, h3, h4⟩, h5⟩ := h
  exact ⟨⟨by rw [up_k (by omega)]; exact h1, h2, h3, fun j x hx => by rw [up_o (by omega)]; exact h4 j x hx⟩, by rw [up_k (by omega)]; exact h5⟩
theorem tx_uq {q k : Nat} {v : Int32} (h : tx_P f t T p) (h1 : q ≠ t) (h2 : q ≠ t + 1) : tx_P (up_2 f q k v) t T p := by
  obtain ⟨⟨a1, a2, a3, a4⟩, a5⟩ := h
  exact ⟨⟨by rw [up_o (by omega)]; exact a1, a2, a3, fun j x hx => by rw [up_o (by omega)]; exact a4 j x hx⟩, by rw [up_o (by omega)]; exact a5⟩
theorem tx_pl {p' : Nat} (h : tx_P f t T p) : tx_P (up_2 f t 2 (nI p')) t T p' := by
  obtain ⟨⟨a1, a2, a3, a4⟩, a5⟩ := h
  exact ⟨⟨by rw [up_k (by omega)]; exact a1, a2, a3, fun j x hx => by rw [up_o (by omega)]; exact a4 j x hx⟩, up_e⟩
theorem tx_isNext {c : Nat} (hL : tx_L M t) (hP : tx_P f t T p) (hp : p ≤ 1000) (hc : 0 < c) (hc2 : c < 1000) : fn_Tx_isNext (mm_wi M f) t (nI c) = some (bz (decide (ca_n T p = c)), mm_wi M f) := by
  obtain ⟨⟨h1, h2, h3, h4⟩, h5⟩ := hP
  rw [fn_Tx_isNext, xi_gi hL.1, xi_gi hL.1, h1, h5]
  by_cases h : T.length ≤ p
  · rw [if_pos (nI_le h (by omega)), xi_rz0, ca_0 h, decide_eq_false (by omega)]; rfl
  · obtain ⟨x, hx⟩ : ∃ x, T[p]? = some x := ⟨_, List.getElem?_eq_getElem (by omega)⟩
    have hx2 := h3 x (te_mem hx)
    rw [if_neg (by rw [nI_leI (by omega) (by omega)]; exact h), xi_gr hL.1 hL.2.1, xi_gi hL.1, h5, xi_ai (t := 2) hL.2.2 (by omega) (by decide), h4 p x hx, ca_s hx]
    by_cases hxc : x = c
    · rw [if_pos (by rw [hxc]), xi_rz1, decide_eq_true hxc]; rfl
    · rw [if_neg (by rw [nI_eq (by omega) (by omega)]; exact hxc), xi_rz0, decide_eq_false hxc]; rfl
theorem tx_takes_y {c : Nat} (hL : tx_L M t) (hP : tx_P f t T p) (hp : p ≤ 1000) (hc : 0 < c) (hc2 : c < 1000) (h : ca_n T p = c) : fn_Tx_takes (mm_wi M f) t (nI c) = some (1, mm_wi M (up_2 f t 2 (nI (p + 1)))) := by
  rw [fn_Tx_takes, tx_isNext hL hP hp hc hc2, xi_cv hL.1, decide_eq_true h, if_neg (by decide), xi_gi hL.1, hP.2, nI_1, xi_pi hL.1, xi_rz1]
theorem tx_takes_n {c : Nat} (hL : tx_L M t) (hP : tx_P f t T p) (hp : p ≤ 1000) (hc : 0 < c) (hc2 : c < 1000) (h : ¬ ca_n T p = c) : fn_Tx_takes (mm_wi M f) t (nI c) = some (0, mm_wi M f) := by
  rw [fn_Tx_takes, tx_isNext hL hP hp hc hc2, xi_cv hL.1, decide_eq_false h, if_pos (by decide), xi_rz0]
theorem tx_from_y {a b x : Nat} (hL : tx_L M t) (hP : tx_P f t T p) (hp : p ≤ 1000) (ha : 0 < a) (ha2 : a < 1000) (hb : b < 1000) (h : rd_n T p a b = some x) : fn_Tx_takeFrom (mm_wi M f) t (nI a) (nI b) = some (nI x, mm_wi M (up_2 f t 2 (nI (p + 1)))) := by
  obtain ⟨g1, g2, g3⟩ := rd_ca h ha
  obtain ⟨⟨h1, h2, h3, h4⟩, h5⟩ := hP
  obtain ⟨y, hy⟩ : ∃ y, T[p]? = some y := ⟨_, List.getElem?_eq_getElem g3⟩
  rw [ca_s hy] at g2
  subst g2
  have hx2 := h3 _ (te_mem hy)
  have hr : ∀ (K : Int32 → Rr), fo_ai (mm_wi M f) 2 (t + 1) (nI p) K = K (nI (a + x)) := fun K => by rw [xi_ai (t := 2) hL.2.2 (by omega) (by decide), h4 p _ hy]
  rw [fn_Tx_takeFrom, xi_gi hL.1, xi_gi hL.1, h1, h5, if_neg (by rw [nI_leI (by omega) (by omega)]; omega), xi_gr hL.1 hL.2.1, xi_gi hL.1, h5, hr, if_neg (by rw [nI_ltI (by omega) (by omega)]; omega), xi_gr hL.1 hL.2.1, xi_gi hL.1, h5, hr, nI_add, if_pos (by rw [nI_ltI (by omega) (by omega)]; omega), xi_gr hL.1 hL.2.1, xi_gi hL.1, h5, hr, xi_nm, xi_gi hL.1, h5, nI_1, xi_pi hL.1, pk_sub (by omega)]
  congr 3; omega
theorem tx_from_n {a b : Nat} (hL : tx_L M t) (hP : tx_P f t T p) (hp : p ≤ 1000) (ha : 0 < a) (ha2 : a < 1000) (hb : b < 1000) (h : rd_n T p a b = none) : fn_Tx_takeFrom (mm_wi M f) t (nI a) (nI b) = some (-1, mm_wi M f) := by
  obtain ⟨⟨h1, h2, h3, h4⟩, h5⟩ := hP
  rw [fn_Tx_takeFrom, xi_gi hL.1, xi_gi hL.1, h1, h5]
  by_cases hl : T.length ≤ p
  · rw [if_pos (nI_le hl (by omega))]
  · obtain ⟨y, hy⟩ : ∃ y, T[p]? = some y := ⟨_, List.getElem?_eq_getElem (by omega)⟩
    have hx2 := h3 _ (te_mem hy)
    have hr : ∀ (K : Int32 → Rr), fo_ai (mm_wi M f) 2 (t + 1) (nI p) K = K (nI y) := fun K => by rw [xi_ai (t := 2) hL.2.2 (by omega) (by decide), h4 p _ hy]
    unfold rd_n at h
    rw [ca_s hy] at h
    have hn : ¬ (a ≤ y ∧ y < a + b) := fun hh => by rw [if_pos hh] at h; cases h
    rw [if_neg (by rw [nI_leI (by omega) (by omega)]; omega), xi_gr hL.1 hL.2.1, xi_gi hL.1, h5, hr]
    by_cases h7 : y < a
    · rw [if_pos (by rw [nI_ltI (by omega) (by omega)]; omega)]
    · rw [if_neg (by rw [nI_ltI (by omega) (by omega)]; omega), xi_gr hL.1 hL.2.1, xi_gi hL.1, h5, hr, nI_add, if_neg (by rw [nI_ltI (by omega) (by omega)]; omega)]
theorem tx_dig_y {x : Nat} (hL : tx_L M t) (hP : tx_P f t T p) (hp : p ≤ 1000) (h : rd_n T p 48 10 = some x) : fn_Tx_takeDigit (mm_wi M f) t = some (nI x, mm_wi M (up_2 f t 2 (nI (p + 1)))) := by
  rw [fn_Tx_takeDigit, show (48 : Int32) = nI 48 from rfl, show (10 : Int32) = nI 10 from rfl, tx_from_y hL hP hp (by omega) (by omega) (by omega) h, xi_cv hL.1]
theorem tx_dig_n (hL : tx_L M t) (hP : tx_P f t T p) (hp : p ≤ 1000) (h : rd_n T p 48 10 = none) : fn_Tx_takeDigit (mm_wi M f) t = some (-1, mm_wi M f) := by
  rw [fn_Tx_takeDigit, show (48 : Int32) = nI 48 from rfl, show (10 : Int32) = nI 10 from rfl, tx_from_n hL hP hp (by omega) (by omega) (by omega) h, xi_cv hL.1]
theorem tx_par_y {x : Nat} (hL : tx_L M t) (hP : tx_P f t T p) (hp : p ≤ 1000) (h : rd_n T p 65 3 = some x) : fn_Tx_takeParty (mm_wi M f) t = some (nI x, mm_wi M (up_2 f t 2 (nI (p + 1)))) := by
  rw [fn_Tx_takeParty, show (65 : Int32) = nI 65 from rfl, show (3 : Int32) = nI 3 from rfl, tx_from_y hL hP hp (by omega) (by omega) (by omega) h, xi_cv hL.1]
theorem tx_par_n (hL : tx_L M t) (hP : tx_P f t T p) (hp : p ≤ 1000) (h : rd_n T p 65 3 = none) : fn_Tx_takeParty (mm_wi M f) t = some (-1, mm_wi M f) := by
  rw [fn_Tx_takeParty, show (65 : Int32) = nI 65 from rfl, show (3 : Int32) = nI 3 from rfl, tx_from_n hL hP hp (by omega) (by omega) (by omega) h, xi_cv hL.1]
theorem tx_kin_y {x : Nat} (hL : tx_L M t) (hP : tx_P f t T p) (hp : p ≤ 1000) (h : rd_n T p 97 5 = some x) : fn_Tx_takeKind (mm_wi M f) t = some (nI x, mm_wi M (up_2 f t 2 (nI (p + 1)))) := by
  rw [fn_Tx_takeKind, show (97 : Int32) = nI 97 from rfl, show (5 : Int32) = nI 5 from rfl, tx_from_y hL hP hp (by omega) (by omega) (by omega) h, xi_cv hL.1]
theorem tx_kin_n (hL : tx_L M t) (hP : tx_P f t T p) (hp : p ≤ 1000) (h : rd_n T p 97 5 = none) : fn_Tx_takeKind (mm_wi M f) t = some (-1, mm_wi M f) := by
  rw [fn_Tx_takeKind, show (97 : Int32) = nI 97 from rfl, show (5 : Int32) = nI 5 from rfl, tx_from_n hL hP hp (by omega) (by omega) (by omega) h, xi_cv hL.1]
theorem tx_m1 {x : Nat} (h : x < 1000) : ¬ nI x = (-1 : Int32) := by
  have h1 : ∀ i : Nat, i < 1000 → ¬ nI i = (-1 : Int32) := by decide +kernel
  exact h1 x h
/-- frame of reading: the text's object and one clause's -/
def fr_T (f f' : Nat → Nat → Int32) (t q : Nat) : Prop := ∀ a, a ≠ t → a ≠ q → f' a = f a
def sm_ok {α : Type} (o : Nat ⊕ α) : Bool := match o with | .inl _ => false | .inr _ => true
theorem tx_digit (hL : tx_L M t) (hP : tx_P f t T p) (hp : p ≤ 1000) : ∃ f', fn_Tx_readDigit (mm_wi M f) t = some (bz (rd_n T p 48 10).isSome, mm_wi M f') ∧ tx_P f' t T (if (rd_n T p 48 10).isSome = true then p + 1 else p) ∧ (∀ x, rd_n T p 48 10 = some x → f' t 5 = nI x) ∧ f' t 3 = f t 3 ∧ f' t 4 = f t 4 ∧ ∀ a, a ≠ t → f' a = f a := by
  rw [fn_Tx_readDigit]
  cases h : rd_n T p 48 10 with
  | none =>
    rw [tx_dig_n hL hP hp h, xi_cv hL.1, xi_pi hL.1, xi_gi hL.1, up_e, if_pos rfl, xi_rz0]
    exact ⟨_, rfl, tx_up hP (by omega), fun x hx => (by cases hx), up_k (by omega), up_k (by omega), fun a ha => up_oa ha⟩
  | some x =>
    have := (rd_ca h (by omega)).1
    rw [tx_dig_y hL hP hp h, xi_cv hL.1, xi_pi hL.1, xi_gi hL.1, up_e, if_neg (tx_m1 (by omega)), xi_rz1]
    exact ⟨_, rfl, tx_up (tx_pl hP) (by omega), fun y hy => (by cases hy; exact up_e), by rw [up_k (by omega), up_k (by omega)], by rw [up_k (by omega), up_k (by omega)], fun a ha => by rw [up_oa ha, up_oa ha]⟩
theorem nx_ch {w : Nat} (h : w < 3) : ((65 + nI w).toUInt32 % 65536).toInt32 = nI (65 + w) := by
  have h1 : ∀ w : Nat, w < 3 → ((65 + nI w).toUInt32 % 65536).toInt32 = nI (65 + w) := by decide +kernel
  exact h1 w h
def p2_pl (T : List Nat) (p : Nat) : Nat := match ps_2 T p with | .inl e => e | .inr _ => p + 2
theorem tx_two (hL : tx_L M t) (hP : tx_P f t T p) (hp : p ≤ 900) : ∃ f', fn_Tx_readTwoParties (mm_wi M f) t = some (bz (sm_ok (ps_2 T p)), mm_wi M f') ∧ tx_P f' t T (p2_pl T p) ∧ (∀ w v, ps_2 T p = .inr (w, v) → f' t 3 = nI w ∧ f' t 4 = nI v ∧ w < 3 ∧ v < 3) ∧ ∀ a, a ≠ t → f' a = f a := by
  rw [fn_Tx_readTwoParties]
  unfold p2_pl ps_2
  cases h : rd_n T p 65 3 with
  | none =>
    rw [tx_par_n hL hP (by omega) h, xi_cv hL.1, xi_pi hL.1, xi_gi hL.1, up_e, if_pos rfl, xi_rz0]
    exact ⟨_, rfl, tx_up hP (by omega), fun w v hx => (by cases hx), fun a ha => up_oa ha⟩
  | some w =>
    have hw := (rd_ca h (by omega)).1
    have hP1 := tx_up (k := 3) (v := nI w) (tx_pl (p' := p + 1) hP) (by omega)
    rw [tx_par_y hL hP (by omega) h, xi_cv hL.1, xi_pi hL.1, xi_gi hL.1, up_e, if_neg (tx_m1 (by omega)), xi_gi hL.1, up_e, nx_ch hw, tx_isNext hL hP1 (by omega) (by omega) (by omega), xi_cv hL.1]
    dsimp only
    by_cases hc : ca_n T (p + 1) = 65 + w
    · rw [decide_eq_true hc, if_neg (by decide), xi_rz0, if_pos hc]
      exact ⟨_, rfl, hP1, fun w v hx => (by cases hx), fun a ha => by rw [up_oa ha, up_oa ha]⟩
    · rw [decide_eq_false hc, if_pos (by decide), if_neg hc]
      cases h2 : rd_n T (p + 1) 65 3 with
      | none =>
        rw [tx_par_n hL hP1 (by omega) h2, xi_cv hL.1, xi_pi hL.1, xi_gi hL.1, up_e, if_pos rfl, xi_rz0]
        exact ⟨_, rfl, tx_up hP1 (by omega), fun w v hx => (by cases hx), fun a ha => by rw [up_oa ha, up_oa ha, up_oa ha]⟩
      | some v =>
        have hv := (rd_ca h2 (by omega)).1
        rw [tx_par_y hL hP1 (by omega) h2, xi_cv hL.1, xi_pi hL.1, xi_gi hL.1, up_e, if_neg (tx_m1 (by omega)), xi_rz1]
        exact ⟨_, rfl, tx_up (tx_pl hP1) (by omega), fun w' v' hx => (by cases hx; exact ⟨by rw [up_k (by omega), up_k (by omega), up_e], up_e, hw, hv⟩), fun a ha => by rw [up_oa ha, up_oa ha, up_oa ha, up_oa ha]⟩
end
