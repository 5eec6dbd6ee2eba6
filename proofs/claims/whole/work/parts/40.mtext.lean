/-! the reference: its layout, its characters -/
def mo_T : List (Nat × Nat × Nat × Nat) := [(2, 1, 2, 121), (4, 2, 3, 61), (8, 3, 2, 20), (9, 4, 2, 20), (10, 5, 2, 20), (11, 6, 3, 20), (12, 7, 2, 20), (13, 8, 2, 20), (14, 9, 2, 20), (15, 10, 2, 20), (16, 11, 2, 20), (17, 12, 2, 20), (18, 13, 2, 20), (19, 14, 2, 1207), (22, 15, 2, 1200)]
def mo_L (M : Mm) (m : Nat) : Prop := mm_s M m = (1, 9) ∧ ∀ e ∈ mo_T, mm_r M m e.1 = some (m + e.2.1) ∧ mm_s M (m + e.2.1) = e.2.2
section
variable {M : Mm} {f : Nat → Nat → Int32} {m p : Nat} {T : List Nat}
theorem mr_2 (h : mo_L M m) : mm_r M m 2 = some (m + 1) := (h.2 (2, 1, 2, 121) (by decide)).1
theorem ms_2 (h : mo_L M m) : mm_s M (m + 1) = (2, 121) := (h.2 (2, 1, 2, 121) (by decide)).2
theorem mr_4 (h : mo_L M m) : mm_r M m 4 = some (m + 2) := (h.2 (4, 2, 3, 61) (by decide)).1
theorem ms_4 (h : mo_L M m) : mm_s M (m + 2) = (3, 61) := (h.2 (4, 2, 3, 61) (by decide)).2
theorem mr_8 (h : mo_L M m) : mm_r M m 8 = some (m + 3) := (h.2 (8, 3, 2, 20) (by decide)).1
theorem ms_8 (h : mo_L M m) : mm_s M (m + 3) = (2, 20) := (h.2 (8, 3, 2, 20) (by decide)).2
theorem mr_9 (h : mo_L M m) : mm_r M m 9 = some (m + 4) := (h.2 (9, 4, 2, 20) (by decide)).1
theorem ms_9 (h : mo_L M m) : mm_s M (m + 4) = (2, 20) := (h.2 (9, 4, 2, 20) (by decide)).2
theorem mr_10 (h : mo_L M m) : mm_r M m 10 = some (m + 5) := (h.2 (10, 5, 2, 20) (by decide)).1
theorem ms_10 (h : mo_L M m) : mm_s M (m + 5) = (2, 20) := (h.2 (10, 5, 2, 20) (by decide)).2
theorem mr_11 (h : mo_L M m) : mm_r M m 11 = some (m + 6) := (h.2 (11, 6, 3, 20) (by decide)).1
theorem ms_11 (h : mo_L M m) : mm_s M (m + 6) = (3, 20) := (h.2 (11, 6, 3, 20) (by decide)).2
theorem mr_12 (h : mo_L M m) : mm_r M m 12 = some (m + 7) := (h.2 (12, 7, 2, 20) (by decide)).1
theorem ms_12 (h : mo_L M m) : mm_s M (m + 7) = (2, 20) := (h.2 (12, 7, 2, 20) (by decide)).2
theorem mr_13 (h : mo_L M m) : mm_r M m 13 = some (m + 8) := (h.2 (13, 8, 2, 20) (by decide)).1
theorem ms_13 (h : mo_L M m) : mm_s M (m + 8) = (2, 20) := (h.2 (13, 8, 2, 20) (by decide)).2
theorem mr_14 (h : mo_L M m) : mm_r M m 14 = some (m + 9) := (h.2 (14, 9, 2, 20) (by decide)).1
theorem ms_14 (h : mo_L M m) : mm_s M (m + 9) = (2, 20) := (h.2 (14, 9, 2, 20) (by decide)).2
theorem mr_15 (h : mo_L M m) : mm_r M m 15 = some (m + 10) := (h.2 (15, 10, 2, 20) (by decide)).1
theorem ms_15 (h : mo_L M m) : mm_s M (m + 10) = (2, 20) := (h.2 (15, 10, 2, 20) (by decide)).2
theorem mr_16 (h : mo_L M m) : mm_r M m 16 = some (m + 11) := (h.2 (16, 11, 2, 20) (by decide)).1
theorem ms_16 (h : mo_L M m) : mm_s M (m + 11) = (2, 20) := (h.2 (16, 11, 2, 20) (by decide)).2
theorem mr_17 (h : mo_L M m) : mm_r M m 17 = some (m + 12) := (h.2 (17, 12, 2, 20) (by decide)).1
theorem ms_17 (h : mo_L M m) : mm_s M (m + 12) = (2, 20) := (h.2 (17, 12, 2, 20) (by decide)).2
theorem mr_18 (h : mo_L M m) : mm_r M m 18 = some (m + 13) := (h.2 (18, 13, 2, 20) (by decide)).1
theorem ms_18 (h : mo_L M m) : mm_s M (m + 13) = (2, 20) := (h.2 (18, 13, 2, 20) (by decide)).2
theorem mr_19 (h : mo_L M m) : mm_r M m 19 = some (m + 14) := (h.2 (19, 14, 2, 1207) (by decide)).1
theorem ms_19 (h : mo_L M m) : mm_s M (m + 14) = (2, 1207) := (h.2 (19, 14, 2, 1207) (by decide)).2
theorem mr_22 (h : mo_L M m) : mm_r M m 22 = some (m + 15) := (h.2 (22, 15, 2, 1200) (by decide)).1
theorem ms_22 (h : mo_L M m) : mm_s M (m + 15) = (2, 1200) := (h.2 (22, 15, 2, 1200) (by decide)).2
def mt_R (f : Nat → Nat → Int32) (m : Nat) (T : List Nat) : Prop := f m 1 = nI T.length ∧ T.length ≤ 120 ∧ (∀ x ∈ T, 33 ≤ x ∧ x ≤ 126) ∧ ∀ j x, T[j]? = some x → f (m + 1) j = nI x
theorem mt_cg {f' : Nat → Nat → Int32} (h : mt_R f m T) (h0 : f' m 1 = f m 1) (h1 : f' (m + 1) = f (m + 1)) : mt_R f' m T := by
  obtain ⟨a, b, c, d⟩ := h
  exact ⟨by rw [h0]; exact a, b, c, by rw [h1]; exact d⟩
theorem ca_lt (hR : mt_R f m T) : ca_n T p < 127 := by
  by_cases h : T.length ≤ p
  · rw [ca_0 h]; omega
  · obtain ⟨x, hx⟩ : ∃ x, T[p]? = some x := ⟨_, List.getElem?_eq_getElem (by omega)⟩
    rw [ca_s hx]
    have := hR.2.2.1 x (te_mem hx)
    omega
theorem mo_charAt (hL : mo_L M m) (hR : mt_R f m T) (hp : p ≤ 1000) : fn_Mo_charAt (mm_wi M f) m (nI p) = some (nI (ca_n T p), mm_wi M f) := by
  have h2 := hR.2.1
  rw [fn_Mo_charAt, xi_gi hL.1, hR.1]
  by_cases h : T.length ≤ p
  · rw [if_pos (nI_le h (by omega)), ca_0 h]; rfl
  · obtain ⟨x, hx⟩ : ∃ x, T[p]? = some x := ⟨_, List.getElem?_eq_getElem (by omega)⟩
    rw [if_neg (by rw [nI_leI (by omega) (by omega)]; exact h), xi_gr hL.1 (mr_2 hL), xi_ai (t := 0) (ms_2 hL) (by omega) (by decide), hR.2.2.2 p x hx, ca_s hx]
theorem mo_rd {c a b : Nat} {K : Mm → Int32 → Rr} (hc : c < 127) (ha : a < 100) (hb : b ≤ 10) : (if nI c - nI a < 0 then some ((-1), mm_wi M f) else if nI b ≤ nI c - nI a then some ((-1), mm_wi M f) else some (nI c - nI a, mm_wi M f)) = some (fz (if a ≤ c ∧ c < a + b then some (c - a) else none), mm_wi M f) := by
  by_cases h : a ≤ c
  · rw [pk_sub h, if_neg (nI_pos (by omega))]
    by_cases h2 : c < a + b
    · rw [if_neg (by rw [nI_leI (by omega) (by omega)]; omega), if_pos ⟨h, h2⟩]; rfl
    · rw [if_pos (nI_le (by omega) (by omega)), if_neg (fun hh => h2 hh.2)]; rfl
  · rw [if_pos (pk_sneg (by omega) (by omega)), if_neg (fun hh => h hh.1)]; rfl
theorem mo_party (hL : mo_L M m) (hR : mt_R f m T) (hp : p ≤ 1000) : fn_Mo_party (mm_wi M f) m (nI p) = some (fz (rd_n T p 65 3), mm_wi M f) := by
  rw [fn_Mo_party, mo_charAt hL hR hp, xi_cv hL.1, xi_nm]
  exact mo_rd (a := 65) (b := 3) (K := fun _ _ => none) (ca_lt hR) (by omega) (by omega)
theorem mo_kind (hL : mo_L M m) (hR : mt_R f m T) (hp : p ≤ 1000) : fn_Mo_kind (mm_wi M f) m (nI p) = some (fz (rd_n T p 97 5), mm_wi M f) := by
  rw [fn_Mo_kind, mo_charAt hL hR hp, xi_cv hL.1, xi_nm]
  exact mo_rd (a := 97) (b := 5) (K := fun _ _ => none) (ca_lt hR) (by omega) (by omega)
theorem mo_digit (hL : mo_L M m) (hR : mt_R f m T) (hp : p ≤ 1000) : fn_Mo_digit (mm_wi M f) m (nI p) = some (fz (rd_n T p 48 10), mm_wi M f) := by
  rw [fn_Mo_digit, mo_charAt hL hR hp, xi_cv hL.1, xi_nm]
  exact mo_rd (a := 48) (b := 10) (K := fun _ _ => none) (ca_lt hR) (by omega) (by omega)
/-- the place of a fault, as the reference tells it -/
def mv_e (e : Nat) : Int32 := (-1) - nI e
theorem mv_neg : ∀ e, e < 1000 → mv_e e < 0 := by decide +kernel
theorem mv_nle {e : Nat} (h : e < 1000) : ¬ 0 ≤ mv_e e := by
  have h1 : ∀ e, e < 1000 → ¬ 0 ≤ mv_e e := by decide +kernel
  exact h1 e h
theorem mv_1 (p : Nat) : (-1) - nI p = mv_e p := rfl
theorem mv_2 {p : Nat} (h : p < 900) : (-2) - nI p = mv_e (p + 1) := by
  have h1 : ∀ p, p < 900 → (-2) - nI p = mv_e (p + 1) := by decide +kernel
  exact h1 p h
theorem mv_3 {p : Nat} (h : p < 900) : (-3) - nI p = mv_e (p + 2) := by
  have h1 : ∀ p, p < 900 → (-3) - nI p = mv_e (p + 2) := by decide +kernel
  exact h1 p h
theorem mv_4 {p : Nat} (h : p < 900) : (-4) - nI p = mv_e (p + 3) := by
  have h1 : ∀ p, p < 900 → (-4) - nI p = mv_e (p + 3) := by decide +kernel
  exact h1 p h
theorem fz_ge {o : Option Nat} (h : ∀ x, o = some x → x < 1000) : (0 ≤ fz o ↔ o.isSome = true) ∧ (fz o < 0 ↔ o.isSome = false) := by
  cases o with
  | none => exact ⟨by decide, by decide⟩
  | some x =>
    have := h x rfl
    exact ⟨⟨fun _ => rfl, fun _ => nI_pos' (by omega)⟩, ⟨fun h => absurd h (nI_pos (by omega)), fun h => by cases h⟩⟩
theorem fz_p {T : List Nat} {p a b : Nat} (ha : 0 < a) (hb : b ≤ 10) : (0 ≤ fz (rd_n T p a b) ↔ (rd_n T p a b).isSome = true) ∧ (fz (rd_n T p a b) < 0 ↔ (rd_n T p a b).isSome = false) := fz_ge fun x hx => by
  have := (rd_ca hx ha).1
  omega
def po_v (T : List Nat) (p : Nat) : Int32 := match ps_2 T p with | .inl e => mv_e e | .inr _ => match rd_n T (p + 2) 48 10 with | none => mv_e (p + 2) | some _ => nI (p + 3)
theorem mo_overPair (hL : mo_L M m) (hR : mt_R f m T) (hp : p ≤ 800) : fn_Mo_overPair (mm_wi M f) m (nI p) = some (po_v T p, mm_wi M f) := by
  rw [fn_Mo_overPair, mo_party hL hR (by omega), xi_cv hL.1]
  unfold po_v ps_2
  cases h1 : rd_n T p 65 3 with
  | none => rw [if_neg (by decide)]; rfl
  | some w =>
    have hw := rd_ca h1 (by omega)
    rw [fz_s, if_pos (nI_pos' (by omega)), nI_1, mo_party hL hR (by omega), xi_cv hL.1, xi_jp]
    dsimp only
    cases h2 : rd_n T (p + 1) 65 3 with
    | none =>
      rw [fz_n, if_pos (by decide), mv_2 (by omega)]
      by_cases hc : ca_n T (p + 1) = 65 + w
      · rw [if_pos hc]
      · rw [if_neg hc]
    | some v =>
      have hv := rd_ca h2 (by omega)
      rw [fz_s, if_neg (nI_pos (by omega)), mo_party hL hR (by omega), xi_cv hL.1, mo_party hL hR (by omega), xi_cv hL.1, h2, h1, fz_s, fz_s]
      by_cases hc : ca_n T (p + 1) = 65 + w
      · rw [if_pos (show nI v = nI w by congr 1; omega), if_pos hc, mv_2 (by omega)]
      · rw [if_neg (by rw [nI_eq (by omega) (by omega)]; omega), if_neg hc, show nI p + 2 = nI (p + 2) from nI_add p 2, mo_digit hL hR (by omega), xi_cv hL.1]
        dsimp only
        cases h3 : rd_n T (p + 2) 48 10 with
        | none => rw [fz_n, if_neg (by decide), mv_3 (by omega)]
        | some d =>
          have hd := rd_ca h3 (by omega)
          rw [fz_s, if_pos (nI_pos' (by omega)), show nI p + 3 = nI (p + 3) from nI_add p 3]
end
