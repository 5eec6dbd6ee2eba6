/-! the reference's courses -/
def re_n (A : Nat → Nat → Nat) (n : Nat) (fr : Nat → Bool) (p k : Nat) (S : Sp) : Option Sp := if sp_m A n p k S = 0 then sp_ev A n fr p k S else none
def rs_n (A : Nat → Nat → Nat) (n : Nat) (fr : Nat → Bool) (p : Nat) (S : Sp) (o : Option Nat) : Option Sp := match o with | none => some S | some k => re_n A n fr p k S
def ge_n (c i : Nat) : Option Nat := if c = 0 then none else if 6 ≤ c then (if i = 0 then some ((c - 6) / 5) else some ((c - 6) % 5)) else if i = 0 then some (c - 1) else none
def gn_n (A : Nat → Nat → Nat) (n : Nat) (fr : Nat → Bool) (p : Nat) (S : Sp) : Option Sp := if hd_n A p S = true then none else sp_end A n fr S
def go_n (A : Nat → Nat → Nat) (n : Nat) (fr : Nat → Bool) (p c : Nat) (S : Sp) : Option Sp := ((rs_n A n fr p S (ge_n c 0)).bind fun S1 => rs_n A n fr p S1 (ge_n c 1)).bind (gn_n A n fr p)
section
variable {M : Mm} {f : Nat → Nat → Int32} {m bk n t p c : Nat} {A : Nat → Nat → Nat} {fr : Nat → Bool} {S : Sp} {dp : Nat → Nat}
theorem mw_4 (hW : mw_R f m bk n A fr) : ∀ c, c < n → A c 7 ≤ 4 := fun c hc => (hW.2.2.2.2.1 c hc).2.2.2.2.2.2.1
theorem ge_5 {i k : Nat} (hc : c < 31) (h : ge_n c i = some k) : k < 5 := by
  unfold ge_n at h
  repeat' split at h
  all_goals (first | cases h; done | (cases h; omega))
theorem gc_1 : ∀ c, c < 31 → ((nI c = 0 ↔ c = 0) ∧ (6 ≤ nI c ↔ 6 ≤ c) ∧ (6 ≤ c → (nI c - 6) / 5 = nI ((c - 6) / 5) ∧ (nI c - 6) - (nI c - 6) / 5 * 5 = nI ((c - 6) % 5)) ∧ (1 ≤ c → nI c - 1 = nI (c - 1))) := by decide +kernel
theorem mo_gc {i : Nat} {J : Int32 → Rr} (hc : c < 31) (hi : i < 2) : fo_jp J (fun j77 => if nI c = 0 then j77 (-1) else if 6 ≤ nI c then if nI i = 0 then j77 ((nI c - 6) / 5) else j77 ((nI c - 6) - (nI c - 6) / 5 * 5) else if nI i = 0 then j77 (nI c - 1) else j77 (-1)) = J (fz (ge_n c i)) := by
  obtain ⟨g1, g2, g3, g4⟩ := gc_1 c hc
  have hi0 : nI i = 0 ↔ i = 0 := nI_eq (b := 0) (by omega) (by omega)
  rw [xi_jp]
  unfold ge_n
  by_cases h0 : c = 0
  · rw [if_pos (g1.mpr h0), if_pos h0]; rfl
  · rw [if_neg fun h => h0 (g1.mp h), if_neg h0]
    by_cases h6 : 6 ≤ c
    · obtain ⟨g5, g6⟩ := g3 h6
      rw [if_pos (g2.mpr h6), if_pos h6, g5] at *
      by_cases h : i = 0
      · rw [if_pos (hi0.mpr h), if_pos h]; rfl
      · rw [if_neg fun hh => h (hi0.mp hh), if_neg h, g6]; rfl
    · rw [if_neg fun h => h6 (g2.mp h), if_neg h6, g4 (by omega)]
      by_cases h : i = 0
      · rw [if_pos (hi0.mpr h), if_pos h]; rfl
      · rw [if_neg fun hh => h (hi0.mp hh), if_neg h]; rfl
theorem rs_V {o : Option Nat} {S' : Sp} (hn : n ≤ 10) (hdp : dp_W n A dp) (h4 : ∀ c, c < n → A c 7 ≤ 4) (hV : sp_V A n S) (h : rs_n A n fr p S o = some S') : sp_V A n S' ∧ sp_d S' = sp_d S := by
  cases o with
  | none => cases h; exact ⟨hV, rfl⟩
  | some k =>
    have h : re_n A n fr p k S = some S' := h
    unfold re_n at h
    split at h
    · exact ⟨sp_ev_V hn hdp h4 hV h, sp_ev_d h⟩
    · cases h
theorem mo_goes_1 {i : Nat} {k : Nat} (hL : mo_L M m) (ht : t ≤ 16) (hdp : dp_W n A dp) (hp : p < 3) (hc : c < 31) (hi : i < 2) (hW : mw_R f m bk n A fr) (hS : ms_R f m (71 * t) S) (hV : sp_V A n S) : ∃ f', fo_fx (fun _ _ _ => none) (lp_Mo_goes_12 m (nI t) (nI p) (nI c)) (k + 1) (mm_wi M f) 1 (nI i) = fo_fx (fun _ _ _ => none) (lp_Mo_goes_12 m (nI t) (nI p) (nI c)) k (mm_wi M f') (bz (rs_n A n fr p S (ge_n c i)).isSome) (nI (i + 1)) ∧ (∀ S', rs_n A n fr p S (ge_n c i) = some S' → ms_R f' m (71 * t) S') ∧ fw_R f f' m (71 * t) := by
  rw [fx_s, lp_Mo_goes_12, xi_jp, if_neg (show ¬ 2 ≤ nI i by rw [li_2, nI_leI (by omega) (by omega)]; omega), if_neg (show ¬ (1 : Int32) = 0 by decide), mo_gc hc hi, xi_jp, nI_1]
  cases hg : ge_n c i with
  | none =>
    rw [if_pos (show fz none < 0 by decide)]
    exact ⟨f, rfl, fun S' h => by cases h; exact hS, fw_rf⟩
  | some k' =>
    have hk5 := ge_5 hc hg
    rw [fz_s, if_neg (nI_pos (by omega))]
    obtain ⟨f', e1, e2, e3, e4, ⟨v, e5, e6, e7⟩, e8⟩ := mo_eventIn (M := M) (f := f) (s := t) (p := p) (q := k') rfl rfl rfl hL ht hdp hW hS hV hp (by omega)
    rw [e1, xi_cv hL.1, xi_gi hL.1]
    have hr : rs_n A n fr p S (some k') = re_n A n fr p k' S := rfl
    rw [hr]
    unfold re_n
    cases hev : sp_ev A n fr p k' S with
    | none =>
      rw [e3 hev, xi_jp, xi_jp]
      dsimp only
      rw [if_neg (show ¬ (1 : Int32) = 0 by decide), ite_self]
      exact ⟨f', rfl, fun S' h => (by cases h), e8⟩
    | some S1 =>
      obtain ⟨h23, hS1⟩ := e2 S1 hev
      rw [h23, xi_jp, xi_jp]
      dsimp only
      rw [if_pos (show (0 : Int32) = 0 from rfl), xi_gi hL.1, e6]
      have hb := bm_3 v e5 p hp
      rw [e7] at hb
      by_cases hm : sp_m A n p k' S = 0
      · rw [if_pos (hb.mpr (by rw [hm]; rfl)), if_pos hm]
        exact ⟨f', rfl, fun S' h => by cases h; exact hS1, e8⟩
      · rw [if_neg (fun h => by have := hb.mp h; rw [decide_eq_false_iff_not] at this; omega), if_neg hm]
        exact ⟨f', rfl, fun S' h => (by cases h), e8⟩
theorem mo_goes_0 {i k : Nat} (hi : i ≤ 2) : fo_fx (fun _ _ _ => none) (lp_Mo_goes_12 m (nI t) (nI p) (nI c)) (k + 1) (mm_wi M f) 0 (nI i) = some (0, mm_wi M f) := by
  rw [fx_s, lp_Mo_goes_12, xi_jp, if_pos (show (0 : Int32) = 0 from rfl), if_pos (show (0 : Int32) = 0 from rfl), ite_self, xi_rz0]
theorem mo_goes_2 {k : Nat} (hL : mo_L M m) (ht : t ≤ 16) (hdp : dp_W n A dp) (hp : p < 3) (hW : mw_R f m bk n A fr) (hS : ms_R f m (71 * t) S) (hV : sp_V A n S) (hd : sp_d S < 60) : ∃ f', fo_fx (fun _ _ _ => none) (lp_Mo_goes_12 m (nI t) (nI p) (nI c)) (k + 1) (mm_wi M f) 1 (nI 2) = some (bz (gn_n A n fr p S).isSome, mm_wi M f') ∧ (∀ S', gn_n A n fr p S = some S' → ms_R f' m (71 * t) S') ∧ fw_R f f' m (71 * t) := by
  rw [fx_s, lp_Mo_goes_12, xi_jp, if_pos (show 2 ≤ nI 2 by decide), if_neg (show ¬ (1 : Int32) = 0 by decide)]
  obtain ⟨f', e1, e2, e3, e4, ⟨v, e5, e6, e7⟩, e8⟩ := mo_endIn (M := M) (f := f) (s := t) rfl hL ht hdp hW hS hV hd
  rw [e1, xi_cv hL.1, xi_gi hL.1]
  unfold gn_n
  cases hen : sp_end A n fr S with
  | none =>
    rw [e3 hen, xi_jp, if_neg (show ¬ (1 : Int32) = 0 by decide), xi_rz0, ite_self]
    exact ⟨f', rfl, fun S' h => (by cases h), e8⟩
  | some S1 =>
    obtain ⟨h23, hS1⟩ := e2 S1 hen
    rw [h23, xi_jp, if_pos (show (0 : Int32) = 0 from rfl), xi_gi hL.1, e6]
    have hb := bm_3 v e5 p hp
    rw [e7 p hp] at hb
    cases hh : hd_n A p S with
    | false =>
      rw [if_pos (hb.mpr hh), if_neg (by simp), xi_rz1]
      exact ⟨f', rfl, fun S' h => by cases h; exact hS1, e8⟩
    | true =>
      rw [if_neg (fun h => by have := hb.mp h; rw [hh] at this; cases this), if_pos rfl, xi_rz0]
      exact ⟨f', rfl, fun S' h => (by cases h), e8⟩
theorem mo_goes {a : Nat} {c' t' : Int32} (hc' : c' = nI c) (ht' : t' = nI t) (hL : mo_L M m) (ha : a ≤ 16) (ht : t ≤ 16) (hat : a ≠ t) (hdp : dp_W n A dp) (hp : p < 3) (hc : c < 31) (hW : mw_R f m bk n A fr) (hS : ms_R f m (71 * a) S) (hV : sp_V A n S) (hd : sp_d S < 60) : ∃ f', fn_Mo_goes (mm_wi M f) m (nI a) t' (nI p) c' = some (bz (go_n A n fr p c S).isSome, mm_wi M f') ∧ (∀ S', go_n A n fr p c S = some S' → ms_R f' m (71 * t) S') ∧ fw_R f f' m (71 * t) := by
  subst hc' ht'
  have hn := hW.2.1
  have h4 := mw_4 hW
  obtain ⟨f0, a1, a2, a3⟩ := mo_copy (M := M) (f := f) hL ha ht hat
  rw [fn_Mo_goes, a1, xi_cv hL.1, li_0]
  have fr0 : fw_R f f0 m (71 * t) := fun x j h1 h2 h3 => a3 x j h2
  have hW0 := mw_fw hW fr0
  have hS0 : ms_R f0 m (71 * t) S := ms_mv hS a2
  obtain ⟨f1, b1, b2, b3⟩ := mo_goes_1 (k := 1999) (c := c) (i := 0) hL ht hdp hp hc (by omega) hW0 hS0 hV
  rw [show fo_N = 1999 + 1 from rfl, b1]
  unfold go_n
  cases h1 : rs_n A n fr p S (ge_n c 0) with
  | none =>
    rw [show bz (Option.isSome (none : Option Sp)) = 0 from rfl, mo_goes_0 (k := 1998) (by omega)]
    exact ⟨f1, rfl, fun S' h => (by cases h), fw_tr fr0 b3⟩
  | some S1 =>
    obtain ⟨hV1, hd1⟩ := rs_V hn hdp h4 hV h1
    have hS1 := b2 S1 h1
    have hW1 := mw_fw hW0 b3
    obtain ⟨f2, c1, c2, c3⟩ := mo_goes_1 (k := 1998) (c := c) (i := 1) hL ht hdp hp hc (by omega) hW1 hS1 hV1
    rw [show bz (some S1).isSome = 1 from rfl, show 1999 = 1998 + 1 from rfl, c1, Option.bind_some]
    cases h2 : rs_n A n fr p S1 (ge_n c 1) with
    | none =>
      rw [show bz (Option.isSome (none : Option Sp)) = 0 from rfl, mo_goes_0 (k := 1997) (by omega)]
      exact ⟨f2, rfl, fun S' h => (by cases h), fw_tr fr0 (fw_tr b3 c3)⟩
    | some S2 =>
      obtain ⟨hV2, hd2⟩ := rs_V hn hdp h4 hV1 h2
      obtain ⟨f3, d1, d2, d3⟩ := mo_goes_2 (k := 1997) (c := c) hL ht hdp hp (mw_fw hW1 c3) (c2 S2 h2) hV2 (by omega)
      rw [show bz (some S2).isSome = 1 from rfl, show 1998 = 1997 + 1 from rfl, d1, Option.bind_some]
      exact ⟨f3, rfl, d2, fw_tr fr0 (fw_tr b3 (fw_tr c3 d3))⟩
theorem go_V {S' : Sp} (hn : n ≤ 10) (hdp : dp_W n A dp) (h4 : ∀ c, c < n → A c 7 ≤ 4) (hV : sp_V A n S) (h : go_n A n fr p c S = some S') : sp_V A n S' ∧ sp_d S' = sp_d S + 1 := by
  unfold go_n at h
  cases h1 : rs_n A n fr p S (ge_n c 0) with
  | none => rw [h1] at h; cases h
  | some S1 =>
    obtain ⟨hV1, hd1⟩ := rs_V hn hdp h4 hV h1
    rw [h1, Option.bind_some] at h
    cases h2 : rs_n A n fr p S1 (ge_n c 1) with
    | none => rw [h2] at h; cases h
    | some S2 =>
      obtain ⟨hV2, hd2⟩ := rs_V hn hdp h4 hV1 h2
      rw [h2, Option.bind_some] at h
      unfold gn_n at h
      split at h
      · cases h
      · have := sp_end_d h
        exact ⟨sp_end_V hn hdp h4 hV2 h, by omega⟩
theorem mo_has_lp {a : Nat} (hL : mo_L M m) (ha : a ≤ 16) (ht : t ≤ 16) (hat : a ≠ t) (hdp : dp_W n A dp) (hp : p < 3) (hV : sp_V A n S) (hd : sp_d S < 60) : ∀ k i f, i ≤ 31 → 32 - i < k → mw_R f m bk n A fr → ms_R f m (71 * a) S → ∃ f', fo_fx (fun _ _ _ => none) (lp_Mo_hasOne_6 m (nI a) (nI t) (nI p)) k (mm_wi M f) 0 (nI i) = some (bz (((List.range 31).drop i).any fun c => (go_n A n fr p c S).isSome), mm_wi M f') ∧ fw_R f f' m (71 * t) := by
  intro k
  induction k with
  | zero => intro i f _ h; omega
  | succ k ih =>
    intro i f hi hk hW hS
    rw [fx_s, lp_Mo_hasOne_6]
    by_cases h : 31 ≤ i
    · rw [if_pos (show (31 : Int32) ≤ nI i from nI_le (a := 31) h (by omega)), xi_rz0, rg_end h]
      exact ⟨f, rfl, fw_rf⟩
    · rw [if_neg (by rw [show (31 : Int32) = nI 31 from rfl, nI_leI (by omega) (by omega)]; exact h), if_pos (show (0 : Int32) = 0 from rfl)]
      obtain ⟨f1, e1, -, e3⟩ := mo_goes (c := i) rfl rfl hL ha ht hat hdp hp (by omega) hW hS hV hd
      rw [e1, xi_cv hL.1, nI_1, rg_drop (by omega), List.any_cons]
      cases hg : (go_n A n fr p i S).isSome with
      | false =>
        rw [show bz false = 0 from rfl, Bool.false_or]
        obtain ⟨f2, d1, d2⟩ := ih (i + 1) f1 (by omega) (by omega) (mw_fw hW e3) (ms_cg hS fun j h1 h2 => e3 _ _ (by omega) (by omega) (by omega))
        exact ⟨f2, d1, fw_tr e3 d2⟩
      | true =>
        obtain ⟨k', rfl⟩ : ∃ k', k = k' + 1 := ⟨k - 1, by omega⟩
        rw [fx_s, lp_Mo_hasOne_6, show bz true = 1 from rfl, if_neg (show ¬ (1 : Int32) = 0 by decide), xi_rz1, ite_self, Bool.true_or]
        exact ⟨f1, rfl, e3⟩
theorem mo_hasOne {a : Nat} (hL : mo_L M m) (ha : a ≤ 16) (ht : t ≤ 16) (hat : a ≠ t) (hdp : dp_W n A dp) (hp : p < 3) (hV : sp_V A n S) (hd : sp_d S < 60) (hW : mw_R f m bk n A fr) (hS : ms_R f m (71 * a) S) : ∃ f', fn_Mo_hasOne (mm_wi M f) m (nI a) (nI t) (nI p) = some (bz ((List.range 31).any fun c => (go_n A n fr p c S).isSome), mm_wi M f') ∧ fw_R f f' m (71 * t) :=
  mo_has_lp hL ha ht hat hdp hp hV hd fo_N 0 f (by omega) (by decide) hW hS
/-- a course that goes, and what must hold behind it -/
def gq_n (A : Nat → Nat → Nat) (n : Nat) (fr : Nat → Bool) (p : Nat) (R : Sp → Bool) (S : Sp) (c : Nat) : Bool := match go_n A n fr p c S with | some S' => R S' | none => false
def rd_2 (A : Nat → Nat → Nat) (n : Nat) (fr : Nat → Bool) (p d : Nat) (S : Sp) : Bool := if d = 1 then true else (List.range 31).any fun c => (go_n A n fr p c S).isSome
/-- what a search may change: the slots 15 and 16 and the fields of a run -/
def fy_R (f f' : Nat → Nat → Int32) (m : Nat) : Prop := ∀ x j, (x ≠ m ∨ j < 21) → (x ≠ m + 14 ∨ j < 1065) → x ≠ m + 15 → f' x j = f x j
theorem mo_fc_lp {a d : Nat} (hL : mo_L M m) (ha : a ≤ 14) (hdp : dp_W n A dp) (hp : p < 3) (hV : sp_V A n S) (hd : sp_d S + d ≤ 60) (hd12 : d = 1 ∨ d = 2) : ∀ k i f, i ≤ 31 → 31 - i < k → mw_R f m bk n A fr → ms_R f m (71 * a) S → ∃ f', fo_fx (fun _ _ => none) (lp_Mo_firstCourse_3 m (nI a) (nI p) (nI d)) k (mm_wi M f) (nI i) = some (fz (((List.range 31).drop i).find? (gq_n A n fr p (rd_2 A n fr p d) S)), mm_wi M f') ∧ fy_R f f' m := by
  intro k
  induction k with
  | zero => intro i f _ h; omega
  | succ k ih =>
    intro i f hi hk hW hS
    have hn := hW.2.1
    have h4 := mw_4 hW
    rw [fx_s, lp_Mo_firstCourse_3]
    by_cases h : 31 ≤ i
    · rw [if_pos (show (31 : Int32) ≤ nI i from nI_le (a := 31) h (by omega)), rg_end h]
      exact ⟨f, rfl, fun _ _ _ _ _ => rfl⟩
    · rw [if_neg (by rw [show (31 : Int32) = nI 31 from rfl, nI_leI (by omega) (by omega)]; exact h)]
      obtain ⟨f1, e1, e2, e3⟩ := mo_goes (c := i) (t := 15) (t' := 15) rfl rfl hL (show a ≤ 16 by omega) (by omega) (by omega) hdp hp (by omega) hW hS hV (by omega)
      rw [e1, xi_cv hL.1, xi_jp, rg_drop (by omega), List.find?_cons]
      dsimp only
      rw [nI_1]
      have y1 : fy_R f f1 m := fun x j h1 h2 h3 => e3 x j h1 (by omega) h3
      have next : ∀ f2, fy_R f f2 m → ∃ f', fo_fx (fun _ _ => none) (lp_Mo_firstCourse_3 m (nI a) (nI p) (nI d)) k (mm_wi M f2) (nI (i + 1)) = some (fz (((List.range 31).drop (i + 1)).find? (gq_n A n fr p (rd_2 A n fr p d) S)), mm_wi M f') ∧ fy_R f f' m := by
        intro f2 y2
        obtain ⟨f3, d1, d2⟩ := ih (i + 1) f2 (by omega) (by omega) (mw_cg hW (y2 _ _ (by omega) (by omega) (by omega)) (y2 _ _ (by omega) (by omega) (by omega)) fun x j h1 h2 => y2 _ _ (by omega) (by omega) (by omega)) (ms_cg hS fun j h1 h2 => y2 _ _ (by omega) (by omega) (by omega))
        exact ⟨f3, d1, fun x j h1 h2 h3 => by rw [d2 x j h1 h2 h3, y2 x j h1 h2 h3]⟩
      cases hg : go_n A n fr p i S with
      | none =>
        have hq : gq_n A n fr p (rd_2 A n fr p d) S i = false := by unfold gq_n; rw [hg]
        rw [show bz (Option.isSome (none : Option Sp)) = 0 from rfl, if_pos (show (0 : Int32) = 0 from rfl), hq]
        exact next f1 y1
      | some S1 =>
        have hq : gq_n A n fr p (rd_2 A n fr p d) S i = rd_2 A n fr p d S1 := by unfold gq_n; rw [hg]
        obtain ⟨hV1, hd1⟩ := go_V hn hdp h4 hV hg
        rw [show bz (some S1).isSome = 1 from rfl, if_neg (show ¬ (1 : Int32) = 0 by decide), hq]
        unfold rd_2
        rcases hd12 with rfl | rfl
        · rw [if_pos (show nI 1 = 1 from rfl), if_pos rfl]
          exact ⟨f1, rfl, y1⟩
        · rw [if_neg (show ¬ nI 2 = 1 by decide), if_neg (show ¬ 2 = 1 by decide)]
          obtain ⟨f2, c1, c2⟩ := mo_hasOne (t := 16) (a := 15) hL (by omega) (by omega) (by omega) hdp hp hV1 (by omega) (mw_fw hW e3) (e2 S1 hg)
          rw [show (15 : Int32) = nI 15 from rfl, show (16 : Int32) = nI 16 from rfl, c1, xi_cv hL.1]
          have y2 : fy_R f f2 m := fun x j h1 h2 h3 => by rw [c2 x j h1 (by omega) h3, y1 x j h1 h2 h3]
          cases hb : (List.range 31).any fun c => (go_n A n fr p c S1).isSome with
          | false =>
            rw [if_pos (bz_f rfl)]
            exact next f2 y2
          | true =>
            rw [if_neg (bz_t rfl)]
            exact ⟨f2, rfl, y2⟩
theorem mo_firstCourse {a d : Nat} {a' : Int32} (ha' : a' = nI a) (hL : mo_L M m) (ha : a ≤ 14) (hdp : dp_W n A dp) (hp : p < 3) (hV : sp_V A n S) (hd : sp_d S + d ≤ 60) (hd12 : d = 1 ∨ d = 2) (hW : mw_R f m bk n A fr) (hS : ms_R f m (71 * a) S) : ∃ f', fn_Mo_firstCourse (mm_wi M f) m a' (nI p) (nI d) = some (fz ((List.range 31).find? (gq_n A n fr p (rd_2 A n fr p d) S)), mm_wi M f') ∧ fy_R f f' m := by
  subst ha'
  exact mo_fc_lp hL ha hdp hp hV hd hd12 fo_N 0 f (by omega) (by decide) hW hS
end
