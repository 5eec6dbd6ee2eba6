/-! the reference's states: lists in the order of their coming -/
theorem nI_xm (a b : Nat) : nI a * nI b = nI (a * b) := (Int32.ofNat_mul a b).symm
theorem nx_0 (s : Nat) : 71 * nI s = nI (71 * s) := nI_xm 71 s
theorem nx_1 (s o : Nat) : 71 * nI s + nI o = nI (71 * s + o) := by rw [nx_0, nI_add]
theorem nx_2 (s o j : Nat) : 71 * nI s + nI o + 1 + 2 * nI j = nI (71 * s + o + 1 + 2 * j) := by rw [nx_1, nI_1, show 2 * nI j = nI (2 * j) from nI_xm 2 j, nI_add]
theorem nx_3 (s o j : Nat) : 71 * nI s + nI o + 2 + 2 * nI j = nI (71 * s + o + 2 + 2 * j) := by rw [nx_1, show nI (71 * s + o) + 2 = nI (71 * s + o + 2) from nI_add _ 2, show 2 * nI j = nI (2 * j) from nI_xm 2 j, nI_add]
theorem nx_4 (s o j : Nat) : 71 * nI s + nI o + 3 + nI j = nI (71 * s + o + 3 + j) := by rw [nx_1, show nI (71 * s + o) + 3 = nI (71 * s + o + 3) from nI_add _ 3, nI_add]
theorem nx_5 (s o j : Nat) : 71 * nI s + nI o + 1 + nI j = nI (71 * s + o + 1 + j) := by rw [nx_1, nI_1, nI_add]
theorem nx_b (b c : Nat) : 10 * nI b + nI c = nI (10 * b + c) := by rw [show 10 * nI b = nI (10 * b) from nI_xm 10 b, nI_add]
theorem nx_k (d c : Nat) : 100 * nI d + nI c = nI (100 * d + c) := by rw [show 100 * nI d = nI (100 * d) from nI_xm 100 d, nI_add]
def ml_R (f : Nat → Nat → Int32) (a b : Nat) (l : List Nat) : Prop := f a b = nI l.length ∧ l.length ≤ 8 ∧ (∀ x ∈ l, x < 7000) ∧ ∀ j x, l[j]? = some x → f a (b + 1 + 2 * j) = nI (x % 100) ∧ f a (b + 2 + 2 * j) = nI (x / 100)
def mp_R (f : Nat → Nat → Int32) (a b : Nat) (l : List Nat) : Prop := te_S l ∧ ∃ k, ml_R f a b k ∧ k.Perm l
def ms_R (f : Nat → Nat → Int32) (m b : Nat) (s : Sp) : Prop := f (m + 14) b = nI (sp_d s) ∧ sp_d s ≤ 60 ∧ mp_R f (m + 14) (b + 1) (sp_D s) ∧ mp_R f (m + 14) (b + 18) (sp_B s) ∧ mp_R f (m + 14) (b + 35) (sp_P s) ∧ (∀ j, j < 9 → f (m + 14) (b + 52 + j) = sp_o s j) ∧ ∀ j, j < 10 → f (m + 14) (b + 61 + j) = sp_c s j
section
variable {f f' : Nat → Nat → Int32} {a b b' m : Nat} {l : List Nat} {S : Sp}
theorem ml_mv (h : ml_R f a b l) (h0 : ∀ j, j < 17 → f' a (b' + j) = f a (b + j)) : ml_R f' a b' l := by
  obtain ⟨h1, h2, h3, h4⟩ := h
  refine ⟨by have := h0 0 (by omega); rw [Nat.add_zero, Nat.add_zero] at this; rw [this]; exact h1, h2, h3, fun j x hx => ?_⟩
  have hj := te_lt hx
  have q1 := h0 (1 + 2 * j) (by omega)
  have q2 := h0 (2 + 2 * j) (by omega)
  rw [← Nat.add_assoc, ← Nat.add_assoc] at q1 q2
  rw [q1, q2]
  exact h4 j x hx
theorem mp_mv (h : mp_R f a b l) (h0 : ∀ j, j < 17 → f' a (b' + j) = f a (b + j)) : mp_R f' a b' l := by
  obtain ⟨h1, k, h2, h3⟩ := h
  exact ⟨h1, k, ml_mv h2 h0, h3⟩
theorem ms_mv (h : ms_R f m b S) (h0 : ∀ j, j < 71 → f' (m + 14) (b' + j) = f (m + 14) (b + j)) : ms_R f' m b' S := by
  obtain ⟨h1, h2, h3, h4, h5, h6, h7⟩ := h
  have q : f' (m + 14) b' = f (m + 14) b := h0 0 (by omega)
  refine ⟨by rw [q]; exact h1, h2, mp_mv h3 fun j hj => ?_, mp_mv h4 fun j hj => ?_, mp_mv h5 fun j hj => ?_, fun j hj => ?_, fun j hj => ?_⟩
  · rw [Nat.add_assoc, Nat.add_assoc]; exact h0 _ (by omega)
  · rw [Nat.add_assoc, Nat.add_assoc]; exact h0 _ (by omega)
  · rw [Nat.add_assoc, Nat.add_assoc]; exact h0 _ (by omega)
  · rw [← h6 j hj, Nat.add_assoc, Nat.add_assoc]; exact h0 _ (by omega)
  · rw [← h7 j hj, Nat.add_assoc, Nat.add_assoc]; exact h0 _ (by omega)
theorem ms_cg (h : ms_R f m b S) (h0 : ∀ j, b ≤ j → j < b + 71 → f' (m + 14) j = f (m + 14) j) : ms_R f' m b S := ms_mv h fun j hj => h0 _ (by omega) (by omega)
end
/-- the agreement and the free days in the reference -/
def mw_R (f : Nat → Nat → Int32) (m bk n : Nat) (A : Nat → Nat → Nat) (fr : Nat → Bool) : Prop := bk ≤ 1 ∧ n ≤ 10 ∧ f m 5 = nI bk ∧ f m 7 = nI n ∧ (∀ c, c < n → mc_R f m (10 * bk + c) (A c) ∧ cl_B (A c)) ∧ ∀ j, j < 61 → f (m + 2) j = bz (fr j)
/-- what a run in the slot at b may change -/
def fw_R (f f' : Nat → Nat → Int32) (m b : Nat) : Prop := ∀ a j, (a ≠ m ∨ j < 21) → (a ≠ m + 14 ∨ j < b ∨ b + 71 ≤ j) → a ≠ m + 15 → f' a j = f a j
section
variable {M : Mm} {f f' : Nat → Nat → Int32} {m bk n b : Nat} {A : Nat → Nat → Nat} {fr : Nat → Bool}
theorem fw_rf : fw_R f f m b := fun _ _ _ _ _ => rfl
theorem fw_tr {f2 : Nat → Nat → Int32} (h : fw_R f f' m b) (h2 : fw_R f' f2 m b) : fw_R f f2 m b := fun a j x y z => by rw [h2 a j x y z, h a j x y z]
theorem mw_cg (hW : mw_R f m bk n A fr) (h5 : f' m 5 = f m 5) (h7 : f' m 7 = f m 7) (h : ∀ a j, m + 2 ≤ a → a ≤ m + 13 → f' a j = f a j) : mw_R f' m bk n A fr := by
  obtain ⟨w1, w2, w3, w4, w5, w6⟩ := hW
  refine ⟨w1, w2, by rw [h5]; exact w3, by rw [h7]; exact w4, fun c hc => ⟨?_, (w5 c hc).2⟩, fun j hj => by rw [h _ _ (by omega) (by omega)]; exact w6 j hj⟩
  have q := (w5 c hc).1
  unfold mc_R mg_R mb_R ma_R at *
  simp only [h (m + 3) _ (by omega) (by omega), h (m + 4) _ (by omega) (by omega), h (m + 5) _ (by omega) (by omega), h (m + 6) _ (by omega) (by omega), h (m + 7) _ (by omega) (by omega), h (m + 8) _ (by omega) (by omega), h (m + 9) _ (by omega) (by omega), h (m + 10) _ (by omega) (by omega), h (m + 11) _ (by omega) (by omega), h (m + 12) _ (by omega) (by omega), h (m + 13) _ (by omega) (by omega)]
  exact q
theorem mw_fw (hW : mw_R f m bk n A fr) (h : fw_R f f' m b) : mw_R f' m bk n A fr := mw_cg hW (h m 5 (by omega) (by omega) (by omega)) (h m 7 (by omega) (by omega) (by omega)) fun a j h1 h2 => h a j (by omega) (by omega) (by omega)
theorem mo_copy_lp {s t : Nat} (hL : mo_L M m) (hs : s ≤ 16) (ht : t ≤ 16) (hst : s ≠ t) : ∀ k i f, i ≤ 71 → 71 - i < k → ∃ f', fo_fx (fun _ _ => none) (lp_Mo_copy_2 m (nI s) (nI t)) k (mm_wi M f) (nI i) = some (0, mm_wi M f') ∧ (∀ j, j < 71 → f' (m + 14) (71 * t + j) = if i ≤ j then f (m + 14) (71 * s + j) else f (m + 14) (71 * t + j)) ∧ ∀ a j, (a ≠ m + 14 ∨ j < 71 * t ∨ 71 * t + 71 ≤ j) → f' a j = f a j := by
  intro k
  induction k with
  | zero => intro i f _ h; omega
  | succ k ih =>
    intro i f hi hk
    rw [fx_s, lp_Mo_copy_2]
    by_cases h : 71 ≤ i
    · rw [if_pos (show (71 : Int32) ≤ nI i from nI_le (a := 71) h (by omega))]
      exact ⟨f, rfl, fun j hj => by rw [if_neg (by omega)], fun a j _ => rfl⟩
    · rw [if_neg (by rw [show (71 : Int32) = nI 71 from rfl, nI_leI (by omega) (by omega)]; exact h), xi_gr hL.1 (mr_19 hL), xi_gr hL.1 (mr_19 hL), nx_1, nx_1, xi_ai (t := 0) (ms_19 hL) (by omega) (by decide), xi_si (ms_19 hL) (by omega) (by decide), nI_1]
      obtain ⟨f', e1, e2, e3⟩ := ih (i + 1) (up_2 f (m + 14) (71 * t + i) (f (m + 14) (71 * s + i))) (by omega) (by omega)
      refine ⟨f', e1, fun j hj => ?_, fun a j hh => ?_⟩
      · rw [e2 j hj]
        by_cases h1 : i + 1 ≤ j
        · rw [if_pos h1, if_pos (by omega), up_k (by omega)]
        · rw [if_neg h1]
          by_cases h2 : i = j
          · subst h2; rw [if_pos (by omega), up_e]
          · rw [if_neg (by omega), up_k (by omega)]
      · rw [e3 a j hh]
        by_cases h1 : a = m + 14
        · rw [up_k (by omega)]
        · rw [up_o h1]
theorem mo_copy {s t : Nat} (hL : mo_L M m) (hs : s ≤ 16) (ht : t ≤ 16) (hst : s ≠ t) : ∃ f', fn_Mo_copy (mm_wi M f) m (nI s) (nI t) = some (0, mm_wi M f') ∧ (∀ j, j < 71 → f' (m + 14) (71 * t + j) = f (m + 14) (71 * s + j)) ∧ ∀ a j, (a ≠ m + 14 ∨ j < 71 * t ∨ 71 * t + 71 ≤ j) → f' a j = f a j := by
  obtain ⟨f', e1, e2, e3⟩ := mo_copy_lp hL hs ht hst fo_N 0 f (by omega) (by decide)
  exact ⟨f', e1, fun j hj => by rw [e2 j hj, if_pos (by omega)], e3⟩
theorem mo_bd_lp (hL : mo_L M m) (hF : ∀ j, j < 61 → f (m + 2) j = bz (fr j)) : ∀ k d x j, d + x ≤ 69 → x ≤ 9 → 70 ≤ j + d → 70 < k + d → fo_fx (fun _ _ => none) (lp_Mo_dayAfter_5 (mm_wi M f) m) k (nI d) (nI x) = some (nI (bd_n fr j d x), mm_wi M f) := by
  intro k
  induction k with
  | zero => intro d x j h1 h2 h3 h4; omega
  | succ k ih =>
    intro d x j h1 h2 h3 h4
    rw [fx_s, lp_Mo_dayAfter_5]
    obtain ⟨j', rfl⟩ : ∃ j', j = j' + 1 := ⟨j - 1, by omega⟩
    by_cases hk : x = 0
    · subst hk
      rw [if_pos (by decide)]
      simp [bd_n]
    · obtain ⟨x', rfl⟩ : ∃ x', x = x' + 1 := ⟨x - 1, by omega⟩
      rw [if_neg (nI_nle (by omega) (by omega)), xi_nm, xi_jp, xi_jp, nI_1, nI_pred]
      unfold bd_n
      rw [if_neg hk, Nat.add_sub_cancel]
      by_cases h6 : 60 < d + 1
      · rw [if_pos (by rw [show (60 : Int32) = nI 60 from rfl, nI_ltI (by omega) (by omega)]; exact h6), if_pos (.inl h6)]
        exact ih (d + 1) x' j' (by omega) (by omega) (by omega) (by omega)
      · rw [if_neg (by rw [show (60 : Int32) = nI 60 from rfl, nI_ltI (by omega) (by omega)]; exact h6), xi_gr hL.1 (mr_4 hL), xi_ai (t := 1) (ms_4 hL) (by omega) (by decide), hF _ (by omega)]
        cases hb : fr (d + 1) with
        | true =>
          rw [if_neg (by simp [bz]), if_neg (by simp; omega)]
          exact ih (d + 1) (x' + 1) j' (by omega) (by omega) (by omega) (by omega)
        | false =>
          rw [if_pos (by simp [bz]), if_pos (by simp)]
          exact ih (d + 1) x' j' (by omega) (by omega) (by omega) (by omega)
theorem mo_bd {d x : Nat} (hL : mo_L M m) (hF : ∀ j, j < 61 → f (m + 2) j = bz (fr j)) (hd : d ≤ 60) (hk : x ≤ 9) : fn_Mo_dayAfter (mm_wi M f) m (nI d) (nI x) = some (nI (bd_n fr 70 d x), mm_wi M f) := mo_bd_lp hL hF fo_N d x 70 (by omega) hk (by omega) (by show _ < 2000 + d; omega)
end
section
variable {M : Mm} {f : Nat → Nat → Int32} {m bk n s o : Nat} {o' : Int32} {A : Nat → Nat → Nat} {fr : Nat → Bool} {l : List Nat}
theorem mo_clauseAt {j x : Nat} (hL : mo_L M m) (hs : s ≤ 16) (ho : o' = nI o) (ho2 : o ≤ 35) (hR : ml_R f (m + 14) (71 * s + o) l) (h : l[j]? = some x) : fn_Mo_clauseAt (mm_wi M f) m (nI s) o' (nI j) = some (nI (x % 100), mm_wi M f) := by
  have hj := te_lt h
  have h8 := hR.2.1
  rw [fn_Mo_clauseAt, ho, xi_gr hL.1 (mr_19 hL), nx_2, xi_ai (t := 0) (ms_19 hL) (by omega) (by decide), (hR.2.2.2 j x h).1]
theorem mo_dayAt {j x : Nat} (hL : mo_L M m) (hs : s ≤ 16) (ho : o' = nI o) (ho2 : o ≤ 35) (hR : ml_R f (m + 14) (71 * s + o) l) (h : l[j]? = some x) : fn_Mo_dayAt (mm_wi M f) m (nI s) o' (nI j) = some (nI (x / 100), mm_wi M f) := by
  have hj := te_lt h
  have h8 := hR.2.1
  rw [fn_Mo_dayAt, ho, xi_gr hL.1 (mr_19 hL), nx_3, xi_ai (t := 0) (ms_19 hL) (by omega) (by decide), (hR.2.2.2 j x h).2]
theorem mo_isOf {c p q : Nat} (hL : mo_L M m) (hW : mw_R f m bk n A fr) (hc : c < n) (h3 : A c 7 < 3) (hp : p < 100) (hq : q < 100) : fn_Mo_isOf (mm_wi M f) m (nI c) (nI p) (nI q) = some (bz (ag_for A p q c), mm_wi M f) := by
  obtain ⟨w1, w2, w3, w4, w5, w6⟩ := hW
  obtain ⟨⟨-, -, ⟨a1, a2, a3⟩⟩, hB⟩ := w5 c hc
  have hb := hB.2.2.2.2.2.2.1 h3
  obtain ⟨a4, a5⟩ := a3 (by omega)
  rw [fn_Mo_isOf, xi_gr hL.1 (mr_16 hL), xi_gi hL.1, w3, nx_b, xi_ai (t := 0) (ms_16 hL) (by omega) (by decide), a2]
  unfold ag_for
  rw [decide_eq_true h3, Bool.true_and]
  by_cases e : A c 8 = p
  · rw [if_pos (by rw [e]), xi_gr hL.1 (mr_17 hL), xi_gi hL.1, w3, nx_b, xi_ai (t := 0) (ms_17 hL) (by omega) (by decide), a4, decide_eq_true e]
    by_cases e2 : A c 9 = q
    · rw [if_pos (by rw [e2]), xi_rz1, decide_eq_true e2]; rfl
    · rw [if_neg (by rw [nI_eq (by omega) (by omega)]; exact e2), xi_rz0, decide_eq_false e2]; rfl
  · rw [if_neg (by rw [nI_eq (by omega) (by omega)]; exact e), xi_rz0, decide_eq_false e]; rfl
/-- the least of a list's first j that F takes -/
def fs_P (l : List Nat) (F : Nat → Bool) (j : Nat) (w : Option Nat) : Prop := match w with
  | none => ∀ i x, i < j → l[i]? = some x → F x = false
  | some v => v < j ∧ ∃ y, l[v]? = some y ∧ F y = true ∧ ∀ i x, i < j → l[i]? = some x → F x = true → y ≤ x
theorem mo_first_lp {p q : Nat} (hL : mo_L M m) (hW : mw_R f m bk n A fr) (hs : s ≤ 16) (ho : o' = nI o) (ho2 : o ≤ 35) (hR : ml_R f (m + 14) (71 * s + o) l) (hv : ∀ x ∈ l, x % 100 < n ∧ A (x % 100) 7 < 3) (hp : p < 100) (hq : q < 100) : ∀ k j w, j ≤ l.length → l.length - j < k → fs_P l (fun x => ag_for A p q (x % 100)) j w → ∃ w', fo_fx (fun _ _ _ => none) (lp_Mo_first_6 m (nI s) o' (nI p) (nI q)) k (mm_wi M f) (fz w) (nI j) = some (fz w', mm_wi M f) ∧ fs_P l (fun x => ag_for A p q (x % 100)) l.length w' := by
  have h8 := hR.2.1
  intro k
  induction k with
  | zero => intro j w _ h; omega
  | succ k ih =>
    intro j w hj hk hw
    rw [fx_s, lp_Mo_first_6, xi_gr hL.1 (mr_19 hL), ho, nx_1, xi_ai (t := 0) (ms_19 hL) (by omega) (by decide), hR.1]
    by_cases h : l.length ≤ j
    · rw [if_pos (nI_le h (by omega))]
      exact ⟨w, rfl, by rw [show l.length = j by omega]; exact hw⟩
    · rw [if_neg (by rw [nI_leI (by omega) (by omega)]; exact h)]
      obtain ⟨x, hx⟩ : ∃ x, l[j]? = some x := ⟨_, List.getElem?_eq_getElem (by omega)⟩
      obtain ⟨hx1, hx2⟩ := hv x (te_mem hx)
      have hx7 := hR.2.2.1 x (te_mem hx)
      rw [mo_clauseAt hL hs rfl ho2 hR hx, xi_cv hL.1, mo_isOf hL hW hx1 hx2 hp hq, xi_cv hL.1, xi_jp, xi_jp]
      subst ho
      have keep : (ag_for A p q (x % 100) = false ∨ ∃ v y, w = some v ∧ l[v]? = some y ∧ y ≤ x) → fs_P l (fun x => ag_for A p q (x % 100)) (j + 1) w := by
        intro hh
        cases w with
        | none =>
          rcases hh with hh | ⟨v, y, hv, -⟩
          · intro i x' hi hx'
            by_cases e : i = j
            · subst e; rw [hx] at hx'; cases hx'; exact hh
            · exact hw i x' (by omega) hx'
          · cases hv
        | some v =>
          obtain ⟨h1, y, h2, h3, h4⟩ := hw
          refine ⟨by omega, y, h2, h3, fun i x' hi hx' hF => ?_⟩
          by_cases e : i = j
          · subst e; rw [hx] at hx'; cases hx'
            rcases hh with hh | ⟨v', y', e1, e2, e3⟩
            · dsimp only at hF; rw [hh] at hF; cases hF
            · cases e1; rw [h2] at e2; cases e2; exact e3
          · exact h4 i x' (by omega) hx' hF
      cases w with
      | none =>
        rw [if_pos (show fz none < 0 by decide)]
        dsimp only
        rw [xi_jp, xi_jp]
        dsimp only
        rw [if_neg (show ¬ (1 : Int32) = 0 by decide)]
        cases hF : ag_for A p q (x % 100) with
        | false =>
          rw [if_pos (bz_f rfl), nI_1]
          exact ih (j + 1) none (by omega) (by omega) (keep (.inl hF))
        | true =>
          rw [if_neg (bz_t rfl), nI_1]
          refine ih (j + 1) (some j) (by omega) (by omega) ⟨by omega, x, hx, hF, fun i x' hi hx' hF' => ?_⟩
          by_cases e : i = j
          · subst e; rw [hx] at hx'; cases hx'; omega
          · have := hw i x' (by omega) hx'; dsimp only at hF' this; rw [this] at hF'; cases hF'
      | some v =>
        obtain ⟨h1, y, h2, h3, h4⟩ := hw
        have hy7 := hR.2.2.1 y (te_mem h2)
        rw [fz_s, if_neg (nI_pos (by omega)), mo_dayAt hL hs rfl ho2 hR hx, xi_cv hL.1, mo_clauseAt hL hs rfl ho2 hR hx, xi_cv hL.1, mo_dayAt hL hs rfl ho2 hR h2, xi_cv hL.1, mo_clauseAt hL hs rfl ho2 hR h2, xi_cv hL.1, nx_k, nx_k, show 100 * (y / 100) + y % 100 = y by omega, show 100 * (x / 100) + x % 100 = x by omega]
        by_cases hyx : y ≤ x
        · rw [if_pos (nI_le hyx (by omega))]
          dsimp only
          rw [xi_jp, xi_jp]
          dsimp only
          rw [if_pos (show (0 : Int32) = 0 from rfl)]
          have hk2 := keep (.inr ⟨v, y, rfl, h2, hyx⟩)
          have := ih (j + 1) (some v) (by omega) (by omega) hk2
          rw [nI_1]
          split <;> exact this
        · rw [if_neg (by rw [nI_leI (by omega) (by omega)]; exact hyx)]
          dsimp only
          rw [xi_jp, xi_jp]
          dsimp only
          rw [if_neg (show ¬ (1 : Int32) = 0 by decide)]
          cases hF : ag_for A p q (x % 100) with
          | false =>
            rw [if_pos (bz_f rfl), nI_1]
            exact ih (j + 1) (some v) (by omega) (by omega) (keep (.inl hF))
          | true =>
            rw [if_neg (bz_t rfl), nI_1]
            refine ih (j + 1) (some j) (by omega) (by omega) ⟨by omega, x, hx, hF, fun i x' hi hx' hF' => ?_⟩
            by_cases e : i = j
            · subst e; rw [hx] at hx'; cases hx'; omega
            · have := h4 i x' (by omega) hx' hF'; omega
theorem fs_bridge {F : Nat → Bool} {k : List Nat} {w : Option Nat} (hS : te_S l) (hp : k.Perm l) (h : fs_P k F k.length w) : (w = none ∧ l.findIdx? F = none) ∨ ∃ v i x, w = some v ∧ l.findIdx? F = some i ∧ k[v]? = some x ∧ l[i]? = some x ∧ F x = true := by
  cases w with
  | none =>
    refine .inl ⟨rfl, ?_⟩
    rw [List.findIdx?_eq_none_iff]
    intro x hx
    obtain ⟨i, hi⟩ := List.getElem?_of_mem (hp.mem_iff.mpr hx)
    exact h i x (te_lt hi) hi
  | some v =>
    obtain ⟨h1, y, h2, h3, h4⟩ := h
    refine .inr ?_
    have hyl : y ∈ l := hp.mem_iff.mp (te_mem h2)
    cases hi : l.findIdx? F with
    | none =>
      rw [List.findIdx?_eq_none_iff] at hi
      have := hi y hyl
      rw [h3] at this; cases this
    | some i =>
      rw [List.findIdx?_eq_some_iff_getElem] at hi
      obtain ⟨g1, g2, g3⟩ := hi
      obtain ⟨j, hj⟩ := List.getElem?_of_mem hyl
      have hz : l[i]? = some l[i] := List.getElem?_eq_getElem g1
      have e1 : y ≤ l[i] := by
        obtain ⟨j2, hj2⟩ := List.getElem?_of_mem (hp.mem_iff.mpr (te_mem hz))
        exact h4 j2 _ (te_lt hj2) hj2 g2
      have e2 : l[i] ≤ y := by
        refine te_S_le hS ?_ hz hj
        by_cases hij : j < i
        · have hjl := te_lt hj
          have q := g3 j hij
          rw [List.getElem?_eq_getElem hjl] at hj
          cases hj
          exact absurd h3 q
        · omega
      have e3 : l[i] = y := by omega
      exact ⟨v, i, y, rfl, rfl, h2, by rw [hz, e3], h3⟩
theorem mo_first {p q : Nat} (hL : mo_L M m) (hW : mw_R f m bk n A fr) (hs : s ≤ 16) (ho : o' = nI o) (ho2 : o ≤ 35) {k : List Nat} (hR : ml_R f (m + 14) (71 * s + o) k) (hS : te_S l) (hkl : k.Perm l) {a : Nat} (ha : a < 3) (hv : tm_V A n a l) (hp : p < 100) (hq : q < 100) : ∃ w, fn_Mo_first (mm_wi M f) m (nI s) o' (nI p) (nI q) = some (fz w, mm_wi M f) ∧ ((w = none ∧ fi_n A p q l = none) ∨ ∃ v i x, w = some v ∧ fi_n A p q l = some i ∧ k[v]? = some x ∧ l[i]? = some x ∧ ag_for A p q (x % 100) = true) := by
  have h8 := hR.2.1
  obtain ⟨w, h1, h2⟩ := mo_first_lp hL hW hs ho ho2 hR (fun x hx => by have := hv x (hkl.mem_iff.mp hx); exact ⟨this.1, by omega⟩) hp hq fo_N 0 none (by omega) (by show _ < 2000; omega) (fun i x hi => by omega)
  exact ⟨w, h1, fs_bridge hS hkl h2⟩
end
