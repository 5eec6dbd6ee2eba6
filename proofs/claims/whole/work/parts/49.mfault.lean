/-! chains of calls; the reference's faults -/
theorem pg_n : ∀ (n : Nat) (g : Nat → Nat), (∀ i, i ≤ n → g i < n) → ∃ i j, i < j ∧ j ≤ n ∧ g i = g j := by
  intro n
  induction n with
  | zero => intro g h; exact absurd (h 0 (by omega)) (by omega)
  | succ n ih =>
    intro g h
    by_cases hv : ∃ i, i ≤ n ∧ g i = g (n + 1)
    · obtain ⟨i, hi, e⟩ := hv
      exact ⟨i, n + 1, by omega, by omega, e⟩
    · have hv' : ∀ i, i ≤ n → g i ≠ g (n + 1) := fun i hi e => hv ⟨i, hi, e⟩
      have hb := h (n + 1) (by omega)
      obtain ⟨i, j, h1, h2, h3⟩ := ih (fun i => if g i = n then g (n + 1) else g i) (by
        intro i hi
        have a1 := h i (by omega)
        have a2 := hv' i hi
        by_cases e : g i = n
        · rw [if_pos e]; omega
        · rw [if_neg e]; omega)
      refine ⟨i, j, h1, by omega, ?_⟩
      have a1 := hv' i (by omega)
      have a2 := hv' j (by omega)
      by_cases e1 : g i = n
      · by_cases e2 : g j = n
        · omega
        · rw [if_pos e1, if_neg e2] at h3; omega
      · by_cases e2 : g j = n
        · rw [if_neg e1, if_pos e2] at h3; omega
        · rw [if_neg e1, if_neg e2] at h3; exact h3
def it_n (A : Nat → Nat → Nat) (x : Nat) : Nat → Nat
  | 0 => x
  | i + 1 => A (it_n A x i) 8
section
variable {A : Nat → Nat → Nat} {n c : Nat}
theorem it_s (x i : Nat) : it_n A x (i + 1) = it_n A (A x 8) i := by
  induction i with
  | zero => rfl
  | succ i ih => show A (it_n A x (i + 1)) 8 = A (it_n A (A x 8) i) 8; rw [ih]
theorem it_add (x i j : Nat) : it_n A x (i + j) = it_n A (it_n A x i) j := by
  induction j with
  | zero => rfl
  | succ j ih => show A (it_n A x (i + j)) 8 = A (it_n A (it_n A x i) j) 8; rw [ih]
def al_n (A : Nat → Nat → Nat) (x k : Nat) : Prop := ∀ i, i < k → A (it_n A x i) 7 = 4
theorem lr_iff : ∀ m x, lr_n A c m x = true ↔ ∃ k, 1 ≤ k ∧ k ≤ m ∧ al_n A x k ∧ it_n A x k = c := by
  intro m
  induction m with
  | zero => intro x; exact ⟨fun h => (by cases h), fun ⟨k, h1, h2, _⟩ => by omega⟩
  | succ m ih =>
    intro x
    rw [lr_n]
    by_cases e : A x 7 = 4
    · rw [if_pos e]
      by_cases e2 : A x 8 = c
      · rw [if_pos e2]
        exact ⟨fun _ => ⟨1, by omega, by omega, fun i hi => by rw [show i = 0 by omega]; exact e, e2⟩, fun _ => rfl⟩
      · rw [if_neg e2, ih]
        constructor
        · rintro ⟨k, h1, h2, h3, h4⟩
          refine ⟨k + 1, by omega, by omega, fun i hi => ?_, by rw [it_s]; exact h4⟩
          cases i with
          | zero => exact e
          | succ i => rw [it_s]; exact h3 i (by omega)
        · rintro ⟨k, h1, h2, h3, h4⟩
          obtain ⟨k', rfl⟩ : ∃ k', k = k' + 1 := ⟨k - 1, by omega⟩
          rw [it_s] at h4
          refine ⟨k', ?_, by omega, fun i hi => by rw [← it_s]; exact h3 (i + 1) (by omega), h4⟩
          rcases Nat.eq_zero_or_pos k' with hz | hz
          · subst hz; exact absurd h4 e2
          · exact hz
    · rw [if_neg e]
      exact ⟨fun h => (by cases h), fun ⟨k, h1, _, h3, _⟩ => absurd (h3 0 (by omega)) e⟩
theorem it_lt (hr : ∀ x, x < n → A x 7 = 4 → A x 8 < n) {x : Nat} (hx : x < n) : ∀ k, al_n A x k → ∀ i, i ≤ k → it_n A x i < n := by
  intro k ha i
  induction i with
  | zero => intro _; exact hx
  | succ i ih => intro hi; exact hr _ (ih (by omega)) (ha i (by omega))
theorem lr_down (hr : ∀ x, x < n → A x 7 = 4 → A x 8 < n) (hc : c < n) : ∀ k, 1 ≤ k → al_n A c k → it_n A c k = c → ∃ k', 1 ≤ k' ∧ k' ≤ n ∧ al_n A c k' ∧ it_n A c k' = c := by
  intro k
  induction k using Nat.strongRecOn with
  | _ k ih =>
    intro h1 ha hk
    by_cases hn : k ≤ n
    · exact ⟨k, h1, hn, ha, hk⟩
    · obtain ⟨i, j, hij, hj, e⟩ := pg_n n (it_n A c) (fun i hi => it_lt hr hc k ha i (by omega))
      refine ih (k - (j - i)) (by omega) (by omega) (fun x hx => ha x (by omega)) ?_
      rw [show k - (j - i) = i + (k - j) by omega, it_add, e, ← it_add, show j + (k - j) = k by omega]
      exact hk
theorem lr_10 (hr : ∀ x, x < n → A x 7 = 4 → A x 8 < n) (hc : c < n) (hn : n ≤ 10) : lr_n A c 10 c = lr_n A c n c := by
  rw [Bool.eq_iff_iff, lr_iff, lr_iff]
  constructor
  · rintro ⟨k, h1, h2, h3, h4⟩
    exact lr_down hr hc k h1 h3 h4
  · rintro ⟨k, h1, h2, h3, h4⟩
    exact ⟨k, h1, by omega, h3, h4⟩
def ln_n (A : Nat → Nat → Nat) : Nat → Nat → Nat
  | 0, _ => 1
  | m + 1, x => if A x 7 = 4 then 1 + ln_n A m (A x 8) else 1
theorem ln_le : ∀ m x, 1 ≤ ln_n A m x ∧ ln_n A m x ≤ m + 1 := by
  intro m
  induction m with
  | zero => intro x; exact ⟨Nat.le_refl 1, Nat.le_refl 1⟩
  | succ m ih =>
    intro x
    rw [ln_n]
    have := ih (A x 8)
    split <;> omega
theorem ln_st : ∀ m x i, i ≤ m → A (it_n A x i) 7 ≠ 4 → ln_n A (m + 1) x = ln_n A m x := by
  intro m
  induction m with
  | zero =>
    intro x i hi h
    have : i = 0 := by omega
    subst this
    exact if_neg h
  | succ m ih =>
    intro x i hi h
    by_cases e : A x 7 = 4
    · cases i with
      | zero => exact absurd e h
      | succ i =>
        rw [it_s] at h
        rw [ln_n, if_pos e, ih (A x 8) i (by omega) h]
        rw [ln_n, if_pos e]
    · rw [ln_n, if_neg e, ln_n, if_neg e]
theorem no_al (hr : ∀ x, x < n → A x 7 = 4 → A x 8 < n) (hl : ∀ c, c < n → lr_n A c n c = false) {x : Nat} (hx : x < n) : ∃ i, i < n ∧ A (it_n A x i) 7 ≠ 4 := by
  by_cases h : al_n A x n
  · exfalso
    have hb := it_lt hr hx n h
    obtain ⟨i, j, hij, hj, e⟩ := pg_n n (it_n A x) hb
    have h1 := hl _ (hb i (by omega))
    have h2 : lr_n A (it_n A x i) n (it_n A x i) = true := by
      rw [lr_iff]
      refine ⟨j - i, by omega, by omega, fun y hy => by rw [← it_add]; exact h _ (by omega), ?_⟩
      rw [← it_add, show i + (j - i) = j by omega, e]
    rw [h1] at h2; cases h2
  · unfold al_n at h
    refine Classical.byContradiction fun hh => h fun i hi => Classical.byContradiction fun h4 => hh ⟨i, hi, h4⟩
theorem dp_ex (hn : n ≤ 10) (hr : ∀ x, x < n → A x 7 = 4 → A x 8 < n) (hl : ∀ c, c < n → lr_n A c n c = false) : dp_W n A (ln_n A 9) := by
  intro c hc
  have h1 := ln_le (A := A) 9 c
  refine ⟨h1.1, h1.2, fun e => ⟨hr c hc e, ?_⟩⟩
  obtain ⟨i, hi, h⟩ := no_al hr hl hc
  cases i with
  | zero => exact absurd e h
  | succ i =>
    rw [it_s] at h
    have h2 := ln_st 8 (A c 8) i (by omega) h
    rw [show ln_n A 9 c = 1 + ln_n A 8 (A c 8) by rw [ln_n, if_pos e]]
    rw [h2]; omega
theorem ft_none (h : ft_n A n = none) : (∀ c, c < n → rr_n A n c = true) ∧ ∀ c, c < n → lr_n A c n c = false := by
  unfold ft_n at h
  cases h1 : (List.range n).find? (fun c => !rr_n A n c) with
  | some c => rw [h1] at h; cases h
  | none =>
    rw [h1] at h
    cases h2 : (List.range n).find? (fun c => lr_n A c n c) with
    | some c => rw [h2] at h; cases h
    | none =>
      rw [List.find?_eq_none] at h1 h2
      refine ⟨fun c hc => ?_, fun c hc => ?_⟩
      · have := h1 c (by simpa using hc); simpa using this
      · have := h2 c (by simpa using hc); simpa using this
theorem rr_r (h : ∀ c, c < n → rr_n A n c = true) : ∀ x, x < n → A x 7 = 4 → A x 8 < n := by
  intro x hx e
  have h1 := h x hx
  unfold rr_n at h1
  by_cases hh : n ≤ A x 8
  · rw [if_pos ⟨e, hh⟩] at h1; cases h1
  · omega
theorem ft_dp (hn : n ≤ 10) (h : ft_n A n = none) : ∃ dp, dp_W n A dp := ⟨_, dp_ex hn (rr_r (ft_none h).1) (ft_none h).2⟩
end
section
variable {M : Mm} {f : Nat → Nat → Int32} {m B n : Nat} {A : Nat → Nat → Nat}
theorem mo_round {c : Nat} (hL : mo_L M m) (hB : B ≤ 10) (hn : n ≤ 10) (hA : ∀ c, c < n → mc_R f m (B + c) (A c) ∧ cl_B (A c)) (hc : c < n) (hr : ∀ x, x < n → A x 7 = 4 → A x 8 < n) : fn_Mo_goesRound (mm_wi M f) m (nI B) (nI c) = some (bz (lr_n A c n c), mm_wi M f) := by
  rw [fn_Mo_goesRound, li_0, ← lr_10 hr hc hn]
  exact mo_round_lp hL hB hn hA hc hr fo_N 0 c (by omega) (by decide) hc
theorem rf_m : ∀ x, x < 10 → nI x - nI x / 10 * 10 = nI x := by decide +kernel
theorem rf_2 : ∀ x, x < 5 → (3 - nI 2 < nI x ↔ 1 < x) := by decide +kernel
theorem rf_3 : ∀ x, x < 5 → (3 - nI 3 < nI x ↔ 0 < x) := by decide +kernel
theorem mo_refers {c : Nat} (hL : mo_L M m) (hB : B ≤ 10) (hn : n ≤ 10) (hA : ∀ c, c < n → mc_R f m (B + c) (A c) ∧ cl_B (A c)) (hc : c < n) : fn_Mo_refersWell (mm_wi M f) m (nI B) (nI c) (nI n) = some (bz (rr_n A n c), mm_wi M f) := by
  obtain ⟨⟨⟨g1, g2, g3⟩, hb, ⟨a1, a2, a3⟩⟩, hB1⟩ := hA c hc
  have hk : (fo_gr (mm_wi M f) 9 m 15 fun a70 => fo_ai (mm_wi M f) 0 a70 (nI (B + c)) fun v76 => if v76 = 4 then fo_gr (mm_wi M f) 9 m 16 fun a82 => fo_ai (mm_wi M f) 0 a82 (nI (B + c)) fun v88 => if nI n ≤ v88 then fo_rz 0 (mm_wi M f) else fo_rz 1 (mm_wi M f) else fo_rz 1 (mm_wi M f)) = some (bz (!decide (A c 7 = 4 ∧ n ≤ A c 8)), mm_wi M f) := by
    rw [xi_gr hL.1 (mr_15 hL), xi_ai (t := 0) (ms_15 hL) (by omega) (by decide), a1]
    have h7 := hB1.2.2.2.2.2.1
    by_cases e : A c 7 = 4
    · have h8 := hB1.2.2.2.2.2.2.2.2 e
      rw [e, if_pos (show nI 4 = 4 from rfl), xi_gr hL.1 (mr_16 hL), xi_ai (t := 0) (ms_16 hL) (by omega) (by decide), a2]
      by_cases e2 : n ≤ A c 8
      · rw [if_pos (nI_le e2 (by omega)), xi_rz0, show decide (4 = 4 ∧ n ≤ A c 8) = true from decide_eq_true ⟨rfl, e2⟩]; rfl
      · rw [if_neg (by rw [nI_leI (by omega) (by omega)]; exact e2), xi_rz1, show decide (4 = 4 ∧ n ≤ A c 8) = false from decide_eq_false fun h => e2 h.2]; rfl
    · rw [if_neg (show ¬ nI (A c 7) = 4 from fun hh => e ((nI_eq (b := 4) (by omega) (by omega)).mp hh)), xi_rz1, show decide (A c 7 = 4 ∧ n ≤ A c 8) = false from decide_eq_false fun h => e h.1]; rfl
  have h0 := hB1.1
  rw [fn_Mo_refersWell, xi_gr hL.1 (mr_8 hL), nI_add, xi_ai (t := 0) (ms_8 hL) (by omega) (by decide), g1, xi_gr hL.1 (mr_9 hL), xi_ai (t := 0) (ms_9 hL) (by omega) (by decide), xi_jp, xi_jp]
  dsimp only
  rw [if_neg (show ¬ (1 : Int32) = 0 by decide), hk, if_pos (show (0 : Int32) = 0 from rfl), xi_rz0]
  unfold rr_n
  by_cases e4 : A c 7 = 4 ∧ n ≤ A c 8
  · rw [if_pos e4, show decide (A c 7 = 4 ∧ n ≤ A c 8) = true from decide_eq_true e4]
    have z : bz (!true) = 0 := rfl
    rw [z]
    split
    · rfl
    · split
      · rfl
      · rename_i q1 q2
        have e23 : A c 0 = 2 ∨ A c 0 = 3 := by
          rw [show (2 : Int32) = nI 2 from rfl, nI_ltI (by omega) (by omega)] at q1
          rw [show (3 : Int32) = nI 3 from rfl, nI_ltI (by omega) (by omega)] at q2
          omega
        rw [g2 (by omega), xi_jp]
        have hx1 := hB1.2.2.1 e23
        by_cases e1 : n ≤ A c 1
        · rw [if_pos (nI_le e1 (by omega))]; rfl
        · obtain ⟨⟨-, -, ⟨b1, -, -⟩⟩, -⟩ := hA (A c 1) (by omega)
          rw [if_neg (by rw [nI_leI (by omega) (by omega)]; exact e1), rf_m _ hx1, xi_gr hL.1 (mr_15 hL), nI_add, xi_ai (t := 0) (ms_15 hL) (by omega) (by decide)]
          split <;> rfl
  · rw [if_neg e4, show decide (A c 7 = 4 ∧ n ≤ A c 8) = false from decide_eq_false e4]
    have z : bz (!false) = 1 := rfl
    rw [z]
    by_cases e23 : A c 0 = 2 ∨ A c 0 = 3
    · rw [if_pos e23, if_neg (show ¬ nI (A c 0) < 2 by rw [show (2 : Int32) = nI 2 from rfl, nI_ltI (by omega) (by omega)]; omega), if_neg (show ¬ 3 < nI (A c 0) by rw [show (3 : Int32) = nI 3 from rfl, nI_ltI (by omega) (by omega)]; omega)]
      have hx1 := hB1.2.2.1 e23
      rw [g2 (by omega), xi_jp]
      by_cases e1 : n ≤ A c 1
      · rw [if_pos (nI_le e1 (by omega)), if_neg (by omega)]; rfl
      · obtain ⟨⟨-, -, ⟨b1, -, -⟩⟩, hb1⟩ := hA (A c 1) (by omega)
        have hb7 := hb1.2.2.2.2.2.1
        rw [if_neg (by rw [nI_leI (by omega) (by omega)]; exact e1), rf_m _ hx1, xi_gr hL.1 (mr_15 hL), nI_add, xi_ai (t := 0) (ms_15 hL) (by omega) (by decide), b1, if_pos (show A c 1 < n by omega)]
        rcases e23 with e | e
        · rw [e]
          by_cases q : 1 < A (A c 1) 7
          · rw [if_pos ((rf_2 _ (by omega)).mpr q)]
            rw [decide_eq_false (show ¬ A (A c 1) 7 = 0 by omega), decide_eq_false (show ¬ A (A c 1) 7 = 1 by omega)]; rfl
          · rw [if_neg fun h => q ((rf_2 _ (by omega)).mp h)]
            by_cases q0 : A (A c 1) 7 = 0
            · rw [decide_eq_true q0]; rfl
            · rw [decide_eq_true (show A (A c 1) 7 = 1 by omega), decide_eq_false q0]; rfl
        · rw [e]
          by_cases q : 0 < A (A c 1) 7
          · rw [if_pos ((rf_3 _ (by omega)).mpr q)]
            rw [decide_eq_false (show ¬ A (A c 1) 7 = 0 by omega), show decide (3 = 2) = false from rfl, Bool.and_false]; rfl
          · rw [if_neg fun h => q ((rf_3 _ (by omega)).mp h)]
            rw [decide_eq_true (show A (A c 1) 7 = 0 by omega)]; rfl
    · rw [if_neg e23]
      by_cases q : A c 0 < 2
      · rw [if_pos (show nI (A c 0) < 2 from nI_lt (b := 2) q (by omega))]; rfl
      · rw [if_neg (show ¬ nI (A c 0) < 2 by rw [show (2 : Int32) = nI 2 from rfl, nI_ltI (by omega) (by omega)]; omega), if_pos (show 3 < nI (A c 0) from nI_lt (a := 3) (by omega) (by omega))]; rfl
theorem mo_fault2 (hL : mo_L M m) (hB : B ≤ 10) (hn : n ≤ 10) (hA : ∀ c, c < n → mc_R f m (B + c) (A c) ∧ cl_B (A c)) (hr : ∀ x, x < n → A x 7 = 4 → A x 8 < n) : ∀ k i, i ≤ n → n - i < k → fo_fx (fun _ _ => none) (lp_Mo_faultOf_39 m (nI B) (nI n)) k (mm_wi M f) (nI i) = some (fz ((((List.range n).drop i).find? (fun c => lr_n A c n c)).map (fun c => 300 + c)), mm_wi M f) := by
  intro k
  induction k with
  | zero => intro i _ h; omega
  | succ k ih =>
    intro i hi hk
    rw [fx_s, lp_Mo_faultOf_39]
    by_cases h : n ≤ i
    · rw [if_pos (nI_le h (by omega)), rg_end h]; rfl
    · rw [if_neg (by rw [nI_leI (by omega) (by omega)]; exact h), mo_round hL hB hn hA (by omega) hr, xi_cv hL.1, rg_drop (by omega), List.find?_cons]
      cases e : lr_n A i n i with
      | false => rw [if_pos (bz_f rfl), nI_1, ih (i + 1) (by omega) (by omega)]
      | true => rw [if_neg (bz_t rfl), show 300 + nI i = nI (300 + i) from nI_add 300 i]; rfl
theorem mo_fault1 (hL : mo_L M m) (hB : B ≤ 10) (hn : n ≤ 10) (hA : ∀ c, c < n → mc_R f m (B + c) (A c) ∧ cl_B (A c)) : ∀ k i, i ≤ n → n - i < k → (∀ x, x < i → rr_n A n x = true) → fo_fx (fun _ _ => none) (lp_Mo_faultOf_10 m (nI B) (nI n)) k (mm_wi M f) (nI i) = some (fz (match ((List.range n).drop i).find? (fun c => !rr_n A n c) with | some c => some (200 + c) | none => ((List.range n).find? (fun c => lr_n A c n c)).map (fun c => 300 + c)), mm_wi M f) := by
  intro k
  induction k with
  | zero => intro i _ h; omega
  | succ k ih =>
    intro i hi hk hp
    rw [fx_s, lp_Mo_faultOf_10]
    by_cases h : n ≤ i
    · rw [if_pos (nI_le h (by omega)), rg_end h]
      have e : i = n := by omega
      subst e
      have := mo_fault2 hL hB hn hA (rr_r hp) fo_N 0 (by omega) (by show _ < 2000; omega)
      rw [li_0, this]; rfl
    · rw [if_neg (by rw [nI_leI (by omega) (by omega)]; exact h), mo_refers hL hB hn hA (by omega), xi_cv hL.1, rg_drop (by omega), List.find?_cons]
      cases e : rr_n A n i with
      | false => rw [if_pos (bz_f rfl), show 200 + nI i = nI (200 + i) from nI_add 200 i]; rfl
      | true =>
        rw [if_neg (bz_t rfl), nI_1, ih (i + 1) (by omega) (by omega) (fun x hx => ?_)]
        · rfl
        · by_cases hxi : x = i
          · rw [hxi]; exact e
          · exact hp x (by omega)
theorem mv_b : ∀ e, e < 1000 → (-1) - mv_e e = nI e := by decide +kernel
theorem mo_faultOf (hL : mo_L M m) (hB : B ≤ 10) {o : Nat ⊕ (Nat × (Nat → Nat → Nat))} (he : ∀ e, o = .inl e → e < 1000) (hA : ∀ n A, o = .inr (n, A) → n ≤ 10 ∧ ∀ c, c < n → mc_R f m (B + c) (A c) ∧ cl_B (A c)) : fn_Mo_faultOf (mm_wi M f) m (nI B) (rv_n o) = some (ra_v o, mm_wi M f) := by
  rw [fn_Mo_faultOf]
  cases o with
  | inl e =>
    have := he e rfl
    rw [show rv_n (.inl e) = mv_e e from rfl, if_neg (mv_nle this), mv_b e this]; rfl
  | inr y =>
    obtain ⟨n, A⟩ := y
    obtain ⟨hn, h⟩ := hA n A rfl
    rw [show rv_n (.inr (n, A)) = nI n from rfl, if_pos (nI_pos' (by omega)), li_0, mo_fault1 hL hB hn h fo_N 0 (by omega) (by show _ < 2000; omega) (fun x hx => by omega)]
    rfl
end
