/-! clauses and agreements of the class: a clause is a row of eleven numbers:
trigger (0 start, 1 event, 2 breach, 3 fulfilment, 4 call), its two numbers, condition (0, 1), debtor, creditor, limit, action (0 duty, 1 ban, 2 power, 3 debt, 4 call), its three numbers -/
def tc_n (t : Nat) : Int32 := if t = 0 then 115 else if t = 1 then 101 else if t = 2 then 120 else if t = 3 then 102 else 61
def ac_n (a : Nat) : Int32 := if a = 0 then 33 else if a = 1 then 126 else if a = 2 then 63 else if a = 3 then 36 else 61
def cl_R (f : Nat → Nat → Int32) (q : Nat) (C : Nat → Nat) : Prop :=
  f q 0 = tc_n (C 0) ∧ (C 0 = 1 → f q 1 = nI (C 1) ∧ f q 2 = nI (C 2)) ∧ (C 0 = 2 ∨ C 0 = 3 → f q 3 = nI (C 1)) ∧ f q 4 = nI (C 3) ∧ (C 3 = 1 → f q 5 = nI (C 4) ∧ f q 6 = nI (C 5) ∧ f q 7 = nI (C 6)) ∧ f q 8 = ac_n (C 7) ∧ (C 7 < 3 → f q 9 = nI (C 8) ∧ f q 10 = nI (C 9) ∧ f q 12 = nI (C 10)) ∧ (C 7 = 3 → f q 9 = nI (C 8) ∧ f q 11 = nI (C 9) ∧ f q 12 = nI (C 10) ∧ f q 10 = -1) ∧ (C 7 = 4 → f q 12 = nI (C 8) ∧ f q 9 = -1)
def cl_B (C : Nat → Nat) : Prop :=
  C 0 ≤ 4 ∧ (C 0 = 1 → C 1 < 3 ∧ C 2 < 5) ∧ (C 0 = 2 ∨ C 0 = 3 → C 1 < 10) ∧ C 3 ≤ 1 ∧ (C 3 = 1 → C 4 < 3 ∧ C 5 < 3 ∧ C 6 < 10) ∧ C 7 ≤ 4 ∧ (C 7 < 3 → C 8 < 3 ∧ C 9 < 5 ∧ C 10 < 10) ∧ (C 7 = 3 → C 8 < 3 ∧ C 9 < 3 ∧ C 10 < 10) ∧ (C 7 = 4 → C 8 < 10)
theorem cl_cg {f f' : Nat → Nat → Int32} {q : Nat} {C : Nat → Nat} (h : cl_R f q C) (h0 : f' q = f q) : cl_R f' q C := by
  unfold cl_R at *
  rw [h0]
  exact h
def ag_L (M : Mm) (g : Nat) : Prop := mm_s M g = (1, 0) ∧ mm_r M g 0 = some (g + 1) ∧ mm_s M (g + 1) = (6, 10) ∧ ∀ c, c < 10 → mm_r M (g + 1) c = some (g + 2 + c) ∧ mm_s M (g + 2 + c) = (1, 1)
def ag_R (f : Nat → Nat → Int32) (g n : Nat) (A : Nat → Nat → Nat) : Prop := f g 1 = nI n ∧ n ≤ 10 ∧ ∀ c, c < n → cl_R f (g + 2 + c) (A c) ∧ cl_B (A c)
theorem ag_cg {f f' : Nat → Nat → Int32} {g n : Nat} {A : Nat → Nat → Nat} (h : ag_R f g n A) (h0 : ∀ a, g ≤ a → a < g + 12 → f' a = f a) : ag_R f' g n A := by
  obtain ⟨h1, h2, h3⟩ := h
  exact ⟨by rw [h0 g (by omega) (by omega)]; exact h1, h2, fun c hc => ⟨cl_cg (h3 c hc).1 (h0 _ (by omega) (by omega)), (h3 c hc).2⟩⟩
def ag_ev (A : Nat → Nat → Nat) (p k c : Nat) : Bool := decide (A c 0 = 1) && decide (A c 1 = p) && decide (A c 2 = k)
def ag_on (A : Nat → Nat → Nat) (t k c : Nat) : Bool := decide (A c 0 = t) && decide (A c 1 = k)
def ag_for (A : Nat → Nat → Nat) (p k c : Nat) : Bool := decide (A c 7 < 3) && decide (A c 8 = p) && decide (A c 9 = k)
def bz (b : Bool) : Int32 := if b = true then 1 else 0
theorem bz_01 (b : Bool) : bz b = 0 ∨ bz b = 1 := by cases b <;> simp [bz]
theorem bz_0 {b : Bool} : bz b = 0 ↔ b = false := by cases b <;> simp [bz]
section
variable {M : Mm} {f : Nat → Nat → Int32} {q g n : Nat} {A : Nat → Nat → Nat}
theorem cl_isOnEvent {c p k : Nat} (hL : mm_s M q = (1, 1)) (hR : cl_R f q (A c)) (hB : cl_B (A c)) (hp : p < 100) (hk : k < 100) : fn_Cl_isOnEvent (mm_wi M f) q (nI p) (nI k) = some (bz (ag_ev A p k c), mm_wi M f) := by
  obtain ⟨h1, h2, -⟩ := hR
  obtain ⟨b1, b2, -⟩ := hB
  rw [fn_Cl_isOnEvent, xi_gi hL, h1]
  by_cases e : A c 0 = 1
  · have h3 := h2 e
    have h4 := b2 e
    rw [if_pos (by rw [e]; rfl), xi_gi hL, h3.1]
    by_cases e1 : A c 1 = p
    · rw [if_pos (by rw [e1]), xi_gi hL, h3.2]
      by_cases e2 : A c 2 = k
      · rw [if_pos (by rw [e2]), xi_rz1]; simp [ag_ev, bz, e, e1, e2]
      · rw [if_neg (by rw [nI_eq (by omega) (by omega)]; exact e2), xi_rz0]; simp [ag_ev, bz, e, e1, e2]
    · rw [if_neg (by rw [nI_eq (by omega) (by omega)]; exact e1), xi_rz0]; simp [ag_ev, bz, e, e1]
  · rw [if_neg (by unfold tc_n; (repeat' split) <;> first | decide | omega), xi_rz0]; simp [ag_ev, bz, e]
theorem cl_isOn {c t k : Nat} (hL : mm_s M q = (1, 1)) (hR : cl_R f q (A c)) (hB : cl_B (A c)) (ht : t = 2 ∨ t = 3) (hk : k < 100) : fn_Cl_isOn (mm_wi M f) q (tc_n t) (nI k) = some (bz (ag_on A t k c), mm_wi M f) := by
  obtain ⟨h1, -, h2, -⟩ := hR
  obtain ⟨b1, -, b2, -⟩ := hB
  rw [fn_Cl_isOn, xi_gi hL, h1]
  by_cases e : A c 0 = t
  · have h3 := h2 (by omega)
    have h4 := b2 (by omega)
    rw [if_pos (by rw [e]), xi_gi hL, h3]
    by_cases e1 : A c 1 = k
    · rw [if_pos (by rw [e1]), xi_rz1]; simp [ag_on, bz, e, e1]
    · rw [if_neg (by rw [nI_eq (by omega) (by omega)]; exact e1), xi_rz0]; simp [ag_on, bz, e1]
  · rw [if_neg (by rcases ht with rfl | rfl <;> unfold tc_n <;> (repeat' split) <;> first | decide | omega), xi_rz0]; simp [ag_on, bz, e]
theorem cl_isFor {c p k : Nat} (hL : mm_s M q = (1, 1)) (hR : cl_R f q (A c)) (hB : cl_B (A c)) (hp : p < 100) (hk : k < 100) : fn_Cl_isFor (mm_wi M f) q (nI p) (nI k) = some (bz (ag_for A p k c), mm_wi M f) := by
  obtain ⟨-, -, -, -, -, -, h1, h2, h3⟩ := hR
  obtain ⟨-, -, -, -, -, b1, b2, b3, b4⟩ := hB
  have hm1 : ∀ x : Nat, x < 100 → ¬ (-1 : Int32) = nI x := by
    intro x hx
    have : ∀ x : Nat, x < 100 → ¬ (-1 : Int32) = nI x := by decide +kernel
    exact this x hx
  rw [fn_Cl_isFor, xi_gi hL]
  by_cases e : A c 7 < 3
  · obtain ⟨i1, i2, i3⟩ := h1 e
    have j1 := b2 e
    rw [i1]
    by_cases e1 : A c 8 = p
    · rw [if_pos (by rw [e1]), xi_gi hL, i2]
      by_cases e2 : A c 9 = k
      · rw [if_pos (by rw [e2]), xi_rz1]; simp [ag_for, bz, e, e1, e2]
      · rw [if_neg (by rw [nI_eq (by omega) (by omega)]; exact e2), xi_rz0]; simp [ag_for, bz, e2]
    · rw [if_neg (by rw [nI_eq (by omega) (by omega)]; exact e1), xi_rz0]; simp [ag_for, bz, e1]
  · have hz : bz (ag_for A p k c) = 0 := by simp [ag_for, bz, e]
    rw [hz]
    by_cases e3 : A c 7 = 3
    · obtain ⟨i1, i2, i3, i4⟩ := h2 e3
      by_cases e1 : f q 9 = nI p
      · rw [if_pos e1, xi_gi hL, i4, if_neg (hm1 k hk), xi_rz0]
      · rw [if_neg e1, xi_rz0]
    · obtain ⟨i1, i2⟩ := h3 (by omega)
      rw [i2, if_neg (hm1 p hp), xi_rz0]
def sp_hold (A : Nat → Nat → Nat) (c : Nat) (s : Sp) : Bool := decide (A c 3 = 0) || !decide (sp_o s (3 * A c 4 + A c 5) ≤ nI (A c 6))
theorem cl_holds {c p : Nat} {s : Sp} (hL : mm_s M q = (1, 1)) (hR : cl_R f q (A c)) (hB : cl_B (A c)) (hL2 : st_L M p) (hR2 : st_R f p s) : fn_Cl_holds (mm_wi M f) q p = some (bz (sp_hold A c s), mm_wi M f) := by
  obtain ⟨-, -, -, h1, h2, -⟩ := hR
  obtain ⟨-, -, -, b1, b2, -⟩ := hB
  rw [fn_Cl_holds, xi_gi hL, h1]
  by_cases e : A c 3 = 0
  · rw [if_pos (by rw [e]; rfl), xi_rz1]; simp [sp_hold, bz, e]
  · obtain ⟨i1, i2, i3⟩ := h2 (by omega)
    obtain ⟨j1, j2, j3⟩ := b2 (by omega)
    rw [if_neg (nI_ne0 (by omega) (by omega)), xi_gi hL, xi_gi hL, i1, i2, st_debtOf hL2 hR2 j1 j2, xi_cv hL2.1, xi_gi hL, i3]
    by_cases e2 : sp_o s (3 * A c 4 + A c 5) ≤ nI (A c 6)
    · rw [if_pos e2, xi_rz0]; simp [sp_hold, bz, e, e2]
    · rw [if_neg e2, xi_rz1]; simp [sp_hold, bz, e, e2]
/-- a place, or -1 -/
def fz (o : Option Nat) : Int32 := match o with | some i => nI i | none => -1
theorem ag_cl {c : Nat} (hL : ag_L M g) (hR : ag_R f g n A) (hc : c < n) : mm_r M (g + 1) c = some (g + 2 + c) ∧ mm_s M (g + 2 + c) = (1, 1) := hL.2.2.2 c (by have := hR.2.1; omega)
theorem ag_find_lp {l : List Nat} {p k : Nat} (hL : ag_L M g) (hR : ag_R f g n A) (hL2 : te_L M q) (hR2 : te_R f q l) (hv : ∀ x ∈ l, x % 100 < n) (hp : p < 100) (hk : k < 100) : ∀ m i, i ≤ l.length → l.length - i < m → fo_fx (fun _ _ => none) (lp_Ag_find_3 g q (nI p) (nI k)) m (mm_wi M f) (nI i) = some (fz (((l.drop i).findIdx? (fun x => ag_for A p k (x % 100))).map (· + i)), mm_wi M f) := by
  have h8 := hR2.2.1
  have h10 := hR.2.1
  intro m
  induction m with
  | zero => intro i _ h; omega
  | succ m ih =>
    intro i hil hm
    rw [fx_s, lp_Ag_find_3, xi_gi hL2.1, hR2.1]
    by_cases hi : l.length ≤ i
    · rw [if_pos (nI_le hi (by omega)), List.drop_eq_nil_of_le hi]
      rfl
    · rw [if_neg (by rw [nI_leI (by omega) (by omega)]; exact hi)]
      obtain ⟨x, hx⟩ : ∃ x, l[i]? = some x := ⟨_, List.getElem?_eq_getElem (by omega)⟩
      have hxn := hv x (te_mem hx)
      obtain ⟨r1, r2⟩ := ag_cl hL hR hxn
      rw [xi_gr hL.1 hL.2.1, te_clauseAt hL2 hR2 hx, xi_cv hL2.1, xi_ar (t := 4) hL.2.2.1 (by omega) (by decide) r1, cl_isFor r2 (hR.2.2 _ hxn).1 (hR.2.2 _ hxn).2 hp hk, xi_cv r2, te_drop hx, List.findIdx?_cons]
      cases hb : ag_for A p k (x % 100) with
      | true =>
        rw [if_neg (by simp [bz])]
        simp [fz]
      | false =>
        rw [if_pos (by simp [bz]), nI_1, ih (i + 1) (by omega) (by omega)]
        congr 3
        simp only [Bool.false_eq_true, if_false, Option.map_map]
        congr 1
        funext y
        simp; omega
theorem ag_find {l : List Nat} {p k : Nat} (hL : ag_L M g) (hR : ag_R f g n A) (hL2 : te_L M q) (hR2 : te_R f q l) (hv : ∀ x ∈ l, x % 100 < n) (hp : p < 100) (hk : k < 100) : fn_Ag_find (mm_wi M f) g q (nI p) (nI k) = some (fz (l.findIdx? (fun x => ag_for A p k (x % 100))), mm_wi M f) := by
  have h8 := hR2.2.1
  have h := ag_find_lp hL hR hL2 hR2 hv hp hk fo_N 0 (by omega) (by show _ < 2000; omega)
  rw [List.drop_zero] at h
  have e : ∀ o : Option Nat, o.map (· + 0) = o := fun o => by cases o <;> rfl
  rw [e] at h
  exact h
end
