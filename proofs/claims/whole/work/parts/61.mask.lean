/-! the reference's answers: duty -/
section
variable {k l : List Nat}
def rk_n (v w : Nat) : List Nat → Nat → Nat
  | [], _ => 0
  | x :: l, i => (if x < v ∨ (x = v ∧ i < w) then 1 else 0) + rk_n v w l (i + 1)
theorem rk_eq (v w : Nat) : ∀ (l : List Nat) (i : Nat), rk_n v w l i = l.countP (fun x => decide (x < v)) + (l.take (w - i)).count v := by
  intro l
  induction l with
  | nil => intro i; simp [rk_n]
  | cons x l ih =>
    intro i
    rw [rk_n, ih, List.countP_cons]
    by_cases h1 : x < v
    · have h2 : (x == v) = false := by simp; omega
      rw [if_pos (.inl h1), if_pos (by simpa using h1)]
      by_cases hw : i < w
      · rw [show w - i = (w - (i + 1)) + 1 by omega, List.take_succ_cons, List.count_cons, h2]
        simp; omega
      · rw [show w - i = 0 by omega, show w - (i + 1) = 0 by omega]; simp; omega
    · rw [if_neg (show ¬ decide (x < v) = true by simpa using h1)]
      by_cases h3 : x = v
      · by_cases hw : i < w
        · rw [if_pos (.inr ⟨h3, hw⟩), show w - i = (w - (i + 1)) + 1 by omega, List.take_succ_cons, List.count_cons, show (x == v) = true by simpa using h3]
          simp; omega
        · rw [if_neg (by omega), show w - i = 0 by omega, show w - (i + 1) = 0 by omega]; simp
      · have h2 : (x == v) = false := by simpa using h3
        rw [if_neg (by omega)]
        by_cases hw : i < w
        · rw [show w - i = (w - (i + 1)) + 1 by omega, List.take_succ_cons, List.count_cons, h2]; simp
        · rw [show w - i = 0 by omega, show w - (i + 1) = 0 by omega]; simp
theorem so_at (hS : te_S l) {v r : Nat} : (l.countP (fun x => decide (x < v)) ≤ r ∧ r < l.countP (fun x => decide (x < v)) + l.count v) ↔ l[r]? = some v := by
  induction l generalizing r with
  | nil => simp
  | cons x l ih =>
    obtain ⟨h1, h2⟩ := List.pairwise_cons.mp hS
    rw [List.countP_cons, List.count_cons]
    by_cases hx : x < v
    · have h3 : (x == v) = false := by simp; omega
      rw [if_pos (by simpa using hx), h3]
      cases r with
      | zero => simp; omega
      | succ r =>
        rw [List.getElem?_cons_succ, ← ih h2]
        simp; omega
    · have h0 : l.countP (fun x => decide (x < v)) = 0 := by
        rw [List.countP_eq_zero]
        intro y hy
        have := h1 y hy
        simp; omega
      have ih' := fun r => ih h2 (r := r)
      rw [h0] at ih' ⊢
      rw [if_neg (by simpa using hx)]
      by_cases h3 : x = v
      · rw [show (x == v) = true by simpa using h3]
        cases r with
        | zero => simp; exact h3
        | succ r =>
          rw [List.getElem?_cons_succ, ← ih' r]
          simp
      · have h4 : l.count v = 0 := by
          rw [List.count_eq_zero]
          intro hm
          have := h1 v hm
          omega
        rw [show (x == v) = false by simpa using h3, h4]
        cases r with
        | zero => simp; exact h3
        | succ r =>
          rw [List.getElem?_cons_succ, ← ih' r, h4]
          simp
theorem oc_at (v : Nat) : ∀ (k : List Nat) (t : Nat), t < k.count v → ∃ j, k[j]? = some v ∧ (k.take j).count v = t := by
  intro k
  induction k with
  | nil => intro t h; simp at h
  | cons x k ih =>
    intro t h
    rw [List.count_cons] at h
    by_cases hx : x = v
    · rw [show (x == v) = true by simpa using hx] at h
      cases t with
      | zero => exact ⟨0, by rw [hx]; rfl, by simp⟩
      | succ t =>
        simp at h
        obtain ⟨j, h1, h2⟩ := ih t h
        exact ⟨j + 1, by rw [List.getElem?_cons_succ]; exact h1, by rw [List.take_succ_cons, List.count_cons, show (x == v) = true by simpa using hx, h2]; simp⟩
    · rw [show (x == v) = false by simpa using hx] at h
      simp at h
      obtain ⟨j, h1, h2⟩ := ih t h
      exact ⟨j + 1, by rw [List.getElem?_cons_succ]; exact h1, by rw [List.take_succ_cons, List.count_cons, show (x == v) = false by simpa using hx, h2]; simp⟩
theorem oc_lt {v : Nat} : ∀ (k : List Nat) (j : Nat), k[j]? = some v → (k.take j).count v < k.count v := by
  intro k
  induction k with
  | nil => intro j h; simp at h
  | cons x k ih =>
    intro j h
    cases j with
    | zero =>
      cases h
      simp
    | succ j =>
      rw [List.getElem?_cons_succ] at h
      have := ih j h
      rw [List.take_succ_cons, List.count_cons, List.count_cons]
      omega
theorem rk_at (hS : te_S l) (hp : k.Perm l) {j v : Nat} (h : k[j]? = some v) : l[rk_n v j k 0]? = some v := by
  rw [← so_at hS, rk_eq, Nat.sub_zero, ← hp.countP_eq, ← hp.count_eq]
  have := oc_lt k j h
  omega
theorem rk_ex (hS : te_S l) (hp : k.Perm l) {r v : Nat} (h : l[r]? = some v) : ∃ j, k[j]? = some v ∧ rk_n v j k 0 = r := by
  rw [← so_at hS, ← hp.countP_eq, ← hp.count_eq] at h
  obtain ⟨j, h1, h2⟩ := oc_at v k (r - k.countP fun x => decide (x < v)) (by omega)
  refine ⟨j, h1, ?_⟩
  rw [rk_eq, Nat.sub_zero, h2]
  omega
end
section
variable {M : Mm} {f : Nat → Nat → Int32} {m : Nat} {p1 : Int32} {k : List Nat}
theorem mo_duty56 {w v : Nat} {g25 : Mm → Int32 → Rr} (hL : mo_L M m) (hR : ml_R f (m + 14) 1 k) (hv : v < 7000) (hw : w ≤ 8) : ∀ kk i a, i ≤ k.length → k.length - i < kk → a ≤ i → fo_fx (fun _ _ _ => none) (lp_Mo_duty_56 m p1 (nI k.length) g25 (nI w) (nI v)) kk (mm_wi M f) (nI a) (nI i) = if nI (a + rk_n v w (k.drop i) i) = p1 then some (nI v, mm_wi M f) else g25 (mm_wi M f) (nI w + 1) := by
  have h8 := hR.2.1
  intro kk
  induction kk with
  | zero => intro i a _ h; omega
  | succ kk ih =>
    intro i a hi hk ha
    rw [fx_s, lp_Mo_duty_56]
    by_cases h : k.length ≤ i
    · rw [if_pos (nI_le h (by omega)), List.drop_eq_nil_of_le h]; rfl
    · rw [if_neg (by rw [nI_leI (by omega) (by omega)]; exact h)]
      obtain ⟨x, hx⟩ : ∃ x, k[i]? = some x := ⟨_, List.getElem?_eq_getElem (by omega)⟩
      have hx7 := hR.2.2.1 x (te_mem hx)
      rw [show (fn_Mo_dayAt (mm_wi M f) m 0 1 (nI i)) = _ from mo_dayAt (s := 0) (o := 1) (o' := 1) hL (by omega) rfl (by omega) hR hx, xi_cv hL.1, show (fn_Mo_clauseAt (mm_wi M f) m 0 1 (nI i)) = _ from mo_clauseAt (s := 0) (o := 1) (o' := 1) hL (by omega) rfl (by omega) hR hx, xi_cv hL.1, xi_nm, nx_k, show 100 * (x / 100) + x % 100 = x by omega, xi_jp, xi_jp, te_drop hx, rk_n, nI_1]
      dsimp only
      by_cases h1 : x < v
      · rw [if_pos (nI_lt h1 (by omega)), if_pos (show x < v ∨ (x = v ∧ i < w) from .inl h1), nI_1, ih (i + 1) (a + 1) (by omega) (by omega) (by omega), Nat.add_assoc]
      · rw [if_neg (by rw [nI_ltI (by omega) (by omega)]; exact h1), xi_jp]
        by_cases h2 : x = v
        · rw [if_pos (by rw [h2])]
          by_cases h3 : w ≤ i
          · rw [if_pos (nI_le h3 (by omega)), if_neg (show ¬ (x < v ∨ (x = v ∧ i < w)) by omega), ih (i + 1) a (by omega) (by omega) (by omega), Nat.zero_add]
          · rw [if_neg (by rw [nI_leI (by omega) (by omega)]; exact h3), if_pos (show x < v ∨ (x = v ∧ i < w) from .inr ⟨h2, by omega⟩), nI_1, ih (i + 1) (a + 1) (by omega) (by omega) (by omega), Nat.add_assoc]
        · rw [if_neg (by rw [nI_eq (by omega) (by omega)]; exact h2), if_neg (show ¬ (x < v ∨ (x = v ∧ i < w)) by omega), ih (i + 1) a (by omega) (by omega) (by omega), Nat.zero_add]
theorem mo_duty25 (hL : mo_L M m) (hR : ml_R f (m + 14) 1 k) : ∀ kk j, j ≤ k.length → k.length - j < kk → (∃ v j', j ≤ j' ∧ k[j']? = some v ∧ nI (rk_n v j' k 0) = p1 ∧ fo_fx (fun _ _ => none) (lp_Mo_duty_25 m p1 (nI k.length)) kk (mm_wi M f) (nI j) = some (nI v, mm_wi M f)) ∨ ((∀ v j', j ≤ j' → k[j']? = some v → nI (rk_n v j' k 0) ≠ p1) ∧ fo_fx (fun _ _ => none) (lp_Mo_duty_25 m p1 (nI k.length)) kk (mm_wi M f) (nI j) = some (-1, mm_wi M f)) := by
  have h8 := hR.2.1
  intro kk
  induction kk with
  | zero => intro j _ h; omega
  | succ kk ih =>
    intro j hj hk
    rw [fx_s, lp_Mo_duty_25]
    by_cases h : k.length ≤ j
    · rw [if_pos (nI_le h (by omega))]
      exact .inr ⟨fun v j' h1 h2 => by have := te_lt h2; omega, rfl⟩
    · rw [if_neg (by rw [nI_leI (by omega) (by omega)]; exact h)]
      obtain ⟨x, hx⟩ : ∃ x, k[j]? = some x := ⟨_, List.getElem?_eq_getElem (by omega)⟩
      have hx7 := hR.2.2.1 x (te_mem hx)
      rw [show (fn_Mo_dayAt (mm_wi M f) m 0 1 (nI j)) = _ from mo_dayAt (s := 0) (o := 1) (o' := 1) hL (by omega) rfl (by omega) hR hx, xi_cv hL.1, show (fn_Mo_clauseAt (mm_wi M f) m 0 1 (nI j)) = _ from mo_clauseAt (s := 0) (o := 1) (o' := 1) hL (by omega) rfl (by omega) hR hx, xi_cv hL.1, xi_nm, nx_k, show 100 * (x / 100) + x % 100 = x by omega]
      have e := mo_duty56 (p1 := p1) (w := j) (v := x) (g25 := fo_fx (fun _ _ => none) (lp_Mo_duty_25 m p1 (nI k.length)) kk) hL hR hx7 (by omega) fo_N 0 0 (by omega) (by show _ < 2000; omega) (by omega)
      rw [List.drop_zero, Nat.zero_add] at e
      rw [show (fo_fx (fun _ _ _ => none) (lp_Mo_duty_56 m p1 (nI k.length) (fo_fx (fun _ _ => none) (lp_Mo_duty_25 m p1 (nI k.length)) kk) (nI j) (nI x)) fo_N (mm_wi M f) 0 0) = _ from e]
      by_cases hr : nI (rk_n x j k 0) = p1
      · rw [if_pos hr]
        exact .inl ⟨x, j, by omega, hx, hr, rfl⟩
      · rw [if_neg hr, nI_1]
        rcases ih (j + 1) (by omega) (by omega) with ⟨v, j', h1, h2⟩ | ⟨h1, h2⟩
        · exact .inl ⟨v, j', by omega, h2⟩
        · refine .inr ⟨fun v j' h3 h4 => ?_, h2⟩
          by_cases hjj : j' = j
          · subst hjj; rw [hx] at h4; cases h4; exact hr
          · exact h1 v j' (by omega) h4
def dt_v (l : List Nat) (p1 : Int32) : Int32 := if p1 < 0 then -1 else match l[p1.toNatClampNeg]? with | some v => nI v | none => -1
theorem mo_duty_s {l : List Nat} (hL : mo_L M m) (hR : mp_R f (m + 14) 1 l) (h6 : f m 6 = 1) : fn_Mo_duty (mm_wi M f) m p1 = some (dt_v l p1, mm_wi M (up_2 f m 0 0)) := by
  obtain ⟨hS, k, hk, hkl⟩ := hR
  have h8 := hk.2.1
  have hk' : ml_R (up_2 f m 0 0) (m + 14) 1 k := ml_mv hk fun j hj => up_o (by omega)
  rw [fn_Mo_duty, xi_pi hL.1, xi_gi hL.1, up_k (by omega), h6, xi_jp, if_neg (show ¬ (1 : Int32) = 0 by decide), xi_gr hL.1 (mr_19 hL), show (1 : Int32) = nI 1 from rfl, xi_ai (t := 0) (ms_19 hL) (by omega) (by decide), up_o (by omega), hk.1]
  dsimp only
  have hlen := hkl.length_eq
  unfold dt_v
  rcases mo_duty25 (p1 := p1) hL hk' fo_N 0 (by omega) (by show _ < 2000; omega) with ⟨v, j', -, h2, h3, h4⟩ | ⟨h1, h2⟩
  · rw [show (fo_fx (fun _ _ => none) (lp_Mo_duty_25 m p1 (nI k.length)) fo_N (mm_wi M (up_2 f m 0 0)) 0) = _ from h4]
    have h5 := rk_at hS hkl h2
    have h6 := te_lt h5
    rw [← h3, if_neg (nI_pos (by omega)), nI_clamp (by omega), h5]
  · rw [show (fo_fx (fun _ _ => none) (lp_Mo_duty_25 m p1 (nI k.length)) fo_N (mm_wi M (up_2 f m 0 0)) 0) = _ from h2]
    by_cases hp : p1 < 0
    · rw [if_pos hp]
    · rw [if_neg hp]
      obtain ⟨r, hr, rfl⟩ := nI_of hp
      rw [nI_clamp hr]
      cases hl : l[r]? with
      | none => rfl
      | some v =>
        obtain ⟨j, g1, g2⟩ := rk_ex hS hkl hl
        exact absurd (by rw [g2]) (h1 v j (by omega) g1)
end
