/-! the class's text: whole agreements, and their faults -/
def mk_c (t t1 t2 b b1 b2 b3 a a1 a2 a3 : Nat) : Nat → Nat := fun k => if k = 0 then t else if k = 1 then t1 else if k = 2 then t2 else if k = 3 then b else if k = 4 then b1 else if k = 5 then b2 else if k = 6 then b3 else if k = 7 then a else if k = 8 then a1 else if k = 9 then a2 else a3
def ps_cl (T : List Nat) (p : Nat) : Nat ⊕ (Nat × (Nat → Nat)) :=
  match ps_t T p with
  | .inl e => .inl e
  | .inr (p1, t, t1, t2) => match ps_c T p1 with
    | .inl e => .inl e
    | .inr (p2, b, b1, b2, b3) => if ca_n T p2 = 62 then (match ps_a T (p2 + 1) with | .inl e => .inl e | .inr (p3, a, a1, a2, a3) => .inr (p3, mk_c t t1 t2 b b1 b2 b3 a a1 a2 a3)) else .inl p2
theorem ps_t_B {T : List Nat} {p p' a b c : Nat} (h : ps_t T p = .inr (p', a, b, c)) : p' ≤ p + 2 ∧ a ≤ 4 ∧ (a = 1 → b < 3 ∧ c < 5) ∧ (a = 2 ∨ a = 3 → b < 10) := by
  unfold ps_t at h
  split at h
  · cases h; omega
  · split at h
    · cases h; omega
    · have hd : ∀ tt, (tt = 2 ∨ tt = 3) → ps_d T p tt = .inr (p', a, b, c) → p' ≤ p + 2 ∧ a ≤ 4 ∧ (a = 1 → b < 3 ∧ c < 5) ∧ (a = 2 ∨ a = 3 → b < 10) := by
        intro tt ht h
        unfold ps_d at h
        cases hr : rd_n T (p + 1) 48 10 with
        | none => rw [hr] at h; cases h
        | some d =>
          have := (rd_ca hr (by omega)).1
          rw [hr] at h
          cases h; omega
      split at h
      · exact hd 2 (.inl rfl) h
      · split at h
        · exact hd 3 (.inr rfl) h
        · cases hr : rd_n T p 65 3 with
          | none => rw [hr] at h; cases h
          | some w =>
            have h1 := (rd_ca hr (by omega)).1
            rw [hr] at h
            dsimp only at h
            cases hr2 : rd_n T (p + 1) 97 5 with
            | none => rw [hr2] at h; cases h
            | some k =>
              have h2 := (rd_ca hr2 (by omega)).1
              rw [hr2] at h
              cases h; omega
theorem ps_2_B {T : List Nat} {p w v : Nat} (h : ps_2 T p = .inr (w, v)) : w < 3 ∧ v < 3 := by
  unfold ps_2 at h
  cases hr : rd_n T p 65 3 with
  | none => rw [hr] at h; cases h
  | some w' =>
    have h1 := (rd_ca hr (by omega)).1
    rw [hr] at h
    dsimp only at h
    split at h
    · cases h
    · cases hr2 : rd_n T (p + 1) 65 3 with
      | none => rw [hr2] at h; cases h
      | some v' =>
        have h2 := (rd_ca hr2 (by omega)).1
        rw [hr2] at h
        cases h; exact ⟨h1, h2⟩
theorem ps_c_B {T : List Nat} {p p' a b c d : Nat} (h : ps_c T p = .inr (p', a, b, c, d)) : p' ≤ p + 5 ∧ a ≤ 1 ∧ (a = 1 → b < 3 ∧ c < 3 ∧ d < 10) := by
  unfold ps_c at h
  split at h
  · cases h2 : ps_2 T (p + 1) with
    | inl e => rw [h2] at h; cases h
    | inr y =>
      obtain ⟨w, v⟩ := y
      have h3 := ps_2_B h2
      rw [h2] at h
      dsimp only at h
      cases hr : rd_n T (p + 3) 48 10 with
      | none => rw [hr] at h; cases h
      | some x =>
        have h1 := (rd_ca hr (by omega)).1
        rw [hr] at h
        dsimp only at h
        split at h
        · cases h; omega
        · cases h
  · cases h; omega
theorem ps_a_B {T : List Nat} {p p' a b c d : Nat} (h : ps_a T p = .inr (p', a, b, c, d)) : p' ≤ p + 4 ∧ a ≤ 4 ∧ (a < 3 → b < 3 ∧ c < 5 ∧ d < 10) ∧ (a = 3 → b < 3 ∧ c < 3 ∧ d < 10) ∧ (a = 4 → b < 10) := by
  have hk : ∀ aa, aa < 3 → ps_k T p aa = .inr (p', a, b, c, d) → p' ≤ p + 4 ∧ a ≤ 4 ∧ (a < 3 → b < 3 ∧ c < 5 ∧ d < 10) ∧ (a = 3 → b < 3 ∧ c < 3 ∧ d < 10) ∧ (a = 4 → b < 10) := by
    intro aa ha h
    unfold ps_k at h
    cases hr : rd_n T (p + 1) 65 3 with
    | none => rw [hr] at h; cases h
    | some w =>
      have h1 := (rd_ca hr (by omega)).1
      rw [hr] at h
      dsimp only at h
      cases hr2 : rd_n T (p + 2) 97 5 with
      | none => rw [hr2] at h; cases h
      | some k =>
        have h2 := (rd_ca hr2 (by omega)).1
        rw [hr2] at h
        dsimp only at h
        cases hr3 : rd_n T (p + 3) 48 10 with
        | none => rw [hr3] at h; cases h
        | some x =>
          have h3 := (rd_ca hr3 (by omega)).1
          rw [hr3] at h
          cases h; omega
  unfold ps_a at h
  split at h
  · cases hr : rd_n T (p + 1) 48 10 with
    | none => rw [hr] at h; cases h
    | some x =>
      have h1 := (rd_ca hr (by omega)).1
      rw [hr] at h
      cases h; omega
  · split at h
    · cases h2 : ps_2 T (p + 1) with
      | inl e => rw [h2] at h; cases h
      | inr y =>
        obtain ⟨w, v⟩ := y
        have h3 := ps_2_B h2
        rw [h2] at h
        dsimp only at h
        cases hr : rd_n T (p + 3) 48 10 with
        | none => rw [hr] at h; cases h
        | some x =>
          have h1 := (rd_ca hr (by omega)).1
          rw [hr] at h
          cases h; omega
    · split at h
      · exact hk 0 (by omega) h
      · split at h
        · exact hk 1 (by omega) h
        · split at h
          · exact hk 2 (by omega) h
          · cases h
theorem ps_cl_B {T : List Nat} {p p' : Nat} {C : Nat → Nat} (h : ps_cl T p = .inr (p', C)) : p' ≤ p + 12 ∧ cl_B C := by
  unfold ps_cl at h
  cases ht : ps_t T p with
  | inl e => rw [ht] at h; cases h
  | inr y =>
    obtain ⟨p1, t, t1, t2⟩ := y
    obtain ⟨a1, a2, a3, a4⟩ := ps_t_B ht
    rw [ht] at h
    dsimp only at h
    cases hc : ps_c T p1 with
    | inl e => rw [hc] at h; cases h
    | inr y =>
      obtain ⟨p2, b, b1, b2, b3⟩ := y
      obtain ⟨c1, c2, c3⟩ := ps_c_B hc
      rw [hc] at h
      dsimp only at h
      split at h
      · cases ha : ps_a T (p2 + 1) with
        | inl e => rw [ha] at h; cases h
        | inr y =>
          obtain ⟨p3, a, d1, d2, d3⟩ := y
          obtain ⟨e1, e2, e3, e4, e5⟩ := ps_a_B ha
          rw [ha] at h
          cases h
          exact ⟨by omega, a2, a3, a4, c2, c3, e2, e3, e4, e5⟩
      · cases h
def pl_cl (T : List Nat) (p : Nat) : Nat := match ps_cl T p with | .inl e => e | .inr (p', _) => p'
section
variable {M : Mm} {f : Nat → Nat → Int32} {t p q g n : Nat} {T : List Nat} {A : Nat → Nat → Nat}
theorem tx_clause (hL : tx_L M t) (hq : mm_s M q = (1, 1)) (h1 : q ≠ t) (h2 : q ≠ t + 1) (hP : tx_P f t T p) (hp : p ≤ 400) : ∃ f', fn_Tx_readClause (mm_wi M f) t q = some (bz (sm_ok (ps_cl T p)), mm_wi M f') ∧ tx_P f' t T (pl_cl T p) ∧ (∀ p' C, ps_cl T p = .inr (p', C) → cl_R f' q C) ∧ fr_T f f' t q := by
  rw [fn_Tx_readClause]
  obtain ⟨f1, x1, a1, a2, a3, a4⟩ := tx_trig (q := q) hL hq h1 h2 hP (by omega)
  rw [x1, xi_cv hL.1]
  unfold pl_cl ps_cl
  unfold pt_pl at a1
  cases ht : ps_t T p with
  | inl e =>
    rw [ht] at a1
    rw [if_pos (by exact bz_f rfl), xi_rz0]
    exact ⟨f1, rfl, a1, fun p' C hx => (by cases hx), a4⟩
  | inr y =>
    obtain ⟨p1, t0, t1, t2⟩ := y
    have hB := ps_t_B ht
    rw [ht] at a1
    have a5 := a2 _ _ _ _ ht
    dsimp only at a1 ⊢
    rw [if_neg (by exact bz_t rfl)]
    obtain ⟨f2, x2, b1, b2, b3, b4⟩ := tx_cond (q := q) hL hq h1 h2 a1 (by omega)
    rw [x2, xi_cv hL.1]
    unfold pc_pl at b1
    have c4 : fr_T f f2 t q := fun a ha hb => by rw [b4 a ha hb, a4 a ha hb]
    cases hc : ps_c T p1 with
    | inl e =>
      rw [hc] at b1
      rw [if_pos (by exact bz_f rfl), xi_rz0]
      exact ⟨f2, rfl, b1, fun p' C hx => (by cases hx), c4⟩
    | inr y =>
      obtain ⟨p2, b, d1, d2, d3⟩ := y
      have hB2 := ps_c_B hc
      rw [hc] at b1
      have b5 := b2 _ _ _ _ _ hc
      dsimp only at b1 ⊢
      rw [if_neg (by exact bz_t rfl)]
      by_cases e : ca_n T p2 = 62
      · rw [tk_y (w := 62) 62 rfl hL b1 (by omega) e (by omega) (by omega), xi_cv hL.1, if_neg (by decide), if_pos e]
        obtain ⟨f3, x3, i1, i2, i3, i4⟩ := tx_act (q := q) hL hq h1 h2 (tx_pl (p' := p2 + 1) b1) (by omega)
        rw [x3, xi_cv hL.1]
        unfold pa_pl at i1
        have j4 : fr_T f f3 t q := fun a ha hb => by rw [i4 a ha hb, up_oa ha, c4 a ha hb]
        cases ha : ps_a T (p2 + 1) with
        | inl e =>
          rw [ha] at i1
          rw [if_pos (by exact bz_f rfl), xi_rz0]
          exact ⟨f3, rfl, i1, fun p' C hx => (by cases hx), j4⟩
        | inr y =>
          obtain ⟨p3, a, k1, k2, k3⟩ := y
          rw [ha] at i1
          have i5 := i2 _ _ _ _ _ ha
          rw [if_neg (by exact bz_t rfl), xi_rz1]
          refine ⟨f3, rfl, i1, fun p' C hx => ?_, j4⟩
          cases hx
          have m1 : ∀ k, k < 8 → f3 q k = f2 q k := fun k hk => by rw [i3 k hk, up_o h1]
          have m2 : ∀ k, k < 4 → f3 q k = f1 q k := fun k hk => by rw [m1 k (by omega), b3 k (.inl hk)]
          obtain ⟨n1, n2, n3⟩ := a5
          obtain ⟨o1, o2⟩ := b5
          obtain ⟨r1, r2, r3, r4⟩ := i5
          exact ⟨by rw [m2 0 (by omega)]; exact n1, fun h => by rw [m2 1 (by omega), m2 2 (by omega)]; exact n2 h, fun h => by rw [m2 3 (by omega)]; exact n3 h, by rw [m1 4 (by omega)]; exact o1, fun h => by rw [m1 5 (by omega), m1 6 (by omega), m1 7 (by omega)]; exact o2 h, r1, r2, r3, r4⟩
      · rw [tk_n (w := 62) 62 rfl hL b1 (by omega) e (by omega) (by omega), xi_cv hL.1, if_pos rfl, xi_rz0, if_neg e]
        exact ⟨f2, rfl, b1, fun p' C hx => (by cases hx), c4⟩
end
