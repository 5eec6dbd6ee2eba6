/-! States of the class: day, duties, bans, powers, debts, counts of breaches -/
abbrev Sp : Type := Nat × List Nat × List Nat × List Nat × (Nat → Int32) × (Nat → Int32)
def sp_d (s : Sp) : Nat := s.1
def sp_D (s : Sp) : List Nat := s.2.1
def sp_B (s : Sp) : List Nat := s.2.2.1
def sp_P (s : Sp) : List Nat := s.2.2.2.1
def sp_o (s : Sp) : Nat → Int32 := s.2.2.2.2.1
def sp_c (s : Sp) : Nat → Int32 := s.2.2.2.2.2
def st_L (M : Mm) (q : Nat) : Prop := mm_s M q = (1, 5) ∧ mm_r M q 1 = some (q + 1) ∧ mm_r M q 2 = some (q + 3) ∧ mm_r M q 3 = some (q + 5) ∧ mm_r M q 4 = some (q + 7) ∧ mm_r M q 5 = some (q + 8) ∧ te_L M (q + 1) ∧ te_L M (q + 3) ∧ te_L M (q + 5) ∧ mm_s M (q + 7) = (2, 9) ∧ mm_s M (q + 8) = (2, 10)
def tr_R (f : Nat → Nat → Int32) (q : Nat) (l : List Nat) : Prop := te_R f q l ∧ te_S l
def st_R (f : Nat → Nat → Int32) (q : Nat) (s : Sp) : Prop := f q 0 = nI (sp_d s) ∧ sp_d s ≤ 60 ∧ tr_R f (q + 1) (sp_D s) ∧ tr_R f (q + 3) (sp_B s) ∧ tr_R f (q + 5) (sp_P s) ∧ (∀ j, j < 9 → f (q + 7) j = sp_o s j) ∧ ∀ j, j < 10 → f (q + 8) j = sp_c s j
theorem tr_cg {f f' : Nat → Nat → Int32} {q : Nat} {l : List Nat} (h : tr_R f q l) (h0 : f' q = f q) (h1 : f' (q + 1) = f (q + 1)) : tr_R f' q l := ⟨te_cg h.1 h0 h1, h.2⟩
theorem st_cg {f f' : Nat → Nat → Int32} {q : Nat} {s : Sp} (h : st_R f q s) (h0 : ∀ a, q ≤ a → a < q + 9 → f' a = f a) : st_R f' q s := by
  obtain ⟨h1, h2, h3, h4, h5, h6, h7⟩ := h
  refine ⟨by rw [h0 q (by omega) (by omega)]; exact h1, h2, tr_cg h3 (h0 _ (by omega) (by omega)) (h0 _ (by omega) (by omega)), tr_cg h4 (h0 _ (by omega) (by omega)) (h0 _ (by omega) (by omega)), tr_cg h5 (h0 _ (by omega) (by omega)) (h0 _ (by omega) (by omega)), ?_, ?_⟩
  · rw [h0 (q + 7) (by omega) (by omega)]; exact h6
  · rw [h0 (q + 8) (by omega) (by omega)]; exact h7
section
variable {M : Mm} {f : Nat → Nat → Int32} {q : Nat} {s : Sp}
theorem st_copyFrom {p : Nat} (hL : st_L M q) (hL2 : st_L M p) (hR : st_R f p s) (hd : p + 9 ≤ q ∨ q + 9 ≤ p) : ∃ f', fn_St_copyFrom (mm_wi M f) q p = some (0, mm_wi M f') ∧ st_R f' q s ∧ ∀ a, (a < q ∨ q + 9 ≤ a) → f' a = f a := by
  obtain ⟨l0, l1, l2, l3, l4, l5, t1, t2, t3, s1, s2⟩ := hL
  obtain ⟨m0, m1, m2, m3, m4, m5, u1, u2, u3, w1, w2⟩ := hL2
  obtain ⟨h1, h2, h3, h4, h5, h6, h7⟩ := hR
  rw [fn_St_copyFrom, xi_gi m0, h1, xi_pi l0, xi_gr l0 l1, xi_gr m0 m1]
  obtain ⟨f1, e1, a1, b1⟩ := te_copyFrom (f := up_2 f q 0 (nI (sp_d s))) (l := sp_D s) t1 u1 (te_cg h3.1 (up_oa (by omega)) (up_oa (by omega))) (by omega)
  rw [e1, xi_cv t1.1, xi_gr l0 l2, xi_gr m0 m2]
  have c1 : ∀ a, a ≠ q → a ≠ q + 1 → a ≠ q + 1 + 1 → f1 a = f a := fun a x y z => by rw [b1 a y z, up_oa x]
  obtain ⟨f2, e2, a2, b2⟩ := te_copyFrom (f := f1) (l := sp_B s) t2 u2 (te_cg h4.1 (c1 _ (by omega) (by omega) (by omega)) (c1 _ (by omega) (by omega) (by omega))) (by omega)
  rw [e2, xi_cv t2.1, xi_gr l0 l3, xi_gr m0 m3]
  have c2 : ∀ a, a ≠ q → a ≠ q + 1 → a ≠ q + 1 + 1 → a ≠ q + 3 → a ≠ q + 3 + 1 → f2 a = f a := fun a x y z u v => by rw [b2 a u v, c1 a x y z]
  obtain ⟨f3, e3, a3, b3⟩ := te_copyFrom (f := f2) (l := sp_P s) t3 u3 (te_cg h5.1 (c2 _ (by omega) (by omega) (by omega) (by omega) (by omega)) (c2 _ (by omega) (by omega) (by omega) (by omega) (by omega))) (by omega)
  rw [e3, xi_cv t3.1, xi_gr m0 m4, xi_gr l0 l4, xi_gr l0 l4, xi_an (t := 0) s1, xi_cp w1 s1 (by omega) (by omega) (by omega), xi_gr m0 m5, xi_gr l0 l5, xi_gr l0 l5, xi_an (t := 0) s2, xi_cp w2 s2 (by omega) (by omega) (by omega)]
  have c3 : ∀ a, (a < q ∨ q + 7 ≤ a) → f3 a = f a := fun a x => by rw [b3 a (by omega) (by omega), c2 a (by omega) (by omega) (by omega) (by omega) (by omega)]
  refine ⟨_, rfl, ⟨?_, h2, ⟨te_cg a1 ?_ ?_, h3.2⟩, ⟨te_cg a2 ?_ ?_, h4.2⟩, ⟨te_cg a3 ?_ ?_, h5.2⟩, fun j hj => ?_, fun j hj => ?_⟩, fun a ha => ?_⟩
  · dsimp only
    rw [if_neg (by omega), if_neg (by omega), b3 q (by omega) (by omega), b2 q (by omega) (by omega), b1 q (by omega) (by omega), up_e]
  · funext y; rw [if_neg (by omega), if_neg (by omega), b3 _ (by omega) (by omega), b2 _ (by omega) (by omega)]
  · funext y; rw [if_neg (by omega), if_neg (by omega), b3 _ (by omega) (by omega), b2 _ (by omega) (by omega)]
  · funext y; rw [if_neg (by omega), if_neg (by omega), b3 _ (by omega) (by omega)]
  · funext y; rw [if_neg (by omega), if_neg (by omega), b3 _ (by omega) (by omega)]
  · funext y; rw [if_neg (by omega), if_neg (by omega)]
  · funext y; rw [if_neg (by omega), if_neg (by omega)]
  · dsimp only
    rw [if_neg (by omega), if_pos rfl, if_pos hj, c3 (p + 7) (by omega)]
    exact h6 j hj
  · dsimp only
    rw [if_pos rfl, if_pos hj, if_neg (by omega), c3 (p + 8) (by omega)]
    exact h7 j hj
  · funext y
    rw [if_neg (by omega), if_neg (by omega), c3 a (by omega)]
theorem te_nil {f : Nat → Nat → Int32} {q : Nat} (h : f q 1 = nI 0) : tr_R f q [] := ⟨⟨h, by simp, by simp, fun j x hx => by simp at hx⟩, List.Pairwise.nil⟩
theorem st_clear_lp2 (hL : st_L M q) : ∀ n i f, i ≤ 10 → 10 - i < n → ∃ f', fo_fx (fun _ _ => none) (lp_St_clear_55 q) n (mm_wi M f) (nI i) = some (0, mm_wi M f') ∧ (∀ j, j < 10 → f' (q + 8) j = if i ≤ j then 0 else f (q + 8) j) ∧ ∀ a, a ≠ q + 8 → f' a = f a := by
  obtain ⟨l0, l1, l2, l3, l4, l5, t1, t2, t3, s1, s2⟩ := hL
  intro n
  induction n with
  | zero => intro i f _ h; omega
  | succ n ih =>
    intro i f hi hn
    rw [fx_s, lp_St_clear_55, xi_gr l0 l5, xi_an (t := 0) s2]
    by_cases h : 10 ≤ i
    · rw [if_pos (nI_le h (by omega))]
      exact ⟨f, rfl, fun j hj => by rw [if_neg (by omega)], fun _ _ => rfl⟩
    · rw [if_neg (by rw [nI_leI (by omega) (by omega)]; exact h), xi_gr l0 l5, xi_si s2 (by omega) (by decide), nI_1]
      obtain ⟨f', e, g1, g2⟩ := ih (i + 1) (up_2 f (q + 8) i 0) (by omega) (by omega)
      refine ⟨f', e, fun j hj => ?_, fun a ha => by rw [g2 a ha, up_oa ha]⟩
      rw [g1 j hj]
      by_cases hji : j = i
      · subst hji
        rw [if_neg (by omega), if_pos (by omega), up_e]
      · rw [up_k hji]
        by_cases hj2 : i ≤ j
        · rw [if_pos (by omega), if_pos hj2]
        · rw [if_neg (by omega), if_neg hj2]
theorem st_clear_lp1 (hL : st_L M q) : ∀ n i f, i ≤ 9 → 9 - i < n → ∃ f', fo_fx (fun _ _ => none) (lp_St_clear_31 q) n (mm_wi M f) (nI i) = some (0, mm_wi M f') ∧ (∀ j, j < 9 → f' (q + 7) j = if i ≤ j then 0 else f (q + 7) j) ∧ (∀ j, j < 10 → f' (q + 8) j = 0) ∧ ∀ a, a ≠ q + 7 → a ≠ q + 8 → f' a = f a := by
  have hL0 := hL
  obtain ⟨l0, l1, l2, l3, l4, l5, t1, t2, t3, s1, s2⟩ := hL
  intro n
  induction n with
  | zero => intro i f _ h; omega
  | succ n ih =>
    intro i f hi hn
    rw [fx_s, lp_St_clear_31, xi_gr l0 l4, xi_an (t := 0) s1]
    by_cases h : 9 ≤ i
    · rw [if_pos (nI_le h (by omega))]
      obtain ⟨f', e, g1, g2⟩ := st_clear_lp2 hL0 fo_N 0 f (by omega) (by decide)
      exact ⟨f', e, fun j hj => by rw [if_neg (by omega), g2 _ (by omega)], fun j hj => by rw [g1 j hj, if_pos (by omega)], fun a _ ha => g2 a ha⟩
    · rw [if_neg (by rw [nI_leI (by omega) (by omega)]; exact h), xi_gr l0 l4, xi_si s1 (by omega) (by decide), nI_1]
      obtain ⟨f', e, g1, g2, g3⟩ := ih (i + 1) (up_2 f (q + 7) i 0) (by omega) (by omega)
      refine ⟨f', e, fun j hj => ?_, g2, fun a ha hb => by rw [g3 a ha hb, up_oa ha]⟩
      rw [g1 j hj]
      by_cases hji : j = i
      · subst hji
        rw [if_neg (by omega), if_pos (by omega), up_e]
      · rw [up_k hji]
        by_cases hj2 : i ≤ j
        · rw [if_pos (by omega), if_pos hj2]
        · rw [if_neg (by omega), if_neg hj2]
def sp_0 : Sp := (0, [], [], [], fun _ => 0, fun _ => 0)
theorem st_clear (hL : st_L M q) : ∃ f', fn_St_clear (mm_wi M f) q = some (0, mm_wi M f') ∧ st_R f' q sp_0 ∧ ∀ a, (a < q ∨ q + 9 ≤ a) → f' a = f a := by
  have hL0 := hL
  obtain ⟨l0, l1, l2, l3, l4, l5, t1, t2, t3, s1, s2⟩ := hL
  rw [fn_St_clear, xi_pi l0, xi_gr l0 l1, xi_pi t1.1, xi_gr l0 l2, xi_pi t2.1, xi_gr l0 l3, xi_pi t3.1]
  obtain ⟨f', e, g1, g2, g3⟩ := st_clear_lp1 hL0 fo_N 0 (up_2 (up_2 (up_2 (up_2 f q 0 0) (q + 1) 1 0) (q + 3) 1 0) (q + 5) 1 0) (by omega) (by decide)
  refine ⟨f', e, ⟨?_, by decide, te_nil ?_, te_nil ?_, te_nil ?_, fun j hj => by rw [g1 j hj, if_pos (by omega)]; rfl, fun j hj => by rw [g2 j hj]; rfl⟩, fun a ha => ?_⟩
  · rw [g3 q (by omega) (by omega), up_o (by omega), up_o (by omega), up_o (by omega), up_e]; rfl
  · rw [g3 _ (by omega) (by omega), up_o (by omega), up_o (by omega), up_e]; rfl
  · rw [g3 _ (by omega) (by omega), up_o (by omega), up_e]; rfl
  · rw [g3 _ (by omega) (by omega), up_e]; rfl
  · rw [g3 a (by omega) (by omega), up_oa (by omega), up_oa (by omega), up_oa (by omega), up_oa (by omega)]
theorem st_debtOf {x y : Nat} (hL : st_L M q) (hR : st_R f q s) (hx : x < 3) (hy : y < 3) : fn_St_debtOf (mm_wi M f) q (nI x) (nI y) = some (sp_o s (3 * x + y), mm_wi M f) := by
  obtain ⟨l0, l1, l2, l3, l4, l5, t1, t2, t3, s1, s2⟩ := hL
  rw [fn_St_debtOf, xi_gr l0 l4, li_3, pk_mul, nI_add, xi_ai (t := 0) s1 (by omega) (by decide), hR.2.2.2.2.2.1 _ (by omega)]
def sp_so (s : Sp) (k : Nat) (v : Int32) : Sp := (sp_d s, sp_D s, sp_B s, sp_P s, (fun j => if j = k then v else sp_o s j), sp_c s)
theorem st_addDebt {x y : Nat} {v : Int32} (hL : st_L M q) (hR : st_R f q s) (hx : x < 3) (hy : y < 3) : ∃ f', fn_St_addDebt (mm_wi M f) q (nI x) (nI y) v = some (if sp_o s (3 * x + y) + v ≤ 999 then 1 else 0, mm_wi M f') ∧ (sp_o s (3 * x + y) + v ≤ 999 → st_R f' q (sp_so s (3 * x + y) (sp_o s (3 * x + y) + v))) ∧ ∀ a, (a < q ∨ q + 9 ≤ a) → f' a = f a := by
  obtain ⟨l0, l1, l2, l3, l4, l5, t1, t2, t3, s1, s2⟩ := hL
  rw [fn_St_addDebt, xi_nm, xi_gr l0 l4, li_3, pk_mul, nI_add, xi_ai (t := 0) s1 (by omega) (by decide), hR.2.2.2.2.2.1 _ (by omega)]
  by_cases h : sp_o s (3 * x + y) + v ≤ 999
  · rw [if_pos h, if_pos h, xi_gr l0 l4, xi_ai (t := 0) s1 (by omega) (by decide), xi_si s1 (by omega) (by decide), hR.2.2.2.2.2.1 _ (by omega), xi_rz1]
    obtain ⟨h1, h2, h3, h4, h5, h6, h7⟩ := hR
    refine ⟨_, rfl, fun _ => ⟨by rw [up_o (by omega)]; exact h1, h2, tr_cg h3 (up_oa (by omega)) (up_oa (by omega)), tr_cg h4 (up_oa (by omega)) (up_oa (by omega)), tr_cg h5 (up_oa (by omega)) (up_oa (by omega)), fun j hj => ?_, fun j hj => by rw [up_o (by omega)]; exact h7 j hj⟩, fun a ha => up_oa (by omega)⟩
    show _ = if j = _ then _ else _
    by_cases hj2 : j = 3 * x + y
    · subst hj2; rw [up_e, if_pos rfl]
    · rw [up_k hj2, if_neg hj2]; exact h6 j hj
  · rw [if_neg h, if_neg h, xi_rz0]
    exact ⟨f, rfl, fun h' => absurd h' h, fun _ _ => rfl⟩
end
