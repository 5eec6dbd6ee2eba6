/-! Terms of the class: a list of keys -/
def te_L (M : Mm) (q : Nat) : Prop := mm_s M q = (1, 6) ∧ mm_r M q 0 = some (q + 1) ∧ mm_s M (q + 1) = (2, 8)
def te_R (f : Nat → Nat → Int32) (q : Nat) (l : List Nat) : Prop := f q 1 = nI l.length ∧ l.length ≤ 8 ∧ (∀ x ∈ l, x < 7000) ∧ ∀ j x, l[j]? = some x → f (q + 1) j = nI x
theorem te_cg {f f' : Nat → Nat → Int32} {q : Nat} {l : List Nat} (h : te_R f q l) (h0 : f' q = f q) (h1 : f' (q + 1) = f (q + 1)) : te_R f' q l := by
  obtain ⟨a, b, c, d⟩ := h
  refine ⟨by rw [h0]; exact a, b, c, fun j x hx => by rw [h1]; exact d j x hx⟩
section
variable {M : Mm} {f : Nat → Nat → Int32} {q : Nat} {l : List Nat}
theorem te_lt {j x : Nat} (h : l[j]? = some x) : j < l.length := (List.getElem?_eq_some_iff.mp h).1
theorem te_mem {j x : Nat} (h : l[j]? = some x) : x ∈ l := List.mem_of_getElem? h
theorem te_clauseAt {j x : Nat} (hL : te_L M q) (hR : te_R f q l) (h : l[j]? = some x) : fn_Te_clauseAt (mm_wi M f) q (nI j) = some (nI (x % 100), mm_wi M f) := by
  have h1 := te_lt h
  have h2 := hR.2.1
  have h3 := hR.2.2.1 x (te_mem h)
  unfold fn_Te_clauseAt
  rw [xi_gr hL.1 hL.2.1, xi_ai (t := 0) hL.2.2 (by omega) (by decide), hR.2.2.2 j x h, li_100, pk_rem (by omega) (by omega) (by omega)]
theorem te_dayAt {j x : Nat} (hL : te_L M q) (hR : te_R f q l) (h : l[j]? = some x) : fn_Te_dayAt (mm_wi M f) q (nI j) = some (nI (x / 100), mm_wi M f) := by
  have h1 := te_lt h
  have h2 := hR.2.1
  have h3 := hR.2.2.1 x (te_mem h)
  unfold fn_Te_dayAt
  rw [xi_gr hL.1 hL.2.1, xi_ai (t := 0) hL.2.2 (by omega) (by decide), hR.2.2.2 j x h, li_100, pk_div (by omega) (by omega) (by omega)]
/-- how many of a clause are due -/
def te_due (c d : Nat) (x : Nat) : Bool := decide (x % 100 = c) && decide (x / 100 ≤ d)
theorem te_drop {i x : Nat} (h : l[i]? = some x) : l.drop i = x :: l.drop (i + 1) := by
  obtain ⟨h1, h2⟩ := List.getElem?_eq_some_iff.mp h
  rw [List.drop_eq_getElem_cons h1, h2]
theorem te_count_lp {c d : Nat} (hL : te_L M q) (hR : te_R f q l) (hc : c < 100) (hd : d < 1000) : ∀ n i a, i ≤ l.length → l.length - i < n → a + l.length ≤ 100 + i → fo_fx (fun _ _ _ => none) (lp_Te_countUntil_5 q (nI c) (nI d)) n (mm_wi M f) (nI a) (nI i) = some (nI (a + (l.drop i).countP (te_due c d)), mm_wi M f) := by
  have h8 := hR.2.1
  intro n
  induction n with
  | zero => intro i a _ h; omega
  | succ n ih =>
    intro i a hil hn ha
    rw [fx_s]
    rw [lp_Te_countUntil_5, xi_gi hL.1, hR.1]
    by_cases hi : l.length ≤ i
    · rw [if_pos (nI_le hi (by omega)), List.drop_eq_nil_of_le hi]
      rfl
    · rw [if_neg (by rw [nI_leI (by omega) (by omega)]; exact hi)]
      obtain ⟨x, hx⟩ : ∃ x, l[i]? = some x := ⟨_, List.getElem?_eq_getElem (by omega)⟩
      have hx7 := hR.2.2.1 x (te_mem hx)
      rw [te_clauseAt hL hR hx, xi_cv hL.1, xi_jp, te_drop hx, List.countP_cons]
      dsimp only
      by_cases h1 : x % 100 = c
      · rw [if_pos (by rw [h1]), te_dayAt hL hR hx, xi_cv hL.1]
        by_cases h2 : x / 100 ≤ d
        · rw [if_neg (by rw [nI_ltI (by omega) (by omega)]; omega), nI_1, nI_1, ih (i + 1) (a + 1) (by omega) (by omega) (by omega), if_pos (by simp [te_due, h1, h2])]
          congr 3; omega
        · rw [if_pos (by rw [nI_ltI (by omega) (by omega)]; omega), nI_1, ih (i + 1) a (by omega) (by omega) (by omega), if_neg (by simp [te_due, h2])]
          rfl
      · rw [if_neg (by rw [nI_eq (by omega) (by omega)]; exact h1), nI_1, ih (i + 1) a (by omega) (by omega) (by omega), if_neg (by simp [te_due, h1])]
        rfl
theorem te_countUntil {c d : Nat} (hL : te_L M q) (hR : te_R f q l) (hc : c < 100) (hd : d < 1000) : fn_Te_countUntil (mm_wi M f) q (nI c) (nI d) = some (nI (l.countP (te_due c d)), mm_wi M f) := by
  have h8 := hR.2.1
  have h := te_count_lp hL hR hc hd fo_N 0 0 (by omega) (by show _ < 2000; omega) (by omega)
  rw [List.drop_zero, Nat.zero_add] at h
  exact h
theorem te_remove_lp {m s : Nat} (hL : te_L M q) (hs : s ≤ 8) (hm : m ≤ s) : ∀ n i f, f q 1 = nI s → i + m ≤ s → s - (i + m) < n → ∃ f', fo_fx (fun _ _ => none) (lp_Te_remove_2 q (nI m)) n (mm_wi M f) (nI i) = some (0, mm_wi M f') ∧ f' q 1 = nI (s - m) ∧ (∀ j, f' (q + 1) j = if i ≤ j ∧ j + m < s then f (q + 1) (j + m) else f (q + 1) j) ∧ ∀ a, a ≠ q → a ≠ q + 1 → f' a = f a := by
  intro n
  induction n with
  | zero => intro i f _ _ h; omega
  | succ n ih =>
    intro i f h1 him hn
    rw [fx_s]
    rw [lp_Te_remove_2, xi_gi hL.1, h1, nI_add]
    by_cases hi : s ≤ i + m
    · rw [if_pos (nI_le hi (by omega)), xi_gi hL.1, xi_pi hL.1, h1, pk_sub hm]
      refine ⟨_, rfl, up_e, fun j => ?_, fun a h2 h3 => up_oa h2⟩
      rw [if_neg (by omega), up_o (by omega)]
    · rw [if_neg (by rw [nI_leI (by omega) (by omega)]; exact hi), xi_gr hL.1 hL.2.1, xi_gr hL.1 hL.2.1, xi_ai (t := 0) hL.2.2 (by omega) (by decide), xi_si hL.2.2 (by omega) (by decide), nI_1]
      obtain ⟨f', e, g1, g2, g3⟩ := ih (i + 1) (up_2 f (q + 1) i (f (q + 1) (i + m))) (by rw [up_o (by omega)]; exact h1) (by omega) (by omega)
      refine ⟨f', e, g1, fun j => ?_, fun a h2 h3 => by rw [g3 a h2 h3]; exact up_oa h3⟩
      rw [g2 j]
      by_cases hj : j = i
      · subst hj
        rw [if_neg (by omega), if_pos (by omega), up_e]
      · by_cases hj2 : i ≤ j ∧ j + m < s
        · rw [if_pos (by omega), if_pos hj2]
          by_cases hm0 : j + m = i
          · omega
          · rw [up_k hm0]
        · rw [if_neg (by omega), if_neg hj2, up_k hj]
theorem te_remove {i m : Nat} (hL : te_L M q) (hR : te_R f q l) (him : i + m ≤ l.length) : ∃ f', fn_Te_remove (mm_wi M f) q (nI i) (nI m) = some (0, mm_wi M f') ∧ te_R f' q (l.take i ++ l.drop (i + m)) ∧ ∀ a, a ≠ q → a ≠ q + 1 → f' a = f a := by
  obtain ⟨h1, h2, h3, h4⟩ := hR
  obtain ⟨f', e, g1, g2, g3⟩ := te_remove_lp (m := m) hL h2 (by omega) fo_N i f h1 him (by show _ < 2000; omega)
  refine ⟨f', e, ⟨?_, ?_, ?_, ?_⟩, g3⟩
  · rw [g1]; congr 1; simp; omega
  · simp; omega
  · intro x hx
    rcases List.mem_append.mp hx with hx | hx
    · exact h3 x (List.mem_of_mem_take hx)
    · exact h3 x (List.mem_of_mem_drop hx)
  · intro j x hx
    rw [g2 j]
    rw [List.getElem?_append] at hx
    by_cases hj : j < (l.take i).length
    · rw [if_pos hj] at hx
      rw [List.length_take] at hj
      rw [List.getElem?_take, if_pos (by omega)] at hx
      rw [if_neg (by omega)]
      exact h4 j x hx
    · rw [if_neg hj, List.getElem?_drop] at hx
      rw [List.length_take] at hj hx
      have e2 : i + m + (j - min i l.length) = j + m := by omega
      rw [e2] at hx
      have := te_lt hx
      rw [if_pos (by omega)]
      exact h4 _ x hx
theorem te_dw (F : Nat → Bool) : ∀ (i : Nat) (l : List Nat), (∀ j x, j < i → l[j]? = some x → F x = true) → ((∃ x, l[i]? = some x ∧ F x = false) ∨ i = l.length) → l.dropWhile F = l.drop i := by
  intro i
  induction i with
  | zero =>
    intro l _ hs
    cases l with
    | nil => rfl
    | cons y l =>
      rcases hs with ⟨x, hx, hx2⟩ | hx
      · cases hx
        rw [List.dropWhile_cons_of_neg (by simpa using hx2)]; rfl
      · cases hx
  | succ i ih =>
    intro l hp hs
    cases l with
    | nil => rfl
    | cons y l =>
      rw [List.dropWhile_cons_of_pos (hp 0 y (by omega) rfl), List.drop_succ_cons]
      refine ih l (fun j x hj hx => hp (j + 1) x (by omega) (by simpa using hx)) ?_
      rcases hs with ⟨x, hx, hx2⟩ | hx
      · exact .inl ⟨x, by simpa using hx, hx2⟩
      · exact .inr (by simpa using hx)
theorem te_dropBefore_lp {d : Nat} (hL : te_L M q) (hR : te_R f q l) (hd : d < 1000) : ∀ n i, i ≤ l.length → l.length - i < n → (∀ j x, j < i → l[j]? = some x → x / 100 < d) → ∃ f', fo_fx (fun _ _ => none) (lp_Te_dropBefore_2 q (nI d)) n (mm_wi M f) (nI i) = some (0, mm_wi M f') ∧ te_R f' q (l.dropWhile fun x => decide (x / 100 < d)) ∧ ∀ a, a ≠ q → a ≠ q + 1 → f' a = f a := by
  have h8 := hR.2.1
  intro n
  induction n with
  | zero => intro i _ h; omega
  | succ n ih =>
    intro i hil hn hp
    rw [fx_s, lp_Te_dropBefore_2, xi_gi hL.1, hR.1, xi_jp]
    dsimp only
    have hstop : ((∃ x, l[i]? = some x ∧ decide (x / 100 < d) = false) ∨ i = l.length) → l.dropWhile (fun x => decide (x / 100 < d)) = l.take 0 ++ l.drop (0 + i) := by
      intro hs
      rw [List.take_zero, Nat.zero_add, List.nil_append]
      exact te_dw _ i l (fun j x hj hx => decide_eq_true (hp j x hj hx)) hs
    by_cases hi : l.length ≤ i
    · rw [if_pos (nI_le hi (by omega))]
      obtain ⟨f', e, g1, g2⟩ := te_remove (i := 0) (m := i) hL hR (by omega)
      rw [show (0 : Int32) = nI 0 from rfl, e, xi_cv hL.1]
      exact ⟨f', rfl, by rw [hstop (.inr (by omega))]; exact g1, g2⟩
    · rw [if_neg (by rw [nI_leI (by omega) (by omega)]; exact hi)]
      obtain ⟨x, hx⟩ : ∃ x, l[i]? = some x := ⟨_, List.getElem?_eq_getElem (by omega)⟩
      have hx7 := hR.2.2.1 x (te_mem hx)
      rw [te_dayAt hL hR hx, xi_cv hL.1]
      by_cases h2 : d ≤ x / 100
      · rw [if_pos (nI_le h2 (by omega))]
        obtain ⟨f', e, g1, g2⟩ := te_remove (i := 0) (m := i) hL hR (by omega)
        rw [show (0 : Int32) = nI 0 from rfl, e, xi_cv hL.1]
        exact ⟨f', rfl, by rw [hstop (.inl ⟨x, hx, by simpa using h2⟩)]; exact g1, g2⟩
      · rw [if_neg (by rw [nI_leI (by omega) (by omega)]; exact h2), nI_1]
        exact ih (i + 1) (by omega) (by omega) fun j y hj hy => by
          by_cases hji : j = i
          · subst hji; cases hx.symm.trans hy; omega
          · exact hp j y (by omega) hy
theorem te_dropBefore {d : Nat} (hL : te_L M q) (hR : te_R f q l) (hd : d < 1000) : ∃ f', fn_Te_dropBefore (mm_wi M f) q (nI d) = some (0, mm_wi M f') ∧ te_R f' q (l.dropWhile fun x => decide (x / 100 < d)) ∧ ∀ a, a ≠ q → a ≠ q + 1 → f' a = f a := by
  have h8 := hR.2.1
  exact te_dropBefore_lp hL hR hd fo_N 0 (by omega) (by show _ < 2000; omega) fun j x hj _ => absurd hj (by omega)
theorem te_copyFrom {p : Nat} (hL : te_L M q) (hL2 : te_L M p) (hR : te_R f p l) (hd : p + 1 < q ∨ q + 1 < p) : ∃ f', fn_Te_copyFrom (mm_wi M f) q p = some (0, mm_wi M f') ∧ te_R f' q l ∧ ∀ a, a ≠ q → a ≠ q + 1 → f' a = f a := by
  obtain ⟨h1, h2, h3, h4⟩ := hR
  rw [fn_Te_copyFrom, xi_gr hL2.1 hL2.2.1, xi_gr hL.1 hL.2.1, xi_gi hL2.1, h1, xi_cp hL2.2.2 hL.2.2 h2 h2 (by omega), xi_gi hL2.1, xi_pi hL.1]
  refine ⟨_, rfl, ⟨?_, h2, h3, fun j x hx => ?_⟩, fun a g1 g2 => ?_⟩
  · rw [up_e, if_neg (by omega)]; exact h1
  · have := te_lt hx
    rw [up_o (by omega), if_pos rfl, if_pos this]
    exact h4 j x hx
  · rw [up_oa g1]
    funext y
    rw [if_neg g2]
/-- a key put into its place -/
def te_ins (k : Nat) : List Nat → List Nat
  | [] => [k]
  | x :: l => if x ≤ k then x :: te_ins k l else k :: x :: l
theorem te_ins_len (k : Nat) (l : List Nat) : (te_ins k l).length = l.length + 1 := by
  induction l with
  | nil => rfl
  | cons x l ih => unfold te_ins; split <;> simp [ih]
theorem te_ins_perm (k : Nat) (l : List Nat) : (te_ins k l).Perm (k :: l) := by
  induction l with
  | nil => exact .refl _
  | cons x l ih =>
    unfold te_ins
    split
    · exact (List.Perm.cons x ih).trans (List.Perm.swap _ _ _)
    · exact .refl _
theorem te_ins_at (k : Nat) : ∀ (i : Nat) (l : List Nat), i ≤ l.length → (∀ j x, j < i → l[j]? = some x → x ≤ k) → (∀ x, l[i]? = some x → k < x) → te_ins k l = l.take i ++ k :: l.drop i := by
  intro i
  induction i with
  | zero =>
    intro l _ _ h
    cases l with
    | nil => rfl
    | cons y l =>
      have := h y rfl
      unfold te_ins
      rw [if_neg (by omega)]; rfl
  | succ i ih =>
    intro l hl hp hs
    cases l with
    | nil => simp at hl
    | cons y l =>
      have := hp 0 y (by omega) rfl
      unfold te_ins
      rw [if_pos this, List.take_succ_cons, List.drop_succ_cons, List.cons_append]
      congr 1
      exact ih l (by simpa using hl) (fun j x hj hx => hp (j + 1) x (by omega) (by simpa using hx)) (fun x hx => hs x (by simpa using hx))
/-- sorted -/
def te_S (l : List Nat) : Prop := l.Pairwise (· ≤ ·)
theorem te_ins_S {k : Nat} {l : List Nat} (h : te_S l) : te_S (te_ins k l) := by
  induction l with
  | nil => exact List.pairwise_singleton _ _
  | cons x l ih =>
    obtain ⟨h1, h2⟩ := List.pairwise_cons.mp h
    unfold te_ins
    split
    · next hx =>
      refine List.pairwise_cons.mpr ⟨fun y hy => ?_, ih h2⟩
      rcases List.mem_cons.mp ((te_ins_perm k l).mem_iff.mp hy) with rfl | hy
      · exact hx
      · exact h1 y hy
    · next hx =>
      refine List.pairwise_cons.mpr ⟨fun y hy => ?_, h⟩
      rcases List.mem_cons.mp hy with rfl | hy
      · omega
      · have := h1 y hy; omega
theorem te_S_le {l : List Nat} (h : te_S l) {i j x y : Nat} (hij : i ≤ j) (hx : l[i]? = some x) (hy : l[j]? = some y) : x ≤ y := by
  obtain ⟨h1, rfl⟩ := List.getElem?_eq_some_iff.mp hx
  obtain ⟨h2, rfl⟩ := List.getElem?_eq_some_iff.mp hy
  by_cases e : i = j
  · subst e; exact Nat.le_refl _
  · exact List.pairwise_iff_getElem.mp h i j h1 h2 (by omega)
theorem te_add_lp {k s : Nat} {l : List Nat} (hL : te_L M q) (hs : s < 8) (hk : k < 7000) (hS : te_S l) (hls : l.length = s) (h7 : ∀ x ∈ l, x < 7000) : ∀ n i f, i ≤ s → i < n → f q 1 = nI s → (∀ j x, j < i → l[j]? = some x → f (q + 1) j = nI x) → (∀ j x, i ≤ j → l[j]? = some x → f (q + 1) (j + 1) = nI x ∧ k < x) → ∃ f', fo_fx (fun _ _ => none) (lp_Te_add_24 q (nI k)) n (mm_wi M f) (nI i) = some (1, mm_wi M f') ∧ te_R f' q (te_ins k l) ∧ ∀ a, a ≠ q → a ≠ q + 1 → f' a = f a := by
  intro n
  induction n with
  | zero => intro i f _ h; omega
  | succ n ih =>
    intro i f his hn h1 h2 h3
    have hstop : (∀ x, l[i - 1]? = some x → 0 < i → x ≤ k) → ∃ f', (fo_gr (mm_wi M f) 6 q 0 fun a65 => fo_si (mm_wi M f) a65 (nI i) (nI k) fun M71 => fo_gi M71 6 q 1 fun v74 => fo_pi M71 6 q 1 (v74 + 1) fun M79 => fo_rz 1 M79) = some (1, mm_wi M f') ∧ te_R f' q (te_ins k l) ∧ ∀ a, a ≠ q → a ≠ q + 1 → f' a = f a := by
      intro hst
      rw [xi_gr hL.1 hL.2.1, xi_si hL.2.2 (by omega) (by decide), xi_gi hL.1, xi_pi hL.1, xi_rz1]
      have hin := te_ins_at k i l (by omega) (fun j x hj hx => by
        obtain ⟨y, hy⟩ : ∃ y, l[i - 1]? = some y := ⟨_, List.getElem?_eq_getElem (by omega)⟩
        exact Nat.le_trans (te_S_le hS (by omega) hx hy) (hst y hy (by omega))) (fun x hx => (h3 i x (Nat.le_refl _) hx).2)
      refine ⟨_, rfl, ⟨?_, ?_, ?_, ?_⟩, fun a g1 g2 => by rw [up_oa g1, up_oa g2]⟩
      · rw [up_e, up_o (by omega), h1, nI_1, te_ins_len, hls]
      · rw [te_ins_len]; omega
      · intro x hx
        rcases List.mem_cons.mp ((te_ins_perm k l).mem_iff.mp hx) with rfl | hx
        · exact hk
        · exact h7 x hx
      · intro j x hx
        rw [hin, List.getElem?_append, List.length_take] at hx
        rw [up_o (by omega)]
        by_cases hj : j < min i l.length
        · rw [if_pos hj, List.getElem?_take, if_pos (by omega)] at hx
          rw [up_k (by omega)]
          exact h2 j x (by omega) hx
        · rw [if_neg hj] at hx
          have e : min i l.length = i := by omega
          rw [e] at hx hj
          by_cases hji : j = i
          · subst hji
            rw [Nat.sub_self] at hx
            cases hx
            exact up_e
          · rw [up_k hji]
            rw [show j - i = (j - i - 1) + 1 by omega, List.getElem?_cons_succ, List.getElem?_drop] at hx
            have := (h3 (i + (j - i - 1)) x (by omega) hx).1
            rw [show i + (j - i - 1) + 1 = j by omega] at this
            exact this
    rw [fx_s, lp_Te_add_24, xi_jp]
    by_cases hi : i = 0
    · subst hi
      rw [if_pos (by decide)]
      exact hstop fun x _ h => absurd h (by omega)
    · rw [if_neg (nI_nle (by omega) (by omega))]
      obtain ⟨y, hy⟩ : ∃ y, l[i - 1]? = some y := ⟨_, List.getElem?_eq_getElem (by omega)⟩
      have hy7 := h7 y (te_mem hy)
      have hfy := h2 (i - 1) y (by omega) hy
      rw [show nI i - 1 = nI (i - 1) from pk_sub (b := 1) (by omega), xi_gr hL.1 hL.2.1, xi_ai (t := 0) hL.2.2 (by omega) (by decide), hfy]
      by_cases hyk : y ≤ k
      · rw [if_pos (nI_le hyk (by omega))]
        exact hstop fun x hx _ => by cases hy.symm.trans hx; exact hyk
      · rw [if_neg (by rw [nI_leI (by omega) (by omega)]; exact hyk), xi_gr hL.1 hL.2.1, xi_gr hL.1 hL.2.1, xi_ai (t := 0) hL.2.2 (by omega) (by decide), hfy, xi_si hL.2.2 (by omega) (by decide), sb_m1 (by omega)]
        obtain ⟨f', e, g1, g2⟩ := ih (i - 1) (up_2 f (q + 1) i (nI y)) (by omega) (by omega) (by rw [up_o (by omega)]; exact h1) (fun j x hj hx => by rw [up_k (by omega)]; exact h2 j x (by omega) hx) (fun j x hj hx => by
          by_cases hji : j = i - 1
          · subst hji
            cases hy.symm.trans hx
            rw [show i - 1 + 1 = i by omega, up_e]
            exact ⟨rfl, by omega⟩
          · rw [up_k (by omega)]
            exact h3 j x (by omega) hx)
        exact ⟨f', e, g1, fun a k1 k2 => by rw [g2 a k1 k2, up_oa k2]⟩
theorem te_add {c d : Nat} (hL : te_L M q) (hR : te_R f q l) (hS : te_S l) (hk : 100 * d + c < 7000) : ∃ f', fn_Te_add (mm_wi M f) q (nI c) (nI d) = some (if l.length < 8 then 1 else 0, mm_wi M f') ∧ (l.length < 8 → te_R f' q (te_ins (100 * d + c) l)) ∧ ∀ a, a ≠ q → a ≠ q + 1 → f' a = f a := by
  obtain ⟨h1, h2, h3, h4⟩ := hR
  rw [fn_Te_add, xi_gi hL.1, h1, li_8]
  by_cases h8 : l.length < 8
  · rw [if_pos (nI_lt h8 (by omega)), if_pos h8, xi_nm, xi_gi hL.1, h1, li_100, pk_mul, nI_add]
    obtain ⟨f', e, g1, g2⟩ := te_add_lp (k := 100 * d + c) hL h8 hk hS rfl h3 fo_N l.length f (Nat.le_refl _) (by show _ < 2000; omega) h1 (fun j x _ hx => h4 j x hx) (fun j x hj hx => by have := te_lt hx; omega)
    exact ⟨f', e, fun _ => g1, g2⟩
  · rw [if_neg (by rw [nI_ltI (by omega) (by omega)]; exact h8), if_neg h8, xi_rz0]
    exact ⟨f, rfl, fun h => absurd h h8, fun _ _ _ => rfl⟩
end
