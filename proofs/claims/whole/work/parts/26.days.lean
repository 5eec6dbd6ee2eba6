/-! the class's start, happen and endDay -/
section
variable {M : Mm} {q g r n : Nat} {A : Nat → Nat → Nat} {fr : Nat → Bool}
theorem ru_start_lp {dp : Nat → Nat} (hLg : ag_L M g) (hLr : ru_L M r) (hLq : st_L M q) (hap : ap_2 q r g) (hdp : dp_W n A dp) : ∀ m i f s W, i ≤ n → n - i < m → W.length ≤ i → (∀ c ∈ W, c < n) → ag_R f g n A → ru_F f r fr → qu_R f r W → st_R f q s → ∃ f', fo_fx (fun _ _ => none) (lp_Ru_start_7 r g q) m (mm_wi M f) (nI i) = some (bz (sp_run A fr 800 (W ++ ((List.range n).drop i).filter (fun c => decide (A c 0 = 0))) s).isSome, mm_wi M f') ∧ (∀ s', sp_run A fr 800 (W ++ ((List.range n).drop i).filter (fun c => decide (A c 0 = 0))) s = some s' → st_R f' q s') ∧ fr_R f f' q r := by
  have hap0 := hap
  obtain ⟨p1, p2, p3⟩ := hap
  unfold ap_1 at p1
  intro m
  induction m with
  | zero => intro i f s W _ h; omega
  | succ m ih =>
    intro i f s W hi hm hWi hWn hA hF hW hS
    have h10 := hA.2.1
    rw [fx_s, lp_Ru_start_7, xi_gi hLg.1, hA.1]
    by_cases h : n ≤ i
    · have hb := ph_le hdp hWn
      obtain ⟨f1, e1, a1, b1⟩ := ru_run hLg hLr hLq hap0 hdp hWn (by omega) hA hF hW hS
      rw [if_pos (nI_le h (by omega)), rg_end h, List.filter_nil, List.append_nil, e1, xi_cv hLr.1, xi_rz (bz_01 _)]
      exact ⟨f1, rfl, a1, b1⟩
    · obtain ⟨r1, r2⟩ := ag_cl hLg hA (c := i) (by omega)
      obtain ⟨c1, c2⟩ := hA.2.2 i (by omega)
      rw [if_neg (by rw [nI_leI (by omega) (by omega)]; exact h), xi_gr hLg.1 hLg.2.1, xi_ar (t := 4) hLg.2.2.1 (by omega) (by decide) r1, xi_gi r2, c1.1, xi_jp, rg_drop (by omega)]
      dsimp only
      by_cases hb : A i 0 = 0
      · rw [if_pos (by rw [hb]; decide), List.filter_cons_of_pos (by simp [hb])]
        obtain ⟨f1, e1, a1, b1⟩ := ru_await (c := i) hLr hW (by omega)
        rw [e1, xi_cv hLr.1, nI_1]
        have b2 : fr_R f f1 q r := fun a _ x y => b1 a x y
        obtain ⟨f2, e2, a2, b3⟩ := ih (i + 1) f1 s (W ++ [i]) (by omega) (by omega) (by simp; omega) (fun c hc => by
          rcases List.mem_append.mp hc with hc | hc
          · exact hWn c hc
          · rw [List.mem_singleton] at hc; omega) (fr_ag hap0 b2 hA) (fr_ru hap0.1 b2 hF) a1 (st_cg hS fun a x y => b1 a (by omega) (by omega))
        rw [List.append_assoc] at e2 a2
        exact ⟨f2, e2, a2, fr_tr b2 b3⟩
      · rw [if_neg (by unfold tc_n; rw [if_neg hb]; (repeat' split) <;> decide), List.filter_cons_of_neg (by simp [hb]), nI_1]
        exact ih (i + 1) f s W (by omega) (by omega) (by omega) hWn hA hF hW hS
theorem ru_start {f : Nat → Nat → Int32} {s : Sp} {dp : Nat → Nat} (hLg : ag_L M g) (hLr : ru_L M r) (hLq : st_L M q) (hap : ap_2 q r g) (hdp : dp_W n A dp) (hA : ag_R f g n A) (hF : ru_F f r fr) (hS : st_R f q s) : ∃ f', fn_Ru_start (mm_wi M f) r g q = some (bz (sp_run A fr 800 (st_l A n) s).isSome, mm_wi M f') ∧ (∀ s', sp_run A fr 800 (st_l A n) s = some s' → st_R f' q s') ∧ fr_R f f' q r := by
  have h10 := hA.2.1
  rw [fn_Ru_start, xi_pi hLr.1]
  have b2 : fr_R f (up_2 f r 2 0) q r := fun a _ x y => up_oa x
  have p1 := hap.1
  unfold ap_1 at p1
  obtain ⟨f1, e1, a1, b1⟩ := ru_start_lp hLg hLr hLq hap hdp fo_N 0 (up_2 f r 2 0) s [] (by omega) (by show _ < 2000; omega) (by simp) (by simp) (fr_ag hap b2 hA) (fr_ru hap.1 b2 hF) (qu_nil up_e) (st_cg hS fun a x y => up_oa (by omega))
  rw [List.drop_zero, List.nil_append] at e1 a1
  exact ⟨f1, e1, a1, fr_tr b2 b1⟩
/-- how many of the first i clauses are due -/
def du_n (i d : Nat) (l : List Nat) : Nat := l.countP fun x => decide (x % 100 < i) && decide (x / 100 ≤ d)
theorem du_s (i d : Nat) (l : List Nat) : du_n (i + 1) d l = du_n i d l + l.countP (te_due i d) := by
  unfold du_n
  induction l with
  | nil => rfl
  | cons x l ih =>
    rw [List.countP_cons, List.countP_cons, List.countP_cons, ih]
    unfold te_due
    by_cases h2 : x / 100 ≤ d
    · rcases Nat.lt_trichotomy (x % 100) i with h | h | h
      · rw [if_pos (by simp [h2]; omega), if_pos (by simp [h2]; omega), if_neg (by simp; omega)]; omega
      · rw [if_pos (by simp [h2]; omega), if_neg (by simp [h2]; omega), if_pos (by simp [h2]; omega)]; omega
      · rw [if_neg (by simp; omega), if_neg (by simp; omega), if_neg (by simp; omega)]; omega
    · rw [if_neg (by simp [h2]), if_neg (by simp [h2]), if_neg (by simp [h2])]; omega
theorem du_le (i d : Nat) (l : List Nat) : du_n i d l ≤ l.length := List.countP_le_length
theorem du_0 (d : Nat) (l : List Nat) : du_n 0 d l = 0 := by simp [du_n]
/-- what waits after the breaches of the first clauses -/
def br_q (A : Nat → Nat → Nat) (n d : Nat) (l : List Nat) (cs : List Nat) : List Nat := cs.flatMap fun c => (List.replicate (l.countP (te_due c d)) (on_l A n 2 c)).flatten
theorem on_len (A : Nat → Nat → Nat) (n t k : Nat) : (on_l A n t k).length ≤ n := by
  have := List.length_filter_le (ag_on A t k) (List.range n)
  rw [List.length_range] at this
  exact this
theorem on_lt {A : Nat → Nat → Nat} {n t k c : Nat} (h : c ∈ on_l A n t k) : c < n := by
  unfold on_l at h
  simpa using (List.mem_filter.mp h).1
theorem rp_len (k : Nat) (l : List Nat) : (List.replicate k l).flatten.length = k * l.length := by simp
/-- the counts after breaches of the first i clauses -/
def bc_n (v : Nat → Int32) (l : List Nat) (d i : Nat) : Nat → Int32 := fun j => if j < i then v j + nI (l.countP (te_due j d)) else v j
def sp_sc (s : Sp) (v : Nat → Int32) : Sp := (sp_d s, sp_D s, sp_B s, sp_P s, sp_o s, v)
def sp_sd (s : Sp) (d : Nat) : Sp := (d, sp_D s, sp_B s, sp_P s, sp_o s, sp_c s)
theorem st_sc {f f' : Nat → Nat → Int32} {s : Sp} {v : Nat → Int32} (hR : st_R f q s) (h : ∀ j, j < 10 → f' (q + 8) j = v j) (h0 : ∀ a, a ≠ q + 8 → f' a = f a) : st_R f' q (sp_sc s v) := by
  obtain ⟨h1, h2, h3, h4, h5, h6, h7⟩ := hR
  exact ⟨by rw [h0 q (by omega)]; exact h1, h2, tr_cg h3 (h0 _ (by omega)) (h0 _ (by omega)), tr_cg h4 (h0 _ (by omega)) (h0 _ (by omega)), tr_cg h5 (h0 _ (by omega)) (h0 _ (by omega)), by rw [h0 (q + 7) (by omega)]; exact h6, h⟩
theorem dw_S {l : List Nat} (F : Nat → Bool) (h : te_S l) : te_S (l.dropWhile F) := List.Pairwise.sublist (List.dropWhile_sublist F) h
/-- the end of a day -/
def sp_e1 (A : Nat → Nat → Nat) (n : Nat) (s : Sp) : Sp := sp_sD (sp_sc s (bc_n (sp_c s) (sp_D s) (sp_d s) n)) ((sp_D s).dropWhile fun x => decide (x / 100 < sp_d s + 1))
def sp_e2 (s : Sp) : Sp := (sp_d s + 1, sp_D s, (sp_B s).dropWhile (fun x => decide (x / 100 < sp_d s + 1)), (sp_P s).dropWhile (fun x => decide (x / 100 < sp_d s + 1)), sp_o s, sp_c s)
def sp_end (A : Nat → Nat → Nat) (n : Nat) (fr : Nat → Bool) (s : Sp) : Option Sp := (sp_run A fr 800 (br_q A n (sp_d s) (sp_D s) (List.range n)) (sp_e1 A n s)).map sp_e2
theorem ru_end_tail {f : Nat → Nat → Int32} {s : Sp} (hLq : st_L M q) (hS : st_R f q s) (hd : sp_d s < 60) (v : Int32) : ∃ f', (fo_gi (mm_wi M f) 5 q 0 fun v95 => fo_pi (mm_wi M f) 5 q 0 (v95 + 1) fun M100 => fo_gr M100 5 q 2 fun a104 => fo_gi M100 5 q 0 fun v108 => fo_cv M100 6 a104 (fn_Te_dropBefore M100 a104 v108) fun _ M111 => fo_gr M111 5 q 3 fun a115 => fo_gi M111 5 q 0 fun v119 => fo_cv M111 6 a115 (fn_Te_dropBefore M111 a115 v119) fun _ M122 => some (v, M122)) = some (v, mm_wi M f') ∧ st_R f' q (sp_e2 s) ∧ ∀ a, (a < q ∨ q + 9 ≤ a) → f' a = f a := by
  obtain ⟨l0, l1, l2, l3, l4, l5, t1, t2, t3, s1, s2⟩ := hLq
  obtain ⟨h1, h2, h3, h4, h5, h6, h7⟩ := hS
  rw [xi_gi l0, h1, nI_1, xi_pi l0, xi_gr l0 l2, xi_gi l0, up_e]
  obtain ⟨f1, e1, a1, b1⟩ := te_dropBefore (f := up_2 f q 0 (nI (sp_d s + 1))) (d := sp_d s + 1) t2 (te_cg h4.1 (up_oa (by omega)) (up_oa (by omega))) (by omega)
  rw [e1, xi_cv t2.1, xi_gr l0 l3, xi_gi l0, b1 q (by omega) (by omega), up_e]
  obtain ⟨f2, e2, a2, b2⟩ := te_dropBefore (f := f1) (l := sp_P s) (d := sp_d s + 1) t3 (te_cg h5.1 (by rw [b1 _ (by omega) (by omega), up_oa (by omega)]) (by rw [b1 _ (by omega) (by omega), up_oa (by omega)])) (by omega)
  rw [e2, xi_cv t3.1]
  have c2 : ∀ a, a ≠ q → a ≠ q + 3 → a ≠ q + 3 + 1 → a ≠ q + 5 → a ≠ q + 5 + 1 → f2 a = f a := fun a x y z u w => by rw [b2 a u w, b1 a y z, up_oa x]
  refine ⟨f2, rfl, ⟨?_, ?_, tr_cg h3 (c2 _ (by omega) (by omega) (by omega) (by omega) (by omega)) (c2 _ (by omega) (by omega) (by omega) (by omega) (by omega)), ⟨te_cg a1 (b2 _ (by omega) (by omega)) (b2 _ (by omega) (by omega)), dw_S _ h4.2⟩, ⟨a2, dw_S _ h5.2⟩, ?_, ?_⟩, fun a ha => c2 a (by omega) (by omega) (by omega) (by omega) (by omega)⟩
  · rw [b2 q (by omega) (by omega), b1 q (by omega) (by omega), up_e]; rfl
  · show sp_d s + 1 ≤ 60; omega
  · rw [c2 (q + 7) (by omega) (by omega) (by omega) (by omega) (by omega)]; exact h6
  · rw [c2 (q + 8) (by omega) (by omega) (by omega) (by omega) (by omega)]; exact h7
end
