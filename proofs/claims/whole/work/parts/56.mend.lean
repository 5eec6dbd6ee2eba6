/-! the end of a day in the reference -/
section
variable {M : Mm} {f : Nat → Nat → Int32} {m bk n s o d : Nat} {o' : Int32} {A : Nat → Nat → Nat} {fr : Nat → Bool} {W l : List Nat} {S : Sp}
theorem dw_f {l : List Nat} (h : te_S l) : l.dropWhile (fun x => decide (x / 100 < d)) = l.filter (fun x => decide (d ≤ x / 100)) := by
  induction l with
  | nil => rfl
  | cons x l ih =>
    have h2 := List.pairwise_cons.mp h
    by_cases hx : x / 100 < d
    · rw [List.dropWhile_cons_of_pos (by simpa using hx), List.filter_cons_of_neg (by simpa using hx), ih h2.2]
    · rw [List.dropWhile_cons_of_neg (by simpa using hx), List.filter_cons_of_pos (by simp; omega)]
      congr 1
      symm
      rw [List.filter_eq_self]
      intro y hy
      have := h2.1 y hy
      rw [decide_eq_true_eq]
      omega
theorem mid_at (P : List Nat) (x : Nat) (R : List Nat) : (P ++ x :: R)[P.length]? = some x := by simp
theorem mid_rm (P : List Nat) (x : Nat) (R : List Nat) : (P ++ x :: R).take P.length ++ (P ++ x :: R).drop (P.length + 1) = P ++ R := by simp
theorem mo_pass_lp (hL : mo_L M m) (hs : s ≤ 16) (ho1 : 1 ≤ o) (ho2 : o ≤ 35) (hd : d < 1000) : ∀ kk f P R, R.length < kk → ml_R f (m + 14) (71 * s + o) (P ++ R) → f (m + 14) (71 * s) = nI d → ∃ f', fo_fx (fun _ _ => none) (lp_Mo_passOver_2 m (nI s) (nI o)) kk (mm_wi M f) (nI P.length) = some (0, mm_wi M f') ∧ ml_R f' (m + 14) (71 * s + o) (P ++ R.filter (fun x => decide (d ≤ x / 100))) ∧ fl_R f f' (m + 14) (71 * s + o) := by
  intro kk
  induction kk with
  | zero => intro f P R h; omega
  | succ kk ih =>
    intro f P R hk hR hd0
    have h8 := hR.2.1
    rw [List.length_append] at h8
    rw [fx_s, lp_Mo_passOver_2, xi_gr hL.1 (mr_19 hL), nx_1, xi_ai (t := 0) (ms_19 hL) (by omega) (by decide), hR.1, List.length_append]
    cases R with
    | nil =>
      rw [if_pos (nI_le (by simp) (by omega))]
      exact ⟨f, rfl, hR, fun _ _ _ => rfl⟩
    | cons x R =>
      rw [List.length_cons] at h8 hk
      have hx7 := hR.2.2.1 x (by simp)
      rw [List.length_cons, if_neg (by rw [nI_leI (by omega) (by omega)]; omega), mo_dayAt hL hs rfl ho2 hR (mid_at P x R), xi_cv hL.1, xi_gr hL.1 (mr_19 hL), nx_0, xi_ai (t := 0) (ms_19 hL) (by omega) (by decide), hd0]
      by_cases h : d ≤ x / 100
      · rw [if_pos (nI_le h (by omega)), xi_nm, nI_1]
        obtain ⟨f', e1, e2, e3⟩ := ih f (P ++ [x]) R (by omega) (by rw [List.append_assoc]; exact hR) hd0
        rw [List.length_append] at e1
        rw [List.filter_cons_of_pos (by simpa using h)]
        refine ⟨f', e1, ?_, e3⟩
        rw [List.append_assoc] at e2
        exact e2
      · rw [if_neg (by rw [nI_leI (by omega) (by omega)]; exact h)]
        obtain ⟨f1, a1, a2, a3⟩ := mo_takeOut (w := P.length) hL hs rfl ho2 hR (by rw [List.length_append, List.length_cons]; omega)
        rw [mid_rm] at a2
        rw [a1, xi_cv hL.1]
        obtain ⟨f', e1, e2, e3⟩ := ih f1 P R (by omega) a2 (by rw [a3 _ _ (by omega)]; exact hd0)
        rw [List.filter_cons_of_neg (by simpa using h)]
        exact ⟨f', e1, e2, fun x j h => by rw [e3 x j h, a3 x j h]⟩
theorem mo_passOver (hL : mo_L M m) (hs : s ≤ 16) (ho : o' = nI o) (ho1 : 1 ≤ o) (ho2 : o ≤ 35) (hd : d < 1000) (hR : mp_R f (m + 14) (71 * s + o) l) (hd0 : f (m + 14) (71 * s) = nI d) : ∃ f', fn_Mo_passOver (mm_wi M f) m (nI s) o' = some (0, mm_wi M f') ∧ mp_R f' (m + 14) (71 * s + o) (l.dropWhile (fun x => decide (x / 100 < d))) ∧ fl_R f f' (m + 14) (71 * s + o) := by
  subst ho
  obtain ⟨h1, k, h2, h3⟩ := hR
  have h8 := h2.2.1
  obtain ⟨f', e1, e2, e3⟩ := mo_pass_lp hL hs ho1 ho2 hd fo_N f [] k (by show _ < 2000; omega) h2 hd0
  refine ⟨f', e1, ⟨dw_S _ h1, _, e2, ?_⟩, e3⟩
  rw [dw_f h1, List.nil_append]
  exact h3.filter _
theorem mo_end16 {c : Nat} {g6 : Mm → Int32 → Rr} (hL : mo_L M m) (hs : s ≤ 16) (hc : c < n) (hd : d < 1000) : ∀ kk f W cs P R, R.length < kk → mw_R f m bk n A fr → ml_R f (m + 14) (71 * s + 1) (P ++ R) → tm_V A n 0 R → f (m + 14) (71 * s) = nI d → mq_R f m W → mk_R f m A cs → W.length + 10 * R.length ≤ 1190 → ∃ f', fo_fx (fun _ _ => none) (lp_Mo_endIn_16 m (nI s) g6 (nI c)) kk (mm_wi M f) (nI P.length) = g6 (mm_wi M f') (nI (c + 1)) ∧ ml_R f' (m + 14) (71 * s + 1) (P ++ R.filter (fun x => !te_due c d x)) ∧ (∀ i, (i < 71 * s + 1 ∨ 71 * s + 18 ≤ i) → f' (m + 14) i = if i = 71 * s + 61 + c then f (m + 14) i + nI (R.countP (te_due c d)) else f (m + 14) i) ∧ mq_R f' m (W ++ (List.replicate (R.countP (te_due c d)) (on_l A n 2 c)).flatten) ∧ mk_R f' m A (cs ++ List.replicate (R.countP (te_due c d)) c) ∧ fb_R f f' m := by
  intro kk
  induction kk with
  | zero => intro f W cs P R h; omega
  | succ kk ih =>
    intro f W cs P R hk hW hR hV hd0 hQ hK h12
    have h8 := hR.2.1
    have w2 := hW.2.1
    rw [List.length_append] at h8
    rw [fx_s, lp_Mo_endIn_16, xi_gr hL.1 (mr_19 hL), show (71 * nI s + 1 : Int32) = nI (71 * s + 1) from nx_1 s 1, xi_ai (t := 0) (ms_19 hL) (by omega) (by decide), hR.1, List.length_append]
    cases R with
    | nil =>
      rw [if_pos (nI_le (by simp) (by omega)), nI_1]
      refine ⟨f, rfl, hR, fun i _ => ?_, ?_, ?_, fun _ _ _ _ _ => rfl⟩
      · show f (m + 14) i = if i = _ then f (m + 14) i + nI 0 else _
        rw [nI_z]; split <;> rfl
      · show mq_R f m (W ++ []); rw [List.append_nil]; exact hQ
      · show mk_R f m A (cs ++ []); rw [List.append_nil]; exact hK
    | cons x R =>
      rw [List.length_cons] at h8 hk h12
      have hx7 := hR.2.2.1 x (by simp)
      obtain ⟨hx1, hx2⟩ := hV x (by simp)
      have hVR : tm_V A n 0 R := fun y hy => hV y (by simp [hy])
      rw [List.length_cons, if_neg (by rw [nI_leI (by omega) (by omega)]; omega), mo_clauseAt (o := 1) (o' := 1) hL hs rfl (by omega) hR (mid_at P x R), xi_cv hL.1, xi_jp]
      have skip : te_due c d x = false → ∃ f', fo_fx (fun _ _ => none) (lp_Mo_endIn_16 m (nI s) g6 (nI c)) kk (mm_wi M f) (nI (P.length + 1)) = g6 (mm_wi M f') (nI (c + 1)) ∧ ml_R f' (m + 14) (71 * s + 1) (P ++ (x :: R).filter (fun x => !te_due c d x)) ∧ (∀ i, (i < 71 * s + 1 ∨ 71 * s + 18 ≤ i) → f' (m + 14) i = if i = 71 * s + 61 + c then f (m + 14) i + nI ((x :: R).countP (te_due c d)) else f (m + 14) i) ∧ mq_R f' m (W ++ (List.replicate ((x :: R).countP (te_due c d)) (on_l A n 2 c)).flatten) ∧ mk_R f' m A (cs ++ List.replicate ((x :: R).countP (te_due c d)) c) ∧ fb_R f f' m := by
        intro ht
        obtain ⟨f', e1, e2, e3⟩ := ih f W cs (P ++ [x]) R (by omega) hW (by rw [List.append_assoc]; exact hR) hVR hd0 hQ hK (by omega)
        rw [List.length_append] at e1
        rw [List.append_assoc] at e2
        rw [List.countP_cons, if_neg (by rw [ht]; simp), List.filter_cons_of_pos (by rw [ht]; rfl)]
        exact ⟨f', e1, e2, e3⟩
      by_cases e : x % 100 = c
      · rw [if_pos (by rw [e]), mo_dayAt (o := 1) (o' := 1) hL hs rfl (by omega) hR (mid_at P x R), xi_cv hL.1, xi_gr hL.1 (mr_19 hL), nx_0, xi_ai (t := 0) (ms_19 hL) (by omega) (by decide), hd0]
        by_cases hd1 : d < x / 100
        · have ht : te_due c d x = false := by unfold te_due; rw [decide_eq_false (show ¬ x / 100 ≤ d by omega), Bool.and_false]
          rw [if_pos (nI_lt hd1 (by omega))]
          dsimp only
          rw [xi_nm, nI_1]
          exact skip ht
        · have ht : te_due c d x = true := by unfold te_due; rw [decide_eq_true e, decide_eq_true (by omega)]; rfl
          clear skip
          rw [if_neg (by rw [nI_ltI (by omega) (by omega)]; exact hd1)]
          obtain ⟨f1, a1, a2, a3⟩ := mo_takeOut (o := 1) (o' := 1) (w := P.length) hL hs rfl (by omega) hR (by rw [List.length_append, List.length_cons]; omega)
          rw [mid_rm] at a2
          rw [a1, xi_cv hL.1]
          have hol := on_len A n 2 c
          obtain ⟨f2, b1, b2, b3, b4, b5⟩ := mo_breach (f := f1) (W := W) (cs := cs) hL hs (mw_cg hW (a3 _ _ (by omega)) (a3 _ _ (by omega)) fun x j h1 h2 => a3 _ _ (by omega)) (mq_cg hQ (a3 _ _ (by omega)) (funext fun j => a3 _ _ (by omega))) (mk_cg hK (a3 _ _ (by omega)) (a3 _ _ (by omega))) hc (by rw [e] at hx2; omega) (by omega)
          rw [b1, xi_cv hL.1]
          obtain ⟨f3, c1, c2, c3, c4, c5, c6⟩ := ih f2 (W ++ on_l A n 2 c) (cs ++ [c]) P R (by omega) (mw_cg hW (by rw [b5 _ _ (by omega) (by omega) (by omega), a3 _ _ (by omega)]) (by rw [b5 _ _ (by omega) (by omega) (by omega), a3 _ _ (by omega)]) fun x j h1 h2 => by rw [b5 _ _ (by omega) (by omega) (by omega), a3 _ _ (by omega)]) (ml_mv a2 fun i hi => by rw [b2, if_neg (by omega)]) hVR (by rw [b2, if_neg (by omega), a3 _ _ (by omega)]; exact hd0) b3 b4 (by rw [List.length_append]; omega)
          rw [List.countP_cons, if_pos ht, List.filter_cons_of_neg (by rw [ht]; simp)]
          refine ⟨f3, c1, c2, fun i hi => ?_, ?_, ?_, fun x j h1 h2 h3 => by rw [c6 x j h1 h2 h3, b5 x j h1 h2 h3, a3 x j (by omega)]⟩
          · rw [c3 i hi, b2, a3 _ _ (by omega)]
            by_cases hi2 : i = 71 * s + 61 + c
            · rw [if_pos hi2, if_pos hi2, if_pos hi2, i3_a]
            · rw [if_neg hi2, if_neg hi2, if_neg hi2]
          · rw [List.replicate_succ, List.flatten_cons, ← List.append_assoc]; exact c4
          · rw [List.replicate_succ, List.append_cons]; exact c5
      · have ht : te_due c d x = false := by unfold te_due; rw [decide_eq_false e]; rfl
        rw [if_neg (by rw [nI_eq (by omega) (by omega)]; exact e)]
        dsimp only
        rw [xi_nm, nI_1]
        exact skip ht
def dq_n (c d x : Nat) : Bool := !(decide (x % 100 < c) && decide (x / 100 ≤ d))
theorem dq_s (c d x : Nat) : (!te_due c d x && dq_n c d x) = dq_n (c + 1) d x := by
  unfold te_due dq_n
  by_cases h1 : x / 100 ≤ d
  · rw [decide_eq_true h1, Bool.and_true, Bool.and_true, Bool.and_true]
    by_cases h2 : x % 100 = c
    · rw [decide_eq_true h2, decide_eq_true (show x % 100 < c + 1 by omega)]; rfl
    · rw [decide_eq_false h2, Bool.not_false, Bool.true_and]
      congr 1
      by_cases h3 : x % 100 < c
      · rw [decide_eq_true h3, decide_eq_true (show x % 100 < c + 1 by omega)]
      · rw [decide_eq_false h3, decide_eq_false (show ¬ x % 100 < c + 1 by omega)]
  · rw [decide_eq_false h1, Bool.and_false, Bool.and_false, Bool.and_false]; rfl
theorem dq_c (c d x : Nat) : (te_due c d x && dq_n c d x) = te_due c d x := by
  unfold te_due dq_n
  by_cases h2 : x % 100 = c
  · rw [decide_eq_false (show ¬ x % 100 < c by omega), Bool.false_and, Bool.not_false, Bool.and_true]
  · rw [decide_eq_false h2, Bool.false_and, Bool.false_and]
theorem dq_0 {l : List Nat} : l.filter (dq_n 0 d) = l := by
  rw [List.filter_eq_self]
  intro x _
  unfold dq_n
  rw [decide_eq_false (by omega)]; rfl
theorem dq_n' {l : List Nat} (hS : te_S l) (hv : ∀ x ∈ l, x % 100 < n) : l.filter (dq_n n d) = l.dropWhile (fun x => decide (x / 100 < d + 1)) := by
  rw [dw_f hS]
  apply List.filter_congr
  intro x hx
  unfold dq_n
  rw [decide_eq_true (hv x hx), Bool.true_and]
  by_cases h : x / 100 ≤ d
  · rw [decide_eq_true h, decide_eq_false (show ¬ d + 1 ≤ x / 100 by omega)]; rfl
  · rw [decide_eq_false h, decide_eq_true (show d + 1 ≤ x / 100 by omega)]; rfl
end
