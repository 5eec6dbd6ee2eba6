/-! an event in the reference -/
def bq_l (L : List Nat) (d : Nat) (cs : List Nat) : List Nat := cs.flatMap fun c => List.replicate (L.countP (te_due c d)) c
/-- what breaches change -/
def fb_R (f f' : Nat → Nat → Int32) (m : Nat) : Prop := ∀ x j, (x ≠ m ∨ (j ≠ 21 ∧ j ≠ 24 ∧ j ≠ 25)) → x ≠ m + 14 → x ≠ m + 15 → f' x j = f x j
section
variable {M : Mm} {f : Nat → Nat → Int32} {m bk n s p q : Nat} {A : Nat → Nat → Nat} {fr : Nat → Bool} {W l L : List Nat} {S : Sp}
theorem bq_take {d i : Nat} (h : i < n) : bq_l L d ((List.range n).take (i + 1)) = bq_l L d ((List.range n).take i) ++ List.replicate (L.countP (te_due i d)) i := by
  have e : (List.range n).take (i + 1) = (List.range n).take i ++ [i] := by
    rw [List.take_succ]; simp [h]
  unfold bq_l
  rw [e, List.flatMap_append]
  simp
theorem bq_len {d : Nat} : ∀ i, i ≤ n → (bq_l L d ((List.range n).take i)).length = du_n i d L := by
  intro i
  induction i with
  | zero => intro _; simp [bq_l, du_0]
  | succ i ih =>
    intro hi
    rw [bq_take (by omega), List.length_append, ih (by omega), du_s, List.length_replicate]
theorem bq_mem {d c : Nat} {cs : List Nat} (h : c ∈ bq_l L d cs) : c ∈ cs ∧ ∃ x ∈ L, te_due c d x = true := by
  unfold bq_l at h
  obtain ⟨y, hy, hc⟩ := List.mem_flatMap.mp h
  obtain ⟨h1, h2⟩ := List.mem_replicate.mp hc
  subst h2
  exact ⟨hy, List.countP_pos_iff.mp (by omega)⟩
theorem bq_in {d c x : Nat} {cs : List Nat} (hc : c ∈ cs) (hx : x ∈ L) (h : te_due c d x = true) : c ∈ bq_l L d cs := by
  unfold bq_l
  refine List.mem_flatMap.mpr ⟨c, hc, List.mem_replicate.mpr ⟨?_, rfl⟩⟩
  have := List.countP_pos_iff.mpr ⟨x, hx, h⟩
  omega
theorem mo_start (hL : mo_L M m) : ∃ f', fn_Mo_start (mm_wi M f) m = some (0, mm_wi M f') ∧ mq_R f' m [] ∧ mk_R f' m A [] ∧ f' m 23 = 0 ∧ ∀ x j, (x ≠ m ∨ j < 21) → f' x j = f x j := by
  rw [fn_Mo_start, xi_pi hL.1, xi_pz0 hL.1, xi_pi hL.1, xi_pi hL.1]
  refine ⟨_, rfl, ⟨by rw [up_k (by omega), up_k (by omega), up_k (by omega), up_e]; rfl, by simp, fun j x hx => by simp at hx⟩, ⟨by rw [up_k (by omega), up_e]; rfl, 0, by omega, by rw [up_e]; rfl, fun p _ => by simp⟩, by rw [up_k (by omega), up_k (by omega), up_e], fun x j h => ?_⟩
  by_cases hx : x = m
  · rw [up_k (by omega), up_k (by omega), up_k (by omega), up_k (by omega)]
  · rw [up_o hx, up_o hx, up_o hx, up_o hx]
theorem i3_a (v : Int32) (k : Nat) : v + 1 + nI k = v + nI (k + 1) := by rw [Int32.add_assoc, show (1 : Int32) + nI k = nI (1 + k) from nI_add 1 k, Nat.add_comm 1 k]
theorem mo_ban68 {c : Nat} {k : List Nat} {g51 : Mm → Int32 → Rr} (hL : mo_L M m) (hs : s ≤ 16) (hc : c < n) (hv : tm_V A n 1 k) (hp : p < 100) (hq : q < 100) : ∀ kk j f W cs, j ≤ k.length → k.length - j < kk → mw_R f m bk n A fr → ml_R f (m + 14) (71 * s + 18) k → mq_R f m W → mk_R f m A cs → W.length + 10 * (k.length - j) ≤ 1190 → ∃ f', fo_fx (fun _ _ => none) (lp_Mo_eventIn_68 m (nI s) (nI p) (nI q) g51 (nI c)) kk (mm_wi M f) (nI j) = g51 (mm_wi M f') (nI (c + 1)) ∧ (∀ i, f' (m + 14) i = if i = 71 * s + 61 + c then f (m + 14) i + nI ((bn_l A p q (k.drop j)).countP (te_due c 69)) else f (m + 14) i) ∧ mq_R f' m (W ++ (List.replicate ((bn_l A p q (k.drop j)).countP (te_due c 69)) (on_l A n 2 c)).flatten) ∧ mk_R f' m A (cs ++ List.replicate ((bn_l A p q (k.drop j)).countP (te_due c 69)) c) ∧ fb_R f f' m := by
  intro kk
  induction kk with
  | zero => intro j f W cs _ h; omega
  | succ kk ih =>
    intro j f W cs hj hkk hW hR hQ hK h12
    have h8 := hR.2.1
    have w2 := hW.2.1
    rw [fx_s, lp_Mo_eventIn_68, xi_gr hL.1 (mr_19 hL), show (71 * nI s + 18 : Int32) = nI (71 * s + 18) from nx_1 s 18, xi_ai (t := 0) (ms_19 hL) (by omega) (by decide), hR.1]
    by_cases h : k.length ≤ j
    · rw [if_pos (nI_le h (by omega)), nI_1, List.drop_eq_nil_of_le h]
      refine ⟨f, rfl, fun i => ?_, ?_, ?_, fun _ _ _ _ _ => rfl⟩
      · show f (m + 14) i = if i = _ then f (m + 14) i + nI 0 else _
        rw [nI_z]; split <;> rfl
      · show mq_R f m (W ++ []); rw [List.append_nil]; exact hQ
      · show mk_R f m A (cs ++ []); rw [List.append_nil]; exact hK
    · rw [if_neg (by rw [nI_leI (by omega) (by omega)]; exact h)]
      obtain ⟨x, hx⟩ : ∃ x, k[j]? = some x := ⟨_, List.getElem?_eq_getElem (by omega)⟩
      obtain ⟨hx1, hx2⟩ := hv x (te_mem hx)
      have hx7 := hR.2.2.1 x (te_mem hx)
      rw [mo_clauseAt (o := 18) (o' := 18) hL hs rfl (by omega) hR hx, xi_cv hL.1, xi_jp, te_drop hx]
      have hno : te_due c 69 x = false → (bn_l A p q (x :: k.drop (j + 1))).countP (te_due c 69) = (bn_l A p q (k.drop (j + 1))).countP (te_due c 69) := by
        intro ht
        rw [bn_c, bn_c, List.countP_cons, ht]; rfl
      by_cases e : x % 100 = c
      · rw [if_pos (by rw [e]), mo_isOf hL hW hc (by rw [e] at hx2; omega) hp hq, xi_cv hL.1]
        cases hF : ag_for A p q c with
        | false =>
          have hn : (bn_l A p q (x :: k.drop (j + 1))).countP (te_due c 69) = (bn_l A p q (k.drop (j + 1))).countP (te_due c 69) := by
            rw [bn_c, bn_c, hF]; simp
          rw [if_pos (bz_f rfl), hn, nI_1]
          exact ih (j + 1) f W cs (by omega) (by omega) hW hR hQ hK (by omega)
        | true =>
          have ht : te_due c 69 x = true := by unfold te_due; rw [decide_eq_true e, decide_eq_true (by omega)]; rfl
          have hn : (bn_l A p q (x :: k.drop (j + 1))).countP (te_due c 69) = (bn_l A p q (k.drop (j + 1))).countP (te_due c 69) + 1 := by
            rw [bn_c, bn_c, hF, List.countP_cons, ht]; simp
          rw [if_neg (bz_t rfl), hn, nI_1]
          have hol := on_len A n 2 c
          obtain ⟨f1, e1, e2, e3, e4, e5⟩ := mo_breach hL hs hW hQ hK hc (by rw [e] at hx2; omega) (by omega)
          rw [e1, xi_cv hL.1]
          obtain ⟨f2, d1, d2, d3, d4, d5⟩ := ih (j + 1) f1 (W ++ on_l A n 2 c) (cs ++ [c]) (by omega) (by omega) (mw_cg hW (e5 _ _ (by omega) (by omega) (by omega)) (e5 _ _ (by omega) (by omega) (by omega)) fun x j h1 h2 => e5 _ _ (by omega) (by omega) (by omega)) (ml_mv hR fun i hi => by rw [e2, if_neg (by omega)]) e3 e4 (by rw [List.length_append]; omega)
          refine ⟨f2, d1, fun i => ?_, ?_, ?_, fun x j h1 h2 h3 => by rw [d5 x j h1 h2 h3, e5 x j h1 h2 h3]⟩
          · rw [d2, e2]
            by_cases hi : i = 71 * s + 61 + c
            · rw [if_pos hi, if_pos hi, if_pos hi, i3_a]
            · rw [if_neg hi, if_neg hi, if_neg hi]
          · rw [List.replicate_succ, List.flatten_cons, ← List.append_assoc]; exact d3
          · rw [List.replicate_succ, List.append_cons]; exact d4
      · have ht : te_due c 69 x = false := by unfold te_due; rw [decide_eq_false e]; rfl
        rw [if_neg (by rw [nI_eq (by omega) (by omega)]; exact e), hno ht, nI_1]
        exact ih (j + 1) f W cs (by omega) (by omega) hW hR hQ hK (by omega)
theorem mo_ban51 {k : List Nat} {j129 : Mm → Rr} {v29 : Int32} (hL : mo_L M m) (hs : s ≤ 16) (hv29 : ¬ 0 ≤ v29) (hkl : k.Perm (sp_B S)) (hv : tm_V A n 1 k) (hp : p < 100) (hq : q < 100) (hW8 : W.length ≤ 100) : ∀ kk c f, c ≤ n → n - c < kk → mw_R f m bk n A fr → ml_R f (m + 14) (71 * s + 18) k → mq_R f m (W ++ br_q A n 69 (bn_l A p q (sp_B S)) ((List.range n).take c)) → mk_R f m A (bq_l (bn_l A p q (sp_B S)) 69 ((List.range n).take c)) → ms_R f m (71 * s) (sp_sc S (bc_n (sp_c S) (bn_l A p q (sp_B S)) 69 c)) → ∃ f', fo_fx (fun _ _ => none) (lp_Mo_eventIn_51 m (nI s) (nI p) (nI q) j129 v29) kk (mm_wi M f) (nI c) = j129 (mm_wi M f') ∧ mw_R f' m bk n A fr ∧ mq_R f' m (W ++ br_q A n 69 (bn_l A p q (sp_B S)) (List.range n)) ∧ mk_R f' m A (bq_l (bn_l A p q (sp_B S)) 69 (List.range n)) ∧ ms_R f' m (71 * s) (sp_sc S (bc_n (sp_c S) (bn_l A p q (sp_B S)) 69 n)) ∧ f' m 23 = f m 23 ∧ fw_R f f' m (71 * s) := by
  intro kk
  induction kk with
  | zero => intro c f _ h; omega
  | succ kk ih =>
    intro c f hc hkk hW hR hQ hK hS
    have w2 := hW.2.1
    have h8 := hR.2.1
    rw [fx_s, lp_Mo_eventIn_51, xi_gi hL.1, hW.2.2.2.1]
    by_cases h : n ≤ c
    · have e : c = n := by omega
      subst e
      rw [if_pos (nI_le h (by omega))]
      rw [List.take_of_length_le (by simp)] at hQ hK
      exact ⟨f, rfl, hW, hQ, hK, hS, rfl, fw_rf⟩
    · rw [if_neg (by rw [nI_leI (by omega) (by omega)]; exact h), if_neg hv29]
      have hl8 : (sp_B S).length ≤ 8 := by rw [← hkl.length_eq]; exact h8
      have hbl := br_len (A := A) (d := 69) (l := bn_l A p q (sp_B S)) w2 c (by omega)
      have hdu := du_le c 69 (bn_l A p q (sp_B S))
      have hbn := bn_len (A := A) (p := p) (k := q) (l := sp_B S)
      obtain ⟨f1, e1, e2, e3, e4, e5⟩ := mo_ban68 (g51 := fo_fx (fun _ _ => none) (lp_Mo_eventIn_51 m (nI s) (nI p) (nI q) j129 v29) kk) hL hs (show c < n by omega) hv hp hq fo_N 0 f _ _ (by omega) (by show _ < 2000; omega) hW hR hQ hK (by rw [List.length_append]; omega)
      have hcn : (bn_l A p q (k.drop 0)).countP (te_due c 69) = (bn_l A p q (sp_B S)).countP (te_due c 69) := by
        rw [List.drop_zero]
        exact (hkl.filter _).countP_eq _
      rw [hcn] at e2 e3 e4
      rw [li_0, e1]
      rw [List.append_assoc, ← br_take (by omega)] at e3
      rw [← bq_take (by omega)] at e4
      have hS1 : ms_R f1 m (71 * s) (sp_sc S (bc_n (sp_c S) (bn_l A p q (sp_B S)) 69 (c + 1))) := by
        show ms_R f1 m (71 * s) (sp_sc (sp_sc S (bc_n (sp_c S) (bn_l A p q (sp_B S)) 69 c)) (bc_n (sp_c S) (bn_l A p q (sp_B S)) 69 (c + 1)))
        refine ms_sc hS (fun j hj => ?_) (fun j hj => by rw [e2, if_neg (by omega)])
        rw [e2, hS.2.2.2.2.2.2 j hj, bc_s]
        show _ = if j = c then bc_n (sp_c S) (bn_l A p q (sp_B S)) 69 c j + _ else bc_n (sp_c S) (bn_l A p q (sp_B S)) 69 c j
        by_cases hjc : j = c
        · rw [if_pos (by omega), if_pos hjc]; rfl
        · rw [if_neg (by omega), if_neg hjc]; rfl
      obtain ⟨f2, d1, d2, d3, d4, d5, d6, d7⟩ := ih (c + 1) f1 (by omega) (by omega) (mw_cg hW (e5 _ _ (by omega) (by omega) (by omega)) (e5 _ _ (by omega) (by omega) (by omega)) fun x j h1 h2 => e5 _ _ (by omega) (by omega) (by omega)) (ml_mv hR fun i hi => by rw [e2, if_neg (by omega)]) e3 e4 hS1
      refine ⟨f2, d1, d2, d3, d4, d5, by rw [d6, e5 _ _ (by omega) (by omega) (by omega)], fun x j h1 h2 h3 => ?_⟩
      rw [d7 x j h1 h2 h3]
      by_cases hx : x = m + 14
      · subst hx; rw [e2, if_neg (by omega)]
      · exact e5 x j (by omega) hx h3
end
