/-! the law's loop -/
section
variable {x b L : Nat} {xs : Nat → Int32}
theorem lq_loop (hLL : L ≤ 1536) : ∀ kk i M f, i ≤ L → L - i < kk → lq_R M f x b L xs → ∃ M', fo_fx (fun _ _ => none) (lp_Lw_law_23 b x (x + 216) (x + 232)) kk (mm_wi M f) (nI i) = some (1, M') := by
  intro kk
  induction kk with
  | zero => intro i M f _ h; omega
  | succ kk ih =>
    intro i M f hi hk h0
    obtain ⟨g, h, T, E, fr, o, bk, hsl, hm, hu, hb, hbx, hx, hT, hP, hT2, hQ, hV⟩ := id h0
    rw [fx_s, lp_Lw_law_23, xi_an (t := 6) hb]
    by_cases hi3 : i + 3 ≤ L
    · rw [if_neg (show ¬ nI L - 3 < nI i by rw [show (3 : Int32) = nI 3 from rfl, pk_sub (by omega), nI_ltI (by omega) (by omega)]; omega), ai_s hb (by omega) hLL hx, xi_jp]
      have done : ∀ M2 f2, lq_R M2 f2 x b L xs → ∃ M', (fun (Mj708 : Mm) => fo_fx (fun _ _ => none) (lp_Lw_law_23 b x (x + 216) (x + 232)) kk Mj708 (nI i + 3)) (mm_wi M2 f2) = some (1, M') := by
        intro M2 f2 hq
        obtain ⟨M', hM'⟩ := ih (i + 3) M2 f2 (by omega) (by omega) hq
        refine ⟨M', ?_⟩
        rw [← nI_add] at hM'
        exact hM'
      generalize hJ : (fun (Mj708 : Mm) => fo_fx (fun _ _ => none) (lp_Lw_law_23 b x (x + 216) (x + 232)) kk Mj708 (nI i + 3)) = JJ at done ⊢
      clear hJ
      by_cases c0 : xs i &&& 31 = 0
      · rw [if_pos c0]
        obtain ⟨M2, f2, e, r⟩ := lo_pair (J := JJ) (FP := fun M a p q => fn_Pm_type M a (((p.toInt64) <<< ((32 : Int32).toInt64 &&& 63)) ||| ((q.toInt64) &&& 4294967295))) (FM := fun M a p q => fn_Mo_type M a (((p.toInt64) <<< ((32 : Int32).toInt64 &&& 63)) ||| ((q.toInt64) &&& 4294967295))) hLL hi3 h0 (lo_type h0)
        obtain ⟨M', hM'⟩ := done M2 f2 r
        exact ⟨M', e.trans hM'⟩
      rw [if_neg c0]
      by_cases c1 : xs i &&& 31 = 1
      · rw [if_pos c1]
        obtain ⟨M2, f2, e, r⟩ := lo_erase (J := JJ) h0
        obtain ⟨M', hM'⟩ := done M2 f2 r
        exact ⟨M', e.trans hM'⟩
      rw [if_neg c1]
      by_cases c2 : xs i &&& 31 = 2
      · rw [if_pos c2]
        obtain ⟨M2, f2, e, r⟩ := lo_one (J := JJ) (FP := fn_Pm_free) (FM := fn_Mo_free) hLL hi3 h0 (lo_free h0)
        obtain ⟨M', hM'⟩ := done M2 f2 r
        exact ⟨M', e.trans hM'⟩
      rw [if_neg c2]
      by_cases c3 : xs i &&& 31 = 3
      · rw [if_pos c3]
        obtain ⟨M2, f2, e, r⟩ := lo_begin (J := JJ) h0
        obtain ⟨M', hM'⟩ := done M2 f2 r
        exact ⟨M', e.trans hM'⟩
      rw [if_neg c3]
      by_cases c4 : xs i &&& 31 = 4
      · rw [if_pos c4]
        obtain ⟨M2, f2, e, r⟩ := lo_two (J := JJ) (FP := fn_Pm_stop) (FM := fn_Mo_stop) h0 (lo_stop h0)
        obtain ⟨M', hM'⟩ := done M2 f2 r
        exact ⟨M', e.trans hM'⟩
      rw [if_neg c4]
      by_cases c5 : xs i &&& 31 = 5
      · rw [if_pos c5]
        obtain ⟨M2, f2, e, r⟩ := lo_two (J := JJ) (FP := fn_Pm_fault) (FM := fn_Mo_fault) h0 (lo_ask h0 fun g h E fr o bk hL hm hP hQ hV => ⟨_, pm_fault hL hP, mo_fault hm hQ⟩)
        obtain ⟨M', hM'⟩ := done M2 f2 r
        exact ⟨M', e.trans hM'⟩
      rw [if_neg c5]
      by_cases c6 : xs i &&& 31 = 6
      · rw [if_pos c6]
        obtain ⟨M2, f2, e, r⟩ := lo_event (J := JJ) hLL hi3 h0
        obtain ⟨M', hM'⟩ := done M2 f2 r
        exact ⟨M', e.trans hM'⟩
      rw [if_neg c6]
      by_cases c7 : xs i &&& 31 = 7
      · rw [if_pos c7]
        obtain ⟨M2, f2, e, r⟩ := lo_nextDay (J := JJ) h0
        obtain ⟨M', hM'⟩ := done M2 f2 r
        exact ⟨M', e.trans hM'⟩
      rw [if_neg c7]
      by_cases c8 : xs i &&& 31 = 8
      · rw [if_pos c8]
        obtain ⟨M2, f2, e, r⟩ := lo_two (J := JJ) (FP := fn_Pm_undo) (FM := fn_Mo_undo) h0 (lo_undo h0)
        obtain ⟨M', hM'⟩ := done M2 f2 r
        exact ⟨M', e.trans hM'⟩
      rw [if_neg c8]
      by_cases c9 : xs i &&& 31 = 9
      · rw [if_pos c9]
        obtain ⟨M2, f2, e, r⟩ := lo_two (J := JJ) (FP := fn_Pm_today) (FM := fn_Mo_today) h0 (lo_ask h0 fun g h E fr o bk hL hm hP hQ hV => ⟨_, pm_today hL hP, mo_today hm hQ⟩)
        obtain ⟨M', hM'⟩ := done M2 f2 r
        exact ⟨M', e.trans hM'⟩
      rw [if_neg c9]
      by_cases c10 : xs i &&& 31 = 10
      · rw [if_pos c10]
        obtain ⟨M2, f2, e, r⟩ := lo_one (J := JJ) (FP := fn_Pm_duty) (FM := fn_Mo_duty) hLL hi3 h0 (lo_ask (FP := fun M a => fn_Pm_duty M a (xs (i + 1))) (FM := fun M a => fn_Mo_duty M a (xs (i + 1))) h0 fun g h E fr o bk hL hm hP hQ hV => ⟨_, pm_duty hL hP, mo_duty hm hQ⟩)
        obtain ⟨M', hM'⟩ := done M2 f2 r
        exact ⟨M', e.trans hM'⟩
      rw [if_neg c10]
      by_cases c11 : xs i &&& 31 = 11
      · rw [if_pos c11]
        obtain ⟨M2, f2, e, r⟩ := lo_one (J := JJ) (FP := fn_Pm_count) (FM := fn_Mo_count) hLL hi3 h0 (lo_ask (FP := fun M a => fn_Pm_count M a (xs (i + 1))) (FM := fun M a => fn_Mo_count M a (xs (i + 1))) h0 fun g h E fr o bk hL hm hP hQ hV => ⟨_, pm_count hL hP, mo_count hm hQ⟩)
        obtain ⟨M', hM'⟩ := done M2 f2 r
        exact ⟨M', e.trans hM'⟩
      rw [if_neg c11]
      by_cases c12 : xs i &&& 31 = 12
      · rw [if_pos c12]
        obtain ⟨M2, f2, e, r⟩ := lo_one (J := JJ) (FP := fn_Pm_breaches) (FM := fn_Mo_breaches) hLL hi3 h0 (lo_ask (FP := fun M a => fn_Pm_breaches M a (xs (i + 1))) (FM := fun M a => fn_Mo_breaches M a (xs (i + 1))) h0 fun g h E fr o bk hL hm hP hQ hV => ⟨_, pm_breaches hL hP, mo_breaches hm hQ⟩)
        obtain ⟨M', hM'⟩ := done M2 f2 r
        exact ⟨M', e.trans hM'⟩
      rw [if_neg c12]
      by_cases c13 : xs i &&& 31 = 13
      · rw [if_pos c13]
        obtain ⟨M2, f2, e, r⟩ := lo_pair (J := JJ) (FP := fn_Pm_may) (FM := fn_Mo_may) hLL hi3 h0 (lo_ask (FP := fun M a => fn_Pm_may M a (xs (i + 1)) (xs (i + 2))) (FM := fun M a => fn_Mo_may M a (xs (i + 1)) (xs (i + 2))) h0 fun g h E fr o bk hL hm hP hQ hV => ⟨_, pm_may hL hP hV, mo_may hm hQ hV⟩)
        obtain ⟨M', hM'⟩ := done M2 f2 r
        exact ⟨M', e.trans hM'⟩
      rw [if_neg c13]
      by_cases c14 : xs i &&& 31 = 14
      · rw [if_pos c14]
        obtain ⟨M2, f2, e, r⟩ := lo_pair (J := JJ) (FP := fn_Pm_owed) (FM := fn_Mo_owed) hLL hi3 h0 (lo_ask (FP := fun M a => fn_Pm_owed M a (xs (i + 1)) (xs (i + 2))) (FM := fun M a => fn_Mo_owed M a (xs (i + 1)) (xs (i + 2))) h0 fun g h E fr o bk hL hm hP hQ hV => ⟨_, pm_owed hL hP, mo_owed hm hQ⟩)
        obtain ⟨M', hM'⟩ := done M2 f2 r
        exact ⟨M', e.trans hM'⟩
      rw [if_neg c14]
      by_cases c15 : xs i &&& 31 = 15
      · rw [if_pos c15]
        obtain ⟨M2, f2, e, r⟩ := lo_course (J := JJ) hLL hi3 h0
        obtain ⟨M', hM'⟩ := done M2 f2 r
        exact ⟨M', e.trans hM'⟩
      rw [if_neg c15]
      by_cases c16 : xs i &&& 31 = 16
      · rw [if_pos c16]
        obtain ⟨M2, f2, e, r⟩ := lo_threat (J := JJ) hLL hi3 h0
        obtain ⟨M', hM'⟩ := done M2 f2 r
        exact ⟨M', e.trans hM'⟩
      rw [if_neg c16]
      exact done M f h0
    · rw [if_pos ?_]
      · exact ⟨_, rfl⟩
      · by_cases h3 : 3 ≤ L
        · rw [show (3 : Int32) = nI 3 from rfl, pk_sub h3, nI_ltI (by omega) (by omega)]; omega
        · have h1 : nI L - 3 < 0 := by
            have h2 : ∀ l, l < 3 → nI l - 3 < 0 := by decide +kernel
            exact h2 L (by omega)
          exact Int32.lt_of_lt_of_le h1 (nI_pos' (by omega))
end
