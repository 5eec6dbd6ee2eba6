/-! course and threat in the reference -/
section
variable {M : Mm} {f : Nat → Nat → Int32} {m bk n : Nat} {E : Int32} {fr : Nat → Bool} {o : So} {A : Nat → Nat → Nat} {S : Sp} {H : List Sp} {dp : Nat → Nat}
def ak_n (o : So) (p d : Int32) : Nat := match o with | none => 1 | some (_, _, S, _) => match cs_n S p d with | some _ => 0 | none => 2
theorem ak_0 {p d : Int32} {y : Nat × Nat} (h : cs_n S p d = some y) : ak_n (some (n, A, S, H)) p d = 0 := by unfold ak_n; dsimp only; rw [h]
theorem ak_2 {p d : Int32} (h : cs_n S p d = none) : ak_n (some (n, A, S, H)) p d = 2 := by unfold ak_n; dsimp only; rw [h]
theorem cs_p {p d : Int32} (h : pv_n 3 p = none) : cs_n S p d = none := by unfold cs_n; rw [h]
theorem cs_d {p d : Int32} (h : dv_n d = none) : cs_n S p d = none := by unfold cs_n; rw [h]; cases pv_n 3 p <;> rfl
theorem cs_y {p d : Int32} {a e : Nat} (h1 : pv_n 3 p = some a) (h2 : dv_n d = some e) (h3 : sp_d S ≤ 58) : cs_n S p d = some (a, e) := by
  unfold cs_n; rw [h1, h2]; dsimp only; rw [if_pos h3]
theorem cs_o {p d : Int32} (h3 : ¬ sp_d S ≤ 58) : cs_n S p d = none := by
  unfold cs_n
  cases pv_n 3 p with
  | none => rfl
  | some a =>
    cases dv_n d with
    | none => rfl
    | some e => dsimp only; rw [if_neg h3]
theorem mo_ask {p d : Int32} (hL : mo_L M m) (hQ : mo_Q f m bk E fr o) : fn_Mo_askCode (mm_wi M f) m p d = some (nI (ak_n o p d), mm_wi M f) := by
  have a2 := hQ.2.1
  rw [fn_Mo_askCode, xi_gi hL.1, a2]
  cases o with
  | none => rw [if_pos (by rfl)]; rfl
  | some y =>
    obtain ⟨n, A, S, H⟩ := y
    obtain ⟨hW, hH⟩ := hQ.2.2.2.2.2.2 n A S H rfl
    have hd := hH.1.2.1
    rw [if_neg (by exact bz_t rfl), mo_isParty, xi_cl]
    cases hp : pv_n 3 p with
    | none => rw [if_pos (by rfl), ak_2 (cs_p hp)]; rfl
    | some a =>
      rw [if_neg (by exact bz_t rfl)]
      have hfin : ∀ e, dv_n d = some e → (fo_gr (mm_wi M f) 9 m 19 fun a29 => fo_ai (mm_wi M f) 0 a29 0 fun v33 => if v33 ≤ 58 then some (0, mm_wi M f) else some (2, mm_wi M f)) = some (nI (ak_n (some (n, A, S, H)) p d), mm_wi M f) := by
        intro e he
        rw [xi_gr hL.1 (mr_19 hL), li_0, xi_ai (t := 0) (ms_19 hL) (by omega) (by decide), hH.1.1]
        by_cases h58 : sp_d S ≤ 58
        · rw [if_pos (show nI (sp_d S) ≤ 58 from nI_le (b := 58) h58 (by omega)), ak_0 (cs_y hp he h58)]
        · rw [if_neg (by rw [show (58 : Int32) = nI 58 from rfl, nI_leI (by omega) (by omega)]; exact h58), ak_2 (cs_o h58)]; rfl
      by_cases h1 : d = 1
      · subst h1
        rw [if_neg (show ¬ (1 : Int32) < 1 by decide), if_neg (show ¬ (2 : Int32) < 1 by decide)]
        exact hfin 1 rfl
      · by_cases h2 : d = 2
        · subst h2
          rw [if_neg (show ¬ (2 : Int32) < 1 by decide), if_neg (show ¬ (2 : Int32) < 2 by decide)]
          exact hfin 2 rfl
        · have hdv : dv_n d = none := by unfold dv_n; rw [if_neg h1, if_neg h2]
          rw [ak_2 (cs_d hdv)]
          by_cases h3 : d < 1
          · rw [if_pos h3]; rfl
          · rw [if_neg h3, if_pos (show (2 : Int32) < d from Classical.byContradiction fun h4 => by
              by_cases h0 : d < 0
              · exact absurd (Int32.lt_trans h0 (by decide)) h3
              · obtain ⟨r, hr, rfl⟩ := nI_of h0
                rw [li_1, nI_ltI hr (by omega)] at h3
                rw [li_2, nI_ltI (by omega) hr] at h4
                have : r = 1 ∨ r = 2 := by omega
                rcases this with rfl | rfl
                · exact h1 rfl
                · exact h2 rfl)]; rfl
theorem cd_i : ∀ c, c < 31 → (if 1 ≤ nI c then (if 6 ≤ nI c then (100 + (10 * ((nI c - 6) / 5))) + ((nI c - 6) - (nI c - 6) / 5 * 5) else 9 + nI c) else nI c) = nI (cd_n c) := by decide +kernel
theorem fy_Q {f' : Nat → Nat → Int32} (hQ : mo_Q f m bk E fr o) (h : fy_R f f' m) : mo_Q f' m bk E fr o := mo_Q_cg hQ fun a j h1 h2 h3 h4 => h a j (by omega) (by omega) h4
theorem fy_t {f' : Nat → Nat → Int32} (h : fy_R f f' m) : ft_R f f' m := ⟨fun a ha => funext fun j => h a j (by omega) (by omega) (by omega), h m 1 (by omega) (by omega) (by omega)⟩
theorem fq_eq {a e : Nat} : fq_n A n fr a e S = ((List.range 31).find? (gq_n A n fr a (rd_2 A n fr a e) S)).map cd_n := fc_eq
theorem mo_course {p d : Int32} (hL : mo_L M m) (hQ : mo_Q f m bk E fr o) (hV : vo_P o) : ∃ f' v, fn_Mo_course (mm_wi M f) m p d = some (v, mm_wi M f') ∧ f' m 0 = nI (oc_co fr o p d).1 ∧ ((oc_co fr o p d).1 = 0 → v = (oc_co fr o p d).2) ∧ mo_Q f' m bk E fr o ∧ ft_R f f' m := by
  rw [fn_Mo_course, mo_ask hL hQ, xi_cv hL.1, xi_pi hL.1, xi_gi hL.1, up_e]
  have hQ0 := mo_Q_0 (v := nI (ak_n o p d)) hQ
  cases o with
  | none =>
    rw [show ak_n none p d = 1 from rfl, if_neg (by decide)]
    exact ⟨_, _, rfl, up_e, fun h => (by cases h), mo_Q_0 hQ, ft_0⟩
  | some y =>
    obtain ⟨n, A, S, H⟩ := y
    unfold oc_co
    dsimp only
    cases hc : cs_n S p d with
    | none =>
      rw [ak_2 hc, if_neg (by decide)]
      exact ⟨_, _, rfl, up_e, fun h => (by cases h), mo_Q_0 hQ, ft_0⟩
    | some y =>
      obtain ⟨a, e⟩ := y
      rw [ak_0 hc] at hQ0 ⊢
      rw [if_pos (by decide)]
      obtain ⟨k1, k2, k3, k4⟩ := cs_s hc
      obtain ⟨rfl, ha⟩ := pv_s k1
      subst k2
      obtain ⟨hV1, hV2, dp, hdp⟩ := hV n A S H rfl
      obtain ⟨hW0, hH0⟩ := hQ0.2.2.2.2.2.2 n A S H rfl
      obtain ⟨f1, e1, e2⟩ := mo_firstCourse (M := M) (f := up_2 f m 0 (nI 0)) (p := a) (a := 0) (a' := 0) (d := e) rfl hL (by omega) hdp ha hV1 (by omega) k3 hW0 hH0.1
      rw [e1, xi_cv hL.1]
      have hfq := fq_eq (A := A) (n := n) (fr := fr) (a := a) (e := e) (S := S)
      have h00 : f1 m 0 = nI 0 := by rw [e2 m 0 (by omega) (by omega) (by omega), up_e]
      dsimp only
      cases hf : (List.range 31).find? (gq_n A n fr a (rd_2 A n fr a e) S) with
      | none =>
        rw [hf] at hfq
        rw [if_neg (show ¬ 1 ≤ fz none by decide), hfq]
        exact ⟨f1, _, rfl, h00, fun _ => rfl, fy_Q hQ0 e2, ft_tr ft_0 (fy_t e2)⟩
      | some c =>
        have hc31 : c < 31 := List.mem_range.mp (List.mem_of_find?_eq_some hf)
        rw [hf] at hfq
        rw [hfq]
        refine ⟨f1, nI (cd_n c), ?_, h00, fun _ => rfl, fy_Q hQ0 e2, ft_tr ft_0 (fy_t e2)⟩
        rw [← cd_i c hc31, fz_s]
        split
        · split <;> rfl
        · rfl
/-- what a threat's trial changes -/
def f3_R (f f' : Nat → Nat → Int32) (m : Nat) : Prop := ∀ a j, (a ≠ m ∨ j < 21) → (a ≠ m + 14 ∨ j < 994) → a ≠ m + 15 → f' a j = f a j
theorem f3_Q {f' : Nat → Nat → Int32} (hQ : mo_Q f m bk E fr o) (h : f3_R f f' m) : mo_Q f' m bk E fr o := mo_Q_cg hQ fun a j h1 h2 h3 h4 => h a j (by omega) (by omega) h4
theorem f3_t {f' : Nat → Nat → Int32} (h : f3_R f f' m) : ft_R f f' m := ⟨fun a ha => funext fun j => h a j (by omega) (by omega) (by omega), h m 1 (by omega) (by omega) (by omega)⟩
theorem f3_tr {f1 f2 : Nat → Nat → Int32} (h1 : f3_R f f1 m) (h2 : f3_R f1 f2 m) : f3_R f f2 m := fun a j x y z => by rw [h2 a j x y z, h1 a j x y z]
theorem th_d : ∀ c, c < 15 → nI c / 5 = nI (c / 5) ∧ nI c - nI c / 5 * 5 = nI (c % 5) := by decide +kernel
/-- a threat, without pruning -/
theorem tr_re {a e c : Nat} (hS : (fq_n A n fr a e S).isSome = true) : tr_n A n fr a e S c = (!decide (c / 5 = a) && (match re_n A n fr (c / 5) (c % 5) S with | some S1 => (fq_n A n fr a e S1).isNone | none => false)) := by
  unfold tr_n
  congr 1
  cases h : tb_n A n (c / 5) (c % 5) S with
  | true => rw [re_ch h]; cases ch_n A n fr (c / 5) (c % 5) S <;> rfl
  | false =>
    rw [re_no h, ch_no h]
    dsimp only
    cases hq : fq_n A n fr a e S with
    | none => rw [hq] at hS; cases hS
    | some v => rfl
theorem mo_th_lp {a e : Nat} (hL : mo_L M m) (hdp : dp_W n A dp) (hV : sp_V A n S) (ha : a < 3) (he : e = 1 ∨ e = 2) (hd : sp_d S ≤ 58) (hq : (fq_n A n fr a e S).isSome = true) : ∀ kk i f, i ≤ 15 → 15 - i < kk → mo_Q f m bk E fr (some (n, A, S, H)) → ∃ f', fo_fx (fun _ _ => none) (lp_Mo_threat_42 m (nI a) (nI e)) kk (mm_wi M f) (nI i) = some (fz (((List.range 15).drop i).find? (tr_n A n fr a e S)), mm_wi M f') ∧ f3_R f f' m := by
  intro kk
  induction kk with
  | zero => intro i f _ h; omega
  | succ kk ih =>
    intro i f hi hk hQ
    rw [fx_s, lp_Mo_threat_42]
    by_cases h15 : 15 ≤ i
    · rw [if_pos (show (15 : Int32) ≤ nI i from nI_le (a := 15) h15 (by omega)), rg_end h15]
      exact ⟨f, rfl, fun _ _ _ _ _ => rfl⟩
    · obtain ⟨d1, d2⟩ := th_d i (by omega)
      rw [if_neg (by rw [show (15 : Int32) = nI 15 from rfl, nI_leI (by omega) (by omega)]; exact h15), xi_jp, d1, rg_drop (by omega), List.find?_cons]
      dsimp only
      rw [nI_1]
      have next : ∀ f1, f3_R f f1 m → tr_n A n fr a e S i = false → ∃ f', fo_fx (fun _ _ => none) (lp_Mo_threat_42 m (nI a) (nI e)) kk (mm_wi M f1) (nI (i + 1)) = some (fz (match tr_n A n fr a e S i with | true => some i | false => ((List.range 15).drop (i + 1)).find? (tr_n A n fr a e S)), mm_wi M f') ∧ f3_R f f' m := by
        intro f1 hf ht
        obtain ⟨f2, b1, b2⟩ := ih (i + 1) f1 (by omega) (by omega) (f3_Q hQ hf)
        rw [ht]
        exact ⟨f2, b1, f3_tr hf b2⟩
      have htr := tr_re (c := i) hq
      by_cases hia : i / 5 = a
      · rw [if_pos (by rw [hia])]
        exact next f (fun _ _ _ _ _ => rfl) (by rw [htr, decide_eq_true hia]; rfl)
      · rw [decide_eq_false hia, Bool.not_false, Bool.true_and] at htr
        rw [if_neg (by rw [nI_eq (by omega) (by omega)]; exact hia)]
        obtain ⟨hW0, hH0⟩ := hQ.2.2.2.2.2.2 n A S H rfl
        have hn := hW0.2.1
        obtain ⟨f1, b1, b2, b3⟩ := mo_copy (M := M) (f := f) (s := 0) (t := 14) hL (by omega) (by omega) (by omega)
        rw [show (fn_Mo_copy (mm_wi M f) m 0 14) = _ from b1, xi_cv hL.1]
        have w1 : fw_R f f1 m (71 * 14) := fun x j h1 h2 h3 => b3 x j h2
        have hS1 : ms_R f1 m (71 * 14) S := ms_mv (b := 0) hH0.1 fun j hj => by rw [b2 j hj, Nat.mul_zero]
        obtain ⟨f2, e1, e2, e3, e4, -, e8⟩ := mo_eventIn (M := M) (f := f1) (s := 14) (s' := 14) (p := i / 5) (q := i % 5) (q' := nI i - nI (i / 5) * 5) rfl rfl (by rw [← d1]; exact d2) hL (by omega) hdp (mw_fw hW0 w1) hS1 hV (by omega) (by omega)
        rw [e1, xi_cv hL.1, xi_gi hL.1]
        have w2 : f3_R f f2 m := fun x j h1 h2 h3 => by rw [e8 x j h1 (by omega) h3, w1 x j h1 (by omega) h3]
        have hQ2 := f3_Q hQ w2
        cases hev : sp_ev A n fr (i / 5) (i % 5) S with
        | none =>
          have hre : re_n A n fr (i / 5) (i % 5) S = none := by unfold re_n; rw [hev, ite_self]
          rw [hre] at htr
          rw [e3 hev, xi_jp, xi_jp]
          dsimp only
          rw [if_neg (show ¬ (1 : Int32) = 0 by decide), if_pos rfl]
          exact next f2 w2 htr
        | some S1 =>
          obtain ⟨h23, hS2⟩ := e2 S1 hev
          have hm8 := sp_m_le (A := A) (n := n) (p := i / 5) (k := i % 5) hV.2.2.2.2.1
          rw [h23, xi_jp, xi_jp]
          dsimp only
          rw [if_pos (show (0 : Int32) = 0 from rfl), xi_gi hL.1, e4]
          by_cases hm : sp_m A n (i / 5) (i % 5) S = 0
          · have hre : re_n A n fr (i / 5) (i % 5) S = some S1 := by unfold re_n; rw [if_pos hm, hev]
            rw [hre] at htr
            dsimp only at htr
            rw [if_pos (by rw [hm]; rfl), if_neg (show ¬ (1 : Int32) = 0 by decide)]
            have hV1 := sp_ev_V hn hdp (mw_4 hW0) hV hev
            have hd1 := sp_ev_d hev
            obtain ⟨f3, c1, c2⟩ := mo_firstCourse (M := M) (f := f2) (p := a) (a := 14) (a' := 14) (d := e) rfl hL (by omega) hdp ha hV1 (by omega) he (hQ2.2.2.2.2.2.2 n A S H rfl).1 hS2
            rw [c1, xi_cv hL.1]
            have w3 : f3_R f f3 m := fun x j h1 h2 h3 => by rw [c2 x j h1 (by omega) h3, w2 x j h1 h2 h3]
            rw [fq_eq] at htr
            cases hfd : (List.range 31).find? (gq_n A n fr a (rd_2 A n fr a e) S1) with
            | none =>
              rw [hfd] at htr
              rw [if_neg (show ¬ 0 ≤ fz none by decide), htr]
              exact ⟨f3, rfl, w3⟩
            | some c =>
              have hc31 : c < 31 := List.mem_range.mp (List.mem_of_find?_eq_some hfd)
              rw [hfd] at htr
              rw [fz_s, if_pos (nI_pos' (by omega))]
              exact next f3 w3 htr
          · have hre : re_n A n fr (i / 5) (i % 5) S = none := by unfold re_n; rw [if_neg hm]
            rw [hre] at htr
            rw [if_neg (nI_ne0 (by omega) (by omega)), if_pos rfl]
            exact next f2 w2 htr
theorem mo_threat {p d : Int32} (hL : mo_L M m) (hQ : mo_Q f m bk E fr o) (hV : vo_P o) : ∃ f' v, fn_Mo_threat (mm_wi M f) m p d = some (v, mm_wi M f') ∧ f' m 0 = nI (oc_th fr o p d).1 ∧ ((oc_th fr o p d).1 = 0 → v = (oc_th fr o p d).2) ∧ mo_Q f' m bk E fr o ∧ ft_R f f' m := by
  rw [fn_Mo_threat, mo_ask hL hQ, xi_cv hL.1, xi_pi hL.1, xi_gi hL.1, up_e, xi_jp]
  have hQ0 := mo_Q_0 (v := nI (ak_n o p d)) hQ
  cases o with
  | none =>
    rw [show ak_n none p d = 1 from rfl, if_pos (by decide)]
    dsimp only
    rw [xi_gi hL.1, up_e, if_neg (by decide)]
    exact ⟨_, _, rfl, up_e, fun h => (by cases h), mo_Q_0 hQ, ft_0⟩
  | some y =>
    obtain ⟨n, A, S, H⟩ := y
    unfold oc_th
    dsimp only
    cases hc : cs_n S p d with
    | none =>
      rw [ak_2 hc, if_pos (by decide), xi_gi hL.1, up_e, if_neg (by decide)]
      exact ⟨_, _, rfl, up_e, fun h => (by cases h), mo_Q_0 hQ, ft_0⟩
    | some y =>
      obtain ⟨a, e⟩ := y
      rw [ak_0 hc] at hQ0 ⊢
      rw [if_neg (by decide)]
      obtain ⟨k1, k2, k3, k4⟩ := cs_s hc
      obtain ⟨rfl, ha⟩ := pv_s k1
      subst k2
      obtain ⟨hV1, hV2, dp, hdp⟩ := hV n A S H rfl
      obtain ⟨hW0, hH0⟩ := hQ0.2.2.2.2.2.2 n A S H rfl
      obtain ⟨f1, e1, e2⟩ := mo_firstCourse (M := M) (f := up_2 f m 0 (nI 0)) (p := a) (a := 0) (a' := 0) (d := e) rfl hL (by omega) hdp ha hV1 (by omega) k3 hW0 hH0.1
      rw [e1, xi_cv hL.1]
      have hfq := fq_eq (A := A) (n := n) (fr := fr) (a := a) (e := e) (S := S)
      have h00 : f1 m 0 = nI 0 := by rw [e2 m 0 (by omega) (by omega) (by omega), up_e]
      have hQ1 := fy_Q hQ0 e2
      dsimp only
      cases hf : (List.range 31).find? (gq_n A n fr a (rd_2 A n fr a e) S) with
      | none =>
        rw [hf] at hfq
        rw [if_neg (show ¬ 0 ≤ fz none by decide), hfq, xi_gi hL.1, h00, if_pos (by decide)]
        exact ⟨f1, _, rfl, h00, fun _ => rfl, hQ1, ft_tr ft_0 (fy_t e2)⟩
      | some c =>
        have hc31 : c < 31 := List.mem_range.mp (List.mem_of_find?_eq_some hf)
        rw [hf] at hfq
        have hqs : (fq_n A n fr a e S).isSome = true := by rw [hfq]; rfl
        rw [fz_s, if_pos (nI_pos' (by omega)), if_pos hqs]
        obtain ⟨f2, b1, b2⟩ := mo_th_lp (a := a) (e := e) hL hdp hV1 ha k3 k4 hqs fo_N 0 f1 (by omega) (by decide) hQ1
        rw [li_0, b1]
        exact ⟨f2, _, rfl, by rw [b2 m 0 (by omega) (by omega) (by omega), h00], fun _ => rfl, f3_Q hQ1 b2, ft_tr ft_0 (ft_tr (fy_t e2) (f3_t b2))⟩
end
