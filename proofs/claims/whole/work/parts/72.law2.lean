/-! the law: steps that may throw -/
section
variable {M M1 : Mm} {f f1 f2 : Nat → Nat → Int32} {x b L g h bk i m u k c : Nat} {v : Int32} {xs : Nat → Int32} {T : List Nat} {E : Int32} {fr : Nat → Bool} {o : So} {J : Mm → Rr}
theorem mr_wi : mr_t k v (mm_wi M f) u = mm_wi (mr_t k v (mm_wi M f) u) f := by unfold mr_t; split <;> rfl
theorem lc_0 (a : Int64) : lg_cmp a a = 0 := by
  unfold lg_cmp
  simp
theorem lo_cmp (hm : mo_L M m) (h0 : f m 0 = nI c) (hc : c < 100) (hu : mm_s M u = (5, 1)) (hl : c = 0 → mm_l M u 0 = v.toInt64) : (fo_cv (mm_wi M f) 9 m (fn_Mo_thrown (mm_wi M f) m) fun v229 M229 => if v229 = nI c then fo_jp (J M229) (fun j256 => if nI c = 0 then fo_al M229 u 0 fun v246 => if (lg_cmp v246 (v.toInt64)) = 0 then j256 else some (0, M229) else j256) else some (0, M229)) = J (mm_wi M f) := by
  rw [fn_Mo_thrown, xi_gi hm.1, h0, xi_cv hm.1, if_pos rfl, xi_jp]
  by_cases e : c = 0
  · subst e
    rw [if_pos (by rfl)]
    unfold fo_al
    rw [wi_s, hu, if_pos ⟨rfl, by decide⟩, show mm_l (mm_wi M f) u (0 : Int32).toNatClampNeg = v.toInt64 from hl rfl]
    dsimp only
    rw [lc_0, if_pos rfl]
  · rw [if_neg (nI_ne0 (by omega) (by omega))]
theorem lo_fin {vv w : Int32} {cm : Nat → Nat} {FM : Mm → Rr} (hu1 : mm_s M1 u = (5, 1)) (hm1 : mo_L M1 m) (hcm : ∀ k, k ≤ 3 → cm k < 100) (hk : k ≤ 3) (hc0 : cm k = 0 → k = 0) (hFM : FM (mr_t k vv (mm_wi M1 f1) u) = some (w, mm_wi (mr_t k vv (mm_wi M1 f1) u) f2)) (h0 : f2 m 0 = nI (cm k)) (hw : k = 0 → w = vv) : (fo_cv (mr_t k vv (mm_wi M1 f1) u) 9 m (FM (mr_t k vv (mm_wi M1 f1) u)) fun v223 M223 => fo_cv M223 9 m (fn_Mo_thrown M223 m) fun v229 M229 => if v229 = nI (cm k) then fo_jp (J M229) (fun j256 => if nI (cm k) = 0 then fo_al M229 u 0 fun v246 => if (lg_cmp v246 (v223.toInt64)) = 0 then j256 else some (0, M229) else j256) else some (0, M229)) = J (mm_wi (mr_t k vv (mm_wi M1 f1) u) f2) := by
  have hm2 : mo_L (mr_t k vv (mm_wi M1 f1) u) m := mo_Lc hm1 mr_s (by rw [mr_r]; rfl)
  have hu2 : mm_s (mr_t k vv (mm_wi M1 f1) u) u = (5, 1) := by rw [mr_s]; exact hu1
  rw [hFM]
  unfold fo_cv
  rw [if_pos hm2.1]
  show (fo_cv (mm_wi (mr_t k vv (mm_wi M1 f1) u) f2) 9 m (fn_Mo_thrown (mm_wi (mr_t k vv (mm_wi M1 f1) u) f2) m) fun v229 M229 => if v229 = nI (cm k) then fo_jp (J M229) (fun j256 => if nI (cm k) = 0 then fo_al M229 u 0 fun v246 => if (lg_cmp v246 (w.toInt64)) = 0 then j256 else some (0, M229) else j256) else some (0, M229)) = _
  exact lo_cmp hm2 h0 (hcm k hk) hu2 fun e => by rw [mr_l (hc0 e), hw (hc0 e)]
theorem oc_bg_k : (oc_bg T fr o).1 = 0 ∨ (oc_bg T fr o).1 = 2 ∨ (oc_bg T fr o).1 = 3 := by
  unfold oc_bg
  cases rt_n T with
  | inl e => exact .inr (.inl rfl)
  | inr y =>
    obtain ⟨n, A⟩ := y
    dsimp only
    cases sp_run A fr 800 (st_l A n) sp_0 with
    | none => exact .inr (.inr rfl)
    | some S => exact .inl rfl
theorem oc_ev_k {p q : Int32} : (oc_ev fr o p q).1 ≤ 3 := by
  unfold oc_ev
  cases o with
  | none => show 1 ≤ 3; omega
  | some y =>
    obtain ⟨n, A, S, H⟩ := y
    dsimp only
    cases pv_n 3 p with
    | none => show 2 ≤ 3; omega
    | some a =>
      cases pv_n 5 q with
      | none => show 2 ≤ 3; omega
      | some b =>
        dsimp only
        cases sp_ev A n fr a b S with
        | none => show 3 ≤ 3; omega
        | some S' => show 0 ≤ 3; omega
theorem oc_nd_k : (oc_nd fr o).1 = 0 ∨ (oc_nd fr o).1 = 1 ∨ (oc_nd fr o).1 = 3 := by
  unfold oc_nd
  cases o with
  | none => exact .inr (.inl rfl)
  | some y =>
    obtain ⟨n, A, S, H⟩ := y
    dsimp only
    by_cases h : sp_d S = 60
    · rw [if_pos h]; exact .inr (.inl rfl)
    · rw [if_neg h]
      cases sp_end A n fr S with
      | none => exact .inr (.inr rfl)
      | some S' => exact .inl rfl
theorem oc_co_k {p d : Int32} : (oc_co fr o p d).1 ≤ 2 := by
  unfold oc_co
  cases o with
  | none => show 1 ≤ 2; omega
  | some y =>
    obtain ⟨n, A, S, H⟩ := y
    dsimp only
    cases cs_n S p d with
    | none => show 2 ≤ 2; omega
    | some y => show 0 ≤ 2; omega
theorem oc_th_k {p d : Int32} : (oc_th fr o p d).1 ≤ 2 := by
  unfold oc_th
  cases o with
  | none => show 1 ≤ 2; omega
  | some y =>
    obtain ⟨n, A, S, H⟩ := y
    dsimp only
    cases cs_n S p d with
    | none => show 2 ≤ 2; omega
    | some y => show 0 ≤ 2; omega
theorem oc_bg_vo (hV : vo_P o) : vo_P (oc_bg T fr o).2.2.2.2 := by
  unfold oc_bg
  cases hr : rt_n T with
  | inl e => exact hV
  | inr y =>
    obtain ⟨n, A⟩ := y
    obtain ⟨-, -, hn, hcB⟩ := rt_i hr
    dsimp only
    cases hs : sp_run A fr 800 (st_l A n) sp_0 with
    | none => exact hV
    | some S => exact oc_bg_V hn (fun c hc => (hcB c hc).2.2.2.2.2.1) hr hs
theorem lo_begin (h0 : lq_R M f x b L xs) : ∃ M2 f2, (fo_cl (fn_Lw_begin (mm_wi M f) x (x + 232)) fun v217 M217 => fo_cv M217 9 (x + 216) (fn_Mo_begin M217 (x + 216)) fun v223 M223 => fo_cv M223 9 (x + 216) (fn_Mo_thrown M223 (x + 216)) fun v229 M229 => if v229 = v217 then fo_jp (J M229) (fun j256 => if v217 = 0 then fo_al M229 (x + 232) 0 fun v246 => if (lg_cmp v246 (v223.toInt64)) = 0 then j256 else some (0, M229) else j256) else some (0, M229)) = J (mm_wi M2 f2) ∧ lq_R M2 f2 x b L xs := by
  obtain ⟨g, h, T, E, fr, o, bk, hL, hm, hu, hb, hbx, hx, hT, hP, hT2, hQ, hV⟩ := h0
  obtain ⟨M1, f1, g', h', e1, e2, e3, e4, e5, e6, e7⟩ := pm_begin hL hT hP
  have hm1 : mo_L M1 (x + 216) := mo_Lc hm e2 (e3 _ (by omega))
  have hu1 : mm_s M1 (x + 232) = (5, 1) := by rw [e2]; exact hu
  have hm2 : mo_L (mr_t (oc_bg T fr o).1 (oc_bg T fr o).2.1 (mm_wi M1 f1) (x + 232)) (x + 216) := mo_Lc hm1 mr_s (by rw [mr_r]; rfl)
  obtain ⟨f2, w, bk', d1, d2, d3, d4, d5, d6⟩ := mo_begin (M := mr_t (oc_bg T fr o).1 (oc_bg T fr o).2.1 (mm_wi M1 f1) (x + 232)) (f := f1) hm2 (lq_mt hT2 e7) (lq_mq hQ e7)
  rw [← mr_wi] at d1
  have hlw : fn_Lw_begin (mm_wi M f) x (x + 232) = some (nI (bg_c (oc_bg T fr o).1), mr_t (oc_bg T fr o).1 (oc_bg T fr o).2.1 (mm_wi M1 f1) (x + 232)) := by
    rw [fn_Lw_begin, try_o (F := fun th => fn_Pm_begin th (mm_wi M f) x) (show mm_s (mm_wi M f) x = (1, 8) from hL.1) (show mm_s (mm_wi M1 f1) (x + 232) = (5, 1) from hu1) e1]
    rcases oc_bg_k (T := T) (fr := fr) (o := o) with hk | hk | hk <;> rw [hk] <;> rfl
  rw [hlw, xi_cl]
  refine ⟨_, f2, lo_fin (cm := bg_c) (FM := fun M => fn_Mo_begin M (x + 216)) hu1 hm1 (fun k hk => by unfold bg_c; split <;> omega) (by rcases oc_bg_k (T := T) (fr := fr) (o := o) with h | h | h <;> omega) (fun e => by unfold bg_c at e; rcases oc_bg_k (T := T) (fr := fr) (o := o) with h | h | h <;> rw [h] at e ⊢ <;> simp at e) d1 d2 d3, lq_mk (sl_Lc e4 mr_s mr_r) hm2 (by rw [mr_s]; exact hu1) (by rw [mr_s]; show mm_s M1 b = _; rw [e2]; exact hb) hbx (fun j => by rw [e7 b (by omega)]; exact hx j) e5 e6 d4 d5 (oc_bg_vo hV) d6⟩
theorem lo_event (hLL : L ≤ 1536) (hi : i + 3 ≤ L) (h0 : lq_R M f x b L xs) : ∃ M2 f2, (fo_ai (mm_wi M f) 6 b (nI i + 1) fun v291 => fo_ai (mm_wi M f) 6 b (nI i + 2) fun v297 => fo_cl (fn_Lw_event (mm_wi M f) x v291 v297 (x + 232)) fun v299 M299 => fo_ai M299 6 b (nI i + 1) fun v310 => fo_ai M299 6 b (nI i + 2) fun v316 => fo_cv M299 9 (x + 216) (fn_Mo_event M299 (x + 216) v310 v316) fun v317 M317 => fo_cv M317 9 (x + 216) (fn_Mo_thrown M317 (x + 216)) fun v323 M323 => if v323 = v299 then fo_jp (J M323) (fun j350 => if v299 = 0 then fo_al M323 (x + 232) 0 fun v340 => if (lg_cmp v340 (v317.toInt64)) = 0 then j350 else some (0, M323) else j350) else some (0, M323)) = J (mm_wi M2 f2) ∧ lq_R M2 f2 x b L xs := by
  obtain ⟨g, h, T, E, fr, o, bk, hL, hm, hu, hb, hbx, hx, hT, hP, hT2, hQ, hV⟩ := h0
  obtain ⟨f1, e1, e6, e8⟩ := pm_event (p := xs (i + 1)) (q := xs (i + 2)) hL hP hV
  have e7 : ∀ a, (a < x ∨ x + 216 ≤ a) → f1 a = f a := fun a ha => e8 a (by omega)
  have hk3 : (oc_ev fr o (xs (i + 1)) (xs (i + 2))).1 ≤ 3 := by exact oc_ev_k
  have hm2 : mo_L (mr_t (oc_ev fr o (xs (i + 1)) (xs (i + 2))).1 (oc_ev fr o (xs (i + 1)) (xs (i + 2))).2.1 (mm_wi M f1) (x + 232)) (x + 216) := mo_Lc hm mr_s (by rw [mr_r]; rfl)
  obtain ⟨f2, w, d1, d2, d3, d5, d6⟩ := mo_event (M := mr_t (oc_ev fr o (xs (i + 1)) (xs (i + 2))).1 (oc_ev fr o (xs (i + 1)) (xs (i + 2))).2.1 (mm_wi M f1) (x + 232)) (f := f1) (p := xs (i + 1)) (q := xs (i + 2)) hm2 (lq_mq hQ e7) hV
  rw [← mr_wi] at d1
  have hlw : fn_Lw_event (mm_wi M f) x (xs (i + 1)) (xs (i + 2)) (x + 232) = some (nI (id (oc_ev fr o (xs (i + 1)) (xs (i + 2))).1), mr_t (oc_ev fr o (xs (i + 1)) (xs (i + 2))).1 (oc_ev fr o (xs (i + 1)) (xs (i + 2))).2.1 (mm_wi M f1) (x + 232)) := by
    rw [fn_Lw_event, try_o (F := fun th => fn_Pm_event th (mm_wi M f) x (xs (i + 1)) (xs (i + 2))) (show mm_s (mm_wi M f) x = (1, 8) from hL.1) (show mm_s (mm_wi M f1) (x + 232) = (5, 1) from hu) e1]
    obtain hk | hk | hk | hk : (oc_ev fr o (xs (i + 1)) (xs (i + 2))).1 = 0 ∨ (oc_ev fr o (xs (i + 1)) (xs (i + 2))).1 = 1 ∨ (oc_ev fr o (xs (i + 1)) (xs (i + 2))).1 = 2 ∨ (oc_ev fr o (xs (i + 1)) (xs (i + 2))).1 = 3 := by omega
    all_goals (rw [hk]; rfl)
  rw [nI_1, show nI i + 2 = nI (i + 2) from nI_add i 2, ai_s hb (by omega) hLL hx, ai_s hb (by omega) hLL hx, hlw, xi_cl]
  have hx1 : ∀ j, f1 b j = xs j := fun j => by rw [e7 b (by omega)]; exact hx j
  have hb2 : mm_s (mr_t (oc_ev fr o (xs (i + 1)) (xs (i + 2))).1 (oc_ev fr o (xs (i + 1)) (xs (i + 2))).2.1 (mm_wi M f1) (x + 232)) b = (8, L) := by rw [mr_s]; exact hb
  have r1 : ∀ (j : Nat) (K : Int32 → Rr), j < L → fo_ai (mr_t (oc_ev fr o (xs (i + 1)) (xs (i + 2))).1 (oc_ev fr o (xs (i + 1)) (xs (i + 2))).2.1 (mm_wi M f1) (x + 232)) 6 b (nI j) K = K (xs j) := fun j K hj => by rw [mr_wi]; exact ai_s hb2 hj hLL hx1
  rw [r1 (i + 1) _ (by omega), r1 (i + 2) _ (by omega)]
  exact ⟨_, f2, lo_fin (cm := id) (FM := fun M => fn_Mo_event M (x + 216) (xs (i + 1)) (xs (i + 2))) hu hm (fun k hk => by show k < 100; omega) hk3 (fun e => by exact e) d1 d2 d3, lq_mk (sl_Lc hL mr_s mr_r) hm2 (by rw [mr_s]; exact hu) (by rw [mr_s]; exact hb) hbx (fun j => by rw [e7 b (by omega)]; exact hx j) (tx_cg hT (e8 _ (by omega)) (e8 _ (by omega))) e6 (ft_mt d6 (lq_mt hT2 e7)) d5 (vo_ev hV (h4_P hP)) (fun a ha => d6.1 a (by omega))⟩
theorem lo_nextDay (h0 : lq_R M f x b L xs) : ∃ M2 f2, (fo_cl (fn_Lw_nextDay (mm_wi M f) x (x + 232)) fun v299 M299 => fo_cv M299 9 (x + 216) (fn_Mo_nextDay M299 (x + 216)) fun v317 M317 => fo_cv M317 9 (x + 216) (fn_Mo_thrown M317 (x + 216)) fun v323 M323 => if v323 = v299 then fo_jp (J M323) (fun j350 => if v299 = 0 then fo_al M323 (x + 232) 0 fun v340 => if (lg_cmp v340 (v317.toInt64)) = 0 then j350 else some (0, M323) else j350) else some (0, M323)) = J (mm_wi M2 f2) ∧ lq_R M2 f2 x b L xs := by
  obtain ⟨g, h, T, E, fr, o, bk, hL, hm, hu, hb, hbx, hx, hT, hP, hT2, hQ, hV⟩ := h0
  obtain ⟨f1, e1, e6, e8⟩ := pm_nextDay hL hP hV
  have e7 : ∀ a, (a < x ∨ x + 216 ≤ a) → f1 a = f a := fun a ha => e8 a (by omega)
  have hk3 : (oc_nd fr o).1 ≤ 3 := by rcases oc_nd_k (fr := fr) (o := o) with h | h | h <;> omega
  have hm2 : mo_L (mr_t (oc_nd fr o).1 (oc_nd fr o).2.1 (mm_wi M f1) (x + 232)) (x + 216) := mo_Lc hm mr_s (by rw [mr_r]; rfl)
  obtain ⟨f2, w, d1, d2, d3, d5, d6⟩ := mo_nextDay (M := mr_t (oc_nd fr o).1 (oc_nd fr o).2.1 (mm_wi M f1) (x + 232)) (f := f1) hm2 (lq_mq hQ e7) hV
  rw [← mr_wi] at d1
  have hlw : fn_Lw_nextDay (mm_wi M f) x (x + 232) = some (nI (nd_c (oc_nd fr o).1), mr_t (oc_nd fr o).1 (oc_nd fr o).2.1 (mm_wi M f1) (x + 232)) := by
    rw [fn_Lw_nextDay, try_o (F := fun th => fn_Pm_nextDay th (mm_wi M f) x) (show mm_s (mm_wi M f) x = (1, 8) from hL.1) (show mm_s (mm_wi M f1) (x + 232) = (5, 1) from hu) e1]
    rcases oc_nd_k (fr := fr) (o := o) with hk | hk | hk <;> rw [hk] <;> rfl
  rw [hlw, xi_cl]
  exact ⟨_, f2, lo_fin (cm := nd_c) (FM := fun M => fn_Mo_nextDay M (x + 216)) hu hm (fun k hk => by unfold nd_c; split <;> omega) hk3 (fun e => by unfold nd_c at e; split at e <;> omega) d1 d2 d3, lq_mk (sl_Lc hL mr_s mr_r) hm2 (by rw [mr_s]; exact hu) (by rw [mr_s]; exact hb) hbx (fun j => by rw [e7 b (by omega)]; exact hx j) (tx_cg hT (e8 _ (by omega)) (e8 _ (by omega))) e6 (ft_mt d6 (lq_mt hT2 e7)) d5 (vo_nd hV (h4_P hP)) (fun a ha => d6.1 a (by omega))⟩
theorem lo_course (hLL : L ≤ 1536) (hi : i + 3 ≤ L) (h0 : lq_R M f x b L xs) : ∃ M2 f2, (fo_ai (mm_wi M f) 6 b (nI i + 1) fun v291 => fo_ai (mm_wi M f) 6 b (nI i + 2) fun v297 => fo_cl (fn_Lw_course (mm_wi M f) x v291 v297 (x + 232)) fun v299 M299 => fo_ai M299 6 b (nI i + 1) fun v310 => fo_ai M299 6 b (nI i + 2) fun v316 => fo_cv M299 9 (x + 216) (fn_Mo_course M299 (x + 216) v310 v316) fun v317 M317 => fo_cv M317 9 (x + 216) (fn_Mo_thrown M317 (x + 216)) fun v323 M323 => if v323 = v299 then fo_jp (J M323) (fun j350 => if v299 = 0 then fo_al M323 (x + 232) 0 fun v340 => if (lg_cmp v340 (v317.toInt64)) = 0 then j350 else some (0, M323) else j350) else some (0, M323)) = J (mm_wi M2 f2) ∧ lq_R M2 f2 x b L xs := by
  obtain ⟨g, h, T, E, fr, o, bk, hL, hm, hu, hb, hbx, hx, hT, hP, hT2, hQ, hV⟩ := h0
  obtain ⟨f1, e1, e6, e8⟩ := pm_course (p := xs (i + 1)) (d := xs (i + 2)) hL hP hV
  have e7 : ∀ a, (a < x ∨ x + 216 ≤ a) → f1 a = f a := fun a ha => e8 a (by omega)
  have hk3 : (oc_co fr o (xs (i + 1)) (xs (i + 2))).1 ≤ 3 := by exact Nat.le_trans oc_co_k (by omega)
  have hm2 : mo_L (mr_t (oc_co fr o (xs (i + 1)) (xs (i + 2))).1 (oc_co fr o (xs (i + 1)) (xs (i + 2))).2 (mm_wi M f1) (x + 232)) (x + 216) := mo_Lc hm mr_s (by rw [mr_r]; rfl)
  obtain ⟨f2, w, d1, d2, d3, d5, d6⟩ := mo_course (M := mr_t (oc_co fr o (xs (i + 1)) (xs (i + 2))).1 (oc_co fr o (xs (i + 1)) (xs (i + 2))).2 (mm_wi M f1) (x + 232)) (f := f1) (p := xs (i + 1)) (d := xs (i + 2)) hm2 (lq_mq hQ e7) hV
  rw [← mr_wi] at d1
  have hlw : fn_Lw_course (mm_wi M f) x (xs (i + 1)) (xs (i + 2)) (x + 232) = some (nI (id (oc_co fr o (xs (i + 1)) (xs (i + 2))).1), mr_t (oc_co fr o (xs (i + 1)) (xs (i + 2))).1 (oc_co fr o (xs (i + 1)) (xs (i + 2))).2 (mm_wi M f1) (x + 232)) := by
    rw [fn_Lw_course, try_o (F := fun th => fn_Pm_course th (mm_wi M f) x (xs (i + 1)) (xs (i + 2))) (show mm_s (mm_wi M f) x = (1, 8) from hL.1) (show mm_s (mm_wi M f1) (x + 232) = (5, 1) from hu) e1]
    have hk2 := oc_co_k (fr := fr) (o := o) (p := xs (i + 1)) (d := xs (i + 2))
    obtain hk | hk | hk : (oc_co fr o (xs (i + 1)) (xs (i + 2))).1 = 0 ∨ (oc_co fr o (xs (i + 1)) (xs (i + 2))).1 = 1 ∨ (oc_co fr o (xs (i + 1)) (xs (i + 2))).1 = 2 := by omega
    all_goals (rw [hk]; rfl)
  rw [nI_1, show nI i + 2 = nI (i + 2) from nI_add i 2, ai_s hb (by omega) hLL hx, ai_s hb (by omega) hLL hx, hlw, xi_cl]
  have hx1 : ∀ j, f1 b j = xs j := fun j => by rw [e7 b (by omega)]; exact hx j
  have hb2 : mm_s (mr_t (oc_co fr o (xs (i + 1)) (xs (i + 2))).1 (oc_co fr o (xs (i + 1)) (xs (i + 2))).2 (mm_wi M f1) (x + 232)) b = (8, L) := by rw [mr_s]; exact hb
  have r1 : ∀ (j : Nat) (K : Int32 → Rr), j < L → fo_ai (mr_t (oc_co fr o (xs (i + 1)) (xs (i + 2))).1 (oc_co fr o (xs (i + 1)) (xs (i + 2))).2 (mm_wi M f1) (x + 232)) 6 b (nI j) K = K (xs j) := fun j K hj => by rw [mr_wi]; exact ai_s hb2 hj hLL hx1
  rw [r1 (i + 1) _ (by omega), r1 (i + 2) _ (by omega)]
  exact ⟨_, f2, lo_fin (cm := id) (FM := fun M => fn_Mo_course M (x + 216) (xs (i + 1)) (xs (i + 2))) hu hm (fun k hk => by show k < 100; omega) hk3 (fun e => by exact e) d1 d2 d3, lq_mk (sl_Lc hL mr_s mr_r) hm2 (by rw [mr_s]; exact hu) (by rw [mr_s]; exact hb) hbx (fun j => by rw [e7 b (by omega)]; exact hx j) (tx_cg hT (e8 _ (by omega)) (e8 _ (by omega))) e6 (ft_mt d6 (lq_mt hT2 e7)) d5 hV (fun a ha => d6.1 a (by omega))⟩
theorem lo_threat (hLL : L ≤ 1536) (hi : i + 3 ≤ L) (h0 : lq_R M f x b L xs) : ∃ M2 f2, (fo_ai (mm_wi M f) 6 b (nI i + 1) fun v291 => fo_ai (mm_wi M f) 6 b (nI i + 2) fun v297 => fo_cl (fn_Lw_threat (mm_wi M f) x v291 v297 (x + 232)) fun v299 M299 => fo_ai M299 6 b (nI i + 1) fun v310 => fo_ai M299 6 b (nI i + 2) fun v316 => fo_cv M299 9 (x + 216) (fn_Mo_threat M299 (x + 216) v310 v316) fun v317 M317 => fo_cv M317 9 (x + 216) (fn_Mo_thrown M317 (x + 216)) fun v323 M323 => if v323 = v299 then fo_jp (J M323) (fun j350 => if v299 = 0 then fo_al M323 (x + 232) 0 fun v340 => if (lg_cmp v340 (v317.toInt64)) = 0 then j350 else some (0, M323) else j350) else some (0, M323)) = J (mm_wi M2 f2) ∧ lq_R M2 f2 x b L xs := by
  obtain ⟨g, h, T, E, fr, o, bk, hL, hm, hu, hb, hbx, hx, hT, hP, hT2, hQ, hV⟩ := h0
  obtain ⟨f1, e1, e6, e8⟩ := pm_threat (p := xs (i + 1)) (d := xs (i + 2)) hL hP hV
  have e7 : ∀ a, (a < x ∨ x + 216 ≤ a) → f1 a = f a := fun a ha => e8 a (by omega)
  have hk3 : (oc_th fr o (xs (i + 1)) (xs (i + 2))).1 ≤ 3 := by exact Nat.le_trans oc_th_k (by omega)
  have hm2 : mo_L (mr_t (oc_th fr o (xs (i + 1)) (xs (i + 2))).1 (oc_th fr o (xs (i + 1)) (xs (i + 2))).2 (mm_wi M f1) (x + 232)) (x + 216) := mo_Lc hm mr_s (by rw [mr_r]; rfl)
  obtain ⟨f2, w, d1, d2, d3, d5, d6⟩ := mo_threat (M := mr_t (oc_th fr o (xs (i + 1)) (xs (i + 2))).1 (oc_th fr o (xs (i + 1)) (xs (i + 2))).2 (mm_wi M f1) (x + 232)) (f := f1) (p := xs (i + 1)) (d := xs (i + 2)) hm2 (lq_mq hQ e7) hV
  rw [← mr_wi] at d1
  have hlw : fn_Lw_threat (mm_wi M f) x (xs (i + 1)) (xs (i + 2)) (x + 232) = some (nI (id (oc_th fr o (xs (i + 1)) (xs (i + 2))).1), mr_t (oc_th fr o (xs (i + 1)) (xs (i + 2))).1 (oc_th fr o (xs (i + 1)) (xs (i + 2))).2 (mm_wi M f1) (x + 232)) := by
    rw [fn_Lw_threat, try_o (F := fun th => fn_Pm_threat th (mm_wi M f) x (xs (i + 1)) (xs (i + 2))) (show mm_s (mm_wi M f) x = (1, 8) from hL.1) (show mm_s (mm_wi M f1) (x + 232) = (5, 1) from hu) e1]
    have hk2 := oc_th_k (fr := fr) (o := o) (p := xs (i + 1)) (d := xs (i + 2))
    obtain hk | hk | hk : (oc_th fr o (xs (i + 1)) (xs (i + 2))).1 = 0 ∨ (oc_th fr o (xs (i + 1)) (xs (i + 2))).1 = 1 ∨ (oc_th fr o (xs (i + 1)) (xs (i + 2))).1 = 2 := by omega
    all_goals (rw [hk]; rfl)
  rw [nI_1, show nI i + 2 = nI (i + 2) from nI_add i 2, ai_s hb (by omega) hLL hx, ai_s hb (by omega) hLL hx, hlw, xi_cl]
  have hx1 : ∀ j, f1 b j = xs j := fun j => by rw [e7 b (by omega)]; exact hx j
  have hb2 : mm_s (mr_t (oc_th fr o (xs (i + 1)) (xs (i + 2))).1 (oc_th fr o (xs (i + 1)) (xs (i + 2))).2 (mm_wi M f1) (x + 232)) b = (8, L) := by rw [mr_s]; exact hb
  have r1 : ∀ (j : Nat) (K : Int32 → Rr), j < L → fo_ai (mr_t (oc_th fr o (xs (i + 1)) (xs (i + 2))).1 (oc_th fr o (xs (i + 1)) (xs (i + 2))).2 (mm_wi M f1) (x + 232)) 6 b (nI j) K = K (xs j) := fun j K hj => by rw [mr_wi]; exact ai_s hb2 hj hLL hx1
  rw [r1 (i + 1) _ (by omega), r1 (i + 2) _ (by omega)]
  exact ⟨_, f2, lo_fin (cm := id) (FM := fun M => fn_Mo_threat M (x + 216) (xs (i + 1)) (xs (i + 2))) hu hm (fun k hk => by show k < 100; omega) hk3 (fun e => by exact e) d1 d2 d3, lq_mk (sl_Lc hL mr_s mr_r) hm2 (by rw [mr_s]; exact hu) (by rw [mr_s]; exact hb) hbx (fun j => by rw [e7 b (by omega)]; exact hx j) (tx_cg hT (e8 _ (by omega)) (e8 _ (by omega))) e6 (ft_mt d6 (lq_mt hT2 e7)) d5 hV (fun a ha => d6.1 a (by omega))⟩
end
