/-! an event in the reference: fulfilment, run, the whole -/
section
variable {M : Mm} {f : Nat → Nat → Int32} {m bk n s p q : Nat} {A : Nat → Nat → Nat} {fr : Nat → Bool} {W l : List Nat} {S : Sp}
theorem mk_cg {f' : Nat → Nat → Int32} {cs : List Nat} (h : mk_R f m A cs) (h4 : f' m 24 = f m 24) (h5 : f' m 25 = f m 25) : mk_R f' m A cs := by
  obtain ⟨a, v, b, c, d⟩ := h
  exact ⟨by rw [h4]; exact a, v, b, by rw [h5]; exact c, d⟩
theorem fi_at {i x : Nat} (h : l[i]? = some x) : l.getD i 0 = x := by
  rw [List.getD_eq_getElem?_getD, h]; rfl
theorem mo_ev_tail {dp : Nat → Nat} {cs : List Nat} (hL : mo_L M m) (hs : s ≤ 16) (hdp : dp_W n A dp) (hW : mw_R f m bk n A fr) (hQ : mq_R f m W) (hK : mk_R f m A cs) (hS : ms_R f m (71 * s) S) (h23 : f m 23 = 0) (hv : tm_V A n 0 (sp_D S)) (hp : p < 100) (hq : q < 100) (h12 : W.length + n ≤ 1200) (hlt : ∀ c ∈ W ++ (sp_f1 A n p q S).2, c < n) (hph : ph_n dp (W ++ (sp_f1 A n p q S).2) ≤ 800) : ∃ f', (fo_cv (mm_wi M f) 9 m (fn_Mo_first (mm_wi M f) m (nI s) 1 (nI p) (nI q)) fun v134 M134 => fo_jp (fun (Mj170 : Mm) => fo_cv Mj170 9 m (fn_Mo_run Mj170 m (nI s)) fun _ M172 => some (0, M172)) (fun j170 => if v134 < 0 then j170 M134 else fo_cv M134 9 m (fn_Mo_clauseAt M134 m (nI s) 1 v134) fun v149 M149 => fo_cv M149 9 m (fn_Mo_takeOut M149 m (nI s) 1 v134) fun _ M159 => fo_cv M159 9 m (fn_Mo_await M159 m 3 v149 0) fun _ M167 => j170 M167)) = some (0, mm_wi M f') ∧ (∀ S', sp_run A fr 800 (W ++ (sp_f1 A n p q S).2) (sp_f1 A n p q S).1 = some S' → f' m 23 = 0 ∧ ms_R f' m (71 * s) S') ∧ (sp_run A fr 800 (W ++ (sp_f1 A n p q S).2) (sp_f1 A n p q S).1 = none → f' m 23 = 1) ∧ mk_R f' m A cs ∧ fw_R f f' m (71 * s) := by
  have w2 := hW.2.1
  obtain ⟨hD1, k, hk, hkl⟩ := hS.2.2.1
  have h8 := hk.2.1
  obtain ⟨w, e1, e2⟩ := mo_first (o := 1) (o' := 1) hL hW hs rfl (by omega) hk hD1 hkl (a := 0) (by omega) hv hp hq
  rw [e1, xi_cv hL.1, xi_jp]
  rcases e2 with ⟨hw, hfi⟩ | ⟨v, i, x, hw, hfi, hkv, hli, hF⟩
  · have ef : sp_f1 A n p q S = (S, []) := by unfold sp_f1; rw [hfi]
    rw [ef] at hlt hph ⊢
    rw [hw, if_pos (show fz none < 0 by decide)]
    rw [List.append_nil] at hlt hph ⊢
    obtain ⟨f', d1, d2, d3, d4⟩ := mo_run (s := s) rfl hL hs hdp hlt hph hW hQ hS h23
    dsimp only
    rw [d1, xi_cv hL.1]
    exact ⟨f', rfl, d2, fun h => (d3 h).1, mk_cg hK (d4 _ _ (by omega) (by omega) (by omega)) (d4 _ _ (by omega) (by omega) (by omega)), fx_w d4⟩
  · have hvl := te_lt hkv
    have hx := hv x (te_mem hli)
    have ef : sp_f1 A n p q S = (sp_sD S ((sp_D S).take i ++ (sp_D S).drop (i + 1)), on_l A n 3 (x % 100)) := by unfold sp_f1; rw [hfi]; dsimp only; rw [fi_at hli]
    rw [ef] at hlt hph ⊢
    rw [hw, fz_s, if_neg (nI_pos (by omega)), mo_clauseAt (o := 1) (o' := 1) hL hs rfl (by omega) hk hkv, xi_cv hL.1]
    obtain ⟨f1, a1, a2, a3⟩ := mo_takeOut (o := 1) (o' := 1) hL hs rfl (by omega) hk hvl
    rw [a1, xi_cv hL.1]
    obtain ⟨f2, b1, b2, b3⟩ := mo_await (M := M) (f := f1) (t := 3) (a := x % 100) (b := 0) (t' := 3) (a' := nI (x % 100)) (b' := 0) (W := W) hL rfl rfl rfl (by omega) (by omega) (by omega) h12 (mw_cg hW (a3 _ _ (by omega)) (a3 _ _ (by omega)) fun x j h1 h2 => a3 _ _ (by omega)) (mq_cg hQ (a3 _ _ (by omega)) (funext fun j => a3 _ _ (by omega)))
    rw [b1, xi_cv hL.1]
    rw [aw_3] at b2
    have hS1 : ms_R f2 m (71 * s) (sp_sD S ((sp_D S).take i ++ (sp_D S).drop (i + 1))) := by
      refine ms_sD hS ⟨rm_S hD1, _, ml_mv a2 fun j hj => b3 _ _ (by omega) (by omega), rm_perm hkl hkv hli⟩ fun j hj => by rw [b3 _ _ (by omega) (by omega), a3 _ _ (by omega)]
    obtain ⟨f', d1, d2, d3, d4⟩ := mo_run (s := s) (f := f2) rfl hL hs hdp hlt hph (mw_cg hW (by rw [b3 _ _ (by omega) (by omega), a3 _ _ (by omega)]) (by rw [b3 _ _ (by omega) (by omega), a3 _ _ (by omega)]) fun x j h1 h2 => by rw [b3 _ _ (by omega) (by omega), a3 _ _ (by omega)]) b2 hS1 (by rw [b3 _ _ (by omega) (by omega), a3 _ _ (by omega)]; exact h23)
    dsimp only
    rw [d1, xi_cv hL.1]
    refine ⟨f', rfl, d2, fun h => (d3 h).1, mk_cg hK ?_ ?_, fun x j h1 h2 h3 => ?_⟩
    · rw [d4 _ _ (by omega) (by omega) (by omega), b3 _ _ (by omega) (by omega), a3 _ _ (by omega)]
    · rw [d4 _ _ (by omega) (by omega) (by omega), b3 _ _ (by omega) (by omega), a3 _ _ (by omega)]
    · rw [fx_w d4 x j h1 h2 h3, b3 _ _ (by omega) (by omega), a3 _ _ (by omega)]
theorem mk_ev {cs : List Nat} (hK : mk_R f m A cs) (hp : p < 3) (h : ∀ c ∈ cs, A c 8 = p) : ∃ v, v < 8 ∧ f m 25 = nI v ∧ v.testBit p = decide (0 < cs.length) := by
  obtain ⟨-, v, b, c, d⟩ := hK
  refine ⟨v, b, c, ?_⟩
  rw [d p hp]
  cases cs with
  | nil => rfl
  | cons x cs => rw [List.any_cons, decide_eq_true (h x (by simp))]; simp
/-- what an event in the slot s leaves in the reference -/
def me_P (f f' : Nat → Nat → Int32) (m s n : Nat) (A : Nat → Nat → Nat) (fr : Nat → Bool) (p q : Nat) (S : Sp) : Prop := (∀ S', sp_ev A n fr p q S = some S' → f' m 23 = 0 ∧ ms_R f' m (71 * s) S') ∧ (sp_ev A n fr p q S = none → f' m 23 = 1) ∧ f' m 24 = nI (sp_m A n p q S) ∧ (∃ v, v < 8 ∧ f' m 25 = nI v ∧ v.testBit p = decide (0 < sp_m A n p q S)) ∧ fw_R f f' m (71 * s)
theorem mo_eventIn {dp : Nat → Nat} {s' p' q' : Int32} (hs' : s' = nI s) (hp' : p' = nI p) (hq' : q' = nI q) (hL : mo_L M m) (hs : s ≤ 16) (hdp : dp_W n A dp) (hW : mw_R f m bk n A fr) (hS : ms_R f m (71 * s) S) (hV : sp_V A n S) (hp : p < 3) (hq : q < 100) : ∃ f', fn_Mo_eventIn (mm_wi M f) m s' p' q' = some (0, mm_wi M f') ∧ me_P f f' m s n A fr p q S := by
  subst hs' hp' hq'
  have w2 := hW.2.1
  have hph := sp_w_ph (A := A) (p := p) (k := q) (s := S) hdp w2 hV.2.2.2.2.1
  have hlt : ∀ c ∈ sp_w A n p q S, c < n := fun c hc => sp_w_lt hc
  have hf1V := h1_V (p := p) (k := q) hV
  obtain ⟨f1, a1, a2, a3, a4, a5⟩ := mo_start (M := M) (f := f) (A := A) hL
  have hW1 : mw_R f1 m bk n A fr := mw_cg hW (a5 _ _ (by omega)) (a5 _ _ (by omega)) fun x j h1 h2 => a5 _ _ (by omega)
  have hS1 : ms_R f1 m (71 * s) S := ms_cg hS fun j _ _ => a5 _ _ (by omega)
  obtain ⟨f2, b1, b2, b3⟩ := mo_await (M := M) (f := f1) (t := 1) (a := p) (b := q) (t' := 1) (a' := nI p) (b' := nI q) (W := []) hL rfl rfl rfl (by omega) (by omega) (by omega) (by simp; omega) hW1 a2
  rw [aw_1, List.nil_append] at b2
  have b2 : mq_R f2 m (ev_l A n p q) := b2
  have hW2 : mw_R f2 m bk n A fr := mw_cg hW1 (b3 _ _ (by omega) (by omega)) (b3 _ _ (by omega) (by omega)) fun x j h1 h2 => b3 _ _ (by omega) (by omega)
  have hS2 : ms_R f2 m (71 * s) S := ms_cg hS1 fun j _ _ => b3 _ _ (by omega) (by omega)
  have hK2 : mk_R f2 m A [] := mk_cg a3 (b3 _ _ (by omega) (by omega)) (b3 _ _ (by omega) (by omega))
  have h23 : f2 m 23 = 0 := by rw [b3 _ _ (by omega) (by omega)]; exact a4
  have fr2 : fw_R f f2 m (71 * s) := fun x j h1 h2 h3 => by rw [b3 x j (by omega) h3, a5 x j (by omega)]
  have hev : (ev_l A n p q).length ≤ n := ev_len A n p q
  rw [fn_Mo_eventIn, a1, xi_cv hL.1, b1, xi_cv hL.1]
  obtain ⟨hB1, kb, hkb, hkbl⟩ := hS2.2.2.2.1
  have hkb8 := hkb.2.1
  obtain ⟨w, c1, c2⟩ := mo_first (o := 18) (o' := 18) hL hW2 hs rfl (by omega) hkb hB1 hkbl (a := 1) (by omega) hV.2.1 (show p < 100 by omega) hq
  rw [c1, xi_cv hL.1, xi_jp]
  rcases c2 with ⟨hw, hfi⟩ | ⟨v, i, x, hw, hfi, hkv, hli, hF⟩
  · have eh : sp_h1 A n p q S = (S, ev_l A n p q, 0) := by unfold sp_h1; rw [hfi, if_neg (by simp)]
    unfold sp_w at hph hlt
    unfold me_P sp_ev sp_w sp_m
    rw [eh] at hph hlt hf1V ⊢
    rw [hw, if_pos (show fz none < 0 by decide)]
    dsimp only at hph hlt hf1V ⊢
    obtain ⟨f', d1, d2, d3, d4, d5⟩ := mo_ev_tail (p := p) (q := q) hL hs hdp hW2 b2 hK2 hS2 h23 hV.1 (by omega) hq (by omega) hlt hph
    exact ⟨f', d1, d2, d3, d4.1, mk_ev d4 hp (fun c hc => by simp at hc), fw_tr fr2 d5⟩
  · have hvl := te_lt hkv
    rw [hw, fz_s, if_neg (nI_pos (by omega))]
    obtain ⟨hP1, kp, hkp, hkpl⟩ := hS2.2.2.2.2.1
    have hkp8 := hkp.2.1
    obtain ⟨w', g1, g2⟩ := mo_first (o := 35) (o' := 35) hL hW2 hs rfl (by omega) hkp hP1 hkpl (a := 2) (by omega) hV.2.2.1 (show p < 100 by omega) hq
    rw [g1, xi_cv hL.1, xi_jp]
    rcases g2 with ⟨hw', hfi'⟩ | ⟨v', i', x', hw', hfi', hkv', hli', hF'⟩
    · have eh : sp_h1 A n p q S = (sp_sc S (bc_n (sp_c S) (bn_l A p q (sp_B S)) 69 n), ev_l A n p q ++ br_q A n 69 (bn_l A p q (sp_B S)) (List.range n), du_n n 69 (bn_l A p q (sp_B S))) := by unfold sp_h1; rw [hfi, if_pos (by simp), hfi']
      unfold sp_w at hph hlt
      unfold me_P sp_ev sp_w sp_m
      rw [eh] at hph hlt hf1V ⊢
      rw [hw', if_pos (show fz none < 0 by decide)]
      dsimp only at hph hlt hf1V ⊢
      have e0 : bc_n (sp_c S) (bn_l A p q (sp_B S)) 69 0 = sp_c S := by funext j; unfold bc_n; rw [if_neg (by omega)]
      obtain ⟨f3, d1, d2, d3, d4, d5, d6, d7⟩ := mo_ban51 (M := M) (S := S) (W := ev_l A n p q) (k := kb) (v29 := fz none) (j129 := fun (Mj129 : Mm) => fo_cv Mj129 9 m (fn_Mo_first Mj129 m (nI s) 1 (nI p) (nI q)) fun v134 M134 => fo_jp (fun (Mj170 : Mm) => fo_cv Mj170 9 m (fn_Mo_run Mj170 m (nI s)) fun _ M172 => some (0, M172)) (fun j170 => if v134 < 0 then j170 M134 else fo_cv M134 9 m (fn_Mo_clauseAt M134 m (nI s) 1 v134) fun v149 M149 => fo_cv M149 9 m (fn_Mo_takeOut M149 m (nI s) 1 v134) fun _ M159 => fo_cv M159 9 m (fn_Mo_await M159 m 3 v149 0) fun _ M167 => j170 M167)) hL hs (by decide) hkbl (fun x hx => hV.2.1 x (hkbl.mem_iff.mp hx)) (show p < 100 by omega) hq (by omega) fo_N 0 f2 (by omega) (by show _ < 2000; omega) hW2 hkb (by show mq_R f2 m (ev_l A n p q ++ []); rw [List.append_nil]; exact b2) hK2 (by rw [e0]; exact hS2)
      have hbl := br_len (A := A) (d := 69) (l := bn_l A p q (sp_B S)) w2 n (by omega)
      rw [List.take_of_length_le (by simp)] at hbl
      have hdu := du_le n 69 (bn_l A p q (sp_B S))
      have hbn := bn_len (A := A) (p := p) (k := q) (l := sp_B S)
      have hB8 := hV.2.2.2.2.1
      obtain ⟨f', t1, t2, t3, t4, t5⟩ := mo_ev_tail (p := p) (q := q) hL hs hdp d2 d3 d4 d5 (by rw [d6]; exact h23) hf1V.1 (by omega) hq (by rw [List.length_append]; omega) hlt hph
      have hlen : (bq_l (bn_l A p q (sp_B S)) 69 (List.range n)).length = du_n n 69 (bn_l A p q (sp_B S)) := by
        have := bq_len (L := bn_l A p q (sp_B S)) (d := 69) n (Nat.le_refl n)
        rw [List.take_of_length_le (by simp)] at this
        exact this
      have hmk := mk_ev t4 hp (fun c hc => by
        obtain ⟨-, x, hx, ht⟩ := bq_mem hc
        unfold bn_l at hx
        have h1 := (List.mem_filter.mp hx).2
        unfold te_due at ht
        rw [Bool.and_eq_true, decide_eq_true_eq, decide_eq_true_eq] at ht
        rw [ht.1] at h1
        unfold ag_for at h1
        rw [Bool.and_eq_true, Bool.and_eq_true, decide_eq_true_eq, decide_eq_true_eq] at h1
        exact h1.1.2)
      rw [hlen] at hmk
      exact ⟨f', d1.trans t1, t2, t3, by rw [← hlen]; exact t4.1, hmk, fw_tr fr2 (fw_tr d7 t5)⟩
    · have hvl' := te_lt hkv'
      have eh : sp_h1 A n p q S = (sp_sP S ((sp_P S).take i' ++ (sp_P S).drop (i' + 1)), ev_l A n p q, 0) := by unfold sp_h1; rw [hfi, if_pos (by simp), hfi']
      unfold sp_w at hph hlt
      unfold me_P sp_ev sp_w sp_m
      rw [eh] at hph hlt hf1V ⊢
      rw [hw', fz_s, if_neg (nI_pos (by omega))]
      dsimp only at hph hlt hf1V ⊢
      obtain ⟨f3, d1, d2, d3⟩ := mo_takeOut (o := 35) (o' := 35) hL hs rfl (by omega) hkp hvl'
      rw [d1, xi_cv hL.1]
      have hS3 : ms_R f3 m (71 * s) (sp_sP S ((sp_P S).take i' ++ (sp_P S).drop (i' + 1))) := ms_sP hS2 ⟨rm_S hP1, _, d2, rm_perm hkpl hkv' hli'⟩ fun j hj => d3 _ _ (by omega)
      have hW3 : mw_R f3 m bk n A fr := mw_cg hW2 (d3 _ _ (by omega)) (d3 _ _ (by omega)) fun x j h1 h2 => d3 _ _ (by omega)
      obtain ⟨f', t1, t2, t3, t4, t5⟩ := mo_ev_tail (p := p) (q := q) hL hs hdp hW3 (mq_cg b2 (d3 _ _ (by omega)) (funext fun j => d3 _ _ (by omega))) (mk_cg hK2 (d3 _ _ (by omega)) (d3 _ _ (by omega))) hS3 (by rw [d3 _ _ (by omega)]; exact h23) hf1V.1 (by omega) hq (by omega) hlt hph
      have hskip : ∀ (J : Mm → Rr), fo_fx (fun _ _ => none) (lp_Mo_eventIn_51 m (nI s) (nI p) (nI q) J (nI v')) fo_N (mm_wi M f3) 0 = J (mm_wi M f3) := by
        intro J
        rw [show fo_N = 1999 + 1 from rfl, fx_s, lp_Mo_eventIn_51, xi_gi hL.1, if_pos (show 0 ≤ nI v' from nI_pos' (by omega))]
        split <;> rfl
      exact ⟨f', (hskip _).trans t1, t2, t3, t4.1, mk_ev t4 hp (fun c hc => by simp at hc), fw_tr fr2 (fw_tr (fun x j h1 h2 h3 => d3 _ _ (by omega)) t5)⟩
end
