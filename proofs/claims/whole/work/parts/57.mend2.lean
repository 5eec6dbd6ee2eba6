/-! the end of a day in the reference, the whole -/
/-- what the end of a day in the slot s leaves in the reference -/
def mz_P (f f' : Nat → Nat → Int32) (m s n : Nat) (A : Nat → Nat → Nat) (fr : Nat → Bool) (S : Sp) : Prop := (∀ S', sp_end A n fr S = some S' → f' m 23 = 0 ∧ ms_R f' m (71 * s) S') ∧ (sp_end A n fr S = none → f' m 23 = 1) ∧ f' m 24 = nI (du_n n (sp_d S) (sp_D S)) ∧ (∃ v, v < 8 ∧ f' m 25 = nI v ∧ ∀ p, p < 3 → v.testBit p = hd_n A p S) ∧ fw_R f f' m (71 * s)
section
variable {M : Mm} {f : Nat → Nat → Int32} {m bk n s : Nat} {A : Nat → Nat → Nat} {fr : Nat → Bool} {S : Sp}
theorem mo_end_tail (hL : mo_L M m) (hs : s ≤ 16) (hS : ms_R f m (71 * s) S) : ∃ f', (fo_gr (mm_wi M f) 9 m 19 fun a96 => fo_gr (mm_wi M f) 9 m 19 fun a104 => fo_ai (mm_wi M f) 0 a104 (71 * nI s) fun v111 => fo_si (mm_wi M f) a96 (71 * nI s) (v111 + 1) fun M114 => fo_cv M114 9 m (fn_Mo_passOver M114 m (nI s) 18) fun _ M119 => fo_cv M119 9 m (fn_Mo_passOver M119 m (nI s) 35) fun _ M126 => some (0, M126)) = some (0, mm_wi M f') ∧ (sp_d S < 60 → ms_R f' m (71 * s) (sp_e2 S)) ∧ ∀ x j, (x ≠ m + 14 ∨ j < 71 * s ∨ 71 * s + 71 ≤ j) → f' x j = f x j := by
  obtain ⟨h1, h2, h3, h4, h5, h6, h7⟩ := hS
  rw [xi_gr hL.1 (mr_19 hL), xi_gr hL.1 (mr_19 hL), nx_0, xi_ai (t := 0) (ms_19 hL) (by omega) (by decide), h1, xi_si (ms_19 hL) (by omega) (by decide), nI_1]
  obtain ⟨f1, a1, a2, a3⟩ := mo_passOver (M := M) (f := up_2 f (m + 14) (71 * s) (nI (sp_d S + 1))) (o := 18) (o' := 18) (d := sp_d S + 1) hL hs rfl (by omega) (by omega) (by omega) (mp_mv h4 fun j hj => by rw [up_k (by omega)]) up_e
  rw [a1, xi_cv hL.1]
  obtain ⟨f2, b1, b2, b3⟩ := mo_passOver (M := M) (f := f1) (o := 35) (o' := 35) (d := sp_d S + 1) hL hs rfl (by omega) (by omega) (by omega) (mp_mv h5 fun j hj => by rw [a3 _ _ (by omega), up_k (by omega)]) (by rw [a3 _ _ (by omega), up_e])
  rw [b1, xi_cv hL.1]
  refine ⟨f2, rfl, fun hd => ⟨?_, by show sp_d S + 1 ≤ 60; omega, ?_, ?_, b2, fun j hj => ?_, fun j hj => ?_⟩, fun x j h => ?_⟩
  · rw [b3 _ _ (by omega), a3 _ _ (by omega), up_e]; rfl
  · exact mp_mv h3 fun j hj => by rw [b3 _ _ (by omega), a3 _ _ (by omega), up_k (by omega)]
  · exact mp_mv a2 fun j hj => by rw [b3 _ _ (by omega)]
  · rw [b3 _ _ (by omega), a3 _ _ (by omega), up_k (by omega)]; exact h6 j hj
  · rw [b3 _ _ (by omega), a3 _ _ (by omega), up_k (by omega)]; exact h7 j hj
  · rw [b3 _ _ (by omega), a3 _ _ (by omega)]
    by_cases hx : x = m + 14
    · rw [up_k (by omega)]
    · rw [up_o hx]
theorem mo_end6 {dp : Nat → Nat} (hL : mo_L M m) (hs : s ≤ 16) (hdp : dp_W n A dp) (hd : sp_d S < 60) (hV : sp_V A n S) (hDS : te_S (sp_D S)) : ∀ kk c f, c ≤ n → n - c < kk → mw_R f m bk n A fr → mq_R f m (br_q A n (sp_d S) (sp_D S) ((List.range n).take c)) → mk_R f m A (bq_l (sp_D S) (sp_d S) ((List.range n).take c)) → ms_R f m (71 * s) (sp_sD (sp_sc S (bc_n (sp_c S) (sp_D S) (sp_d S) c)) ((sp_D S).filter (dq_n c (sp_d S)))) → f m 23 = 0 → ∃ f', fo_fx (fun _ _ => none) (lp_Mo_endIn_6 m (nI s)) kk (mm_wi M f) (nI c) = some (0, mm_wi M f') ∧ (∀ S', sp_end A n fr S = some S' → f' m 23 = 0 ∧ ms_R f' m (71 * s) S') ∧ (sp_end A n fr S = none → f' m 23 = 1) ∧ mk_R f' m A (bq_l (sp_D S) (sp_d S) (List.range n)) ∧ fw_R f f' m (71 * s) := by
  intro kk
  induction kk with
  | zero => intro c f _ h; omega
  | succ kk ih =>
    intro c f hc hkk hW hQ hK hS h23
    have w2 := hW.2.1
    have hl8 := hV.2.2.2.1
    rw [fx_s, lp_Mo_endIn_6, xi_gi hL.1, hW.2.2.2.1]
    have hbl := br_len (A := A) (d := sp_d S) (l := sp_D S) w2 c (by omega)
    have hdu := du_le c (sp_d S) (sp_D S)
    by_cases h : n ≤ c
    · have e : c = n := by omega
      subst e
      rw [if_pos (nI_le h (by omega))]
      rw [List.take_of_length_le (by simp)] at hQ hK hbl
      rw [dq_n' hDS (fun x hx => (hV.1 x hx).1)] at hS
      have hrun : sp_end A c fr S = (sp_run A fr 800 (br_q A c (sp_d S) (sp_D S) (List.range c)) (sp_e1 A c S)).map sp_e2 := rfl
      have hS' : ms_R f m (71 * s) (sp_e1 A c S) := hS
      obtain ⟨f1, a1, a2, a3, a4⟩ := mo_run (s := s) rfl hL hs hdp (W := br_q A c (sp_d S) (sp_D S) (List.range c)) (fun x hx => br_lt hx) (Nat.le_trans (ph_le hdp fun x hx => br_lt hx) (by omega)) hW hQ hS' h23
      rw [a1, xi_cv hL.1]
      rw [hrun]
      have hK1 := mk_cg hK (a4 m 24 (by omega) (by omega) (by omega)) (a4 m 25 (by omega) (by omega) (by omega))
      cases hr : sp_run A fr 800 (br_q A c (sp_d S) (sp_D S) (List.range c)) (sp_e1 A c S) with
      | none =>
        obtain ⟨b1, S2, b2⟩ := a3 hr
        obtain ⟨f2, d1, -, d3⟩ := mo_end_tail hL hs b2
        rw [d1]
        exact ⟨f2, rfl, fun S' hx => (by cases hx), fun _ => by rw [d3 _ _ (by omega)]; exact b1, mk_cg hK1 (d3 _ _ (by omega)) (d3 _ _ (by omega)), fw_tr (fx_w a4) fun x j h1 h2 h3 => d3 _ _ h2⟩
      | some S2 =>
        obtain ⟨b1, b2⟩ := a2 S2 hr
        obtain ⟨f2, d1, d2, d3⟩ := mo_end_tail hL hs b2
        rw [d1]
        have hd2 : sp_d S2 = sp_d (sp_e1 A c S) := sp_run_d _ _ _ _ hr
        have hd3 : sp_d (sp_e1 A c S) = sp_d S := rfl
        refine ⟨f2, rfl, fun S' hx => ?_, fun hx => (by cases hx), mk_cg hK1 (d3 _ _ (by omega)) (d3 _ _ (by omega)), fw_tr (fx_w a4) fun x j h1 h2 h3 => d3 _ _ h2⟩
        cases hx
        exact ⟨by rw [d3 _ _ (by omega)]; exact b1, d2 (by omega)⟩
    · rw [if_neg (by rw [nI_leI (by omega) (by omega)]; exact h)]
      obtain ⟨hS1, k, hk, hkl⟩ := hS.2.2.1
      have hk8 := hk.2.1
      have hVk : tm_V A n 0 k := fun x hx => hV.1 x (List.mem_filter.mp (hkl.mem_iff.mp hx)).1
      obtain ⟨f1, e1, e2, e3, e4, e5, e6⟩ := mo_end16 (M := M) (g6 := fo_fx (fun _ _ => none) (lp_Mo_endIn_6 m (nI s)) kk) (d := sp_d S) hL hs (show c < n by omega) (by omega) fo_N f _ _ [] k (by show _ < 2000; omega) hW hk hVk hS.1 hQ hK (by omega)
      have hcn : k.countP (te_due c (sp_d S)) = (sp_D S).countP (te_due c (sp_d S)) := by
        rw [hkl.countP_eq]
        show ((sp_D S).filter (dq_n c (sp_d S))).countP _ = _
        rw [List.countP_filter]
        congr 1
        funext x
        exact dq_c c (sp_d S) x
      rw [hcn] at e3 e4 e5
      rw [← br_take (by omega)] at e4
      rw [← bq_take (by omega)] at e5
      rw [show (0 : Int32) = nI ([] : List Nat).length from rfl, e1]
      have hS2 : ms_R f1 m (71 * s) (sp_sD (sp_sc S (bc_n (sp_c S) (sp_D S) (sp_d S) (c + 1))) ((sp_D S).filter (dq_n (c + 1) (sp_d S)))) := by
        obtain ⟨g1, g2, g3, g4, g5, g6, g7⟩ := hS
        have hff : (sp_D S).filter (dq_n (c + 1) (sp_d S)) = ((sp_D S).filter (dq_n c (sp_d S))).filter (fun x => !te_due c (sp_d S) x) := by
          rw [List.filter_filter]
          congr 1
          funext x
          exact (dq_s c (sp_d S) x).symm
        refine ⟨?_, g2, ⟨List.Pairwise.sublist List.filter_sublist hDS, _, e2, ?_⟩, mp_mv g4 fun j hj => ?_, mp_mv g5 fun j hj => ?_, fun j hj => ?_, fun j hj => ?_⟩
        · rw [e3 _ (by omega), if_neg (by omega)]; exact g1
        · show ([] ++ k.filter _).Perm ((sp_D S).filter (dq_n (c + 1) (sp_d S)))
          rw [hff, List.nil_append]
          exact hkl.filter _
        · rw [e3 _ (by omega), if_neg (by omega)]
        · rw [e3 _ (by omega), if_neg (by omega)]
        · rw [e3 _ (by omega), if_neg (by omega)]; exact g6 j hj
        · rw [e3 _ (by omega), g7 j hj]
          show (if _ then bc_n (sp_c S) (sp_D S) (sp_d S) c j + _ else bc_n (sp_c S) (sp_D S) (sp_d S) c j) = bc_n (sp_c S) (sp_D S) (sp_d S) (c + 1) j
          rw [bc_s]
          by_cases hjc : j = c
          · rw [if_pos (by omega), if_pos hjc]
          · rw [if_neg (by omega), if_neg hjc]
      obtain ⟨f2, d1, d2, d3, d4, d5⟩ := ih (c + 1) f1 (by omega) (by omega) (mw_cg hW (e6 _ _ (by omega) (by omega) (by omega)) (e6 _ _ (by omega) (by omega) (by omega)) fun x j h1 h2 => e6 _ _ (by omega) (by omega) (by omega)) e4 e5 hS2 (by rw [e6 _ _ (by omega) (by omega) (by omega)]; exact h23)
      refine ⟨f2, d1, d2, d3, d4, fun x j h1 h2 h3 => ?_⟩
      rw [d5 x j h1 h2 h3]
      by_cases hx : x = m + 14
      · subst hx; rw [e3 _ (by omega), if_neg (by omega)]
      · exact e6 x j (by omega) hx h3
theorem mo_endIn {dp : Nat → Nat} {s' : Int32} (hs' : s' = nI s) (hL : mo_L M m) (hs : s ≤ 16) (hdp : dp_W n A dp) (hW : mw_R f m bk n A fr) (hS : ms_R f m (71 * s) S) (hV : sp_V A n S) (hd : sp_d S < 60) : ∃ f', fn_Mo_endIn (mm_wi M f) m s' = some (0, mm_wi M f') ∧ mz_P f f' m s n A fr S := by
  subst hs'
  have w2 := hW.2.1
  obtain ⟨f1, a1, a2, a3, a4, a5⟩ := mo_start (M := M) (f := f) (A := A) hL
  have hW1 : mw_R f1 m bk n A fr := mw_cg hW (a5 _ _ (by omega)) (a5 _ _ (by omega)) fun x j h1 h2 => a5 _ _ (by omega)
  have hS1 : ms_R f1 m (71 * s) S := ms_cg hS fun j _ _ => a5 _ _ (by omega)
  have e0 : bc_n (sp_c S) (sp_D S) (sp_d S) 0 = sp_c S := by funext j; unfold bc_n; rw [if_neg (by omega)]
  rw [fn_Mo_endIn, a1, xi_cv hL.1]
  obtain ⟨f2, d1, d2, d3, d4, d5⟩ := mo_end6 (M := M) (S := S) hL hs hdp hd hV hS.2.2.1.1 fo_N 0 f1 (by omega) (by show _ < 2000; omega) hW1 a2 a3 (by rw [e0, dq_0]; exact hS1) a4
  rw [li_0, d1]
  have hlen := bq_len (L := sp_D S) (d := sp_d S) n (Nat.le_refl n)
  rw [List.take_of_length_le (by simp)] at hlen
  obtain ⟨k1, v, k2, k3, k4⟩ := d4
  refine ⟨f2, rfl, d2, d3, by rw [k1, hlen], ⟨v, k2, k3, fun p hp => ?_⟩, fw_tr (fun x j h1 h2 h3 => a5 _ _ (by omega)) d5⟩
  rw [k4 p hp, Bool.eq_iff_iff]
  unfold hd_n
  rw [List.any_eq_true, List.any_eq_true]
  constructor
  · rintro ⟨c, hc, h8⟩
    obtain ⟨-, x, hx, ht⟩ := bq_mem hc
    unfold te_due at ht
    rw [Bool.and_eq_true, decide_eq_true_eq] at ht
    refine ⟨x, hx, ?_⟩
    rw [ht.2, ht.1]; exact h8
  · rintro ⟨x, hx, ht⟩
    rw [Bool.and_eq_true] at ht
    refine ⟨x % 100, bq_in (List.mem_range.mpr (hV.1 x hx).1) hx ?_, ht.2⟩
    unfold te_due
    rw [ht.1, decide_eq_true rfl]; rfl
end
