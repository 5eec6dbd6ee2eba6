def fn_Pm_begin (th : Bool) (M : Mm) (a0 : Nat) : Rr := fo_gr M 8 a0 0 fun a2 => fo_gr M 8 a0 4 fun a6 => fo_cv M 7 a2 (fn_Tx_readInto M a2 a6) fun v9 M9 => fo_pi M9 8 a0 1 v9 fun M12 => fo_gi M12 8 a0 1 fun v16 => if v16 = (-1) then fo_gr M12 8 a0 6 fun a32 => fo_cv M12 5 a32 (fn_St_clear M12 a32) fun _ M35 => fo_gr M35 8 a0 9 fun a39 => fo_gr M35 8 a0 4 fun a43 => fo_gr M35 8 a0 6 fun a47 => fo_cv M35 3 a39 (fn_Ru_start M35 a39 a43 a47) fun v50 M50 => if v50 = 0 then fo_th th 3 M50 else fo_gr M50 8 a0 3 fun a65 => fo_gr M50 8 a0 4 fun a71 => fo_pr M50 8 a0 3 a71 fun M74 => fo_pr M74 8 a0 4 a65 fun M79 => fo_gr M79 8 a0 5 fun a83 => fo_gr M79 8 a0 6 fun a87 => fo_cv M79 5 a83 (fn_St_copyFrom M79 a83 a87) fun _ M90 => fo_gr M90 8 a0 7 fun a94 => fo_cv M90 2 a94 (fn_Hi_forget M90 a94) fun _ M97 => fo_gr M97 8 a0 0 fun a101 => fo_pi M97 7 a101 1 0 fun M105 => fo_pz M105 8 a0 2 1 fun M110 => fo_gr M110 8 a0 3 fun a114 => fo_gi M110 0 a114 1 fun v117 => fo_rt th v117 M110 else fo_th th 2 M12
set_option maxHeartbeats 4000000 in
set_option maxRecDepth 100000 in
theorem cm_Pm_begin (l : Launch) (M : Mm) (a0 : Nat) : ct l zyPm_begin ws_Pm_begin { frames := 6, cells := 0, slots := 0, locals := 242 } 0 0 (fun w => some (.int w)) [.ref a0] M (fn_Pm_begin false M a0) := by
  refine ct_of (cc := zbPm_begin) (maxL := 2) (ret := (some .int)) (lv0 := [(0, .ref a0)]) (by decide) rfl (Nat.le_of_ble_eq_true rfl) rfl rfl ?_
  intro x C
  unfold fn_Pm_begin
  refine vj_aload_n (j := 0) C dPm_begin_0 rfl rfl ?_
  refine vj_aload_n (j := 0) C dPm_begin_1 rfl rfl ?_
  refine vj_gr C dPm_begin_2 lf_Pm_10 rfl (fun a2 => ?_)
  refine vj_aload_n (j := 0) C dPm_begin_5 rfl rfl ?_
  refine vj_gr C dPm_begin_6 lf_Pm_31 rfl (fun a6 => ?_)
  refine vj_cV (ci := 7) (As := [.ref a6]) (st := [.ref a0]) (b := a2) (a1 := 1) C dPm_begin_9 (cm_Tx_readInto _ _ _ _) rfl gv_Pm_76 rfl rfl rfl hv_Tx_readInto ⟨Nat.le_of_ble_eq_true rfl, Nat.le_of_ble_eq_true rfl⟩ rfl rfl (Nat.le_of_ble_eq_true rfl) ⟨Nat.le_of_ble_eq_true rfl, Nat.le_of_ble_eq_true rfl⟩ (fun v9 M9 => ?_)
  show Vj x 0 0 12 [(0, .ref a0)] [.int v9, .ref a0] M9 _
  refine vj_pi C dPm_begin_12 lf_Pm_16 lq_8_1 rfl (fun M12 => ?_)
  refine vj_aload_n (j := 0) C dPm_begin_15 rfl rfl ?_
  refine vj_gi C dPm_begin_16 lf_Pm_16 rfl (fun v16 => ?_)
  refine vj_iconst (v := (-1)) C dPm_begin_19 (by decide) ?_
  refine vj_icmp_eq (tgt := 31) C dPm_begin_20 rfl ?_ ?_
  · skip
    refine vj_aload_n (j := 0) C dPm_begin_31 rfl rfl ?_
    refine vj_gr C dPm_begin_32 lf_Pm_41 rfl (fun a32 => ?_)
    refine vj_cV (ci := 5) (As := []) (st := []) (b := a32) (a1 := 0) C dPm_begin_35 (cm_St_clear _ _ _) rfl gv_Pm_83 rfl rfl rfl hv_St_clear ⟨Nat.le_of_ble_eq_true rfl, Nat.le_of_ble_eq_true rfl⟩ rfl rfl (Nat.le_of_ble_eq_true rfl) ⟨Nat.le_of_ble_eq_true rfl, Nat.le_of_ble_eq_true rfl⟩ (fun _ M35 => ?_)
    show Vj x 0 0 38 [(0, .ref a0)] [] M35 _
    refine vj_aload_n (j := 0) C dPm_begin_38 rfl rfl ?_
    refine vj_gr C dPm_begin_39 lf_Pm_62 rfl (fun a39 => ?_)
    refine vj_aload_n (j := 0) C dPm_begin_42 rfl rfl ?_
    refine vj_gr C dPm_begin_43 lf_Pm_31 rfl (fun a43 => ?_)
    refine vj_aload_n (j := 0) C dPm_begin_46 rfl rfl ?_
    refine vj_gr C dPm_begin_47 lf_Pm_41 rfl (fun a47 => ?_)
    refine vj_cV (ci := 3) (As := [.ref a43, .ref a47]) (st := []) (b := a39) (a1 := 2) C dPm_begin_50 (cm_Ru_start _ _ _ _ _) rfl gv_Pm_86 rfl rfl rfl hv_Ru_start ⟨Nat.le_of_ble_eq_true rfl, Nat.le_of_ble_eq_true rfl⟩ rfl rfl (Nat.le_of_ble_eq_true rfl) ⟨Nat.le_of_ble_eq_true rfl, Nat.le_of_ble_eq_true rfl⟩ (fun v50 M50 => ?_)
    show Vj x 0 0 53 [(0, .ref a0)] [.int v50] M50 _
    refine vj_if_ne (tgt := 64) C dPm_begin_53 rfl ?_ ?_
    · skip
      refine vj_aload_n (j := 0) C dPm_begin_64 rfl rfl ?_
      refine vj_gr C dPm_begin_65 lf_Pm_27 rfl (fun a65 => ?_)
      refine vj_astore_n (lv' := [(0, .ref a0), (1, .ref a65)]) C dPm_begin_68 rfl (by decide) [1, 0] rfl ?_
      refine vj_aload_n (j := 0) C dPm_begin_69 rfl rfl ?_
      refine vj_aload_n (j := 0) C dPm_begin_70 rfl rfl ?_
      refine vj_gr C dPm_begin_71 lf_Pm_31 rfl (fun a71 => ?_)
      refine vj_pr C dPm_begin_74 lf_Pm_27 lq_8_3 rfl rfl rfl (fun M74 => ?_)
      refine vj_aload_n (j := 0) C dPm_begin_77 rfl rfl ?_
      refine vj_aload_n (j := 1) C dPm_begin_78 rfl rfl ?_
      refine vj_pr C dPm_begin_79 lf_Pm_31 lq_8_4 rfl rfl rfl (fun M79 => ?_)
      refine vj_aload_n (j := 0) C dPm_begin_82 rfl rfl ?_
      refine vj_gr C dPm_begin_83 lf_Pm_37 rfl (fun a83 => ?_)
      refine vj_aload_n (j := 0) C dPm_begin_86 rfl rfl ?_
      refine vj_gr C dPm_begin_87 lf_Pm_41 rfl (fun a87 => ?_)
      refine vj_cV (ci := 5) (As := [.ref a87]) (st := []) (b := a83) (a1 := 1) C dPm_begin_90 (cm_St_copyFrom _ _ _ _) rfl gv_Pm_93 rfl rfl rfl hv_St_copyFrom ⟨Nat.le_of_ble_eq_true rfl, Nat.le_of_ble_eq_true rfl⟩ rfl rfl (Nat.le_of_ble_eq_true rfl) ⟨Nat.le_of_ble_eq_true rfl, Nat.le_of_ble_eq_true rfl⟩ (fun _ M90 => ?_)
      show Vj x 0 0 93 [(0, .ref a0), (1, .ref a65)] [] M90 _
      refine vj_aload_n (j := 0) C dPm_begin_93 rfl rfl ?_
      refine vj_gr C dPm_begin_94 lf_Pm_47 rfl (fun a94 => ?_)
      refine vj_cV (ci := 2) (As := []) (st := []) (b := a94) (a1 := 0) C dPm_begin_97 (cm_Hi_forget _ _ _) rfl gv_Pm_97 rfl rfl rfl hv_Hi_forget ⟨Nat.le_of_ble_eq_true rfl, Nat.le_of_ble_eq_true rfl⟩ rfl rfl (Nat.le_of_ble_eq_true rfl) ⟨Nat.le_of_ble_eq_true rfl, Nat.le_of_ble_eq_true rfl⟩ (fun _ M97 => ?_)
      show Vj x 0 0 100 [(0, .ref a0), (1, .ref a65)] [] M97 _
      refine vj_aload_n (j := 0) C dPm_begin_100 rfl rfl ?_
      refine vj_gr C dPm_begin_101 lf_Pm_10 rfl (fun a101 => ?_)
      refine vj_iconst (v := 0) C dPm_begin_104 (by decide) ?_
      refine vj_pi C dPm_begin_105 lf_Pm_67 lq_7_1 rfl (fun M105 => ?_)
      refine vj_aload_n (j := 0) C dPm_begin_108 rfl rfl ?_
      refine vj_iconst (v := 1) C dPm_begin_109 (by decide) ?_
      refine vj_pz C dPm_begin_110 lf_Pm_20 lq_8_2 rfl (fun M110 => ?_)
      refine vj_aload_n (j := 0) C dPm_begin_113 rfl rfl ?_
      refine vj_gr C dPm_begin_114 lf_Pm_27 rfl (fun a114 => ?_)
      refine vj_gi C dPm_begin_117 lf_Pm_100 rfl (fun v117 => ?_)
      exact vj_ret C dPm_begin_120 rfl rfl (Nat.le_of_ble_eq_true rfl) (Nat.le_of_ble_eq_true rfl)
    · skip
      exact vj_thN
  · skip
    exact vj_thN
set_option maxHeartbeats 4000000 in
set_option maxRecDepth 100000 in
theorem cx_Pm_begin (l : Launch) (hl9 : l.stackTraces = false) (M : Mm) (a0 : Nat) : cx l zyPm_begin ws_Pm_begin { frames := 6, cells := 1, slots := 6, locals := 242 } 1 6 [.ref a0] M (fn_Pm_begin true M a0) := by
  refine cx_of (cc := zbPm_begin) (maxL := 2) (ret := (some .int)) (lv0 := [(0, .ref a0)]) hl9 (by decide) rfl (Nat.le_of_ble_eq_true rfl) rfl rfl ?_
  intro x C Z
  unfold fn_Pm_begin
  refine vj_aload_n (j := 0) C dPm_begin_0 rfl rfl ?_
  refine vj_aload_n (j := 0) C dPm_begin_1 rfl rfl ?_
  refine vj_gr C dPm_begin_2 lf_Pm_10 rfl (fun a2 => ?_)
  refine vj_aload_n (j := 0) C dPm_begin_5 rfl rfl ?_
  refine vj_gr C dPm_begin_6 lf_Pm_31 rfl (fun a6 => ?_)
  refine vj_cV (ci := 7) (As := [.ref a6]) (st := [.ref a0]) (b := a2) (a1 := 1) C dPm_begin_9 (cm_Tx_readInto _ _ _ _) rfl gv_Pm_76 rfl rfl rfl hv_Tx_readInto ⟨Nat.le_of_ble_eq_true rfl, Nat.le_of_ble_eq_true rfl⟩ rfl rfl (Nat.le_of_ble_eq_true rfl) ⟨Nat.le_of_ble_eq_true rfl, Nat.le_of_ble_eq_true rfl⟩ (fun v9 M9 => ?_)
  show Vj x 0 0 12 [(0, .ref a0)] [.int v9, .ref a0] M9 _
  refine vj_pi C dPm_begin_12 lf_Pm_16 lq_8_1 rfl (fun M12 => ?_)
  refine vj_aload_n (j := 0) C dPm_begin_15 rfl rfl ?_
  refine vj_gi C dPm_begin_16 lf_Pm_16 rfl (fun v16 => ?_)
  refine vj_iconst (v := (-1)) C dPm_begin_19 (by decide) ?_
  refine vj_icmp_eq (tgt := 31) C dPm_begin_20 rfl ?_ ?_
  · skip
    refine vj_aload_n (j := 0) C dPm_begin_31 rfl rfl ?_
    refine vj_gr C dPm_begin_32 lf_Pm_41 rfl (fun a32 => ?_)
    refine vj_cV (ci := 5) (As := []) (st := []) (b := a32) (a1 := 0) C dPm_begin_35 (cm_St_clear _ _ _) rfl gv_Pm_83 rfl rfl rfl hv_St_clear ⟨Nat.le_of_ble_eq_true rfl, Nat.le_of_ble_eq_true rfl⟩ rfl rfl (Nat.le_of_ble_eq_true rfl) ⟨Nat.le_of_ble_eq_true rfl, Nat.le_of_ble_eq_true rfl⟩ (fun _ M35 => ?_)
    show Vj x 0 0 38 [(0, .ref a0)] [] M35 _
    refine vj_aload_n (j := 0) C dPm_begin_38 rfl rfl ?_
    refine vj_gr C dPm_begin_39 lf_Pm_62 rfl (fun a39 => ?_)
    refine vj_aload_n (j := 0) C dPm_begin_42 rfl rfl ?_
    refine vj_gr C dPm_begin_43 lf_Pm_31 rfl (fun a43 => ?_)
    refine vj_aload_n (j := 0) C dPm_begin_46 rfl rfl ?_
    refine vj_gr C dPm_begin_47 lf_Pm_41 rfl (fun a47 => ?_)
    refine vj_cV (ci := 3) (As := [.ref a43, .ref a47]) (st := []) (b := a39) (a1 := 2) C dPm_begin_50 (cm_Ru_start _ _ _ _ _) rfl gv_Pm_86 rfl rfl rfl hv_Ru_start ⟨Nat.le_of_ble_eq_true rfl, Nat.le_of_ble_eq_true rfl⟩ rfl rfl (Nat.le_of_ble_eq_true rfl) ⟨Nat.le_of_ble_eq_true rfl, Nat.le_of_ble_eq_true rfl⟩ (fun v50 M50 => ?_)
    show Vj x 0 0 53 [(0, .ref a0)] [.int v50] M50 _
    refine vj_if_ne (tgt := 64) C dPm_begin_53 rfl ?_ ?_
    · skip
      refine vj_aload_n (j := 0) C dPm_begin_64 rfl rfl ?_
      refine vj_gr C dPm_begin_65 lf_Pm_27 rfl (fun a65 => ?_)
      refine vj_astore_n (lv' := [(0, .ref a0), (1, .ref a65)]) C dPm_begin_68 rfl (by decide) [1, 0] rfl ?_
      refine vj_aload_n (j := 0) C dPm_begin_69 rfl rfl ?_
      refine vj_aload_n (j := 0) C dPm_begin_70 rfl rfl ?_
      refine vj_gr C dPm_begin_71 lf_Pm_31 rfl (fun a71 => ?_)
      refine vj_pr C dPm_begin_74 lf_Pm_27 lq_8_3 rfl rfl rfl (fun M74 => ?_)
      refine vj_aload_n (j := 0) C dPm_begin_77 rfl rfl ?_
      refine vj_aload_n (j := 1) C dPm_begin_78 rfl rfl ?_
      refine vj_pr C dPm_begin_79 lf_Pm_31 lq_8_4 rfl rfl rfl (fun M79 => ?_)
      refine vj_aload_n (j := 0) C dPm_begin_82 rfl rfl ?_
      refine vj_gr C dPm_begin_83 lf_Pm_37 rfl (fun a83 => ?_)
      refine vj_aload_n (j := 0) C dPm_begin_86 rfl rfl ?_
      refine vj_gr C dPm_begin_87 lf_Pm_41 rfl (fun a87 => ?_)
      refine vj_cV (ci := 5) (As := [.ref a87]) (st := []) (b := a83) (a1 := 1) C dPm_begin_90 (cm_St_copyFrom _ _ _ _) rfl gv_Pm_93 rfl rfl rfl hv_St_copyFrom ⟨Nat.le_of_ble_eq_true rfl, Nat.le_of_ble_eq_true rfl⟩ rfl rfl (Nat.le_of_ble_eq_true rfl) ⟨Nat.le_of_ble_eq_true rfl, Nat.le_of_ble_eq_true rfl⟩ (fun _ M90 => ?_)
      show Vj x 0 0 93 [(0, .ref a0), (1, .ref a65)] [] M90 _
      refine vj_aload_n (j := 0) C dPm_begin_93 rfl rfl ?_
      refine vj_gr C dPm_begin_94 lf_Pm_47 rfl (fun a94 => ?_)
      refine vj_cV (ci := 2) (As := []) (st := []) (b := a94) (a1 := 0) C dPm_begin_97 (cm_Hi_forget _ _ _) rfl gv_Pm_97 rfl rfl rfl hv_Hi_forget ⟨Nat.le_of_ble_eq_true rfl, Nat.le_of_ble_eq_true rfl⟩ rfl rfl (Nat.le_of_ble_eq_true rfl) ⟨Nat.le_of_ble_eq_true rfl, Nat.le_of_ble_eq_true rfl⟩ (fun _ M97 => ?_)
      show Vj x 0 0 100 [(0, .ref a0), (1, .ref a65)] [] M97 _
      refine vj_aload_n (j := 0) C dPm_begin_100 rfl rfl ?_
      refine vj_gr C dPm_begin_101 lf_Pm_10 rfl (fun a101 => ?_)
      refine vj_iconst (v := 0) C dPm_begin_104 (by decide) ?_
      refine vj_pi C dPm_begin_105 lf_Pm_67 lq_7_1 rfl (fun M105 => ?_)
      refine vj_aload_n (j := 0) C dPm_begin_108 rfl rfl ?_
      refine vj_iconst (v := 1) C dPm_begin_109 (by decide) ?_
      refine vj_pz C dPm_begin_110 lf_Pm_20 lq_8_2 rfl (fun M110 => ?_)
      refine vj_aload_n (j := 0) C dPm_begin_113 rfl rfl ?_
      refine vj_gr C dPm_begin_114 lf_Pm_27 rfl (fun a114 => ?_)
      refine vj_gi C dPm_begin_117 lf_Pm_100 rfl (fun v117 => ?_)
      exact vj_rtN
    · skip
      exact vj_thr C Z 3 ex_w3 ex_k3 (by decide +kernel) dPm_begin_56 dPm_begin_59 dPm_begin_60 dPm_begin_63 (Nat.le_of_ble_eq_true rfl) (Nat.le_of_ble_eq_true rfl) ⟨Nat.le_of_ble_eq_true rfl, Nat.le_of_ble_eq_true rfl⟩ ⟨Nat.le_of_ble_eq_true rfl, Nat.le_of_ble_eq_true rfl⟩
  · skip
    exact vj_thr C Z 2 ex_w2 ex_k2 (by decide +kernel) dPm_begin_23 dPm_begin_26 dPm_begin_27 dPm_begin_30 (Nat.le_of_ble_eq_true rfl) (Nat.le_of_ble_eq_true rfl) ⟨Nat.le_of_ble_eq_true rfl, Nat.le_of_ble_eq_true rfl⟩ ⟨Nat.le_of_ble_eq_true rfl, Nat.le_of_ble_eq_true rfl⟩
def fn_Pm_event (th : Bool) (M : Mm) (a0 : Nat) (p1 : Int32) (p2 : Int32) : Rr := fo_gi M 8 a0 2 fun v1 => if v1 = 0 then fo_th th 1 M else fo_cl (fn_Pm_isParty M p1) fun v16 M16 => fo_jp (fun (Mj29 : Mm) => fo_th th 2 Mj29) (fun j29 => if v16 = 0 then j29 M16 else fo_cl (fn_Pm_isKind M16 p2) fun v23 M23 => if v23 = 0 then j29 M23 else fo_gr M23 8 a0 6 fun a38 => fo_gr M23 8 a0 5 fun a42 => fo_cv M23 5 a38 (fn_St_copyFrom M23 a38 a42) fun _ M45 => fo_gr M45 8 a0 9 fun a49 => fo_gr M45 8 a0 3 fun a53 => fo_gr M45 8 a0 6 fun a57 => fo_cv M45 3 a49 (fn_Ru_happen M45 a49 a53 a57 p1 p2) fun v62 M62 => if v62 = (-2) then fo_th th 3 M62 else fo_cv M62 8 a0 (fn_Pm_moveToTrial M62 a0) fun _ M81 => fo_rt th v62 M81)
set_option maxHeartbeats 4000000 in
set_option maxRecDepth 100000 in
theorem cm_Pm_event (l : Launch) (M : Mm) (a0 : Nat) (p1 : Int32) (p2 : Int32) : ct l zyPm_event ws_Pm_event { frames := 5, cells := 0, slots := 0, locals := 283 } 0 0 (fun w => some (.int w)) [.ref a0, .int p1, .int p2] M (fn_Pm_event false M a0 p1 p2) := by
  refine ct_of (cc := zbPm_event) (maxL := 4) (ret := (some .int)) (lv0 := [(0, .ref a0), (1, .int p1), (2, .int p2)]) (by decide) rfl (Nat.le_of_ble_eq_true rfl) rfl rfl ?_
  intro x C
  unfold fn_Pm_event
  refine vj_aload_n (j := 0) C dPm_event_0 rfl rfl ?_
  refine vj_gi C dPm_event_1 lf_Pm_20 rfl (fun v1 => ?_)
  refine vj_if_ne (tgt := 15) C dPm_event_4 rfl ?_ ?_
  · skip
    refine vj_iload_n (j := 1) C dPm_event_15 rfl rfl ?_
    refine vj_cS (As := [.int p1]) (st := []) (a1 := 1) C dPm_event_16 (cm_Pm_isParty _ _ _) gs_Pm_106 rfl rfl rfl hs_Pm_isParty ⟨Nat.le_of_ble_eq_true rfl, Nat.le_of_ble_eq_true rfl⟩ rfl rfl (Nat.le_of_ble_eq_true rfl) ⟨Nat.le_of_ble_eq_true rfl, Nat.le_of_ble_eq_true rfl⟩ (fun v16 M16 => ?_)
    show Vj x 0 0 19 [(0, .ref a0), (1, .int p1), (2, .int p2)] [.int v16] M16 _
    refine vj_jp (fun (j : Mm → Rr) => ∀ Mj29, Vj x 0 0 29 [] [] Mj29 (j Mj29)) ?_ ?_
    · intro Mj29
      exact vj_thN
    · intro j29 hj29
      refine vj_if_eq (tgt := 29) C dPm_event_19 rfl ?_ ?_
      · skip
        refine vj_lk (lv' := []) [] rfl ?_
        exact hj29 _
      · skip
        refine vj_iload_n (j := 2) C dPm_event_22 rfl rfl ?_
        refine vj_cS (As := [.int p2]) (st := []) (a1 := 1) C dPm_event_23 (cm_Pm_isKind _ _ _) gs_Pm_110 rfl rfl rfl hs_Pm_isKind ⟨Nat.le_of_ble_eq_true rfl, Nat.le_of_ble_eq_true rfl⟩ rfl rfl (Nat.le_of_ble_eq_true rfl) ⟨Nat.le_of_ble_eq_true rfl, Nat.le_of_ble_eq_true rfl⟩ (fun v23 M23 => ?_)
        show Vj x 0 0 26 [(0, .ref a0), (1, .int p1), (2, .int p2)] [.int v23] M23 _
        refine vj_if_ne (tgt := 37) C dPm_event_26 rfl ?_ ?_
        · skip
          refine vj_aload_n (j := 0) C dPm_event_37 rfl rfl ?_
          refine vj_gr C dPm_event_38 lf_Pm_41 rfl (fun a38 => ?_)
          refine vj_aload_n (j := 0) C dPm_event_41 rfl rfl ?_
          refine vj_gr C dPm_event_42 lf_Pm_37 rfl (fun a42 => ?_)
          refine vj_cV (ci := 5) (As := [.ref a42]) (st := []) (b := a38) (a1 := 1) C dPm_event_45 (cm_St_copyFrom _ _ _ _) rfl gv_Pm_93 rfl rfl rfl hv_St_copyFrom ⟨Nat.le_of_ble_eq_true rfl, Nat.le_of_ble_eq_true rfl⟩ rfl rfl (Nat.le_of_ble_eq_true rfl) ⟨Nat.le_of_ble_eq_true rfl, Nat.le_of_ble_eq_true rfl⟩ (fun _ M45 => ?_)
          show Vj x 0 0 48 [(0, .ref a0), (1, .int p1), (2, .int p2)] [] M45 _
          refine vj_aload_n (j := 0) C dPm_event_48 rfl rfl ?_
          refine vj_gr C dPm_event_49 lf_Pm_62 rfl (fun a49 => ?_)
          refine vj_aload_n (j := 0) C dPm_event_52 rfl rfl ?_
          refine vj_gr C dPm_event_53 lf_Pm_27 rfl (fun a53 => ?_)
          refine vj_aload_n (j := 0) C dPm_event_56 rfl rfl ?_
          refine vj_gr C dPm_event_57 lf_Pm_41 rfl (fun a57 => ?_)
          refine vj_iload_n (j := 1) C dPm_event_60 rfl rfl ?_
          refine vj_iload_n (j := 2) C dPm_event_61 rfl rfl ?_
          refine vj_cV (ci := 3) (As := [.ref a53, .ref a57, .int p1, .int p2]) (st := []) (b := a49) (a1 := 4) C dPm_event_62 (cm_Ru_happen _ _ _ _ _ _ _) rfl gv_Pm_113 rfl rfl rfl hv_Ru_happen ⟨Nat.le_of_ble_eq_true rfl, Nat.le_of_ble_eq_true rfl⟩ rfl rfl (Nat.le_of_ble_eq_true rfl) ⟨Nat.le_of_ble_eq_true rfl, Nat.le_of_ble_eq_true rfl⟩ (fun v62 M62 => ?_)
          show Vj x 0 0 65 [(0, .ref a0), (1, .int p1), (2, .int p2)] [.int v62] M62 _
          refine vj_istore_n (lv' := [(0, .ref a0), (3, .int v62)]) C dPm_event_65 rfl (by decide) [1, 0] rfl ?_
          refine vj_iload_n (j := 1) C dPm_event_66 rfl rfl ?_
          refine vj_bipush (v := (-2)) C dPm_event_67 (by decide) ?_
          refine vj_icmp_ne (tgt := 80) C dPm_event_69 rfl ?_ ?_
          · skip
            refine vj_aload_n (j := 0) C dPm_event_80 rfl rfl ?_
            refine vj_cV (ci := 8) (As := []) (st := []) (b := a0) (a1 := 0) C dPm_event_81 (cm_Pm_moveToTrial _ _ _) rfl gv_Pm_117 rfl rfl rfl hv_Pm_moveToTrial ⟨Nat.le_of_ble_eq_true rfl, Nat.le_of_ble_eq_true rfl⟩ rfl rfl (Nat.le_of_ble_eq_true rfl) ⟨Nat.le_of_ble_eq_true rfl, Nat.le_of_ble_eq_true rfl⟩ (fun _ M81 => ?_)
            show Vj x 0 0 84 [(0, .ref a0), (3, .int v62)] [] M81 _
            refine vj_iload_n (j := 1) C dPm_event_84 rfl rfl ?_
            exact vj_ret C dPm_event_85 rfl rfl (Nat.le_of_ble_eq_true rfl) (Nat.le_of_ble_eq_true rfl)
          · skip
            exact vj_thN
        · skip
          refine vj_lk (lv' := []) [] rfl ?_
          exact hj29 _
  · skip
    exact vj_thN
set_option maxHeartbeats 4000000 in
set_option maxRecDepth 100000 in
theorem cx_Pm_event (l : Launch) (hl9 : l.stackTraces = false) (M : Mm) (a0 : Nat) (p1 : Int32) (p2 : Int32) : cx l zyPm_event ws_Pm_event { frames := 6, cells := 1, slots := 6, locals := 283 } 1 6 [.ref a0, .int p1, .int p2] M (fn_Pm_event true M a0 p1 p2) := by
  refine cx_of (cc := zbPm_event) (maxL := 4) (ret := (some .int)) (lv0 := [(0, .ref a0), (1, .int p1), (2, .int p2)]) hl9 (by decide) rfl (Nat.le_of_ble_eq_true rfl) rfl rfl ?_
  intro x C Z
  unfold fn_Pm_event
  refine vj_aload_n (j := 0) C dPm_event_0 rfl rfl ?_
  refine vj_gi C dPm_event_1 lf_Pm_20 rfl (fun v1 => ?_)
  refine vj_if_ne (tgt := 15) C dPm_event_4 rfl ?_ ?_
  · skip
    refine vj_iload_n (j := 1) C dPm_event_15 rfl rfl ?_
    refine vj_cS (As := [.int p1]) (st := []) (a1 := 1) C dPm_event_16 (cm_Pm_isParty _ _ _) gs_Pm_106 rfl rfl rfl hs_Pm_isParty ⟨Nat.le_of_ble_eq_true rfl, Nat.le_of_ble_eq_true rfl⟩ rfl rfl (Nat.le_of_ble_eq_true rfl) ⟨Nat.le_of_ble_eq_true rfl, Nat.le_of_ble_eq_true rfl⟩ (fun v16 M16 => ?_)
    show Vj x 0 0 19 [(0, .ref a0), (1, .int p1), (2, .int p2)] [.int v16] M16 _
    refine vj_jp (fun (j : Mm → Rr) => ∀ Mj29, Vj x 0 0 29 [] [] Mj29 (j Mj29)) ?_ ?_
    · intro Mj29
      exact vj_thr C Z 2 ex_w2 ex_k2 (by decide +kernel) dPm_event_29 dPm_event_32 dPm_event_33 dPm_event_36 (Nat.le_of_ble_eq_true rfl) (Nat.le_of_ble_eq_true rfl) ⟨Nat.le_of_ble_eq_true rfl, Nat.le_of_ble_eq_true rfl⟩ ⟨Nat.le_of_ble_eq_true rfl, Nat.le_of_ble_eq_true rfl⟩
    · intro j29 hj29
      refine vj_if_eq (tgt := 29) C dPm_event_19 rfl ?_ ?_
      · skip
        refine vj_lk (lv' := []) [] rfl ?_
        exact hj29 _
      · skip
        refine vj_iload_n (j := 2) C dPm_event_22 rfl rfl ?_
        refine vj_cS (As := [.int p2]) (st := []) (a1 := 1) C dPm_event_23 (cm_Pm_isKind _ _ _) gs_Pm_110 rfl rfl rfl hs_Pm_isKind ⟨Nat.le_of_ble_eq_true rfl, Nat.le_of_ble_eq_true rfl⟩ rfl rfl (Nat.le_of_ble_eq_true rfl) ⟨Nat.le_of_ble_eq_true rfl, Nat.le_of_ble_eq_true rfl⟩ (fun v23 M23 => ?_)
        show Vj x 0 0 26 [(0, .ref a0), (1, .int p1), (2, .int p2)] [.int v23] M23 _
        refine vj_if_ne (tgt := 37) C dPm_event_26 rfl ?_ ?_
        · skip
          refine vj_aload_n (j := 0) C dPm_event_37 rfl rfl ?_
          refine vj_gr C dPm_event_38 lf_Pm_41 rfl (fun a38 => ?_)
          refine vj_aload_n (j := 0) C dPm_event_41 rfl rfl ?_
          refine vj_gr C dPm_event_42 lf_Pm_37 rfl (fun a42 => ?_)
          refine vj_cV (ci := 5) (As := [.ref a42]) (st := []) (b := a38) (a1 := 1) C dPm_event_45 (cm_St_copyFrom _ _ _ _) rfl gv_Pm_93 rfl rfl rfl hv_St_copyFrom ⟨Nat.le_of_ble_eq_true rfl, Nat.le_of_ble_eq_true rfl⟩ rfl rfl (Nat.le_of_ble_eq_true rfl) ⟨Nat.le_of_ble_eq_true rfl, Nat.le_of_ble_eq_true rfl⟩ (fun _ M45 => ?_)
          show Vj x 0 0 48 [(0, .ref a0), (1, .int p1), (2, .int p2)] [] M45 _
          refine vj_aload_n (j := 0) C dPm_event_48 rfl rfl ?_
          refine vj_gr C dPm_event_49 lf_Pm_62 rfl (fun a49 => ?_)
          refine vj_aload_n (j := 0) C dPm_event_52 rfl rfl ?_
          refine vj_gr C dPm_event_53 lf_Pm_27 rfl (fun a53 => ?_)
          refine vj_aload_n (j := 0) C dPm_event_56 rfl rfl ?_
          refine vj_gr C dPm_event_57 lf_Pm_41 rfl (fun a57 => ?_)
          refine vj_iload_n (j := 1) C dPm_event_60 rfl rfl ?_
          refine vj_iload_n (j := 2) C dPm_event_61 rfl rfl ?_
          refine vj_cV (ci := 3) (As := [.ref a53, .ref a57, .int p1, .int p2]) (st := []) (b := a49) (a1 := 4) C dPm_event_62 (cm_Ru_happen _ _ _ _ _ _ _) rfl gv_Pm_113 rfl rfl rfl hv_Ru_happen ⟨Nat.le_of_ble_eq_true rfl, Nat.le_of_ble_eq_true rfl⟩ rfl rfl (Nat.le_of_ble_eq_true rfl) ⟨Nat.le_of_ble_eq_true rfl, Nat.le_of_ble_eq_true rfl⟩ (fun v62 M62 => ?_)
          show Vj x 0 0 65 [(0, .ref a0), (1, .int p1), (2, .int p2)] [.int v62] M62 _
          refine vj_istore_n (lv' := [(0, .ref a0), (3, .int v62)]) C dPm_event_65 rfl (by decide) [1, 0] rfl ?_
          refine vj_iload_n (j := 1) C dPm_event_66 rfl rfl ?_
          refine vj_bipush (v := (-2)) C dPm_event_67 (by decide) ?_
          refine vj_icmp_ne (tgt := 80) C dPm_event_69 rfl ?_ ?_
          · skip
            refine vj_aload_n (j := 0) C dPm_event_80 rfl rfl ?_
            refine vj_cV (ci := 8) (As := []) (st := []) (b := a0) (a1 := 0) C dPm_event_81 (cm_Pm_moveToTrial _ _ _) rfl gv_Pm_117 rfl rfl rfl hv_Pm_moveToTrial ⟨Nat.le_of_ble_eq_true rfl, Nat.le_of_ble_eq_true rfl⟩ rfl rfl (Nat.le_of_ble_eq_true rfl) ⟨Nat.le_of_ble_eq_true rfl, Nat.le_of_ble_eq_true rfl⟩ (fun _ M81 => ?_)
            show Vj x 0 0 84 [(0, .ref a0), (3, .int v62)] [] M81 _
            refine vj_iload_n (j := 1) C dPm_event_84 rfl rfl ?_
            exact vj_rtN
          · skip
            exact vj_thr C Z 3 ex_w3 ex_k3 (by decide +kernel) dPm_event_72 dPm_event_75 dPm_event_76 dPm_event_79 (Nat.le_of_ble_eq_true rfl) (Nat.le_of_ble_eq_true rfl) ⟨Nat.le_of_ble_eq_true rfl, Nat.le_of_ble_eq_true rfl⟩ ⟨Nat.le_of_ble_eq_true rfl, Nat.le_of_ble_eq_true rfl⟩
        · skip
          refine vj_lk (lv' := []) [] rfl ?_
          exact hj29 _
  · skip
    exact vj_thr C Z 1 ex_w1 ex_k1 (by decide +kernel) dPm_event_7 dPm_event_10 dPm_event_11 dPm_event_14 (Nat.le_of_ble_eq_true rfl) (Nat.le_of_ble_eq_true rfl) ⟨Nat.le_of_ble_eq_true rfl, Nat.le_of_ble_eq_true rfl⟩ ⟨Nat.le_of_ble_eq_true rfl, Nat.le_of_ble_eq_true rfl⟩
def fn_Pm_nextDay (th : Bool) (M : Mm) (a0 : Nat) : Rr := fo_gi M 8 a0 2 fun v1 => fo_jp (fo_th th 1 M) (fun j19 => if v1 = 0 then j19 else fo_gr M 8 a0 5 fun a8 => fo_gi M 5 a8 0 fun v11 => if v11 < 60 then fo_gr M 8 a0 6 fun a28 => fo_gr M 8 a0 5 fun a32 => fo_cv M 5 a28 (fn_St_copyFrom M a28 a32) fun _ M35 => fo_gr M35 8 a0 9 fun a39 => fo_gr M35 8 a0 3 fun a43 => fo_gr M35 8 a0 6 fun a47 => fo_cv M35 3 a39 (fn_Ru_endDay M35 a39 a43 a47) fun v50 M50 => if v50 = (-2) then fo_th th 3 M50 else fo_cv M50 8 a0 (fn_Pm_moveToTrial M50 a0) fun _ M69 => fo_rt th v50 M69 else j19)
set_option maxHeartbeats 4000000 in
set_option maxRecDepth 100000 in
theorem cm_Pm_nextDay (l : Launch) (M : Mm) (a0 : Nat) : ct l zyPm_nextDay ws_Pm_nextDay { frames := 5, cells := 0, slots := 0, locals := 283 } 0 0 (fun w => some (.int w)) [.ref a0] M (fn_Pm_nextDay false M a0) := by
  refine ct_of (cc := zbPm_nextDay) (maxL := 2) (ret := (some .int)) (lv0 := [(0, .ref a0)]) (by decide) rfl (Nat.le_of_ble_eq_true rfl) rfl rfl ?_
  intro x C
  unfold fn_Pm_nextDay
  refine vj_aload_n (j := 0) C dPm_nextDay_0 rfl rfl ?_
  refine vj_gi C dPm_nextDay_1 lf_Pm_20 rfl (fun v1 => ?_)
  refine vj_jp (fun (j : Rr) => Vj x 0 0 19 [] [] M j) ?_ ?_
  · skip
    exact vj_thN
  · intro j19 hj19
    refine vj_if_eq (tgt := 19) C dPm_nextDay_4 rfl ?_ ?_
    · skip
      refine vj_lk (lv' := []) [] rfl ?_
      exact hj19
    · skip
      refine vj_aload_n (j := 0) C dPm_nextDay_7 rfl rfl ?_
      refine vj_gr C dPm_nextDay_8 lf_Pm_37 rfl (fun a8 => ?_)
      refine vj_gi C dPm_nextDay_11 lf_Pm_120 rfl (fun v11 => ?_)
      refine vj_bipush (v := 60) C dPm_nextDay_14 (by decide) ?_
      refine vj_icmp_lt (tgt := 27) C dPm_nextDay_16 rfl ?_ ?_
      · skip
        refine vj_aload_n (j := 0) C dPm_nextDay_27 rfl rfl ?_
        refine vj_gr C dPm_nextDay_28 lf_Pm_41 rfl (fun a28 => ?_)
        refine vj_aload_n (j := 0) C dPm_nextDay_31 rfl rfl ?_
        refine vj_gr C dPm_nextDay_32 lf_Pm_37 rfl (fun a32 => ?_)
        refine vj_cV (ci := 5) (As := [.ref a32]) (st := []) (b := a28) (a1 := 1) C dPm_nextDay_35 (cm_St_copyFrom _ _ _ _) rfl gv_Pm_93 rfl rfl rfl hv_St_copyFrom ⟨Nat.le_of_ble_eq_true rfl, Nat.le_of_ble_eq_true rfl⟩ rfl rfl (Nat.le_of_ble_eq_true rfl) ⟨Nat.le_of_ble_eq_true rfl, Nat.le_of_ble_eq_true rfl⟩ (fun _ M35 => ?_)
        show Vj x 0 0 38 [(0, .ref a0)] [] M35 _
        refine vj_aload_n (j := 0) C dPm_nextDay_38 rfl rfl ?_
        refine vj_gr C dPm_nextDay_39 lf_Pm_62 rfl (fun a39 => ?_)
        refine vj_aload_n (j := 0) C dPm_nextDay_42 rfl rfl ?_
        refine vj_gr C dPm_nextDay_43 lf_Pm_27 rfl (fun a43 => ?_)
        refine vj_aload_n (j := 0) C dPm_nextDay_46 rfl rfl ?_
        refine vj_gr C dPm_nextDay_47 lf_Pm_41 rfl (fun a47 => ?_)
        refine vj_cV (ci := 3) (As := [.ref a43, .ref a47]) (st := []) (b := a39) (a1 := 2) C dPm_nextDay_50 (cm_Ru_endDay _ _ _ _ _) rfl gv_Pm_123 rfl rfl rfl hv_Ru_endDay ⟨Nat.le_of_ble_eq_true rfl, Nat.le_of_ble_eq_true rfl⟩ rfl rfl (Nat.le_of_ble_eq_true rfl) ⟨Nat.le_of_ble_eq_true rfl, Nat.le_of_ble_eq_true rfl⟩ (fun v50 M50 => ?_)
        show Vj x 0 0 53 [(0, .ref a0)] [.int v50] M50 _
        refine vj_istore_n (lv' := [(0, .ref a0), (1, .int v50)]) C dPm_nextDay_53 rfl (by decide) [1, 0] rfl ?_
        refine vj_iload_n (j := 1) C dPm_nextDay_54 rfl rfl ?_
        refine vj_bipush (v := (-2)) C dPm_nextDay_55 (by decide) ?_
        refine vj_icmp_ne (tgt := 68) C dPm_nextDay_57 rfl ?_ ?_
        · skip
          refine vj_aload_n (j := 0) C dPm_nextDay_68 rfl rfl ?_
          refine vj_cV (ci := 8) (As := []) (st := []) (b := a0) (a1 := 0) C dPm_nextDay_69 (cm_Pm_moveToTrial _ _ _) rfl gv_Pm_117 rfl rfl rfl hv_Pm_moveToTrial ⟨Nat.le_of_ble_eq_true rfl, Nat.le_of_ble_eq_true rfl⟩ rfl rfl (Nat.le_of_ble_eq_true rfl) ⟨Nat.le_of_ble_eq_true rfl, Nat.le_of_ble_eq_true rfl⟩ (fun _ M69 => ?_)
          show Vj x 0 0 72 [(0, .ref a0), (1, .int v50)] [] M69 _
          refine vj_iload_n (j := 1) C dPm_nextDay_72 rfl rfl ?_
          exact vj_ret C dPm_nextDay_73 rfl rfl (Nat.le_of_ble_eq_true rfl) (Nat.le_of_ble_eq_true rfl)
        · skip
          exact vj_thN
      · skip
        refine vj_lk (lv' := []) [] rfl ?_
        exact hj19
set_option maxHeartbeats 4000000 in
set_option maxRecDepth 100000 in
theorem cx_Pm_nextDay (l : Launch) (hl9 : l.stackTraces = false) (M : Mm) (a0 : Nat) : cx l zyPm_nextDay ws_Pm_nextDay { frames := 6, cells := 1, slots := 6, locals := 283 } 1 6 [.ref a0] M (fn_Pm_nextDay true M a0) := by
  refine cx_of (cc := zbPm_nextDay) (maxL := 2) (ret := (some .int)) (lv0 := [(0, .ref a0)]) hl9 (by decide) rfl (Nat.le_of_ble_eq_true rfl) rfl rfl ?_
  intro x C Z
  unfold fn_Pm_nextDay
  refine vj_aload_n (j := 0) C dPm_nextDay_0 rfl rfl ?_
  refine vj_gi C dPm_nextDay_1 lf_Pm_20 rfl (fun v1 => ?_)
  refine vj_jp (fun (j : Rr) => Vj x 0 0 19 [] [] M j) ?_ ?_
  · skip
    exact vj_thr C Z 1 ex_w1 ex_k1 (by decide +kernel) dPm_nextDay_19 dPm_nextDay_22 dPm_nextDay_23 dPm_nextDay_26 (Nat.le_of_ble_eq_true rfl) (Nat.le_of_ble_eq_true rfl) ⟨Nat.le_of_ble_eq_true rfl, Nat.le_of_ble_eq_true rfl⟩ ⟨Nat.le_of_ble_eq_true rfl, Nat.le_of_ble_eq_true rfl⟩
  · intro j19 hj19
    refine vj_if_eq (tgt := 19) C dPm_nextDay_4 rfl ?_ ?_
    · skip
      refine vj_lk (lv' := []) [] rfl ?_
      exact hj19
    · skip
      refine vj_aload_n (j := 0) C dPm_nextDay_7 rfl rfl ?_
      refine vj_gr C dPm_nextDay_8 lf_Pm_37 rfl (fun a8 => ?_)
      refine vj_gi C dPm_nextDay_11 lf_Pm_120 rfl (fun v11 => ?_)
      refine vj_bipush (v := 60) C dPm_nextDay_14 (by decide) ?_
      refine vj_icmp_lt (tgt := 27) C dPm_nextDay_16 rfl ?_ ?_
      · skip
        refine vj_aload_n (j := 0) C dPm_nextDay_27 rfl rfl ?_
        refine vj_gr C dPm_nextDay_28 lf_Pm_41 rfl (fun a28 => ?_)
        refine vj_aload_n (j := 0) C dPm_nextDay_31 rfl rfl ?_
        refine vj_gr C dPm_nextDay_32 lf_Pm_37 rfl (fun a32 => ?_)
        refine vj_cV (ci := 5) (As := [.ref a32]) (st := []) (b := a28) (a1 := 1) C dPm_nextDay_35 (cm_St_copyFrom _ _ _ _) rfl gv_Pm_93 rfl rfl rfl hv_St_copyFrom ⟨Nat.le_of_ble_eq_true rfl, Nat.le_of_ble_eq_true rfl⟩ rfl rfl (Nat.le_of_ble_eq_true rfl) ⟨Nat.le_of_ble_eq_true rfl, Nat.le_of_ble_eq_true rfl⟩ (fun _ M35 => ?_)
        show Vj x 0 0 38 [(0, .ref a0)] [] M35 _
        refine vj_aload_n (j := 0) C dPm_nextDay_38 rfl rfl ?_
        refine vj_gr C dPm_nextDay_39 lf_Pm_62 rfl (fun a39 => ?_)
        refine vj_aload_n (j := 0) C dPm_nextDay_42 rfl rfl ?_
        refine vj_gr C dPm_nextDay_43 lf_Pm_27 rfl (fun a43 => ?_)
        refine vj_aload_n (j := 0) C dPm_nextDay_46 rfl rfl ?_
        refine vj_gr C dPm_nextDay_47 lf_Pm_41 rfl (fun a47 => ?_)
        refine vj_cV (ci := 3) (As := [.ref a43, .ref a47]) (st := []) (b := a39) (a1 := 2) C dPm_nextDay_50 (cm_Ru_endDay _ _ _ _ _) rfl gv_Pm_123 rfl rfl rfl hv_Ru_endDay ⟨Nat.le_of_ble_eq_true rfl, Nat.le_of_ble_eq_true rfl⟩ rfl rfl (Nat.le_of_ble_eq_true rfl) ⟨Nat.le_of_ble_eq_true rfl, Nat.le_of_ble_eq_true rfl⟩ (fun v50 M50 => ?_)
        show Vj x 0 0 53 [(0, .ref a0)] [.int v50] M50 _
        refine vj_istore_n (lv' := [(0, .ref a0), (1, .int v50)]) C dPm_nextDay_53 rfl (by decide) [1, 0] rfl ?_
        refine vj_iload_n (j := 1) C dPm_nextDay_54 rfl rfl ?_
        refine vj_bipush (v := (-2)) C dPm_nextDay_55 (by decide) ?_
        refine vj_icmp_ne (tgt := 68) C dPm_nextDay_57 rfl ?_ ?_
        · skip
          refine vj_aload_n (j := 0) C dPm_nextDay_68 rfl rfl ?_
          refine vj_cV (ci := 8) (As := []) (st := []) (b := a0) (a1 := 0) C dPm_nextDay_69 (cm_Pm_moveToTrial _ _ _) rfl gv_Pm_117 rfl rfl rfl hv_Pm_moveToTrial ⟨Nat.le_of_ble_eq_true rfl, Nat.le_of_ble_eq_true rfl⟩ rfl rfl (Nat.le_of_ble_eq_true rfl) ⟨Nat.le_of_ble_eq_true rfl, Nat.le_of_ble_eq_true rfl⟩ (fun _ M69 => ?_)
          show Vj x 0 0 72 [(0, .ref a0), (1, .int v50)] [] M69 _
          refine vj_iload_n (j := 1) C dPm_nextDay_72 rfl rfl ?_
          exact vj_rtN
        · skip
          exact vj_thr C Z 3 ex_w3 ex_k3 (by decide +kernel) dPm_nextDay_60 dPm_nextDay_63 dPm_nextDay_64 dPm_nextDay_67 (Nat.le_of_ble_eq_true rfl) (Nat.le_of_ble_eq_true rfl) ⟨Nat.le_of_ble_eq_true rfl, Nat.le_of_ble_eq_true rfl⟩ ⟨Nat.le_of_ble_eq_true rfl, Nat.le_of_ble_eq_true rfl⟩
      · skip
        refine vj_lk (lv' := []) [] rfl ?_
        exact hj19
def fn_Pm_course (th : Bool) (M : Mm) (a0 : Nat) (p1 : Int32) (p2 : Int32) : Rr := fo_gi M 8 a0 2 fun v1 => if v1 = 0 then fo_th th 1 M else fo_cv M 8 a0 (fn_Pm_canSearch M a0 p1 p2) fun v18 M18 => if v18 = 0 then fo_th th 2 M18 else fo_gr M18 8 a0 8 fun a33 => fo_gr M18 8 a0 3 fun a37 => fo_gr M18 8 a0 5 fun a41 => fo_cv M18 4 a33 (fn_Se_firstCourse_2 M18 a33 a37 a41 p1 p2) fun v46 M46 => fo_rt th v46 M46
set_option maxHeartbeats 4000000 in
set_option maxRecDepth 100000 in
theorem cm_Pm_course (l : Launch) (M : Mm) (a0 : Nat) (p1 : Int32) (p2 : Int32) : ct l zyPm_course ws_Pm_course { frames := 8, cells := 0, slots := 0, locals := 348 } 0 0 (fun w => some (.int w)) [.ref a0, .int p1, .int p2] M (fn_Pm_course false M a0 p1 p2) := by
  refine ct_of (cc := zbPm_course) (maxL := 3) (ret := (some .int)) (lv0 := [(0, .ref a0), (1, .int p1), (2, .int p2)]) (by decide) rfl (Nat.le_of_ble_eq_true rfl) rfl rfl ?_
  intro x C
  unfold fn_Pm_course
  refine vj_aload_n (j := 0) C dPm_course_0 rfl rfl ?_
  refine vj_gi C dPm_course_1 lf_Pm_20 rfl (fun v1 => ?_)
  refine vj_if_ne (tgt := 15) C dPm_course_4 rfl ?_ ?_
  · skip
    refine vj_aload_n (j := 0) C dPm_course_15 rfl rfl ?_
    refine vj_iload_n (j := 1) C dPm_course_16 rfl rfl ?_
    refine vj_iload_n (j := 2) C dPm_course_17 rfl rfl ?_
    refine vj_cV (ci := 8) (As := [.int p1, .int p2]) (st := []) (b := a0) (a1 := 2) C dPm_course_18 (cm_Pm_canSearch _ _ _ _ _) rfl gv_Pm_159 rfl rfl rfl hv_Pm_canSearch ⟨Nat.le_of_ble_eq_true rfl, Nat.le_of_ble_eq_true rfl⟩ rfl rfl (Nat.le_of_ble_eq_true rfl) ⟨Nat.le_of_ble_eq_true rfl, Nat.le_of_ble_eq_true rfl⟩ (fun v18 M18 => ?_)
    show Vj x 0 0 21 [(0, .ref a0), (1, .int p1), (2, .int p2)] [.int v18] M18 _
    refine vj_if_ne (tgt := 32) C dPm_course_21 rfl ?_ ?_
    · skip
      refine vj_aload_n (j := 0) C dPm_course_32 rfl rfl ?_
      refine vj_gr C dPm_course_33 lf_Pm_54 rfl (fun a33 => ?_)
      refine vj_aload_n (j := 0) C dPm_course_36 rfl rfl ?_
      refine vj_gr C dPm_course_37 lf_Pm_27 rfl (fun a37 => ?_)
      refine vj_aload_n (j := 0) C dPm_course_40 rfl rfl ?_
      refine vj_gr C dPm_course_41 lf_Pm_37 rfl (fun a41 => ?_)
      refine vj_iload_n (j := 1) C dPm_course_44 rfl rfl ?_
      refine vj_iload_n (j := 2) C dPm_course_45 rfl rfl ?_
      refine vj_cVN (ci := 4) (As := [.ref a37, .ref a41, .int p1, .int p2]) (st := []) (b := a33) (a1 := 4) C dPm_course_46 (cm_Se_firstCourse_2 _ _ _ _ _ _ _) rfl (gw_self k_552) nk_Pm_163 k_550 k_551 k_102 rfl rfl rfl hn_Se_firstCourse ⟨Nat.le_of_ble_eq_true rfl, Nat.le_of_ble_eq_true rfl⟩ rfl rfl (Nat.le_of_ble_eq_true rfl) ⟨Nat.le_of_ble_eq_true rfl, Nat.le_of_ble_eq_true rfl⟩ (fun v46 M46 => ?_)
      show Vj x 0 0 49 [(0, .ref a0), (1, .int p1), (2, .int p2)] [.int v46] M46 _
      exact vj_ret C dPm_course_49 rfl rfl (Nat.le_of_ble_eq_true rfl) (Nat.le_of_ble_eq_true rfl)
    · skip
      exact vj_thN
  · skip
    exact vj_thN
set_option maxHeartbeats 4000000 in
set_option maxRecDepth 100000 in
theorem cx_Pm_course (l : Launch) (hl9 : l.stackTraces = false) (M : Mm) (a0 : Nat) (p1 : Int32) (p2 : Int32) : cx l zyPm_course ws_Pm_course { frames := 8, cells := 1, slots := 6, locals := 348 } 1 6 [.ref a0, .int p1, .int p2] M (fn_Pm_course true M a0 p1 p2) := by
  refine cx_of (cc := zbPm_course) (maxL := 3) (ret := (some .int)) (lv0 := [(0, .ref a0), (1, .int p1), (2, .int p2)]) hl9 (by decide) rfl (Nat.le_of_ble_eq_true rfl) rfl rfl ?_
  intro x C Z
  unfold fn_Pm_course
  refine vj_aload_n (j := 0) C dPm_course_0 rfl rfl ?_
  refine vj_gi C dPm_course_1 lf_Pm_20 rfl (fun v1 => ?_)
  refine vj_if_ne (tgt := 15) C dPm_course_4 rfl ?_ ?_
  · skip
    refine vj_aload_n (j := 0) C dPm_course_15 rfl rfl ?_
    refine vj_iload_n (j := 1) C dPm_course_16 rfl rfl ?_
    refine vj_iload_n (j := 2) C dPm_course_17 rfl rfl ?_
    refine vj_cV (ci := 8) (As := [.int p1, .int p2]) (st := []) (b := a0) (a1 := 2) C dPm_course_18 (cm_Pm_canSearch _ _ _ _ _) rfl gv_Pm_159 rfl rfl rfl hv_Pm_canSearch ⟨Nat.le_of_ble_eq_true rfl, Nat.le_of_ble_eq_true rfl⟩ rfl rfl (Nat.le_of_ble_eq_true rfl) ⟨Nat.le_of_ble_eq_true rfl, Nat.le_of_ble_eq_true rfl⟩ (fun v18 M18 => ?_)
    show Vj x 0 0 21 [(0, .ref a0), (1, .int p1), (2, .int p2)] [.int v18] M18 _
    refine vj_if_ne (tgt := 32) C dPm_course_21 rfl ?_ ?_
    · skip
      refine vj_aload_n (j := 0) C dPm_course_32 rfl rfl ?_
      refine vj_gr C dPm_course_33 lf_Pm_54 rfl (fun a33 => ?_)
      refine vj_aload_n (j := 0) C dPm_course_36 rfl rfl ?_
      refine vj_gr C dPm_course_37 lf_Pm_27 rfl (fun a37 => ?_)
      refine vj_aload_n (j := 0) C dPm_course_40 rfl rfl ?_
      refine vj_gr C dPm_course_41 lf_Pm_37 rfl (fun a41 => ?_)
      refine vj_iload_n (j := 1) C dPm_course_44 rfl rfl ?_
      refine vj_iload_n (j := 2) C dPm_course_45 rfl rfl ?_
      refine vj_cVN (ci := 4) (As := [.ref a37, .ref a41, .int p1, .int p2]) (st := []) (b := a33) (a1 := 4) C dPm_course_46 (cm_Se_firstCourse_2 _ _ _ _ _ _ _) rfl (gw_self k_552) nk_Pm_163 k_550 k_551 k_102 rfl rfl rfl hn_Se_firstCourse ⟨Nat.le_of_ble_eq_true rfl, Nat.le_of_ble_eq_true rfl⟩ rfl rfl (Nat.le_of_ble_eq_true rfl) ⟨Nat.le_of_ble_eq_true rfl, Nat.le_of_ble_eq_true rfl⟩ (fun v46 M46 => ?_)
      show Vj x 0 0 49 [(0, .ref a0), (1, .int p1), (2, .int p2)] [.int v46] M46 _
      exact vj_rtN
    · skip
      exact vj_thr C Z 2 ex_w2 ex_k2 (by decide +kernel) dPm_course_24 dPm_course_27 dPm_course_28 dPm_course_31 (Nat.le_of_ble_eq_true rfl) (Nat.le_of_ble_eq_true rfl) ⟨Nat.le_of_ble_eq_true rfl, Nat.le_of_ble_eq_true rfl⟩ ⟨Nat.le_of_ble_eq_true rfl, Nat.le_of_ble_eq_true rfl⟩
  · skip
    exact vj_thr C Z 1 ex_w1 ex_k1 (by decide +kernel) dPm_course_7 dPm_course_10 dPm_course_11 dPm_course_14 (Nat.le_of_ble_eq_true rfl) (Nat.le_of_ble_eq_true rfl) ⟨Nat.le_of_ble_eq_true rfl, Nat.le_of_ble_eq_true rfl⟩ ⟨Nat.le_of_ble_eq_true rfl, Nat.le_of_ble_eq_true rfl⟩
def lp_Pm_threat_65 (th : Bool) (a0 : Nat) (p1 : Int32) (p2 : Int32) (g57 : Mm → Int32 → Rr) (w57_3 : Int32) (g65 : Mm → Int32 → Rr) (Mh65 : Mm) (w65_4 : Int32) : Rr := if 5 ≤ w65_4 then g57 Mh65 (w57_3 + 1) else fo_jp (fun (Mj129 : Mm) => g65 Mj129 (w65_4 + 1)) (fun j129 => if w57_3 = p1 then j129 Mh65 else fo_gr Mh65 8 a0 8 fun a77 => fo_gr Mh65 8 a0 3 fun a81 => fo_gr Mh65 8 a0 5 fun a85 => fo_gr Mh65 8 a0 6 fun a89 => fo_cv Mh65 4 a77 (fn_Se_changes Mh65 a77 a81 a85 a89 w57_3 w65_4) fun v95 M95 => if v95 = 0 then j129 M95 else fo_gr M95 8 a0 8 fun a102 => fo_gr M95 8 a0 3 fun a106 => fo_gr M95 8 a0 6 fun a110 => fo_cv M95 4 a102 (fn_Se_firstCourse_2 M95 a102 a106 a110 p1 p2) fun v115 M115 => if v115 = (-1) then fo_rt th ((5 * w57_3) + w65_4) M115 else j129 M115)
def lp_Pm_threat_57 (th : Bool) (a0 : Nat) (p1 : Int32) (p2 : Int32) (g57 : Mm → Int32 → Rr) (Mh57 : Mm) (w57_3 : Int32) : Rr := if 3 ≤ w57_3 then fo_rt th (-1) Mh57 else fo_fx (fun _ _ => none) (lp_Pm_threat_65 th a0 p1 p2 g57 w57_3) fo_N Mh57 0
def fn_Pm_threat (th : Bool) (M : Mm) (a0 : Nat) (p1 : Int32) (p2 : Int32) : Rr := fo_gi M 8 a0 2 fun v1 => if v1 = 0 then fo_th th 1 M else fo_cv M 8 a0 (fn_Pm_canSearch M a0 p1 p2) fun v18 M18 => if v18 = 0 then fo_th th 2 M18 else fo_gr M18 8 a0 8 fun a33 => fo_gr M18 8 a0 3 fun a37 => fo_gr M18 8 a0 5 fun a41 => fo_cv M18 4 a33 (fn_Se_firstCourse_2 M18 a33 a37 a41 p1 p2) fun v46 M46 => if v46 = (-1) then fo_rt th (-1) M46 else fo_fx (fun _ _ => none) (lp_Pm_threat_57 th a0 p1 p2) fo_N M46 0
set_option maxHeartbeats 4000000 in
set_option maxRecDepth 100000 in
theorem cm_Pm_threat (l : Launch) (M : Mm) (a0 : Nat) (p1 : Int32) (p2 : Int32) : ct l zyPm_threat ws_Pm_threat { frames := 8, cells := 0, slots := 0, locals := 348 } 0 0 (fun w => some (.int w)) [.ref a0, .int p1, .int p2] M (fn_Pm_threat false M a0 p1 p2) := by
  refine ct_of (cc := zbPm_threat) (maxL := 5) (ret := (some .int)) (lv0 := [(0, .ref a0), (1, .int p1), (2, .int p2)]) (by decide) rfl (Nat.le_of_ble_eq_true rfl) rfl rfl ?_
  intro x C
  unfold fn_Pm_threat
  refine vj_aload_n (j := 0) C dPm_threat_0 rfl rfl ?_
  refine vj_gi C dPm_threat_1 lf_Pm_20 rfl (fun v1 => ?_)
  refine vj_if_ne (tgt := 15) C dPm_threat_4 rfl ?_ ?_
  · skip
    refine vj_aload_n (j := 0) C dPm_threat_15 rfl rfl ?_
    refine vj_iload_n (j := 1) C dPm_threat_16 rfl rfl ?_
    refine vj_iload_n (j := 2) C dPm_threat_17 rfl rfl ?_
    refine vj_cV (ci := 8) (As := [.int p1, .int p2]) (st := []) (b := a0) (a1 := 2) C dPm_threat_18 (cm_Pm_canSearch _ _ _ _ _) rfl gv_Pm_159 rfl rfl rfl hv_Pm_canSearch ⟨Nat.le_of_ble_eq_true rfl, Nat.le_of_ble_eq_true rfl⟩ rfl rfl (Nat.le_of_ble_eq_true rfl) ⟨Nat.le_of_ble_eq_true rfl, Nat.le_of_ble_eq_true rfl⟩ (fun v18 M18 => ?_)
    show Vj x 0 0 21 [(0, .ref a0), (1, .int p1), (2, .int p2)] [.int v18] M18 _
    refine vj_if_ne (tgt := 32) C dPm_threat_21 rfl ?_ ?_
    · skip
      refine vj_aload_n (j := 0) C dPm_threat_32 rfl rfl ?_
      refine vj_gr C dPm_threat_33 lf_Pm_54 rfl (fun a33 => ?_)
      refine vj_aload_n (j := 0) C dPm_threat_36 rfl rfl ?_
      refine vj_gr C dPm_threat_37 lf_Pm_27 rfl (fun a37 => ?_)
      refine vj_aload_n (j := 0) C dPm_threat_40 rfl rfl ?_
      refine vj_gr C dPm_threat_41 lf_Pm_37 rfl (fun a41 => ?_)
      refine vj_iload_n (j := 1) C dPm_threat_44 rfl rfl ?_
      refine vj_iload_n (j := 2) C dPm_threat_45 rfl rfl ?_
      refine vj_cVN (ci := 4) (As := [.ref a37, .ref a41, .int p1, .int p2]) (st := []) (b := a33) (a1 := 4) C dPm_threat_46 (cm_Se_firstCourse_2 _ _ _ _ _ _ _) rfl (gw_self k_552) nk_Pm_163 k_550 k_551 k_102 rfl rfl rfl hn_Se_firstCourse ⟨Nat.le_of_ble_eq_true rfl, Nat.le_of_ble_eq_true rfl⟩ rfl rfl (Nat.le_of_ble_eq_true rfl) ⟨Nat.le_of_ble_eq_true rfl, Nat.le_of_ble_eq_true rfl⟩ (fun v46 M46 => ?_)
      show Vj x 0 0 49 [(0, .ref a0), (1, .int p1), (2, .int p2)] [.int v46] M46 _
      refine vj_iconst (v := (-1)) C dPm_threat_49 (by decide) ?_
      refine vj_icmp_ne (tgt := 55) C dPm_threat_50 rfl ?_ ?_
      · skip
        refine vj_iconst (v := 0) C dPm_threat_55 (by decide) ?_
        refine vj_istore_n (lv' := [(0, .ref a0), (1, .int p1), (2, .int p2), (3, .int 0)]) C dPm_threat_56 rfl (by decide) [1, 2, 3, 0] rfl ?_
        have hg57x : ∀ nf Mh57 w57_3, Vj x 0 0 57 [(0, .ref a0), (1, .int p1), (2, .int p2), (3, .int w57_3)] [] Mh57 (fo_fx (fun _ _ => none) (lp_Pm_threat_57 false a0 p1 p2) nf Mh57 w57_3) := by
          intro nf
          refine fo_fx_P (fun (j : Mm → Int32 → Rr) => ∀ Mh57 w57_3, Vj x 0 0 57 [(0, .ref a0), (1, .int p1), (2, .int p2), (3, .int w57_3)] [] Mh57 (j Mh57 w57_3)) (fun _ _ => Vj_none) ?_ nf
          intro g57 hg57 Mh57 w57_3
          unfold lp_Pm_threat_57
          refine vj_iload_n (j := 3) C dPm_threat_57 rfl rfl ?_
          refine vj_iconst (v := 3) C dPm_threat_58 (by decide) ?_
          refine vj_icmp_ge (tgt := 141) C dPm_threat_59 rfl ?_ ?_
          · skip
            refine vj_iconst (v := (-1)) C dPm_threat_141 (by decide) ?_
            exact vj_ret C dPm_threat_142 rfl rfl (Nat.le_of_ble_eq_true rfl) (Nat.le_of_ble_eq_true rfl)
          · skip
            refine vj_iconst (v := 0) C dPm_threat_62 (by decide) ?_
            refine vj_istore (lv' := [(0, .ref a0), (1, .int p1), (2, .int p2), (3, .int w57_3), (4, .int 0)]) C dPm_threat_63 (by decide) [1, 2, 3, 4, 0] rfl ?_
            have hg65x : ∀ nf Mh65 w65_4, Vj x 0 0 65 [(0, .ref a0), (1, .int p1), (2, .int p2), (3, .int w57_3), (4, .int w65_4)] [] Mh65 (fo_fx (fun _ _ => none) (lp_Pm_threat_65 false a0 p1 p2 g57 w57_3) nf Mh65 w65_4) := by
              intro nf
              refine fo_fx_P (fun (j : Mm → Int32 → Rr) => ∀ Mh65 w65_4, Vj x 0 0 65 [(0, .ref a0), (1, .int p1), (2, .int p2), (3, .int w57_3), (4, .int w65_4)] [] Mh65 (j Mh65 w65_4)) (fun _ _ => Vj_none) ?_ nf
              intro g65 hg65 Mh65 w65_4
              unfold lp_Pm_threat_65
              refine vj_iload (j := 4) C dPm_threat_65 rfl ?_
              refine vj_iconst (v := 5) C dPm_threat_67 (by decide) ?_
              refine vj_icmp_ge (tgt := 135) C dPm_threat_68 rfl ?_ ?_
              · skip
                refine vj_iinc (j := 3) (b := 1) (lv' := [(0, .ref a0), (1, .int p1), (2, .int p2), (3, .int (w57_3 + 1))]) C dPm_threat_135 rfl (by decide) (by decide) [1, 2, 3, 0] rfl ?_
                refine vj_goto (tgt := 57) C dPm_threat_138 rfl ?_
                exact hg57 _ _
              · skip
                refine vj_iload_n (j := 3) C dPm_threat_71 rfl rfl ?_
                refine vj_iload_n (j := 1) C dPm_threat_72 rfl rfl ?_
                refine vj_jp (fun (j : Mm → Rr) => ∀ Mj129, Vj x 0 0 129 [(0, .ref a0), (1, .int p1), (2, .int p2), (3, .int w57_3), (4, .int w65_4)] [] Mj129 (j Mj129)) ?_ ?_
                · intro Mj129
                  refine vj_iinc (j := 4) (b := 1) (lv' := [(0, .ref a0), (1, .int p1), (2, .int p2), (3, .int w57_3), (4, .int (w65_4 + 1))]) C dPm_threat_129 rfl (by decide) (by decide) [1, 2, 3, 4, 0] rfl ?_
                  refine vj_goto (tgt := 65) C dPm_threat_132 rfl ?_
                  exact hg65 _ _
                · intro j129 hj129
                  refine vj_icmp_eq (tgt := 129) C dPm_threat_73 rfl ?_ ?_
                  · skip
                    exact hj129 _
                  · skip
                    refine vj_aload_n (j := 0) C dPm_threat_76 rfl rfl ?_
                    refine vj_gr C dPm_threat_77 lf_Pm_54 rfl (fun a77 => ?_)
                    refine vj_aload_n (j := 0) C dPm_threat_80 rfl rfl ?_
                    refine vj_gr C dPm_threat_81 lf_Pm_27 rfl (fun a81 => ?_)
                    refine vj_aload_n (j := 0) C dPm_threat_84 rfl rfl ?_
                    refine vj_gr C dPm_threat_85 lf_Pm_37 rfl (fun a85 => ?_)
                    refine vj_aload_n (j := 0) C dPm_threat_88 rfl rfl ?_
                    refine vj_gr C dPm_threat_89 lf_Pm_41 rfl (fun a89 => ?_)
                    refine vj_iload_n (j := 3) C dPm_threat_92 rfl rfl ?_
                    refine vj_iload (j := 4) C dPm_threat_93 rfl ?_
                    refine vj_cVN (ci := 4) (As := [.ref a81, .ref a85, .ref a89, .int w57_3, .int w65_4]) (st := []) (b := a77) (a1 := 5) C dPm_threat_95 (cm_Se_changes _ _ _ _ _ _ _ _) rfl (gw_self k_560) nk_Pm_166 k_558 k_559 k_102 rfl rfl rfl hn_Se_changes ⟨Nat.le_of_ble_eq_true rfl, Nat.le_of_ble_eq_true rfl⟩ rfl rfl (Nat.le_of_ble_eq_true rfl) ⟨Nat.le_of_ble_eq_true rfl, Nat.le_of_ble_eq_true rfl⟩ (fun v95 M95 => ?_)
                    show Vj x 0 0 98 [(0, .ref a0), (1, .int p1), (2, .int p2), (3, .int w57_3), (4, .int w65_4)] [.int v95] M95 _
                    refine vj_if_eq (tgt := 129) C dPm_threat_98 rfl ?_ ?_
                    · skip
                      exact hj129 _
                    · skip
                      refine vj_aload_n (j := 0) C dPm_threat_101 rfl rfl ?_
                      refine vj_gr C dPm_threat_102 lf_Pm_54 rfl (fun a102 => ?_)
                      refine vj_aload_n (j := 0) C dPm_threat_105 rfl rfl ?_
                      refine vj_gr C dPm_threat_106 lf_Pm_27 rfl (fun a106 => ?_)
                      refine vj_aload_n (j := 0) C dPm_threat_109 rfl rfl ?_
                      refine vj_gr C dPm_threat_110 lf_Pm_41 rfl (fun a110 => ?_)
                      refine vj_iload_n (j := 1) C dPm_threat_113 rfl rfl ?_
                      refine vj_iload_n (j := 2) C dPm_threat_114 rfl rfl ?_
                      refine vj_cVN (ci := 4) (As := [.ref a106, .ref a110, .int p1, .int p2]) (st := []) (b := a102) (a1 := 4) C dPm_threat_115 (cm_Se_firstCourse_2 _ _ _ _ _ _ _) rfl (gw_self k_552) nk_Pm_163 k_550 k_551 k_102 rfl rfl rfl hn_Se_firstCourse ⟨Nat.le_of_ble_eq_true rfl, Nat.le_of_ble_eq_true rfl⟩ rfl rfl (Nat.le_of_ble_eq_true rfl) ⟨Nat.le_of_ble_eq_true rfl, Nat.le_of_ble_eq_true rfl⟩ (fun v115 M115 => ?_)
                      show Vj x 0 0 118 [(0, .ref a0), (1, .int p1), (2, .int p2), (3, .int w57_3), (4, .int w65_4)] [.int v115] M115 _
                      refine vj_iconst (v := (-1)) C dPm_threat_118 (by decide) ?_
                      refine vj_icmp_ne (tgt := 129) C dPm_threat_119 rfl ?_ ?_
                      · skip
                        exact hj129 _
                      · skip
                        refine vj_iconst (v := 5) C dPm_threat_122 (by decide) ?_
                        refine vj_iload_n (j := 3) C dPm_threat_123 rfl rfl ?_
                        refine vj_imul C dPm_threat_124 ?_
                        refine vj_iload (j := 4) C dPm_threat_125 rfl ?_
                        refine vj_iadd C dPm_threat_127 ?_
                        exact vj_ret C dPm_threat_128 rfl rfl (Nat.le_of_ble_eq_true rfl) (Nat.le_of_ble_eq_true rfl)
            exact hg65x _ _ _
        exact hg57x _ _ _
      · skip
        refine vj_iconst (v := (-1)) C dPm_threat_53 (by decide) ?_
        exact vj_ret C dPm_threat_54 rfl rfl (Nat.le_of_ble_eq_true rfl) (Nat.le_of_ble_eq_true rfl)
    · skip
      exact vj_thN
  · skip
    exact vj_thN
set_option maxHeartbeats 4000000 in
set_option maxRecDepth 100000 in
theorem cx_Pm_threat (l : Launch) (hl9 : l.stackTraces = false) (M : Mm) (a0 : Nat) (p1 : Int32) (p2 : Int32) : cx l zyPm_threat ws_Pm_threat { frames := 8, cells := 1, slots := 6, locals := 348 } 1 6 [.ref a0, .int p1, .int p2] M (fn_Pm_threat true M a0 p1 p2) := by
  refine cx_of (cc := zbPm_threat) (maxL := 5) (ret := (some .int)) (lv0 := [(0, .ref a0), (1, .int p1), (2, .int p2)]) hl9 (by decide) rfl (Nat.le_of_ble_eq_true rfl) rfl rfl ?_
  intro x C Z
  unfold fn_Pm_threat
  refine vj_aload_n (j := 0) C dPm_threat_0 rfl rfl ?_
  refine vj_gi C dPm_threat_1 lf_Pm_20 rfl (fun v1 => ?_)
  refine vj_if_ne (tgt := 15) C dPm_threat_4 rfl ?_ ?_
  · skip
    refine vj_aload_n (j := 0) C dPm_threat_15 rfl rfl ?_
    refine vj_iload_n (j := 1) C dPm_threat_16 rfl rfl ?_
    refine vj_iload_n (j := 2) C dPm_threat_17 rfl rfl ?_
    refine vj_cV (ci := 8) (As := [.int p1, .int p2]) (st := []) (b := a0) (a1 := 2) C dPm_threat_18 (cm_Pm_canSearch _ _ _ _ _) rfl gv_Pm_159 rfl rfl rfl hv_Pm_canSearch ⟨Nat.le_of_ble_eq_true rfl, Nat.le_of_ble_eq_true rfl⟩ rfl rfl (Nat.le_of_ble_eq_true rfl) ⟨Nat.le_of_ble_eq_true rfl, Nat.le_of_ble_eq_true rfl⟩ (fun v18 M18 => ?_)
    show Vj x 0 0 21 [(0, .ref a0), (1, .int p1), (2, .int p2)] [.int v18] M18 _
    refine vj_if_ne (tgt := 32) C dPm_threat_21 rfl ?_ ?_
    · skip
      refine vj_aload_n (j := 0) C dPm_threat_32 rfl rfl ?_
      refine vj_gr C dPm_threat_33 lf_Pm_54 rfl (fun a33 => ?_)
      refine vj_aload_n (j := 0) C dPm_threat_36 rfl rfl ?_
      refine vj_gr C dPm_threat_37 lf_Pm_27 rfl (fun a37 => ?_)
      refine vj_aload_n (j := 0) C dPm_threat_40 rfl rfl ?_
      refine vj_gr C dPm_threat_41 lf_Pm_37 rfl (fun a41 => ?_)
      refine vj_iload_n (j := 1) C dPm_threat_44 rfl rfl ?_
      refine vj_iload_n (j := 2) C dPm_threat_45 rfl rfl ?_
      refine vj_cVN (ci := 4) (As := [.ref a37, .ref a41, .int p1, .int p2]) (st := []) (b := a33) (a1 := 4) C dPm_threat_46 (cm_Se_firstCourse_2 _ _ _ _ _ _ _) rfl (gw_self k_552) nk_Pm_163 k_550 k_551 k_102 rfl rfl rfl hn_Se_firstCourse ⟨Nat.le_of_ble_eq_true rfl, Nat.le_of_ble_eq_true rfl⟩ rfl rfl (Nat.le_of_ble_eq_true rfl) ⟨Nat.le_of_ble_eq_true rfl, Nat.le_of_ble_eq_true rfl⟩ (fun v46 M46 => ?_)
      show Vj x 0 0 49 [(0, .ref a0), (1, .int p1), (2, .int p2)] [.int v46] M46 _
      refine vj_iconst (v := (-1)) C dPm_threat_49 (by decide) ?_
      refine vj_icmp_ne (tgt := 55) C dPm_threat_50 rfl ?_ ?_
      · skip
        refine vj_iconst (v := 0) C dPm_threat_55 (by decide) ?_
        refine vj_istore_n (lv' := [(0, .ref a0), (1, .int p1), (2, .int p2), (3, .int 0)]) C dPm_threat_56 rfl (by decide) [1, 2, 3, 0] rfl ?_
        have hg57x : ∀ nf Mh57 w57_3, Vj x 0 0 57 [(0, .ref a0), (1, .int p1), (2, .int p2), (3, .int w57_3)] [] Mh57 (fo_fx (fun _ _ => none) (lp_Pm_threat_57 true a0 p1 p2) nf Mh57 w57_3) := by
          intro nf
          refine fo_fx_P (fun (j : Mm → Int32 → Rr) => ∀ Mh57 w57_3, Vj x 0 0 57 [(0, .ref a0), (1, .int p1), (2, .int p2), (3, .int w57_3)] [] Mh57 (j Mh57 w57_3)) (fun _ _ => Vj_none) ?_ nf
          intro g57 hg57 Mh57 w57_3
          unfold lp_Pm_threat_57
          refine vj_iload_n (j := 3) C dPm_threat_57 rfl rfl ?_
          refine vj_iconst (v := 3) C dPm_threat_58 (by decide) ?_
          refine vj_icmp_ge (tgt := 141) C dPm_threat_59 rfl ?_ ?_
          · skip
            refine vj_iconst (v := (-1)) C dPm_threat_141 (by decide) ?_
            exact vj_rtN
          · skip
            refine vj_iconst (v := 0) C dPm_threat_62 (by decide) ?_
            refine vj_istore (lv' := [(0, .ref a0), (1, .int p1), (2, .int p2), (3, .int w57_3), (4, .int 0)]) C dPm_threat_63 (by decide) [1, 2, 3, 4, 0] rfl ?_
            have hg65x : ∀ nf Mh65 w65_4, Vj x 0 0 65 [(0, .ref a0), (1, .int p1), (2, .int p2), (3, .int w57_3), (4, .int w65_4)] [] Mh65 (fo_fx (fun _ _ => none) (lp_Pm_threat_65 true a0 p1 p2 g57 w57_3) nf Mh65 w65_4) := by
              intro nf
              refine fo_fx_P (fun (j : Mm → Int32 → Rr) => ∀ Mh65 w65_4, Vj x 0 0 65 [(0, .ref a0), (1, .int p1), (2, .int p2), (3, .int w57_3), (4, .int w65_4)] [] Mh65 (j Mh65 w65_4)) (fun _ _ => Vj_none) ?_ nf
              intro g65 hg65 Mh65 w65_4
              unfold lp_Pm_threat_65
              refine vj_iload (j := 4) C dPm_threat_65 rfl ?_
              refine vj_iconst (v := 5) C dPm_threat_67 (by decide) ?_
              refine vj_icmp_ge (tgt := 135) C dPm_threat_68 rfl ?_ ?_
              · skip
                refine vj_iinc (j := 3) (b := 1) (lv' := [(0, .ref a0), (1, .int p1), (2, .int p2), (3, .int (w57_3 + 1))]) C dPm_threat_135 rfl (by decide) (by decide) [1, 2, 3, 0] rfl ?_
                refine vj_goto (tgt := 57) C dPm_threat_138 rfl ?_
                exact hg57 _ _
              · skip
                refine vj_iload_n (j := 3) C dPm_threat_71 rfl rfl ?_
                refine vj_iload_n (j := 1) C dPm_threat_72 rfl rfl ?_
                refine vj_jp (fun (j : Mm → Rr) => ∀ Mj129, Vj x 0 0 129 [(0, .ref a0), (1, .int p1), (2, .int p2), (3, .int w57_3), (4, .int w65_4)] [] Mj129 (j Mj129)) ?_ ?_
                · intro Mj129
                  refine vj_iinc (j := 4) (b := 1) (lv' := [(0, .ref a0), (1, .int p1), (2, .int p2), (3, .int w57_3), (4, .int (w65_4 + 1))]) C dPm_threat_129 rfl (by decide) (by decide) [1, 2, 3, 4, 0] rfl ?_
                  refine vj_goto (tgt := 65) C dPm_threat_132 rfl ?_
                  exact hg65 _ _
                · intro j129 hj129
                  refine vj_icmp_eq (tgt := 129) C dPm_threat_73 rfl ?_ ?_
                  · skip
                    exact hj129 _
                  · skip
                    refine vj_aload_n (j := 0) C dPm_threat_76 rfl rfl ?_
                    refine vj_gr C dPm_threat_77 lf_Pm_54 rfl (fun a77 => ?_)
                    refine vj_aload_n (j := 0) C dPm_threat_80 rfl rfl ?_
                    refine vj_gr C dPm_threat_81 lf_Pm_27 rfl (fun a81 => ?_)
                    refine vj_aload_n (j := 0) C dPm_threat_84 rfl rfl ?_
                    refine vj_gr C dPm_threat_85 lf_Pm_37 rfl (fun a85 => ?_)
                    refine vj_aload_n (j := 0) C dPm_threat_88 rfl rfl ?_
                    refine vj_gr C dPm_threat_89 lf_Pm_41 rfl (fun a89 => ?_)
                    refine vj_iload_n (j := 3) C dPm_threat_92 rfl rfl ?_
                    refine vj_iload (j := 4) C dPm_threat_93 rfl ?_
                    refine vj_cVN (ci := 4) (As := [.ref a81, .ref a85, .ref a89, .int w57_3, .int w65_4]) (st := []) (b := a77) (a1 := 5) C dPm_threat_95 (cm_Se_changes _ _ _ _ _ _ _ _) rfl (gw_self k_560) nk_Pm_166 k_558 k_559 k_102 rfl rfl rfl hn_Se_changes ⟨Nat.le_of_ble_eq_true rfl, Nat.le_of_ble_eq_true rfl⟩ rfl rfl (Nat.le_of_ble_eq_true rfl) ⟨Nat.le_of_ble_eq_true rfl, Nat.le_of_ble_eq_true rfl⟩ (fun v95 M95 => ?_)
                    show Vj x 0 0 98 [(0, .ref a0), (1, .int p1), (2, .int p2), (3, .int w57_3), (4, .int w65_4)] [.int v95] M95 _
                    refine vj_if_eq (tgt := 129) C dPm_threat_98 rfl ?_ ?_
                    · skip
                      exact hj129 _
                    · skip
                      refine vj_aload_n (j := 0) C dPm_threat_101 rfl rfl ?_
                      refine vj_gr C dPm_threat_102 lf_Pm_54 rfl (fun a102 => ?_)
                      refine vj_aload_n (j := 0) C dPm_threat_105 rfl rfl ?_
                      refine vj_gr C dPm_threat_106 lf_Pm_27 rfl (fun a106 => ?_)
                      refine vj_aload_n (j := 0) C dPm_threat_109 rfl rfl ?_
                      refine vj_gr C dPm_threat_110 lf_Pm_41 rfl (fun a110 => ?_)
                      refine vj_iload_n (j := 1) C dPm_threat_113 rfl rfl ?_
                      refine vj_iload_n (j := 2) C dPm_threat_114 rfl rfl ?_
                      refine vj_cVN (ci := 4) (As := [.ref a106, .ref a110, .int p1, .int p2]) (st := []) (b := a102) (a1 := 4) C dPm_threat_115 (cm_Se_firstCourse_2 _ _ _ _ _ _ _) rfl (gw_self k_552) nk_Pm_163 k_550 k_551 k_102 rfl rfl rfl hn_Se_firstCourse ⟨Nat.le_of_ble_eq_true rfl, Nat.le_of_ble_eq_true rfl⟩ rfl rfl (Nat.le_of_ble_eq_true rfl) ⟨Nat.le_of_ble_eq_true rfl, Nat.le_of_ble_eq_true rfl⟩ (fun v115 M115 => ?_)
                      show Vj x 0 0 118 [(0, .ref a0), (1, .int p1), (2, .int p2), (3, .int w57_3), (4, .int w65_4)] [.int v115] M115 _
                      refine vj_iconst (v := (-1)) C dPm_threat_118 (by decide) ?_
                      refine vj_icmp_ne (tgt := 129) C dPm_threat_119 rfl ?_ ?_
                      · skip
                        exact hj129 _
                      · skip
                        refine vj_iconst (v := 5) C dPm_threat_122 (by decide) ?_
                        refine vj_iload_n (j := 3) C dPm_threat_123 rfl rfl ?_
                        refine vj_imul C dPm_threat_124 ?_
                        refine vj_iload (j := 4) C dPm_threat_125 rfl ?_
                        refine vj_iadd C dPm_threat_127 ?_
                        exact vj_rtN
            exact hg65x _ _ _
        exact hg57x _ _ _
      · skip
        refine vj_iconst (v := (-1)) C dPm_threat_53 (by decide) ?_
        exact vj_rtN
    · skip
      exact vj_thr C Z 2 ex_w2 ex_k2 (by decide +kernel) dPm_threat_24 dPm_threat_27 dPm_threat_28 dPm_threat_31 (Nat.le_of_ble_eq_true rfl) (Nat.le_of_ble_eq_true rfl) ⟨Nat.le_of_ble_eq_true rfl, Nat.le_of_ble_eq_true rfl⟩ ⟨Nat.le_of_ble_eq_true rfl, Nat.le_of_ble_eq_true rfl⟩
  · skip
    exact vj_thr C Z 1 ex_w1 ex_k1 (by decide +kernel) dPm_threat_7 dPm_threat_10 dPm_threat_11 dPm_threat_14 (Nat.le_of_ble_eq_true rfl) (Nat.le_of_ble_eq_true rfl) ⟨Nat.le_of_ble_eq_true rfl, Nat.le_of_ble_eq_true rfl⟩ ⟨Nat.le_of_ble_eq_true rfl, Nat.le_of_ble_eq_true rfl⟩
