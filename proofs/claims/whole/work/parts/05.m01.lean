def fn_Tx_takeDigit (M : Mm) (a0 : Nat) : Rr := fo_cv M 7 a0 (fn_Tx_takeFrom M a0 48 10) fun v5 M5 => some (v5, M5)
set_option maxHeartbeats 4000000 in
set_option maxRecDepth 100000 in
theorem cm_Tx_takeDigit (l : Launch) (M : Mm) (a0 : Nat) : ct l zyTx_takeDigit ws_Tx_takeDigit { frames := 1, cells := 0, slots := 0, locals := 23 } 0 0 (fun w => some (.int w)) [.ref a0] M (fn_Tx_takeDigit M a0) := by
  refine ct_of (cc := zbTx_takeDigit) (maxL := 1) (ret := (some .int)) (lv0 := [(0, .ref a0)]) (by decide) rfl (Nat.le_of_ble_eq_true rfl) rfl rfl ?_
  intro x C
  unfold fn_Tx_takeDigit
  refine vj_aload_n (j := 0) C dTx_takeDigit_0 rfl rfl ?_
  refine vj_bipush (v := 48) C dTx_takeDigit_1 (by decide) ?_
  refine vj_bipush (v := 10) C dTx_takeDigit_3 (by decide) ?_
  refine vj_cV (ci := 7) (As := [.int 48, .int 10]) (st := []) (b := a0) (a1 := 2) C dTx_takeDigit_5 (cm_Tx_takeFrom _ _ _ _ _) rfl gv_Tx_133 rfl rfl rfl hv_Tx_takeFrom ⟨Nat.le_of_ble_eq_true rfl, Nat.le_of_ble_eq_true rfl⟩ rfl rfl (Nat.le_of_ble_eq_true rfl) ⟨Nat.le_of_ble_eq_true rfl, Nat.le_of_ble_eq_true rfl⟩ (fun v5 M5 => ?_)
  show Vj x 0 0 8 [(0, .ref a0)] [.int v5] M5 _
  exact vj_ret C dTx_takeDigit_8 rfl rfl (Nat.le_of_ble_eq_true rfl) (Nat.le_of_ble_eq_true rfl)
def fn_Tx_readTriggerNumber (M : Mm) (a0 : Nat) (p1 : Nat) : Rr := fo_cv M 7 a0 (fn_Tx_takeDigit M a0) fun v2 M2 => fo_pi M2 1 p1 3 v2 fun M5 => fo_gi M5 1 p1 3 fun v9 => if v9 = (-1) then fo_rz 0 M5 else fo_rz 1 M5
set_option maxHeartbeats 4000000 in
set_option maxRecDepth 100000 in
theorem cm_Tx_readTriggerNumber (l : Launch) (M : Mm) (a0 : Nat) (p1 : Nat) : ct l zyTx_readTriggerNumber ws_Tx_readTriggerNumber { frames := 2, cells := 0, slots := 0, locals := 43 } 0 0 (fun w => some (.int w)) [.ref a0, .ref p1] M (fn_Tx_readTriggerNumber M a0 p1) := by
  refine ct_of (cc := zbTx_readTriggerNumber) (maxL := 2) (ret := (some .boolean)) (lv0 := [(0, .ref a0), (1, .ref p1)]) (by decide) rfl (Nat.le_of_ble_eq_true rfl) rfl rfl ?_
  intro x C
  unfold fn_Tx_readTriggerNumber
  refine vj_aload_n (j := 1) C dTx_readTriggerNumber_0 rfl rfl ?_
  refine vj_aload_n (j := 0) C dTx_readTriggerNumber_1 rfl rfl ?_
  refine vj_cV (ci := 7) (As := []) (st := [.ref p1]) (b := a0) (a1 := 0) C dTx_readTriggerNumber_2 (cm_Tx_takeDigit _ _ _) rfl gv_Tx_85 rfl rfl rfl hv_Tx_takeDigit ⟨Nat.le_of_ble_eq_true rfl, Nat.le_of_ble_eq_true rfl⟩ rfl rfl (Nat.le_of_ble_eq_true rfl) ⟨Nat.le_of_ble_eq_true rfl, Nat.le_of_ble_eq_true rfl⟩ (fun v2 M2 => ?_)
  show Vj x 0 0 5 [(0, .ref a0), (1, .ref p1)] [.int v2, .ref p1] M2 _
  refine vj_pi C dTx_readTriggerNumber_5 lf_Tx_88 lq_1_3 rfl (fun M5 => ?_)
  refine vj_aload_n (j := 1) C dTx_readTriggerNumber_8 rfl rfl ?_
  refine vj_gi C dTx_readTriggerNumber_9 lf_Tx_88 rfl (fun v9 => ?_)
  refine vj_iconst (v := (-1)) C dTx_readTriggerNumber_12 (by decide) ?_
  refine vj_icmp_eq (tgt := 20) C dTx_readTriggerNumber_13 rfl ?_ ?_
  · skip
    refine vj_iconst (v := 0) C dTx_readTriggerNumber_20 (by decide) ?_
    exact vj_retz C dTx_readTriggerNumber_21 rfl rfl (Nat.le_of_ble_eq_true rfl) (Nat.le_of_ble_eq_true rfl)
  · skip
    refine vj_iconst (v := 1) C dTx_readTriggerNumber_16 (by decide) ?_
    refine vj_goto (tgt := 21) C dTx_readTriggerNumber_17 rfl ?_
    exact vj_retz C dTx_readTriggerNumber_21 rfl rfl (Nat.le_of_ble_eq_true rfl) (Nat.le_of_ble_eq_true rfl)
def fn_Tx_takeParty (M : Mm) (a0 : Nat) : Rr := fo_cv M 7 a0 (fn_Tx_takeFrom M a0 65 3) fun v4 M4 => some (v4, M4)
set_option maxHeartbeats 4000000 in
set_option maxRecDepth 100000 in
theorem cm_Tx_takeParty (l : Launch) (M : Mm) (a0 : Nat) : ct l zyTx_takeParty ws_Tx_takeParty { frames := 1, cells := 0, slots := 0, locals := 23 } 0 0 (fun w => some (.int w)) [.ref a0] M (fn_Tx_takeParty M a0) := by
  refine ct_of (cc := zbTx_takeParty) (maxL := 1) (ret := (some .int)) (lv0 := [(0, .ref a0)]) (by decide) rfl (Nat.le_of_ble_eq_true rfl) rfl rfl ?_
  intro x C
  unfold fn_Tx_takeParty
  refine vj_aload_n (j := 0) C dTx_takeParty_0 rfl rfl ?_
  refine vj_bipush (v := 65) C dTx_takeParty_1 (by decide) ?_
  refine vj_iconst (v := 3) C dTx_takeParty_3 (by decide) ?_
  refine vj_cV (ci := 7) (As := [.int 65, .int 3]) (st := []) (b := a0) (a1 := 2) C dTx_takeParty_4 (cm_Tx_takeFrom _ _ _ _ _) rfl gv_Tx_133 rfl rfl rfl hv_Tx_takeFrom ⟨Nat.le_of_ble_eq_true rfl, Nat.le_of_ble_eq_true rfl⟩ rfl rfl (Nat.le_of_ble_eq_true rfl) ⟨Nat.le_of_ble_eq_true rfl, Nat.le_of_ble_eq_true rfl⟩ (fun v4 M4 => ?_)
  show Vj x 0 0 7 [(0, .ref a0)] [.int v4] M4 _
  exact vj_ret C dTx_takeParty_7 rfl rfl (Nat.le_of_ble_eq_true rfl) (Nat.le_of_ble_eq_true rfl)
def fn_Tx_takeKind (M : Mm) (a0 : Nat) : Rr := fo_cv M 7 a0 (fn_Tx_takeFrom M a0 97 5) fun v4 M4 => some (v4, M4)
set_option maxHeartbeats 4000000 in
set_option maxRecDepth 100000 in
theorem cm_Tx_takeKind (l : Launch) (M : Mm) (a0 : Nat) : ct l zyTx_takeKind ws_Tx_takeKind { frames := 1, cells := 0, slots := 0, locals := 23 } 0 0 (fun w => some (.int w)) [.ref a0] M (fn_Tx_takeKind M a0) := by
  refine ct_of (cc := zbTx_takeKind) (maxL := 1) (ret := (some .int)) (lv0 := [(0, .ref a0)]) (by decide) rfl (Nat.le_of_ble_eq_true rfl) rfl rfl ?_
  intro x C
  unfold fn_Tx_takeKind
  refine vj_aload_n (j := 0) C dTx_takeKind_0 rfl rfl ?_
  refine vj_bipush (v := 97) C dTx_takeKind_1 (by decide) ?_
  refine vj_iconst (v := 5) C dTx_takeKind_3 (by decide) ?_
  refine vj_cV (ci := 7) (As := [.int 97, .int 5]) (st := []) (b := a0) (a1 := 2) C dTx_takeKind_4 (cm_Tx_takeFrom _ _ _ _ _) rfl gv_Tx_133 rfl rfl rfl hv_Tx_takeFrom ⟨Nat.le_of_ble_eq_true rfl, Nat.le_of_ble_eq_true rfl⟩ rfl rfl (Nat.le_of_ble_eq_true rfl) ⟨Nat.le_of_ble_eq_true rfl, Nat.le_of_ble_eq_true rfl⟩ (fun v4 M4 => ?_)
  show Vj x 0 0 7 [(0, .ref a0)] [.int v4] M4 _
  exact vj_ret C dTx_takeKind_7 rfl rfl (Nat.le_of_ble_eq_true rfl) (Nat.le_of_ble_eq_true rfl)
def fn_Tx_readTrigger (M : Mm) (a0 : Nat) (p1 : Nat) : Rr := fo_cv M 7 a0 (fn_Tx_takes M a0 115) fun v3 M3 => if v3 = 0 then fo_cv M3 7 a0 (fn_Tx_takes M3 a0 61) fun v20 M20 => if v20 = 0 then fo_cv M20 7 a0 (fn_Tx_takes M20 a0 120) fun v37 M37 => if v37 = 0 then fo_cv M37 7 a0 (fn_Tx_takes M37 a0 102) fun v58 M58 => if v58 = 0 then fo_pi M58 1 p1 0 101 fun M79 => fo_cv M79 7 a0 (fn_Tx_takeParty M79 a0) fun v84 M84 => fo_pi M84 1 p1 1 v84 fun M87 => fo_gi M87 1 p1 1 fun v91 => if v91 = (-1) then fo_rz 0 M87 else fo_cv M87 7 a0 (fn_Tx_takeKind M87 a0) fun v102 M102 => fo_pi M102 1 p1 2 v102 fun M105 => fo_gi M105 1 p1 2 fun v109 => if v109 = (-1) then fo_rz 0 M105 else fo_rz 1 M105 else fo_pi M58 1 p1 0 102 fun M67 => fo_cv M67 7 a0 (fn_Tx_readTriggerNumber M67 a0 p1) fun v72 M72 => fo_rz v72 M72 else fo_pi M37 1 p1 0 120 fun M46 => fo_cv M46 7 a0 (fn_Tx_readTriggerNumber M46 a0 p1) fun v51 M51 => fo_rz v51 M51 else fo_pi M20 1 p1 0 61 fun M29 => fo_rz 1 M29 else fo_pi M3 1 p1 0 115 fun M12 => fo_rz 1 M12
set_option maxHeartbeats 4000000 in
set_option maxRecDepth 100000 in
theorem cm_Tx_readTrigger (l : Launch) (M : Mm) (a0 : Nat) (p1 : Nat) : ct l zyTx_readTrigger ws_Tx_readTrigger { frames := 3, cells := 0, slots := 0, locals := 64 } 0 0 (fun w => some (.int w)) [.ref a0, .ref p1] M (fn_Tx_readTrigger M a0 p1) := by
  refine ct_of (cc := zbTx_readTrigger) (maxL := 2) (ret := (some .boolean)) (lv0 := [(0, .ref a0), (1, .ref p1)]) (by decide) rfl (Nat.le_of_ble_eq_true rfl) rfl rfl ?_
  intro x C
  unfold fn_Tx_readTrigger
  refine vj_aload_n (j := 0) C dTx_readTrigger_0 rfl rfl ?_
  refine vj_bipush (v := 115) C dTx_readTrigger_1 (by decide) ?_
  refine vj_cV (ci := 7) (As := [.int 115]) (st := []) (b := a0) (a1 := 1) C dTx_readTrigger_3 (cm_Tx_takes _ _ _ _) rfl gv_Tx_52 rfl rfl rfl hv_Tx_takes ⟨Nat.le_of_ble_eq_true rfl, Nat.le_of_ble_eq_true rfl⟩ rfl rfl (Nat.le_of_ble_eq_true rfl) ⟨Nat.le_of_ble_eq_true rfl, Nat.le_of_ble_eq_true rfl⟩ (fun v3 M3 => ?_)
  show Vj x 0 0 6 [(0, .ref a0), (1, .ref p1)] [.int v3] M3 _
  refine vj_if_eq (tgt := 17) C dTx_readTrigger_6 rfl ?_ ?_
  · skip
    refine vj_aload_n (j := 0) C dTx_readTrigger_17 rfl rfl ?_
    refine vj_bipush (v := 61) C dTx_readTrigger_18 (by decide) ?_
    refine vj_cV (ci := 7) (As := [.int 61]) (st := []) (b := a0) (a1 := 1) C dTx_readTrigger_20 (cm_Tx_takes _ _ _ _) rfl gv_Tx_52 rfl rfl rfl hv_Tx_takes ⟨Nat.le_of_ble_eq_true rfl, Nat.le_of_ble_eq_true rfl⟩ rfl rfl (Nat.le_of_ble_eq_true rfl) ⟨Nat.le_of_ble_eq_true rfl, Nat.le_of_ble_eq_true rfl⟩ (fun v20 M20 => ?_)
    show Vj x 0 0 23 [(0, .ref a0), (1, .ref p1)] [.int v20] M20 _
    refine vj_if_eq (tgt := 34) C dTx_readTrigger_23 rfl ?_ ?_
    · skip
      refine vj_aload_n (j := 0) C dTx_readTrigger_34 rfl rfl ?_
      refine vj_bipush (v := 120) C dTx_readTrigger_35 (by decide) ?_
      refine vj_cV (ci := 7) (As := [.int 120]) (st := []) (b := a0) (a1 := 1) C dTx_readTrigger_37 (cm_Tx_takes _ _ _ _) rfl gv_Tx_52 rfl rfl rfl hv_Tx_takes ⟨Nat.le_of_ble_eq_true rfl, Nat.le_of_ble_eq_true rfl⟩ rfl rfl (Nat.le_of_ble_eq_true rfl) ⟨Nat.le_of_ble_eq_true rfl, Nat.le_of_ble_eq_true rfl⟩ (fun v37 M37 => ?_)
      show Vj x 0 0 40 [(0, .ref a0), (1, .ref p1)] [.int v37] M37 _
      refine vj_if_eq (tgt := 55) C dTx_readTrigger_40 rfl ?_ ?_
      · skip
        refine vj_aload_n (j := 0) C dTx_readTrigger_55 rfl rfl ?_
        refine vj_bipush (v := 102) C dTx_readTrigger_56 (by decide) ?_
        refine vj_cV (ci := 7) (As := [.int 102]) (st := []) (b := a0) (a1 := 1) C dTx_readTrigger_58 (cm_Tx_takes _ _ _ _) rfl gv_Tx_52 rfl rfl rfl hv_Tx_takes ⟨Nat.le_of_ble_eq_true rfl, Nat.le_of_ble_eq_true rfl⟩ rfl rfl (Nat.le_of_ble_eq_true rfl) ⟨Nat.le_of_ble_eq_true rfl, Nat.le_of_ble_eq_true rfl⟩ (fun v58 M58 => ?_)
        show Vj x 0 0 61 [(0, .ref a0), (1, .ref p1)] [.int v58] M58 _
        refine vj_if_eq (tgt := 76) C dTx_readTrigger_61 rfl ?_ ?_
        · skip
          refine vj_aload_n (j := 1) C dTx_readTrigger_76 rfl rfl ?_
          refine vj_bipush (v := 101) C dTx_readTrigger_77 (by decide) ?_
          refine vj_pi C dTx_readTrigger_79 lf_Tx_65 lq_1_0 rfl (fun M79 => ?_)
          refine vj_aload_n (j := 1) C dTx_readTrigger_82 rfl rfl ?_
          refine vj_aload_n (j := 0) C dTx_readTrigger_83 rfl rfl ?_
          refine vj_cV (ci := 7) (As := []) (st := [.ref p1]) (b := a0) (a1 := 0) C dTx_readTrigger_84 (cm_Tx_takeParty _ _ _) rfl gv_Tx_73 rfl rfl rfl hv_Tx_takeParty ⟨Nat.le_of_ble_eq_true rfl, Nat.le_of_ble_eq_true rfl⟩ rfl rfl (Nat.le_of_ble_eq_true rfl) ⟨Nat.le_of_ble_eq_true rfl, Nat.le_of_ble_eq_true rfl⟩ (fun v84 M84 => ?_)
          show Vj x 0 0 87 [(0, .ref a0), (1, .ref p1)] [.int v84, .ref p1] M84 _
          refine vj_pi C dTx_readTrigger_87 lf_Tx_76 lq_1_1 rfl (fun M87 => ?_)
          refine vj_aload_n (j := 1) C dTx_readTrigger_90 rfl rfl ?_
          refine vj_gi C dTx_readTrigger_91 lf_Tx_76 rfl (fun v91 => ?_)
          refine vj_iconst (v := (-1)) C dTx_readTrigger_94 (by decide) ?_
          refine vj_icmp_ne (tgt := 100) C dTx_readTrigger_95 rfl ?_ ?_
          · skip
            refine vj_aload_n (j := 1) C dTx_readTrigger_100 rfl rfl ?_
            refine vj_aload_n (j := 0) C dTx_readTrigger_101 rfl rfl ?_
            refine vj_cV (ci := 7) (As := []) (st := [.ref p1]) (b := a0) (a1 := 0) C dTx_readTrigger_102 (cm_Tx_takeKind _ _ _) rfl gv_Tx_79 rfl rfl rfl hv_Tx_takeKind ⟨Nat.le_of_ble_eq_true rfl, Nat.le_of_ble_eq_true rfl⟩ rfl rfl (Nat.le_of_ble_eq_true rfl) ⟨Nat.le_of_ble_eq_true rfl, Nat.le_of_ble_eq_true rfl⟩ (fun v102 M102 => ?_)
            show Vj x 0 0 105 [(0, .ref a0), (1, .ref p1)] [.int v102, .ref p1] M102 _
            refine vj_pi C dTx_readTrigger_105 lf_Tx_82 lq_1_2 rfl (fun M105 => ?_)
            refine vj_aload_n (j := 1) C dTx_readTrigger_108 rfl rfl ?_
            refine vj_gi C dTx_readTrigger_109 lf_Tx_82 rfl (fun v109 => ?_)
            refine vj_iconst (v := (-1)) C dTx_readTrigger_112 (by decide) ?_
            refine vj_icmp_eq (tgt := 120) C dTx_readTrigger_113 rfl ?_ ?_
            · skip
              refine vj_iconst (v := 0) C dTx_readTrigger_120 (by decide) ?_
              exact vj_retz C dTx_readTrigger_121 rfl rfl (Nat.le_of_ble_eq_true rfl) (Nat.le_of_ble_eq_true rfl)
            · skip
              refine vj_iconst (v := 1) C dTx_readTrigger_116 (by decide) ?_
              refine vj_goto (tgt := 121) C dTx_readTrigger_117 rfl ?_
              exact vj_retz C dTx_readTrigger_121 rfl rfl (Nat.le_of_ble_eq_true rfl) (Nat.le_of_ble_eq_true rfl)
          · skip
            refine vj_iconst (v := 0) C dTx_readTrigger_98 (by decide) ?_
            exact vj_retz C dTx_readTrigger_99 rfl rfl (Nat.le_of_ble_eq_true rfl) (Nat.le_of_ble_eq_true rfl)
        · skip
          refine vj_aload_n (j := 1) C dTx_readTrigger_64 rfl rfl ?_
          refine vj_bipush (v := 102) C dTx_readTrigger_65 (by decide) ?_
          refine vj_pi C dTx_readTrigger_67 lf_Tx_65 lq_1_0 rfl (fun M67 => ?_)
          refine vj_aload_n (j := 0) C dTx_readTrigger_70 rfl rfl ?_
          refine vj_aload_n (j := 1) C dTx_readTrigger_71 rfl rfl ?_
          refine vj_cV (ci := 7) (As := [.ref p1]) (st := []) (b := a0) (a1 := 1) C dTx_readTrigger_72 (cm_Tx_readTriggerNumber _ _ _ _) rfl gv_Tx_70 rfl rfl rfl hv_Tx_readTriggerNumber ⟨Nat.le_of_ble_eq_true rfl, Nat.le_of_ble_eq_true rfl⟩ rfl rfl (Nat.le_of_ble_eq_true rfl) ⟨Nat.le_of_ble_eq_true rfl, Nat.le_of_ble_eq_true rfl⟩ (fun v72 M72 => ?_)
          show Vj x 0 0 75 [(0, .ref a0), (1, .ref p1)] [.int v72] M72 _
          exact vj_retz C dTx_readTrigger_75 rfl rfl (Nat.le_of_ble_eq_true rfl) (Nat.le_of_ble_eq_true rfl)
      · skip
        refine vj_aload_n (j := 1) C dTx_readTrigger_43 rfl rfl ?_
        refine vj_bipush (v := 120) C dTx_readTrigger_44 (by decide) ?_
        refine vj_pi C dTx_readTrigger_46 lf_Tx_65 lq_1_0 rfl (fun M46 => ?_)
        refine vj_aload_n (j := 0) C dTx_readTrigger_49 rfl rfl ?_
        refine vj_aload_n (j := 1) C dTx_readTrigger_50 rfl rfl ?_
        refine vj_cV (ci := 7) (As := [.ref p1]) (st := []) (b := a0) (a1 := 1) C dTx_readTrigger_51 (cm_Tx_readTriggerNumber _ _ _ _) rfl gv_Tx_70 rfl rfl rfl hv_Tx_readTriggerNumber ⟨Nat.le_of_ble_eq_true rfl, Nat.le_of_ble_eq_true rfl⟩ rfl rfl (Nat.le_of_ble_eq_true rfl) ⟨Nat.le_of_ble_eq_true rfl, Nat.le_of_ble_eq_true rfl⟩ (fun v51 M51 => ?_)
        show Vj x 0 0 54 [(0, .ref a0), (1, .ref p1)] [.int v51] M51 _
        exact vj_retz C dTx_readTrigger_54 rfl rfl (Nat.le_of_ble_eq_true rfl) (Nat.le_of_ble_eq_true rfl)
    · skip
      refine vj_aload_n (j := 1) C dTx_readTrigger_26 rfl rfl ?_
      refine vj_bipush (v := 61) C dTx_readTrigger_27 (by decide) ?_
      refine vj_pi C dTx_readTrigger_29 lf_Tx_65 lq_1_0 rfl (fun M29 => ?_)
      refine vj_iconst (v := 1) C dTx_readTrigger_32 (by decide) ?_
      exact vj_retz C dTx_readTrigger_33 rfl rfl (Nat.le_of_ble_eq_true rfl) (Nat.le_of_ble_eq_true rfl)
  · skip
    refine vj_aload_n (j := 1) C dTx_readTrigger_9 rfl rfl ?_
    refine vj_bipush (v := 115) C dTx_readTrigger_10 (by decide) ?_
    refine vj_pi C dTx_readTrigger_12 lf_Tx_65 lq_1_0 rfl (fun M12 => ?_)
    refine vj_iconst (v := 1) C dTx_readTrigger_15 (by decide) ?_
    exact vj_retz C dTx_readTrigger_16 rfl rfl (Nat.le_of_ble_eq_true rfl) (Nat.le_of_ble_eq_true rfl)
def fn_Tx_readTwoParties (M : Mm) (a0 : Nat) : Rr := fo_cv M 7 a0 (fn_Tx_takeParty M a0) fun v2 M2 => fo_pi M2 7 a0 3 v2 fun M5 => fo_gi M5 7 a0 3 fun v9 => if v9 = (-1) then fo_rz 0 M5 else fo_gi M5 7 a0 3 fun v20 => fo_cv M5 7 a0 (fn_Tx_isNext M5 a0 (((65 + v20).toUInt32 % 65536).toInt32)) fun v25 M25 => if v25 = 0 then fo_cv M25 7 a0 (fn_Tx_takeParty M25 a0) fun v35 M35 => fo_pi M35 7 a0 4 v35 fun M38 => fo_gi M38 7 a0 4 fun v42 => if v42 = (-1) then fo_rz 0 M38 else fo_rz 1 M38 else fo_rz 0 M25
set_option maxHeartbeats 4000000 in
set_option maxRecDepth 100000 in
theorem cm_Tx_readTwoParties (l : Launch) (M : Mm) (a0 : Nat) : ct l zyTx_readTwoParties ws_Tx_readTwoParties { frames := 2, cells := 0, slots := 0, locals := 43 } 0 0 (fun w => some (.int w)) [.ref a0] M (fn_Tx_readTwoParties M a0) := by
  refine ct_of (cc := zbTx_readTwoParties) (maxL := 1) (ret := (some .boolean)) (lv0 := [(0, .ref a0)]) (by decide) rfl (Nat.le_of_ble_eq_true rfl) rfl rfl ?_
  intro x C
  unfold fn_Tx_readTwoParties
  refine vj_aload_n (j := 0) C dTx_readTwoParties_0 rfl rfl ?_
  refine vj_aload_n (j := 0) C dTx_readTwoParties_1 rfl rfl ?_
  refine vj_cV (ci := 7) (As := []) (st := [.ref a0]) (b := a0) (a1 := 0) C dTx_readTwoParties_2 (cm_Tx_takeParty _ _ _) rfl gv_Tx_73 rfl rfl rfl hv_Tx_takeParty ⟨Nat.le_of_ble_eq_true rfl, Nat.le_of_ble_eq_true rfl⟩ rfl rfl (Nat.le_of_ble_eq_true rfl) ⟨Nat.le_of_ble_eq_true rfl, Nat.le_of_ble_eq_true rfl⟩ (fun v2 M2 => ?_)
  show Vj x 0 0 5 [(0, .ref a0)] [.int v2, .ref a0] M2 _
  refine vj_pi C dTx_readTwoParties_5 lf_Tx_22 lq_7_3 rfl (fun M5 => ?_)
  refine vj_aload_n (j := 0) C dTx_readTwoParties_8 rfl rfl ?_
  refine vj_gi C dTx_readTwoParties_9 lf_Tx_22 rfl (fun v9 => ?_)
  refine vj_iconst (v := (-1)) C dTx_readTwoParties_12 (by decide) ?_
  refine vj_icmp_eq (tgt := 31) C dTx_readTwoParties_13 rfl ?_ ?_
  · skip
    refine vj_iconst (v := 0) C dTx_readTwoParties_31 (by decide) ?_
    exact vj_retz C dTx_readTwoParties_32 rfl rfl (Nat.le_of_ble_eq_true rfl) (Nat.le_of_ble_eq_true rfl)
  · skip
    refine vj_aload_n (j := 0) C dTx_readTwoParties_16 rfl rfl ?_
    refine vj_bipush (v := 65) C dTx_readTwoParties_17 (by decide) ?_
    refine vj_aload_n (j := 0) C dTx_readTwoParties_19 rfl rfl ?_
    refine vj_gi C dTx_readTwoParties_20 lf_Tx_22 rfl (fun v20 => ?_)
    refine vj_iadd C dTx_readTwoParties_23 ?_
    refine vj_i2c C dTx_readTwoParties_24 ?_
    refine vj_cV (ci := 7) (As := [.int (((65 + v20).toUInt32 % 65536).toInt32)]) (st := []) (b := a0) (a1 := 1) C dTx_readTwoParties_25 (cm_Tx_isNext _ _ _ _) rfl gv_Tx_130 rfl rfl rfl hv_Tx_isNext ⟨Nat.le_of_ble_eq_true rfl, Nat.le_of_ble_eq_true rfl⟩ rfl rfl (Nat.le_of_ble_eq_true rfl) ⟨Nat.le_of_ble_eq_true rfl, Nat.le_of_ble_eq_true rfl⟩ (fun v25 M25 => ?_)
    show Vj x 0 0 28 [(0, .ref a0)] [.int v25] M25 _
    refine vj_if_eq (tgt := 33) C dTx_readTwoParties_28 rfl ?_ ?_
    · skip
      refine vj_aload_n (j := 0) C dTx_readTwoParties_33 rfl rfl ?_
      refine vj_aload_n (j := 0) C dTx_readTwoParties_34 rfl rfl ?_
      refine vj_cV (ci := 7) (As := []) (st := [.ref a0]) (b := a0) (a1 := 0) C dTx_readTwoParties_35 (cm_Tx_takeParty _ _ _) rfl gv_Tx_73 rfl rfl rfl hv_Tx_takeParty ⟨Nat.le_of_ble_eq_true rfl, Nat.le_of_ble_eq_true rfl⟩ rfl rfl (Nat.le_of_ble_eq_true rfl) ⟨Nat.le_of_ble_eq_true rfl, Nat.le_of_ble_eq_true rfl⟩ (fun v35 M35 => ?_)
      show Vj x 0 0 38 [(0, .ref a0)] [.int v35, .ref a0] M35 _
      refine vj_pi C dTx_readTwoParties_38 lf_Tx_25 lq_7_4 rfl (fun M38 => ?_)
      refine vj_aload_n (j := 0) C dTx_readTwoParties_41 rfl rfl ?_
      refine vj_gi C dTx_readTwoParties_42 lf_Tx_25 rfl (fun v42 => ?_)
      refine vj_iconst (v := (-1)) C dTx_readTwoParties_45 (by decide) ?_
      refine vj_icmp_eq (tgt := 53) C dTx_readTwoParties_46 rfl ?_ ?_
      · skip
        refine vj_iconst (v := 0) C dTx_readTwoParties_53 (by decide) ?_
        exact vj_retz C dTx_readTwoParties_54 rfl rfl (Nat.le_of_ble_eq_true rfl) (Nat.le_of_ble_eq_true rfl)
      · skip
        refine vj_iconst (v := 1) C dTx_readTwoParties_49 (by decide) ?_
        refine vj_goto (tgt := 54) C dTx_readTwoParties_50 rfl ?_
        exact vj_retz C dTx_readTwoParties_54 rfl rfl (Nat.le_of_ble_eq_true rfl) (Nat.le_of_ble_eq_true rfl)
    · skip
      refine vj_iconst (v := 0) C dTx_readTwoParties_31 (by decide) ?_
      exact vj_retz C dTx_readTwoParties_32 rfl rfl (Nat.le_of_ble_eq_true rfl) (Nat.le_of_ble_eq_true rfl)
def fn_Tx_readDigit (M : Mm) (a0 : Nat) : Rr := fo_cv M 7 a0 (fn_Tx_takeDigit M a0) fun v2 M2 => fo_pi M2 7 a0 5 v2 fun M5 => fo_gi M5 7 a0 5 fun v9 => if v9 = (-1) then fo_rz 0 M5 else fo_rz 1 M5
set_option maxHeartbeats 4000000 in
set_option maxRecDepth 100000 in
theorem cm_Tx_readDigit (l : Launch) (M : Mm) (a0 : Nat) : ct l zyTx_readDigit ws_Tx_readDigit { frames := 2, cells := 0, slots := 0, locals := 43 } 0 0 (fun w => some (.int w)) [.ref a0] M (fn_Tx_readDigit M a0) := by
  refine ct_of (cc := zbTx_readDigit) (maxL := 1) (ret := (some .boolean)) (lv0 := [(0, .ref a0)]) (by decide) rfl (Nat.le_of_ble_eq_true rfl) rfl rfl ?_
  intro x C
  unfold fn_Tx_readDigit
  refine vj_aload_n (j := 0) C dTx_readDigit_0 rfl rfl ?_
  refine vj_aload_n (j := 0) C dTx_readDigit_1 rfl rfl ?_
  refine vj_cV (ci := 7) (As := []) (st := [.ref a0]) (b := a0) (a1 := 0) C dTx_readDigit_2 (cm_Tx_takeDigit _ _ _) rfl gv_Tx_85 rfl rfl rfl hv_Tx_takeDigit ⟨Nat.le_of_ble_eq_true rfl, Nat.le_of_ble_eq_true rfl⟩ rfl rfl (Nat.le_of_ble_eq_true rfl) ⟨Nat.le_of_ble_eq_true rfl, Nat.le_of_ble_eq_true rfl⟩ (fun v2 M2 => ?_)
  show Vj x 0 0 5 [(0, .ref a0)] [.int v2, .ref a0] M2 _
  refine vj_pi C dTx_readDigit_5 lf_Tx_28 lq_7_5 rfl (fun M5 => ?_)
  refine vj_aload_n (j := 0) C dTx_readDigit_8 rfl rfl ?_
  refine vj_gi C dTx_readDigit_9 lf_Tx_28 rfl (fun v9 => ?_)
  refine vj_iconst (v := (-1)) C dTx_readDigit_12 (by decide) ?_
  refine vj_icmp_eq (tgt := 20) C dTx_readDigit_13 rfl ?_ ?_
  · skip
    refine vj_iconst (v := 0) C dTx_readDigit_20 (by decide) ?_
    exact vj_retz C dTx_readDigit_21 rfl rfl (Nat.le_of_ble_eq_true rfl) (Nat.le_of_ble_eq_true rfl)
  · skip
    refine vj_iconst (v := 1) C dTx_readDigit_16 (by decide) ?_
    refine vj_goto (tgt := 21) C dTx_readDigit_17 rfl ?_
    exact vj_retz C dTx_readDigit_21 rfl rfl (Nat.le_of_ble_eq_true rfl) (Nat.le_of_ble_eq_true rfl)
def fn_Tx_readCondition (M : Mm) (a0 : Nat) (p1 : Nat) : Rr := fo_cv M 7 a0 (fn_Tx_takes M a0 91) fun v4 M4 => fo_pz M4 1 p1 4 v4 fun M7 => fo_gi M7 1 p1 4 fun v11 => if v11 = 0 then fo_rz 1 M7 else fo_cv M7 7 a0 (fn_Tx_readTwoParties M7 a0) fun v20 M20 => if v20 = 0 then fo_rz 0 M20 else fo_cv M20 7 a0 (fn_Tx_readDigit M20 a0) fun v27 M27 => if v27 = 0 then fo_rz 0 M27 else fo_gi M27 7 a0 3 fun v37 => fo_pi M27 1 p1 5 v37 fun M40 => fo_gi M40 7 a0 4 fun v45 => fo_pi M40 1 p1 6 v45 fun M48 => fo_gi M48 7 a0 5 fun v53 => fo_pi M48 1 p1 7 v53 fun M56 => fo_cv M56 7 a0 (fn_Tx_takes M56 a0 93) fun v62 M62 => fo_rz v62 M62
set_option maxHeartbeats 4000000 in
set_option maxRecDepth 100000 in
theorem cm_Tx_readCondition (l : Launch) (M : Mm) (a0 : Nat) (p1 : Nat) : ct l zyTx_readCondition ws_Tx_readCondition { frames := 3, cells := 0, slots := 0, locals := 63 } 0 0 (fun w => some (.int w)) [.ref a0, .ref p1] M (fn_Tx_readCondition M a0 p1) := by
  refine ct_of (cc := zbTx_readCondition) (maxL := 2) (ret := (some .boolean)) (lv0 := [(0, .ref a0), (1, .ref p1)]) (by decide) rfl (Nat.le_of_ble_eq_true rfl) rfl rfl ?_
  intro x C
  unfold fn_Tx_readCondition
  refine vj_aload_n (j := 1) C dTx_readCondition_0 rfl rfl ?_
  refine vj_aload_n (j := 0) C dTx_readCondition_1 rfl rfl ?_
  refine vj_bipush (v := 91) C dTx_readCondition_2 (by decide) ?_
  refine vj_cV (ci := 7) (As := [.int 91]) (st := [.ref p1]) (b := a0) (a1 := 1) C dTx_readCondition_4 (cm_Tx_takes _ _ _ _) rfl gv_Tx_52 rfl rfl rfl hv_Tx_takes ⟨Nat.le_of_ble_eq_true rfl, Nat.le_of_ble_eq_true rfl⟩ rfl rfl (Nat.le_of_ble_eq_true rfl) ⟨Nat.le_of_ble_eq_true rfl, Nat.le_of_ble_eq_true rfl⟩ (fun v4 M4 => ?_)
  show Vj x 0 0 7 [(0, .ref a0), (1, .ref p1)] [.int v4, .ref p1] M4 _
  refine vj_pz C dTx_readCondition_7 lf_Tx_91 lq_1_4 rfl (fun M7 => ?_)
  refine vj_aload_n (j := 1) C dTx_readCondition_10 rfl rfl ?_
  refine vj_gi C dTx_readCondition_11 lf_Tx_91 rfl (fun v11 => ?_)
  refine vj_if_ne (tgt := 19) C dTx_readCondition_14 rfl ?_ ?_
  · skip
    refine vj_aload_n (j := 0) C dTx_readCondition_19 rfl rfl ?_
    refine vj_cV (ci := 7) (As := []) (st := []) (b := a0) (a1 := 0) C dTx_readCondition_20 (cm_Tx_readTwoParties _ _ _) rfl gv_Tx_95 rfl rfl rfl hv_Tx_readTwoParties ⟨Nat.le_of_ble_eq_true rfl, Nat.le_of_ble_eq_true rfl⟩ rfl rfl (Nat.le_of_ble_eq_true rfl) ⟨Nat.le_of_ble_eq_true rfl, Nat.le_of_ble_eq_true rfl⟩ (fun v20 M20 => ?_)
    show Vj x 0 0 23 [(0, .ref a0), (1, .ref p1)] [.int v20] M20 _
    refine vj_if_eq (tgt := 33) C dTx_readCondition_23 rfl ?_ ?_
    · skip
      refine vj_iconst (v := 0) C dTx_readCondition_33 (by decide) ?_
      exact vj_retz C dTx_readCondition_34 rfl rfl (Nat.le_of_ble_eq_true rfl) (Nat.le_of_ble_eq_true rfl)
    · skip
      refine vj_aload_n (j := 0) C dTx_readCondition_26 rfl rfl ?_
      refine vj_cV (ci := 7) (As := []) (st := []) (b := a0) (a1 := 0) C dTx_readCondition_27 (cm_Tx_readDigit _ _ _) rfl gv_Tx_99 rfl rfl rfl hv_Tx_readDigit ⟨Nat.le_of_ble_eq_true rfl, Nat.le_of_ble_eq_true rfl⟩ rfl rfl (Nat.le_of_ble_eq_true rfl) ⟨Nat.le_of_ble_eq_true rfl, Nat.le_of_ble_eq_true rfl⟩ (fun v27 M27 => ?_)
      show Vj x 0 0 30 [(0, .ref a0), (1, .ref p1)] [.int v27] M27 _
      refine vj_if_ne (tgt := 35) C dTx_readCondition_30 rfl ?_ ?_
      · skip
        refine vj_aload_n (j := 1) C dTx_readCondition_35 rfl rfl ?_
        refine vj_aload_n (j := 0) C dTx_readCondition_36 rfl rfl ?_
        refine vj_gi C dTx_readCondition_37 lf_Tx_22 rfl (fun v37 => ?_)
        refine vj_pi C dTx_readCondition_40 lf_Tx_102 lq_1_5 rfl (fun M40 => ?_)
        refine vj_aload_n (j := 1) C dTx_readCondition_43 rfl rfl ?_
        refine vj_aload_n (j := 0) C dTx_readCondition_44 rfl rfl ?_
        refine vj_gi C dTx_readCondition_45 lf_Tx_25 rfl (fun v45 => ?_)
        refine vj_pi C dTx_readCondition_48 lf_Tx_105 lq_1_6 rfl (fun M48 => ?_)
        refine vj_aload_n (j := 1) C dTx_readCondition_51 rfl rfl ?_
        refine vj_aload_n (j := 0) C dTx_readCondition_52 rfl rfl ?_
        refine vj_gi C dTx_readCondition_53 lf_Tx_28 rfl (fun v53 => ?_)
        refine vj_pi C dTx_readCondition_56 lf_Tx_108 lq_1_7 rfl (fun M56 => ?_)
        refine vj_aload_n (j := 0) C dTx_readCondition_59 rfl rfl ?_
        refine vj_bipush (v := 93) C dTx_readCondition_60 (by decide) ?_
        refine vj_cV (ci := 7) (As := [.int 93]) (st := []) (b := a0) (a1 := 1) C dTx_readCondition_62 (cm_Tx_takes _ _ _ _) rfl gv_Tx_52 rfl rfl rfl hv_Tx_takes ⟨Nat.le_of_ble_eq_true rfl, Nat.le_of_ble_eq_true rfl⟩ rfl rfl (Nat.le_of_ble_eq_true rfl) ⟨Nat.le_of_ble_eq_true rfl, Nat.le_of_ble_eq_true rfl⟩ (fun v62 M62 => ?_)
        show Vj x 0 0 65 [(0, .ref a0), (1, .ref p1)] [.int v62] M62 _
        exact vj_retz C dTx_readCondition_65 rfl rfl (Nat.le_of_ble_eq_true rfl) (Nat.le_of_ble_eq_true rfl)
      · skip
        refine vj_iconst (v := 0) C dTx_readCondition_33 (by decide) ?_
        exact vj_retz C dTx_readCondition_34 rfl rfl (Nat.le_of_ble_eq_true rfl) (Nat.le_of_ble_eq_true rfl)
  · skip
    refine vj_iconst (v := 1) C dTx_readCondition_17 (by decide) ?_
    exact vj_retz C dTx_readCondition_18 rfl rfl (Nat.le_of_ble_eq_true rfl) (Nat.le_of_ble_eq_true rfl)
def fn_Tx_readTermSign (M : Mm) (a0 : Nat) (p1 : Nat) : Rr := fo_cv M 7 a0 (fn_Tx_takes M a0 33) fun v3 M3 => if v3 = 0 then fo_cv M3 7 a0 (fn_Tx_takes M3 a0 126) fun v20 M20 => if v20 = 0 then fo_pi M20 1 p1 8 63 fun M37 => fo_cv M37 7 a0 (fn_Tx_takes M37 a0 63) fun v43 M43 => fo_rz v43 M43 else fo_pi M20 1 p1 8 126 fun M29 => fo_rz 1 M29 else fo_pi M3 1 p1 8 33 fun M12 => fo_rz 1 M12
set_option maxHeartbeats 4000000 in
set_option maxRecDepth 100000 in
theorem cm_Tx_readTermSign (l : Launch) (M : Mm) (a0 : Nat) (p1 : Nat) : ct l zyTx_readTermSign ws_Tx_readTermSign { frames := 2, cells := 0, slots := 0, locals := 42 } 0 0 (fun w => some (.int w)) [.ref a0, .ref p1] M (fn_Tx_readTermSign M a0 p1) := by
  refine ct_of (cc := zbTx_readTermSign) (maxL := 2) (ret := (some .boolean)) (lv0 := [(0, .ref a0), (1, .ref p1)]) (by decide) rfl (Nat.le_of_ble_eq_true rfl) rfl rfl ?_
  intro x C
  unfold fn_Tx_readTermSign
  refine vj_aload_n (j := 0) C dTx_readTermSign_0 rfl rfl ?_
  refine vj_bipush (v := 33) C dTx_readTermSign_1 (by decide) ?_
  refine vj_cV (ci := 7) (As := [.int 33]) (st := []) (b := a0) (a1 := 1) C dTx_readTermSign_3 (cm_Tx_takes _ _ _ _) rfl gv_Tx_52 rfl rfl rfl hv_Tx_takes ⟨Nat.le_of_ble_eq_true rfl, Nat.le_of_ble_eq_true rfl⟩ rfl rfl (Nat.le_of_ble_eq_true rfl) ⟨Nat.le_of_ble_eq_true rfl, Nat.le_of_ble_eq_true rfl⟩ (fun v3 M3 => ?_)
  show Vj x 0 0 6 [(0, .ref a0), (1, .ref p1)] [.int v3] M3 _
  refine vj_if_eq (tgt := 17) C dTx_readTermSign_6 rfl ?_ ?_
  · skip
    refine vj_aload_n (j := 0) C dTx_readTermSign_17 rfl rfl ?_
    refine vj_bipush (v := 126) C dTx_readTermSign_18 (by decide) ?_
    refine vj_cV (ci := 7) (As := [.int 126]) (st := []) (b := a0) (a1 := 1) C dTx_readTermSign_20 (cm_Tx_takes _ _ _ _) rfl gv_Tx_52 rfl rfl rfl hv_Tx_takes ⟨Nat.le_of_ble_eq_true rfl, Nat.le_of_ble_eq_true rfl⟩ rfl rfl (Nat.le_of_ble_eq_true rfl) ⟨Nat.le_of_ble_eq_true rfl, Nat.le_of_ble_eq_true rfl⟩ (fun v20 M20 => ?_)
    show Vj x 0 0 23 [(0, .ref a0), (1, .ref p1)] [.int v20] M20 _
    refine vj_if_eq (tgt := 34) C dTx_readTermSign_23 rfl ?_ ?_
    · skip
      refine vj_aload_n (j := 1) C dTx_readTermSign_34 rfl rfl ?_
      refine vj_bipush (v := 63) C dTx_readTermSign_35 (by decide) ?_
      refine vj_pi C dTx_readTermSign_37 lf_Tx_120 lq_1_8 rfl (fun M37 => ?_)
      refine vj_aload_n (j := 0) C dTx_readTermSign_40 rfl rfl ?_
      refine vj_bipush (v := 63) C dTx_readTermSign_41 (by decide) ?_
      refine vj_cV (ci := 7) (As := [.int 63]) (st := []) (b := a0) (a1 := 1) C dTx_readTermSign_43 (cm_Tx_takes _ _ _ _) rfl gv_Tx_52 rfl rfl rfl hv_Tx_takes ⟨Nat.le_of_ble_eq_true rfl, Nat.le_of_ble_eq_true rfl⟩ rfl rfl (Nat.le_of_ble_eq_true rfl) ⟨Nat.le_of_ble_eq_true rfl, Nat.le_of_ble_eq_true rfl⟩ (fun v43 M43 => ?_)
      show Vj x 0 0 46 [(0, .ref a0), (1, .ref p1)] [.int v43] M43 _
      exact vj_retz C dTx_readTermSign_46 rfl rfl (Nat.le_of_ble_eq_true rfl) (Nat.le_of_ble_eq_true rfl)
    · skip
      refine vj_aload_n (j := 1) C dTx_readTermSign_26 rfl rfl ?_
      refine vj_bipush (v := 126) C dTx_readTermSign_27 (by decide) ?_
      refine vj_pi C dTx_readTermSign_29 lf_Tx_120 lq_1_8 rfl (fun M29 => ?_)
      refine vj_iconst (v := 1) C dTx_readTermSign_32 (by decide) ?_
      exact vj_retz C dTx_readTermSign_33 rfl rfl (Nat.le_of_ble_eq_true rfl) (Nat.le_of_ble_eq_true rfl)
  · skip
    refine vj_aload_n (j := 1) C dTx_readTermSign_9 rfl rfl ?_
    refine vj_bipush (v := 33) C dTx_readTermSign_10 (by decide) ?_
    refine vj_pi C dTx_readTermSign_12 lf_Tx_120 lq_1_8 rfl (fun M12 => ?_)
    refine vj_iconst (v := 1) C dTx_readTermSign_15 (by decide) ?_
    exact vj_retz C dTx_readTermSign_16 rfl rfl (Nat.le_of_ble_eq_true rfl) (Nat.le_of_ble_eq_true rfl)
def fn_Tx_readPartyAndKind (M : Mm) (a0 : Nat) : Rr := fo_cv M 7 a0 (fn_Tx_takeParty M a0) fun v2 M2 => fo_pi M2 7 a0 3 v2 fun M5 => fo_gi M5 7 a0 3 fun v9 => if v9 = (-1) then fo_rz 0 M5 else fo_cv M5 7 a0 (fn_Tx_takeKind M5 a0) fun v20 M20 => fo_pi M20 7 a0 4 v20 fun M23 => fo_gi M23 7 a0 4 fun v27 => if v27 = (-1) then fo_rz 0 M23 else fo_rz 1 M23
set_option maxHeartbeats 4000000 in
set_option maxRecDepth 100000 in
theorem cm_Tx_readPartyAndKind (l : Launch) (M : Mm) (a0 : Nat) : ct l zyTx_readPartyAndKind ws_Tx_readPartyAndKind { frames := 2, cells := 0, slots := 0, locals := 43 } 0 0 (fun w => some (.int w)) [.ref a0] M (fn_Tx_readPartyAndKind M a0) := by
  refine ct_of (cc := zbTx_readPartyAndKind) (maxL := 1) (ret := (some .boolean)) (lv0 := [(0, .ref a0)]) (by decide) rfl (Nat.le_of_ble_eq_true rfl) rfl rfl ?_
  intro x C
  unfold fn_Tx_readPartyAndKind
  refine vj_aload_n (j := 0) C dTx_readPartyAndKind_0 rfl rfl ?_
  refine vj_aload_n (j := 0) C dTx_readPartyAndKind_1 rfl rfl ?_
  refine vj_cV (ci := 7) (As := []) (st := [.ref a0]) (b := a0) (a1 := 0) C dTx_readPartyAndKind_2 (cm_Tx_takeParty _ _ _) rfl gv_Tx_73 rfl rfl rfl hv_Tx_takeParty ⟨Nat.le_of_ble_eq_true rfl, Nat.le_of_ble_eq_true rfl⟩ rfl rfl (Nat.le_of_ble_eq_true rfl) ⟨Nat.le_of_ble_eq_true rfl, Nat.le_of_ble_eq_true rfl⟩ (fun v2 M2 => ?_)
  show Vj x 0 0 5 [(0, .ref a0)] [.int v2, .ref a0] M2 _
  refine vj_pi C dTx_readPartyAndKind_5 lf_Tx_22 lq_7_3 rfl (fun M5 => ?_)
  refine vj_aload_n (j := 0) C dTx_readPartyAndKind_8 rfl rfl ?_
  refine vj_gi C dTx_readPartyAndKind_9 lf_Tx_22 rfl (fun v9 => ?_)
  refine vj_iconst (v := (-1)) C dTx_readPartyAndKind_12 (by decide) ?_
  refine vj_icmp_ne (tgt := 18) C dTx_readPartyAndKind_13 rfl ?_ ?_
  · skip
    refine vj_aload_n (j := 0) C dTx_readPartyAndKind_18 rfl rfl ?_
    refine vj_aload_n (j := 0) C dTx_readPartyAndKind_19 rfl rfl ?_
    refine vj_cV (ci := 7) (As := []) (st := [.ref a0]) (b := a0) (a1 := 0) C dTx_readPartyAndKind_20 (cm_Tx_takeKind _ _ _) rfl gv_Tx_79 rfl rfl rfl hv_Tx_takeKind ⟨Nat.le_of_ble_eq_true rfl, Nat.le_of_ble_eq_true rfl⟩ rfl rfl (Nat.le_of_ble_eq_true rfl) ⟨Nat.le_of_ble_eq_true rfl, Nat.le_of_ble_eq_true rfl⟩ (fun v20 M20 => ?_)
    show Vj x 0 0 23 [(0, .ref a0)] [.int v20, .ref a0] M20 _
    refine vj_pi C dTx_readPartyAndKind_23 lf_Tx_25 lq_7_4 rfl (fun M23 => ?_)
    refine vj_aload_n (j := 0) C dTx_readPartyAndKind_26 rfl rfl ?_
    refine vj_gi C dTx_readPartyAndKind_27 lf_Tx_25 rfl (fun v27 => ?_)
    refine vj_iconst (v := (-1)) C dTx_readPartyAndKind_30 (by decide) ?_
    refine vj_icmp_eq (tgt := 38) C dTx_readPartyAndKind_31 rfl ?_ ?_
    · skip
      refine vj_iconst (v := 0) C dTx_readPartyAndKind_38 (by decide) ?_
      exact vj_retz C dTx_readPartyAndKind_39 rfl rfl (Nat.le_of_ble_eq_true rfl) (Nat.le_of_ble_eq_true rfl)
    · skip
      refine vj_iconst (v := 1) C dTx_readPartyAndKind_34 (by decide) ?_
      refine vj_goto (tgt := 39) C dTx_readPartyAndKind_35 rfl ?_
      exact vj_retz C dTx_readPartyAndKind_39 rfl rfl (Nat.le_of_ble_eq_true rfl) (Nat.le_of_ble_eq_true rfl)
  · skip
    refine vj_iconst (v := 0) C dTx_readPartyAndKind_16 (by decide) ?_
    exact vj_retz C dTx_readPartyAndKind_17 rfl rfl (Nat.le_of_ble_eq_true rfl) (Nat.le_of_ble_eq_true rfl)
def fn_Tx_readAction (M : Mm) (a0 : Nat) (p1 : Nat) : Rr := fo_pi M 1 p1 9 (-1) fun M2 => fo_pi M2 1 p1 10 (-1) fun M7 => fo_pi M7 1 p1 11 (-1) fun M12 => fo_cv M12 7 a0 (fn_Tx_takes M12 a0 61) fun v18 M18 => fo_jp (fun (Mj109 : Mm) => fo_cv Mj109 7 a0 (fn_Tx_readDigit Mj109 a0) fun v110 M110 => if v110 = 0 then fo_rz 0 M110 else fo_gi M110 7 a0 5 fun v120 => fo_pi M110 1 p1 12 v120 fun M123 => fo_rz 1 M123) (fun j109 => if v18 = 0 then fo_cv M18 7 a0 (fn_Tx_takes M18 a0 36) fun v36 M36 => if v36 = 0 then fo_cv M36 7 a0 (fn_Tx_readTermSign M36 a0 p1) fun v78 M78 => if v78 = 0 then fo_rz 0 M78 else fo_cv M78 7 a0 (fn_Tx_readPartyAndKind M78 a0) fun v85 M85 => if v85 = 0 then fo_rz 0 M85 else fo_gi M85 7 a0 3 fun v95 => fo_pi M85 1 p1 9 v95 fun M98 => fo_gi M98 7 a0 4 fun v103 => fo_pi M98 1 p1 10 v103 fun M106 => j109 M106 else fo_pi M36 1 p1 8 36 fun M45 => fo_cv M45 7 a0 (fn_Tx_readTwoParties M45 a0) fun v49 M49 => if v49 = 0 then fo_rz 0 M49 else fo_gi M49 7 a0 3 fun v59 => fo_pi M49 1 p1 9 v59 fun M62 => fo_gi M62 7 a0 4 fun v67 => fo_pi M62 1 p1 11 v67 fun M70 => j109 M70 else fo_pi M18 1 p1 8 61 fun M27 => j109 M27)
set_option maxHeartbeats 4000000 in
set_option maxRecDepth 100000 in
theorem cm_Tx_readAction (l : Launch) (M : Mm) (a0 : Nat) (p1 : Nat) : ct l zyTx_readAction ws_Tx_readAction { frames := 3, cells := 0, slots := 0, locals := 63 } 0 0 (fun w => some (.int w)) [.ref a0, .ref p1] M (fn_Tx_readAction M a0 p1) := by
  refine ct_of (cc := zbTx_readAction) (maxL := 2) (ret := (some .boolean)) (lv0 := [(0, .ref a0), (1, .ref p1)]) (by decide) rfl (Nat.le_of_ble_eq_true rfl) rfl rfl ?_
  intro x C
  unfold fn_Tx_readAction
  refine vj_aload_n (j := 1) C dTx_readAction_0 rfl rfl ?_
  refine vj_iconst (v := (-1)) C dTx_readAction_1 (by decide) ?_
  refine vj_pi C dTx_readAction_2 lf_Tx_111 lq_1_9 rfl (fun M2 => ?_)
  refine vj_aload_n (j := 1) C dTx_readAction_5 rfl rfl ?_
  refine vj_iconst (v := (-1)) C dTx_readAction_6 (by decide) ?_
  refine vj_pi C dTx_readAction_7 lf_Tx_114 lq_1_10 rfl (fun M7 => ?_)
  refine vj_aload_n (j := 1) C dTx_readAction_10 rfl rfl ?_
  refine vj_iconst (v := (-1)) C dTx_readAction_11 (by decide) ?_
  refine vj_pi C dTx_readAction_12 lf_Tx_117 lq_1_11 rfl (fun M12 => ?_)
  refine vj_aload_n (j := 0) C dTx_readAction_15 rfl rfl ?_
  refine vj_bipush (v := 61) C dTx_readAction_16 (by decide) ?_
  refine vj_cV (ci := 7) (As := [.int 61]) (st := []) (b := a0) (a1 := 1) C dTx_readAction_18 (cm_Tx_takes _ _ _ _) rfl gv_Tx_52 rfl rfl rfl hv_Tx_takes ⟨Nat.le_of_ble_eq_true rfl, Nat.le_of_ble_eq_true rfl⟩ rfl rfl (Nat.le_of_ble_eq_true rfl) ⟨Nat.le_of_ble_eq_true rfl, Nat.le_of_ble_eq_true rfl⟩ (fun v18 M18 => ?_)
  show Vj x 0 0 21 [(0, .ref a0), (1, .ref p1)] [.int v18] M18 _
  refine vj_jp (fun (j : Mm → Rr) => ∀ Mj109, Vj x 0 0 109 [(0, .ref a0), (1, .ref p1)] [] Mj109 (j Mj109)) ?_ ?_
  · intro Mj109
    refine vj_aload_n (j := 0) C dTx_readAction_109 rfl rfl ?_
    refine vj_cV (ci := 7) (As := []) (st := []) (b := a0) (a1 := 0) C dTx_readAction_110 (cm_Tx_readDigit _ _ _) rfl gv_Tx_99 rfl rfl rfl hv_Tx_readDigit ⟨Nat.le_of_ble_eq_true rfl, Nat.le_of_ble_eq_true rfl⟩ rfl rfl (Nat.le_of_ble_eq_true rfl) ⟨Nat.le_of_ble_eq_true rfl, Nat.le_of_ble_eq_true rfl⟩ (fun v110 M110 => ?_)
    show Vj x 0 0 113 [(0, .ref a0), (1, .ref p1)] [.int v110] M110 _
    refine vj_if_ne (tgt := 118) C dTx_readAction_113 rfl ?_ ?_
    · skip
      refine vj_aload_n (j := 1) C dTx_readAction_118 rfl rfl ?_
      refine vj_aload_n (j := 0) C dTx_readAction_119 rfl rfl ?_
      refine vj_gi C dTx_readAction_120 lf_Tx_28 rfl (fun v120 => ?_)
      refine vj_pi C dTx_readAction_123 lf_Tx_129 lq_1_12 rfl (fun M123 => ?_)
      refine vj_iconst (v := 1) C dTx_readAction_126 (by decide) ?_
      exact vj_retz C dTx_readAction_127 rfl rfl (Nat.le_of_ble_eq_true rfl) (Nat.le_of_ble_eq_true rfl)
    · skip
      refine vj_iconst (v := 0) C dTx_readAction_116 (by decide) ?_
      exact vj_retz C dTx_readAction_117 rfl rfl (Nat.le_of_ble_eq_true rfl) (Nat.le_of_ble_eq_true rfl)
  · intro j109 hj109
    refine vj_if_eq (tgt := 33) C dTx_readAction_21 rfl ?_ ?_
    · skip
      refine vj_aload_n (j := 0) C dTx_readAction_33 rfl rfl ?_
      refine vj_bipush (v := 36) C dTx_readAction_34 (by decide) ?_
      refine vj_cV (ci := 7) (As := [.int 36]) (st := []) (b := a0) (a1 := 1) C dTx_readAction_36 (cm_Tx_takes _ _ _ _) rfl gv_Tx_52 rfl rfl rfl hv_Tx_takes ⟨Nat.le_of_ble_eq_true rfl, Nat.le_of_ble_eq_true rfl⟩ rfl rfl (Nat.le_of_ble_eq_true rfl) ⟨Nat.le_of_ble_eq_true rfl, Nat.le_of_ble_eq_true rfl⟩ (fun v36 M36 => ?_)
      show Vj x 0 0 39 [(0, .ref a0), (1, .ref p1)] [.int v36] M36 _
      refine vj_if_eq (tgt := 76) C dTx_readAction_39 rfl ?_ ?_
      · skip
        refine vj_aload_n (j := 0) C dTx_readAction_76 rfl rfl ?_
        refine vj_aload_n (j := 1) C dTx_readAction_77 rfl rfl ?_
        refine vj_cV (ci := 7) (As := [.ref p1]) (st := []) (b := a0) (a1 := 1) C dTx_readAction_78 (cm_Tx_readTermSign _ _ _ _) rfl gv_Tx_123 rfl rfl rfl hv_Tx_readTermSign ⟨Nat.le_of_ble_eq_true rfl, Nat.le_of_ble_eq_true rfl⟩ rfl rfl (Nat.le_of_ble_eq_true rfl) ⟨Nat.le_of_ble_eq_true rfl, Nat.le_of_ble_eq_true rfl⟩ (fun v78 M78 => ?_)
        show Vj x 0 0 81 [(0, .ref a0), (1, .ref p1)] [.int v78] M78 _
        refine vj_if_eq (tgt := 91) C dTx_readAction_81 rfl ?_ ?_
        · skip
          refine vj_iconst (v := 0) C dTx_readAction_91 (by decide) ?_
          exact vj_retz C dTx_readAction_92 rfl rfl (Nat.le_of_ble_eq_true rfl) (Nat.le_of_ble_eq_true rfl)
        · skip
          refine vj_aload_n (j := 0) C dTx_readAction_84 rfl rfl ?_
          refine vj_cV (ci := 7) (As := []) (st := []) (b := a0) (a1 := 0) C dTx_readAction_85 (cm_Tx_readPartyAndKind _ _ _) rfl gv_Tx_126 rfl rfl rfl hv_Tx_readPartyAndKind ⟨Nat.le_of_ble_eq_true rfl, Nat.le_of_ble_eq_true rfl⟩ rfl rfl (Nat.le_of_ble_eq_true rfl) ⟨Nat.le_of_ble_eq_true rfl, Nat.le_of_ble_eq_true rfl⟩ (fun v85 M85 => ?_)
          show Vj x 0 0 88 [(0, .ref a0), (1, .ref p1)] [.int v85] M85 _
          refine vj_if_ne (tgt := 93) C dTx_readAction_88 rfl ?_ ?_
          · skip
            refine vj_aload_n (j := 1) C dTx_readAction_93 rfl rfl ?_
            refine vj_aload_n (j := 0) C dTx_readAction_94 rfl rfl ?_
            refine vj_gi C dTx_readAction_95 lf_Tx_22 rfl (fun v95 => ?_)
            refine vj_pi C dTx_readAction_98 lf_Tx_111 lq_1_9 rfl (fun M98 => ?_)
            refine vj_aload_n (j := 1) C dTx_readAction_101 rfl rfl ?_
            refine vj_aload_n (j := 0) C dTx_readAction_102 rfl rfl ?_
            refine vj_gi C dTx_readAction_103 lf_Tx_25 rfl (fun v103 => ?_)
            refine vj_pi C dTx_readAction_106 lf_Tx_114 lq_1_10 rfl (fun M106 => ?_)
            exact hj109 _
          · skip
            refine vj_iconst (v := 0) C dTx_readAction_91 (by decide) ?_
            exact vj_retz C dTx_readAction_92 rfl rfl (Nat.le_of_ble_eq_true rfl) (Nat.le_of_ble_eq_true rfl)
      · skip
        refine vj_aload_n (j := 1) C dTx_readAction_42 rfl rfl ?_
        refine vj_bipush (v := 36) C dTx_readAction_43 (by decide) ?_
        refine vj_pi C dTx_readAction_45 lf_Tx_120 lq_1_8 rfl (fun M45 => ?_)
        refine vj_aload_n (j := 0) C dTx_readAction_48 rfl rfl ?_
        refine vj_cV (ci := 7) (As := []) (st := []) (b := a0) (a1 := 0) C dTx_readAction_49 (cm_Tx_readTwoParties _ _ _) rfl gv_Tx_95 rfl rfl rfl hv_Tx_readTwoParties ⟨Nat.le_of_ble_eq_true rfl, Nat.le_of_ble_eq_true rfl⟩ rfl rfl (Nat.le_of_ble_eq_true rfl) ⟨Nat.le_of_ble_eq_true rfl, Nat.le_of_ble_eq_true rfl⟩ (fun v49 M49 => ?_)
        show Vj x 0 0 52 [(0, .ref a0), (1, .ref p1)] [.int v49] M49 _
        refine vj_if_ne (tgt := 57) C dTx_readAction_52 rfl ?_ ?_
        · skip
          refine vj_aload_n (j := 1) C dTx_readAction_57 rfl rfl ?_
          refine vj_aload_n (j := 0) C dTx_readAction_58 rfl rfl ?_
          refine vj_gi C dTx_readAction_59 lf_Tx_22 rfl (fun v59 => ?_)
          refine vj_pi C dTx_readAction_62 lf_Tx_111 lq_1_9 rfl (fun M62 => ?_)
          refine vj_aload_n (j := 1) C dTx_readAction_65 rfl rfl ?_
          refine vj_aload_n (j := 0) C dTx_readAction_66 rfl rfl ?_
          refine vj_gi C dTx_readAction_67 lf_Tx_25 rfl (fun v67 => ?_)
          refine vj_pi C dTx_readAction_70 lf_Tx_117 lq_1_11 rfl (fun M70 => ?_)
          refine vj_goto (tgt := 109) C dTx_readAction_73 rfl ?_
          exact hj109 _
        · skip
          refine vj_iconst (v := 0) C dTx_readAction_55 (by decide) ?_
          exact vj_retz C dTx_readAction_56 rfl rfl (Nat.le_of_ble_eq_true rfl) (Nat.le_of_ble_eq_true rfl)
    · skip
      refine vj_aload_n (j := 1) C dTx_readAction_24 rfl rfl ?_
      refine vj_bipush (v := 61) C dTx_readAction_25 (by decide) ?_
      refine vj_pi C dTx_readAction_27 lf_Tx_120 lq_1_8 rfl (fun M27 => ?_)
      refine vj_goto (tgt := 109) C dTx_readAction_30 rfl ?_
      exact hj109 _
def fn_Tx_readClause (M : Mm) (a0 : Nat) (p1 : Nat) : Rr := fo_cv M 7 a0 (fn_Tx_readTrigger M a0 p1) fun v2 M2 => if v2 = 0 then fo_rz 0 M2 else fo_cv M2 7 a0 (fn_Tx_readCondition M2 a0 p1) fun v10 M10 => if v10 = 0 then fo_rz 0 M10 else fo_cv M10 7 a0 (fn_Tx_takes M10 a0 62) fun v19 M19 => if v19 = 0 then fo_rz 0 M19 else fo_cv M19 7 a0 (fn_Tx_readAction M19 a0 p1) fun v27 M27 => if v27 = 0 then fo_rz 0 M27 else fo_rz 1 M27
set_option maxHeartbeats 4000000 in
set_option maxRecDepth 100000 in
theorem cm_Tx_readClause (l : Launch) (M : Mm) (a0 : Nat) (p1 : Nat) : ct l zyTx_readClause ws_Tx_readClause { frames := 4, cells := 0, slots := 0, locals := 85 } 0 0 (fun w => some (.int w)) [.ref a0, .ref p1] M (fn_Tx_readClause M a0 p1) := by
  refine ct_of (cc := zbTx_readClause) (maxL := 2) (ret := (some .boolean)) (lv0 := [(0, .ref a0), (1, .ref p1)]) (by decide) rfl (Nat.le_of_ble_eq_true rfl) rfl rfl ?_
  intro x C
  unfold fn_Tx_readClause
  refine vj_aload_n (j := 0) C dTx_readClause_0 rfl rfl ?_
  refine vj_aload_n (j := 1) C dTx_readClause_1 rfl rfl ?_
  refine vj_cV (ci := 7) (As := [.ref p1]) (st := []) (b := a0) (a1 := 1) C dTx_readClause_2 (cm_Tx_readTrigger _ _ _ _) rfl gv_Tx_56 rfl rfl rfl hv_Tx_readTrigger ⟨Nat.le_of_ble_eq_true rfl, Nat.le_of_ble_eq_true rfl⟩ rfl rfl (Nat.le_of_ble_eq_true rfl) ⟨Nat.le_of_ble_eq_true rfl, Nat.le_of_ble_eq_true rfl⟩ (fun v2 M2 => ?_)
  show Vj x 0 0 5 [(0, .ref a0), (1, .ref p1)] [.int v2] M2 _
  refine vj_if_eq (tgt := 37) C dTx_readClause_5 rfl ?_ ?_
  · skip
    refine vj_iconst (v := 0) C dTx_readClause_37 (by decide) ?_
    exact vj_retz C dTx_readClause_38 rfl rfl (Nat.le_of_ble_eq_true rfl) (Nat.le_of_ble_eq_true rfl)
  · skip
    refine vj_aload_n (j := 0) C dTx_readClause_8 rfl rfl ?_
    refine vj_aload_n (j := 1) C dTx_readClause_9 rfl rfl ?_
    refine vj_cV (ci := 7) (As := [.ref p1]) (st := []) (b := a0) (a1 := 1) C dTx_readClause_10 (cm_Tx_readCondition _ _ _ _) rfl gv_Tx_59 rfl rfl rfl hv_Tx_readCondition ⟨Nat.le_of_ble_eq_true rfl, Nat.le_of_ble_eq_true rfl⟩ rfl rfl (Nat.le_of_ble_eq_true rfl) ⟨Nat.le_of_ble_eq_true rfl, Nat.le_of_ble_eq_true rfl⟩ (fun v10 M10 => ?_)
    show Vj x 0 0 13 [(0, .ref a0), (1, .ref p1)] [.int v10] M10 _
    refine vj_if_eq (tgt := 37) C dTx_readClause_13 rfl ?_ ?_
    · skip
      refine vj_iconst (v := 0) C dTx_readClause_37 (by decide) ?_
      exact vj_retz C dTx_readClause_38 rfl rfl (Nat.le_of_ble_eq_true rfl) (Nat.le_of_ble_eq_true rfl)
    · skip
      refine vj_aload_n (j := 0) C dTx_readClause_16 rfl rfl ?_
      refine vj_bipush (v := 62) C dTx_readClause_17 (by decide) ?_
      refine vj_cV (ci := 7) (As := [.int 62]) (st := []) (b := a0) (a1 := 1) C dTx_readClause_19 (cm_Tx_takes _ _ _ _) rfl gv_Tx_52 rfl rfl rfl hv_Tx_takes ⟨Nat.le_of_ble_eq_true rfl, Nat.le_of_ble_eq_true rfl⟩ rfl rfl (Nat.le_of_ble_eq_true rfl) ⟨Nat.le_of_ble_eq_true rfl, Nat.le_of_ble_eq_true rfl⟩ (fun v19 M19 => ?_)
      show Vj x 0 0 22 [(0, .ref a0), (1, .ref p1)] [.int v19] M19 _
      refine vj_if_eq (tgt := 37) C dTx_readClause_22 rfl ?_ ?_
      · skip
        refine vj_iconst (v := 0) C dTx_readClause_37 (by decide) ?_
        exact vj_retz C dTx_readClause_38 rfl rfl (Nat.le_of_ble_eq_true rfl) (Nat.le_of_ble_eq_true rfl)
      · skip
        refine vj_aload_n (j := 0) C dTx_readClause_25 rfl rfl ?_
        refine vj_aload_n (j := 1) C dTx_readClause_26 rfl rfl ?_
        refine vj_cV (ci := 7) (As := [.ref p1]) (st := []) (b := a0) (a1 := 1) C dTx_readClause_27 (cm_Tx_readAction _ _ _ _) rfl gv_Tx_62 rfl rfl rfl hv_Tx_readAction ⟨Nat.le_of_ble_eq_true rfl, Nat.le_of_ble_eq_true rfl⟩ rfl rfl (Nat.le_of_ble_eq_true rfl) ⟨Nat.le_of_ble_eq_true rfl, Nat.le_of_ble_eq_true rfl⟩ (fun v27 M27 => ?_)
        show Vj x 0 0 30 [(0, .ref a0), (1, .ref p1)] [.int v27] M27 _
        refine vj_if_eq (tgt := 37) C dTx_readClause_30 rfl ?_ ?_
        · skip
          refine vj_iconst (v := 0) C dTx_readClause_37 (by decide) ?_
          exact vj_retz C dTx_readClause_38 rfl rfl (Nat.le_of_ble_eq_true rfl) (Nat.le_of_ble_eq_true rfl)
        · skip
          refine vj_iconst (v := 1) C dTx_readClause_33 (by decide) ?_
          refine vj_goto (tgt := 38) C dTx_readClause_34 rfl ?_
          exact vj_retz C dTx_readClause_38 rfl rfl (Nat.le_of_ble_eq_true rfl) (Nat.le_of_ble_eq_true rfl)
def fn_Ag_refersRightly (M : Mm) (a0 : Nat) (p1 : Nat) : Rr := fo_gi M 1 p1 8 fun v1 => fo_jp (fo_gi M 1 p1 0 fun v23 => fo_jp (fo_gi M 1 p1 3 fun v43 => fo_gi M 0 a0 1 fun v47 => if v43 < v47 then fo_gr M 0 a0 0 fun a56 => fo_gi M 1 p1 3 fun v60 => fo_ar M 4 a56 v60 fun a63 => fo_gi M 1 a63 8 fun v64 => if v64 = 33 then fo_rz 1 M else if v64 = 126 then fo_gi M 1 p1 0 fun v81 => if v81 = 120 then fo_rz 1 M else fo_rz 0 M else fo_rz 0 M else fo_rz 0 M) (fun j42 => if v23 = 120 then j42 else fo_gi M 1 p1 0 fun v32 => if v32 = 102 then j42 else fo_rz 1 M)) (fun j22 => if v1 = 61 then fo_gi M 1 p1 12 fun v10 => fo_gi M 0 a0 1 fun v14 => if v10 < v14 then j22 else fo_rz 0 M else j22)
set_option maxHeartbeats 4000000 in
set_option maxRecDepth 100000 in
theorem cm_Ag_refersRightly (l : Launch) (M : Mm) (a0 : Nat) (p1 : Nat) : ct l zyAg_refersRightly ws_Ag_refersRightly { frames := 0, cells := 0, slots := 0, locals := 0 } 0 0 (fun w => some (.int w)) [.ref a0, .ref p1] M (fn_Ag_refersRightly M a0 p1) := by
  refine ct_of (cc := zbAg_refersRightly) (maxL := 3) (ret := (some .boolean)) (lv0 := [(0, .ref a0), (1, .ref p1)]) (by decide) rfl (Nat.le_of_ble_eq_true rfl) rfl rfl ?_
  intro x C
  unfold fn_Ag_refersRightly
  refine vj_aload_n (j := 1) C dAg_refersRightly_0 rfl rfl ?_
  refine vj_gi C dAg_refersRightly_1 lf_Ag_66 rfl (fun v1 => ?_)
  refine vj_bipush (v := 61) C dAg_refersRightly_4 (by decide) ?_
  refine vj_jp (fun (j : Rr) => Vj x 0 0 22 [(0, .ref a0), (1, .ref p1)] [] M j) ?_ ?_
  · skip
    refine vj_aload_n (j := 1) C dAg_refersRightly_22 rfl rfl ?_
    refine vj_gi C dAg_refersRightly_23 lf_Ag_72 rfl (fun v23 => ?_)
    refine vj_bipush (v := 120) C dAg_refersRightly_26 (by decide) ?_
    refine vj_jp (fun (j : Rr) => Vj x 0 0 42 [(0, .ref a0), (1, .ref p1)] [] M j) ?_ ?_
    · skip
      refine vj_aload_n (j := 1) C dAg_refersRightly_42 rfl rfl ?_
      refine vj_gi C dAg_refersRightly_43 lf_Ag_75 rfl (fun v43 => ?_)
      refine vj_aload_n (j := 0) C dAg_refersRightly_46 rfl rfl ?_
      refine vj_gi C dAg_refersRightly_47 lf_Ag_17 rfl (fun v47 => ?_)
      refine vj_icmp_lt (tgt := 55) C dAg_refersRightly_50 rfl ?_ ?_
      · skip
        refine vj_aload_n (j := 0) C dAg_refersRightly_55 rfl rfl ?_
        refine vj_gr C dAg_refersRightly_56 lf_Ag_11 rfl (fun a56 => ?_)
        refine vj_aload_n (j := 1) C dAg_refersRightly_59 rfl rfl ?_
        refine vj_gi C dAg_refersRightly_60 lf_Ag_75 rfl (fun v60 => ?_)
        refine vj_aald C dAg_refersRightly_63 (by decide) (fun a63 => ?_)
        refine vj_gi C dAg_refersRightly_64 lf_Ag_66 rfl (fun v64 => ?_)
        refine vj_istore_n (lv' := [(1, .ref p1), (2, .int v64)]) C dAg_refersRightly_67 rfl (by decide) [2, 0] rfl ?_
        refine vj_iload_n (j := 1) C dAg_refersRightly_68 rfl rfl ?_
        refine vj_bipush (v := 33) C dAg_refersRightly_69 (by decide) ?_
        refine vj_icmp_eq (tgt := 89) C dAg_refersRightly_71 rfl ?_ ?_
        · skip
          refine vj_iconst (v := 1) C dAg_refersRightly_89 (by decide) ?_
          refine vj_goto (tgt := 94) C dAg_refersRightly_90 rfl ?_
          exact vj_retz C dAg_refersRightly_94 rfl rfl (Nat.le_of_ble_eq_true rfl) (Nat.le_of_ble_eq_true rfl)
        · skip
          refine vj_iload_n (j := 1) C dAg_refersRightly_74 rfl rfl ?_
          refine vj_bipush (v := 126) C dAg_refersRightly_75 (by decide) ?_
          refine vj_icmp_ne (tgt := 93) C dAg_refersRightly_77 rfl ?_ ?_
          · skip
            refine vj_iconst (v := 0) C dAg_refersRightly_93 (by decide) ?_
            exact vj_retz C dAg_refersRightly_94 rfl rfl (Nat.le_of_ble_eq_true rfl) (Nat.le_of_ble_eq_true rfl)
          · skip
            refine vj_aload_n (j := 0) C dAg_refersRightly_80 rfl rfl ?_
            refine vj_gi C dAg_refersRightly_81 lf_Ag_72 rfl (fun v81 => ?_)
            refine vj_bipush (v := 120) C dAg_refersRightly_84 (by decide) ?_
            refine vj_icmp_ne (tgt := 93) C dAg_refersRightly_86 rfl ?_ ?_
            · skip
              refine vj_iconst (v := 0) C dAg_refersRightly_93 (by decide) ?_
              exact vj_retz C dAg_refersRightly_94 rfl rfl (Nat.le_of_ble_eq_true rfl) (Nat.le_of_ble_eq_true rfl)
            · skip
              refine vj_iconst (v := 1) C dAg_refersRightly_89 (by decide) ?_
              refine vj_goto (tgt := 94) C dAg_refersRightly_90 rfl ?_
              exact vj_retz C dAg_refersRightly_94 rfl rfl (Nat.le_of_ble_eq_true rfl) (Nat.le_of_ble_eq_true rfl)
      · skip
        refine vj_iconst (v := 0) C dAg_refersRightly_53 (by decide) ?_
        exact vj_retz C dAg_refersRightly_54 rfl rfl (Nat.le_of_ble_eq_true rfl) (Nat.le_of_ble_eq_true rfl)
    · intro j42 hj42
      refine vj_icmp_eq (tgt := 42) C dAg_refersRightly_28 rfl ?_ ?_
      · skip
        exact hj42
      · skip
        refine vj_aload_n (j := 1) C dAg_refersRightly_31 rfl rfl ?_
        refine vj_gi C dAg_refersRightly_32 lf_Ag_72 rfl (fun v32 => ?_)
        refine vj_bipush (v := 102) C dAg_refersRightly_35 (by decide) ?_
        refine vj_icmp_eq (tgt := 42) C dAg_refersRightly_37 rfl ?_ ?_
        · skip
          exact hj42
        · skip
          refine vj_iconst (v := 1) C dAg_refersRightly_40 (by decide) ?_
          exact vj_retz C dAg_refersRightly_41 rfl rfl (Nat.le_of_ble_eq_true rfl) (Nat.le_of_ble_eq_true rfl)
  · intro j22 hj22
    refine vj_icmp_ne (tgt := 22) C dAg_refersRightly_6 rfl ?_ ?_
    · skip
      exact hj22
    · skip
      refine vj_aload_n (j := 1) C dAg_refersRightly_9 rfl rfl ?_
      refine vj_gi C dAg_refersRightly_10 lf_Ag_69 rfl (fun v10 => ?_)
      refine vj_aload_n (j := 0) C dAg_refersRightly_13 rfl rfl ?_
      refine vj_gi C dAg_refersRightly_14 lf_Ag_17 rfl (fun v14 => ?_)
      refine vj_icmp_lt (tgt := 22) C dAg_refersRightly_17 rfl ?_ ?_
      · skip
        exact hj22
      · skip
        refine vj_iconst (v := 0) C dAg_refersRightly_20 (by decide) ?_
        exact vj_retz C dAg_refersRightly_21 rfl rfl (Nat.le_of_ble_eq_true rfl) (Nat.le_of_ble_eq_true rfl)
def lp_Ag_liesOnRound_4 (M : Mm) (a0 : Nat) (p1 : Int32) (g4 : Int32 → Int32 → Rr) (w4_2 : Int32) (w4_3 : Int32) : Rr := fo_gi M 0 a0 1 fun v6 => if v6 ≤ w4_3 then fo_rz 0 M else fo_gr M 0 a0 0 fun a13 => fo_ar M 4 a13 w4_2 fun a17 => fo_gi M 1 a17 8 fun v18 => if v18 = 61 then fo_gr M 0 a0 0 fun a29 => fo_ar M 4 a29 w4_2 fun a33 => fo_gi M 1 a33 12 fun v34 => if v34 = p1 then fo_rz 1 M else g4 v34 (w4_3 + 1) else fo_rz 0 M
def fn_Ag_liesOnRound (M : Mm) (a0 : Nat) (p1 : Int32) : Rr := fo_fx (fun _ _ => none) (lp_Ag_liesOnRound_4 M a0 p1) fo_N p1 0
set_option maxHeartbeats 4000000 in
set_option maxRecDepth 100000 in
theorem cm_Ag_liesOnRound (l : Launch) (M : Mm) (a0 : Nat) (p1 : Int32) : ct l zyAg_liesOnRound ws_Ag_liesOnRound { frames := 0, cells := 0, slots := 0, locals := 0 } 0 0 (fun w => some (.int w)) [.ref a0, .int p1] M (fn_Ag_liesOnRound M a0 p1) := by
  refine ct_of (cc := zbAg_liesOnRound) (maxL := 4) (ret := (some .boolean)) (lv0 := [(0, .ref a0), (1, .int p1)]) (by decide) rfl (Nat.le_of_ble_eq_true rfl) rfl rfl ?_
  intro x C
  unfold fn_Ag_liesOnRound
  refine vj_iload_n (j := 1) C dAg_liesOnRound_0 rfl rfl ?_
  refine vj_istore_n (lv' := [(0, .ref a0), (1, .int p1), (2, .int p1)]) C dAg_liesOnRound_1 rfl (by decide) [1, 2, 0] rfl ?_
  refine vj_iconst (v := 0) C dAg_liesOnRound_2 (by decide) ?_
  refine vj_istore_n (lv' := [(0, .ref a0), (1, .int p1), (2, .int p1), (3, .int 0)]) C dAg_liesOnRound_3 rfl (by decide) [1, 2, 3, 0] rfl ?_
  have hg4x : ∀ nf w4_2 w4_3, Vj x 0 0 4 [(0, .ref a0), (1, .int p1), (2, .int w4_2), (3, .int w4_3)] [] M (fo_fx (fun _ _ => none) (lp_Ag_liesOnRound_4 M a0 p1) nf w4_2 w4_3) := by
    intro nf
    refine fo_fx_P (fun (j : Int32 → Int32 → Rr) => ∀ w4_2 w4_3, Vj x 0 0 4 [(0, .ref a0), (1, .int p1), (2, .int w4_2), (3, .int w4_3)] [] M (j w4_2 w4_3)) (fun _ _ => Vj_none) ?_ nf
    intro g4 hg4 w4_2 w4_3
    unfold lp_Ag_liesOnRound_4
    refine vj_iload_n (j := 3) C dAg_liesOnRound_4 rfl rfl ?_
    refine vj_aload_n (j := 0) C dAg_liesOnRound_5 rfl rfl ?_
    refine vj_gi C dAg_liesOnRound_6 lf_Ag_17 rfl (fun v6 => ?_)
    refine vj_icmp_ge (tgt := 51) C dAg_liesOnRound_9 rfl ?_ ?_
    · skip
      refine vj_iconst (v := 0) C dAg_liesOnRound_51 (by decide) ?_
      exact vj_retz C dAg_liesOnRound_52 rfl rfl (Nat.le_of_ble_eq_true rfl) (Nat.le_of_ble_eq_true rfl)
    · skip
      refine vj_aload_n (j := 0) C dAg_liesOnRound_12 rfl rfl ?_
      refine vj_gr C dAg_liesOnRound_13 lf_Ag_11 rfl (fun a13 => ?_)
      refine vj_iload_n (j := 2) C dAg_liesOnRound_16 rfl rfl ?_
      refine vj_aald C dAg_liesOnRound_17 (by decide) (fun a17 => ?_)
      refine vj_gi C dAg_liesOnRound_18 lf_Ag_66 rfl (fun v18 => ?_)
      refine vj_bipush (v := 61) C dAg_liesOnRound_21 (by decide) ?_
      refine vj_icmp_eq (tgt := 28) C dAg_liesOnRound_23 rfl ?_ ?_
      · skip
        refine vj_aload_n (j := 0) C dAg_liesOnRound_28 rfl rfl ?_
        refine vj_gr C dAg_liesOnRound_29 lf_Ag_11 rfl (fun a29 => ?_)
        refine vj_iload_n (j := 2) C dAg_liesOnRound_32 rfl rfl ?_
        refine vj_aald C dAg_liesOnRound_33 (by decide) (fun a33 => ?_)
        refine vj_gi C dAg_liesOnRound_34 lf_Ag_69 rfl (fun v34 => ?_)
        refine vj_istore_n (lv' := [(0, .ref a0), (1, .int p1), (2, .int v34), (3, .int w4_3)]) C dAg_liesOnRound_37 rfl (by decide) [1, 2, 0, 3] rfl ?_
        refine vj_iload_n (j := 2) C dAg_liesOnRound_38 rfl rfl ?_
        refine vj_iload_n (j := 1) C dAg_liesOnRound_39 rfl rfl ?_
        refine vj_icmp_ne (tgt := 45) C dAg_liesOnRound_40 rfl ?_ ?_
        · skip
          refine vj_iinc (j := 3) (b := 1) (lv' := [(0, .ref a0), (1, .int p1), (2, .int v34), (3, .int (w4_3 + 1))]) C dAg_liesOnRound_45 rfl (by decide) (by decide) [1, 2, 3, 0] rfl ?_
          refine vj_goto (tgt := 4) C dAg_liesOnRound_48 rfl ?_
          exact hg4 _ _
        · skip
          refine vj_iconst (v := 1) C dAg_liesOnRound_43 (by decide) ?_
          exact vj_retz C dAg_liesOnRound_44 rfl rfl (Nat.le_of_ble_eq_true rfl) (Nat.le_of_ble_eq_true rfl)
      · skip
        refine vj_iconst (v := 0) C dAg_liesOnRound_26 (by decide) ?_
        exact vj_retz C dAg_liesOnRound_27 rfl rfl (Nat.le_of_ble_eq_true rfl) (Nat.le_of_ble_eq_true rfl)
  exact hg4x _ _ _
def lp_Ag_faultOfReferences_37 (a0 : Nat) (g37 : Mm → Int32 → Rr) (Mh37 : Mm) (w37_1 : Int32) : Rr := fo_gi Mh37 0 a0 1 fun v39 => if v39 ≤ w37_1 then some ((-1), Mh37) else fo_cv Mh37 0 a0 (fn_Ag_liesOnRound Mh37 a0 w37_1) fun v47 M47 => if v47 = 0 then g37 M47 (w37_1 + 1) else some ((300 + w37_1), M47)
def lp_Ag_faultOfReferences_2 (a0 : Nat) (g2 : Mm → Int32 → Rr) (Mh2 : Mm) (w2_1 : Int32) : Rr := fo_gi Mh2 0 a0 1 fun v4 => if v4 ≤ w2_1 then fo_fx (fun _ _ => none) (lp_Ag_faultOfReferences_37 a0) fo_N Mh2 0 else fo_gr Mh2 0 a0 0 fun a12 => fo_ar Mh2 4 a12 w2_1 fun a16 => fo_cv Mh2 0 a0 (fn_Ag_refersRightly Mh2 a0 a16) fun v17 M17 => if v17 = 0 then some ((200 + w2_1), M17) else g2 M17 (w2_1 + 1)
def fn_Ag_faultOfReferences (M : Mm) (a0 : Nat) : Rr := fo_fx (fun _ _ => none) (lp_Ag_faultOfReferences_2 a0) fo_N M 0
set_option maxHeartbeats 4000000 in
set_option maxRecDepth 100000 in
theorem cm_Ag_faultOfReferences (l : Launch) (M : Mm) (a0 : Nat) : ct l zyAg_faultOfReferences ws_Ag_faultOfReferences { frames := 1, cells := 0, slots := 0, locals := 23 } 0 0 (fun w => some (.int w)) [.ref a0] M (fn_Ag_faultOfReferences M a0) := by
  refine ct_of (cc := zbAg_faultOfReferences) (maxL := 2) (ret := (some .int)) (lv0 := [(0, .ref a0)]) (by decide) rfl (Nat.le_of_ble_eq_true rfl) rfl rfl ?_
  intro x C
  unfold fn_Ag_faultOfReferences
  refine vj_iconst (v := 0) C dAg_faultOfReferences_0 (by decide) ?_
  refine vj_istore_n (lv' := [(0, .ref a0), (1, .int 0)]) C dAg_faultOfReferences_1 rfl (by decide) [1, 0] rfl ?_
  have hg2x : ∀ nf Mh2 w2_1, Vj x 0 0 2 [(0, .ref a0), (1, .int w2_1)] [] Mh2 (fo_fx (fun _ _ => none) (lp_Ag_faultOfReferences_2 a0) nf Mh2 w2_1) := by
    intro nf
    refine fo_fx_P (fun (j : Mm → Int32 → Rr) => ∀ Mh2 w2_1, Vj x 0 0 2 [(0, .ref a0), (1, .int w2_1)] [] Mh2 (j Mh2 w2_1)) (fun _ _ => Vj_none) ?_ nf
    intro g2 hg2 Mh2 w2_1
    unfold lp_Ag_faultOfReferences_2
    refine vj_iload_n (j := 1) C dAg_faultOfReferences_2 rfl rfl ?_
    refine vj_aload_n (j := 0) C dAg_faultOfReferences_3 rfl rfl ?_
    refine vj_gi C dAg_faultOfReferences_4 lf_Ag_17 rfl (fun v4 => ?_)
    refine vj_icmp_ge (tgt := 35) C dAg_faultOfReferences_7 rfl ?_ ?_
    · skip
      refine vj_iconst (v := 0) C dAg_faultOfReferences_35 (by decide) ?_
      refine vj_istore_n (lv' := [(0, .ref a0), (1, .int 0)]) C dAg_faultOfReferences_36 rfl (by decide) [1, 0] rfl ?_
      have hg37x : ∀ nf Mh37 w37_1, Vj x 0 0 37 [(0, .ref a0), (1, .int w37_1)] [] Mh37 (fo_fx (fun _ _ => none) (lp_Ag_faultOfReferences_37 a0) nf Mh37 w37_1) := by
        intro nf
        refine fo_fx_P (fun (j : Mm → Int32 → Rr) => ∀ Mh37 w37_1, Vj x 0 0 37 [(0, .ref a0), (1, .int w37_1)] [] Mh37 (j Mh37 w37_1)) (fun _ _ => Vj_none) ?_ nf
        intro g37 hg37 Mh37 w37_1
        unfold lp_Ag_faultOfReferences_37
        refine vj_iload_n (j := 1) C dAg_faultOfReferences_37 rfl rfl ?_
        refine vj_aload_n (j := 0) C dAg_faultOfReferences_38 rfl rfl ?_
        refine vj_gi C dAg_faultOfReferences_39 lf_Ag_17 rfl (fun v39 => ?_)
        refine vj_icmp_ge (tgt := 65) C dAg_faultOfReferences_42 rfl ?_ ?_
        · skip
          refine vj_iconst (v := (-1)) C dAg_faultOfReferences_65 (by decide) ?_
          exact vj_ret C dAg_faultOfReferences_66 rfl rfl (Nat.le_of_ble_eq_true rfl) (Nat.le_of_ble_eq_true rfl)
        · skip
          refine vj_aload_n (j := 0) C dAg_faultOfReferences_45 rfl rfl ?_
          refine vj_iload_n (j := 1) C dAg_faultOfReferences_46 rfl rfl ?_
          refine vj_cV (ci := 0) (As := [.int w37_1]) (st := []) (b := a0) (a1 := 1) C dAg_faultOfReferences_47 (cm_Ag_liesOnRound _ _ _ _) rfl gv_Ag_62 rfl rfl rfl hv_Ag_liesOnRound ⟨Nat.le_of_ble_eq_true rfl, Nat.le_of_ble_eq_true rfl⟩ rfl rfl (Nat.le_of_ble_eq_true rfl) ⟨Nat.le_of_ble_eq_true rfl, Nat.le_of_ble_eq_true rfl⟩ (fun v47 M47 => ?_)
          show Vj x 0 0 50 [(0, .ref a0), (1, .int w37_1)] [.int v47] M47 _
          refine vj_if_eq (tgt := 59) C dAg_faultOfReferences_50 rfl ?_ ?_
          · skip
            refine vj_iinc (j := 1) (b := 1) (lv' := [(0, .ref a0), (1, .int (w37_1 + 1))]) C dAg_faultOfReferences_59 rfl (by decide) (by decide) [1, 0] rfl ?_
            refine vj_goto (tgt := 37) C dAg_faultOfReferences_62 rfl ?_
            exact hg37 _ _
          · skip
            refine vj_sipush (v := 300) C dAg_faultOfReferences_53 (by decide) ?_
            refine vj_iload_n (j := 1) C dAg_faultOfReferences_56 rfl rfl ?_
            refine vj_iadd C dAg_faultOfReferences_57 ?_
            exact vj_ret C dAg_faultOfReferences_58 rfl rfl (Nat.le_of_ble_eq_true rfl) (Nat.le_of_ble_eq_true rfl)
      exact hg37x _ _ _
    · skip
      refine vj_aload_n (j := 0) C dAg_faultOfReferences_10 rfl rfl ?_
      refine vj_aload_n (j := 0) C dAg_faultOfReferences_11 rfl rfl ?_
      refine vj_gr C dAg_faultOfReferences_12 lf_Ag_11 rfl (fun a12 => ?_)
      refine vj_iload_n (j := 1) C dAg_faultOfReferences_15 rfl rfl ?_
      refine vj_aald C dAg_faultOfReferences_16 (by decide) (fun a16 => ?_)
      refine vj_cV (ci := 0) (As := [.ref a16]) (st := []) (b := a0) (a1 := 1) C dAg_faultOfReferences_17 (cm_Ag_refersRightly _ _ _ _) rfl gv_Ag_58 rfl rfl rfl hv_Ag_refersRightly ⟨Nat.le_of_ble_eq_true rfl, Nat.le_of_ble_eq_true rfl⟩ rfl rfl (Nat.le_of_ble_eq_true rfl) ⟨Nat.le_of_ble_eq_true rfl, Nat.le_of_ble_eq_true rfl⟩ (fun v17 M17 => ?_)
      show Vj x 0 0 20 [(0, .ref a0), (1, .int w2_1)] [.int v17] M17 _
      refine vj_if_ne (tgt := 29) C dAg_faultOfReferences_20 rfl ?_ ?_
      · skip
        refine vj_iinc (j := 1) (b := 1) (lv' := [(0, .ref a0), (1, .int (w2_1 + 1))]) C dAg_faultOfReferences_29 rfl (by decide) (by decide) [1, 0] rfl ?_
        refine vj_goto (tgt := 2) C dAg_faultOfReferences_32 rfl ?_
        exact hg2 _ _
      · skip
        refine vj_sipush (v := 200) C dAg_faultOfReferences_23 (by decide) ?_
        refine vj_iload_n (j := 1) C dAg_faultOfReferences_26 rfl rfl ?_
        refine vj_iadd C dAg_faultOfReferences_27 ?_
        exact vj_ret C dAg_faultOfReferences_28 rfl rfl (Nat.le_of_ble_eq_true rfl) (Nat.le_of_ble_eq_true rfl)
  exact hg2x _ _ _
def lp_Tx_readInto_7 (a0 : Nat) (p1 : Nat) (g7 : Mm → Int32 → Rr) (Mh7 : Mm) (w7_2 : Int32) : Rr := if 10 ≤ w7_2 then fo_gi Mh7 7 a0 2 fun v81 => some (v81, Mh7) else fo_gr Mh7 0 p1 0 fun a15 => fo_ar Mh7 4 a15 w7_2 fun a19 => fo_cv Mh7 7 a0 (fn_Tx_readClause Mh7 a0 a19) fun v20 M20 => if v20 = 0 then fo_gi M20 7 a0 2 fun v27 => some (v27, M20) else fo_gi M20 7 a0 2 fun v32 => fo_gi M20 7 a0 1 fun v36 => if v32 = v36 then fo_pi M20 0 p1 1 (w7_2 + 1) fun M46 => fo_cv M46 0 p1 (fn_Ag_faultOfReferences M46 p1) fun v50 M50 => some (v50, M50) else if w7_2 = 9 then fo_gi M20 7 a0 2 fun v70 => some (v70, M20) else fo_cv M20 7 a0 (fn_Tx_takes M20 a0 59) fun v63 M63 => if v63 = 0 then fo_gi M63 7 a0 2 fun v70 => some (v70, M63) else g7 M63 (w7_2 + 1)
def fn_Tx_readInto (M : Mm) (a0 : Nat) (p1 : Nat) : Rr := fo_pi M 7 a0 2 0 fun M2 => fo_fx (fun _ _ => none) (lp_Tx_readInto_7 a0 p1) fo_N M2 0
set_option maxHeartbeats 4000000 in
set_option maxRecDepth 100000 in
theorem cm_Tx_readInto (l : Launch) (M : Mm) (a0 : Nat) (p1 : Nat) : ct l zyTx_readInto ws_Tx_readInto { frames := 5, cells := 0, slots := 0, locals := 106 } 0 0 (fun w => some (.int w)) [.ref a0, .ref p1] M (fn_Tx_readInto M a0 p1) := by
  refine ct_of (cc := zbTx_readInto) (maxL := 3) (ret := (some .int)) (lv0 := [(0, .ref a0), (1, .ref p1)]) (by decide) rfl (Nat.le_of_ble_eq_true rfl) rfl rfl ?_
  intro x C
  unfold fn_Tx_readInto
  refine vj_aload_n (j := 0) C dTx_readInto_0 rfl rfl ?_
  refine vj_iconst (v := 0) C dTx_readInto_1 (by decide) ?_
  refine vj_pi C dTx_readInto_2 lf_Tx_19 lq_7_2 rfl (fun M2 => ?_)
  refine vj_iconst (v := 0) C dTx_readInto_5 (by decide) ?_
  refine vj_istore_n (lv' := [(0, .ref a0), (1, .ref p1), (2, .int 0)]) C dTx_readInto_6 rfl (by decide) [1, 2, 0] rfl ?_
  have hg7x : ∀ nf Mh7 w7_2, Vj x 0 0 7 [(0, .ref a0), (1, .ref p1), (2, .int w7_2)] [] Mh7 (fo_fx (fun _ _ => none) (lp_Tx_readInto_7 a0 p1) nf Mh7 w7_2) := by
    intro nf
    refine fo_fx_P (fun (j : Mm → Int32 → Rr) => ∀ Mh7 w7_2, Vj x 0 0 7 [(0, .ref a0), (1, .ref p1), (2, .int w7_2)] [] Mh7 (j Mh7 w7_2)) (fun _ _ => Vj_none) ?_ nf
    intro g7 hg7 Mh7 w7_2
    unfold lp_Tx_readInto_7
    refine vj_iload_n (j := 2) C dTx_readInto_7 rfl rfl ?_
    refine vj_bipush (v := 10) C dTx_readInto_8 (by decide) ?_
    refine vj_icmp_ge (tgt := 80) C dTx_readInto_10 rfl ?_ ?_
    · skip
      refine vj_aload_n (j := 0) C dTx_readInto_80 rfl rfl ?_
      refine vj_gi C dTx_readInto_81 lf_Tx_19 rfl (fun v81 => ?_)
      exact vj_ret C dTx_readInto_84 rfl rfl (Nat.le_of_ble_eq_true rfl) (Nat.le_of_ble_eq_true rfl)
    · skip
      refine vj_aload_n (j := 0) C dTx_readInto_13 rfl rfl ?_
      refine vj_aload_n (j := 1) C dTx_readInto_14 rfl rfl ?_
      refine vj_gr C dTx_readInto_15 lf_Tx_35 rfl (fun a15 => ?_)
      refine vj_iload_n (j := 2) C dTx_readInto_18 rfl rfl ?_
      refine vj_aald C dTx_readInto_19 (by decide) (fun a19 => ?_)
      refine vj_cV (ci := 7) (As := [.ref a19]) (st := []) (b := a0) (a1 := 1) C dTx_readInto_20 (cm_Tx_readClause _ _ _ _) rfl gv_Tx_41 rfl rfl rfl hv_Tx_readClause ⟨Nat.le_of_ble_eq_true rfl, Nat.le_of_ble_eq_true rfl⟩ rfl rfl (Nat.le_of_ble_eq_true rfl) ⟨Nat.le_of_ble_eq_true rfl, Nat.le_of_ble_eq_true rfl⟩ (fun v20 M20 => ?_)
      show Vj x 0 0 23 [(0, .ref a0), (1, .ref p1), (2, .int w7_2)] [.int v20] M20 _
      refine vj_if_ne (tgt := 31) C dTx_readInto_23 rfl ?_ ?_
      · skip
        refine vj_aload_n (j := 0) C dTx_readInto_31 rfl rfl ?_
        refine vj_gi C dTx_readInto_32 lf_Tx_19 rfl (fun v32 => ?_)
        refine vj_aload_n (j := 0) C dTx_readInto_35 rfl rfl ?_
        refine vj_gi C dTx_readInto_36 lf_Tx_15 rfl (fun v36 => ?_)
        refine vj_icmp_ne (tgt := 54) C dTx_readInto_39 rfl ?_ ?_
        · skip
          refine vj_iload_n (j := 2) C dTx_readInto_54 rfl rfl ?_
          refine vj_bipush (v := 9) C dTx_readInto_55 (by decide) ?_
          refine vj_icmp_eq (tgt := 69) C dTx_readInto_57 rfl ?_ ?_
          · skip
            refine vj_aload_n (j := 0) C dTx_readInto_69 rfl rfl ?_
            refine vj_gi C dTx_readInto_70 lf_Tx_19 rfl (fun v70 => ?_)
            exact vj_ret C dTx_readInto_73 rfl rfl (Nat.le_of_ble_eq_true rfl) (Nat.le_of_ble_eq_true rfl)
          · skip
            refine vj_aload_n (j := 0) C dTx_readInto_60 rfl rfl ?_
            refine vj_bipush (v := 59) C dTx_readInto_61 (by decide) ?_
            refine vj_cV (ci := 7) (As := [.int 59]) (st := []) (b := a0) (a1 := 1) C dTx_readInto_63 (cm_Tx_takes _ _ _ _) rfl gv_Tx_52 rfl rfl rfl hv_Tx_takes ⟨Nat.le_of_ble_eq_true rfl, Nat.le_of_ble_eq_true rfl⟩ rfl rfl (Nat.le_of_ble_eq_true rfl) ⟨Nat.le_of_ble_eq_true rfl, Nat.le_of_ble_eq_true rfl⟩ (fun v63 M63 => ?_)
            show Vj x 0 0 66 [(0, .ref a0), (1, .ref p1), (2, .int w7_2)] [.int v63] M63 _
            refine vj_if_ne (tgt := 74) C dTx_readInto_66 rfl ?_ ?_
            · skip
              refine vj_iinc (j := 2) (b := 1) (lv' := [(0, .ref a0), (1, .ref p1), (2, .int (w7_2 + 1))]) C dTx_readInto_74 rfl (by decide) (by decide) [1, 2, 0] rfl ?_
              refine vj_goto (tgt := 7) C dTx_readInto_77 rfl ?_
              exact hg7 _ _
            · skip
              refine vj_aload_n (j := 0) C dTx_readInto_69 rfl rfl ?_
              refine vj_gi C dTx_readInto_70 lf_Tx_19 rfl (fun v70 => ?_)
              exact vj_ret C dTx_readInto_73 rfl rfl (Nat.le_of_ble_eq_true rfl) (Nat.le_of_ble_eq_true rfl)
        · skip
          refine vj_aload_n (j := 1) C dTx_readInto_42 rfl rfl ?_
          refine vj_iload_n (j := 2) C dTx_readInto_43 rfl rfl ?_
          refine vj_iconst (v := 1) C dTx_readInto_44 (by decide) ?_
          refine vj_iadd C dTx_readInto_45 ?_
          refine vj_pi C dTx_readInto_46 lf_Tx_45 lq_0_1 rfl (fun M46 => ?_)
          refine vj_aload_n (j := 1) C dTx_readInto_49 rfl rfl ?_
          refine vj_cV (ci := 0) (As := []) (st := []) (b := p1) (a1 := 0) C dTx_readInto_50 (cm_Ag_faultOfReferences _ _ _) rfl gv_Tx_48 rfl rfl rfl hv_Ag_faultOfReferences ⟨Nat.le_of_ble_eq_true rfl, Nat.le_of_ble_eq_true rfl⟩ rfl rfl (Nat.le_of_ble_eq_true rfl) ⟨Nat.le_of_ble_eq_true rfl, Nat.le_of_ble_eq_true rfl⟩ (fun v50 M50 => ?_)
          show Vj x 0 0 53 [(0, .ref a0), (1, .ref p1), (2, .int w7_2)] [.int v50] M50 _
          exact vj_ret C dTx_readInto_53 rfl rfl (Nat.le_of_ble_eq_true rfl) (Nat.le_of_ble_eq_true rfl)
      · skip
        refine vj_aload_n (j := 0) C dTx_readInto_26 rfl rfl ?_
        refine vj_gi C dTx_readInto_27 lf_Tx_19 rfl (fun v27 => ?_)
        exact vj_ret C dTx_readInto_30 rfl rfl (Nat.le_of_ble_eq_true rfl) (Nat.le_of_ble_eq_true rfl)
  exact hg7x _ _ _
def lp_St_clear_55 (a0 : Nat) (g55 : Mm → Int32 → Rr) (Mh55 : Mm) (w55_1 : Int32) : Rr := fo_gr Mh55 5 a0 5 fun a57 => fo_an Mh55 0 a57 fun v60 => if v60 ≤ w55_1 then some (0, Mh55) else fo_gr Mh55 5 a0 5 fun a65 => fo_si Mh55 a65 w55_1 0 fun M70 => g55 M70 (w55_1 + 1)
def lp_St_clear_31 (a0 : Nat) (g31 : Mm → Int32 → Rr) (Mh31 : Mm) (w31_1 : Int32) : Rr := fo_gr Mh31 5 a0 4 fun a33 => fo_an Mh31 0 a33 fun v36 => if v36 ≤ w31_1 then fo_fx (fun _ _ => none) (lp_St_clear_55 a0) fo_N Mh31 0 else fo_gr Mh31 5 a0 4 fun a41 => fo_si Mh31 a41 w31_1 0 fun M46 => g31 M46 (w31_1 + 1)
def fn_St_clear (M : Mm) (a0 : Nat) : Rr := fo_pi M 5 a0 0 0 fun M2 => fo_gr M2 5 a0 1 fun a6 => fo_pi M2 6 a6 1 0 fun M10 => fo_gr M10 5 a0 2 fun a14 => fo_pi M10 6 a14 1 0 fun M18 => fo_gr M18 5 a0 3 fun a22 => fo_pi M18 6 a22 1 0 fun M26 => fo_fx (fun _ _ => none) (lp_St_clear_31 a0) fo_N M26 0
set_option maxHeartbeats 4000000 in
set_option maxRecDepth 100000 in
theorem cm_St_clear (l : Launch) (M : Mm) (a0 : Nat) : ct l zySt_clear ws_St_clear { frames := 0, cells := 0, slots := 0, locals := 0 } 0 0 (fun _ => none) [.ref a0] M (fn_St_clear M a0) := by
  refine ct_of (cc := zbSt_clear) (maxL := 2) (ret := none) (lv0 := [(0, .ref a0)]) (by decide) rfl (Nat.le_of_ble_eq_true rfl) rfl rfl ?_
  intro x C
  unfold fn_St_clear
  refine vj_aload_n (j := 0) C dSt_clear_0 rfl rfl ?_
  refine vj_iconst (v := 0) C dSt_clear_1 (by decide) ?_
  refine vj_pi C dSt_clear_2 lf_St_9 lq_5_0 rfl (fun M2 => ?_)
  refine vj_aload_n (j := 0) C dSt_clear_5 rfl rfl ?_
  refine vj_gr C dSt_clear_6 lf_St_18 rfl (fun a6 => ?_)
  refine vj_iconst (v := 0) C dSt_clear_9 (by decide) ?_
  refine vj_pi C dSt_clear_10 lf_St_35 lq_6_1 rfl (fun M10 => ?_)
  refine vj_aload_n (j := 0) C dSt_clear_13 rfl rfl ?_
  refine vj_gr C dSt_clear_14 lf_St_22 rfl (fun a14 => ?_)
  refine vj_iconst (v := 0) C dSt_clear_17 (by decide) ?_
  refine vj_pi C dSt_clear_18 lf_St_35 lq_6_1 rfl (fun M18 => ?_)
  refine vj_aload_n (j := 0) C dSt_clear_21 rfl rfl ?_
  refine vj_gr C dSt_clear_22 lf_St_25 rfl (fun a22 => ?_)
  refine vj_iconst (v := 0) C dSt_clear_25 (by decide) ?_
  refine vj_pi C dSt_clear_26 lf_St_35 lq_6_1 rfl (fun M26 => ?_)
  refine vj_iconst (v := 0) C dSt_clear_29 (by decide) ?_
  refine vj_istore_n (lv' := [(0, .ref a0), (1, .int 0)]) C dSt_clear_30 rfl (by decide) [1, 0] rfl ?_
  have hg31x : ∀ nf Mh31 w31_1, Vj x 0 0 31 [(0, .ref a0), (1, .int w31_1)] [] Mh31 (fo_fx (fun _ _ => none) (lp_St_clear_31 a0) nf Mh31 w31_1) := by
    intro nf
    refine fo_fx_P (fun (j : Mm → Int32 → Rr) => ∀ Mh31 w31_1, Vj x 0 0 31 [(0, .ref a0), (1, .int w31_1)] [] Mh31 (j Mh31 w31_1)) (fun _ _ => Vj_none) ?_ nf
    intro g31 hg31 Mh31 w31_1
    unfold lp_St_clear_31
    refine vj_iload_n (j := 1) C dSt_clear_31 rfl rfl ?_
    refine vj_aload_n (j := 0) C dSt_clear_32 rfl rfl ?_
    refine vj_gr C dSt_clear_33 lf_St_28 rfl (fun a33 => ?_)
    refine vj_alen (t := 0) C dSt_clear_36 (by decide) (fun v36 => ?_)
    refine vj_icmp_ge (tgt := 53) C dSt_clear_37 rfl ?_ ?_
    · skip
      refine vj_iconst (v := 0) C dSt_clear_53 (by decide) ?_
      refine vj_istore_n (lv' := [(0, .ref a0), (1, .int 0)]) C dSt_clear_54 rfl (by decide) [1, 0] rfl ?_
      have hg55x : ∀ nf Mh55 w55_1, Vj x 0 0 55 [(0, .ref a0), (1, .int w55_1)] [] Mh55 (fo_fx (fun _ _ => none) (lp_St_clear_55 a0) nf Mh55 w55_1) := by
        intro nf
        refine fo_fx_P (fun (j : Mm → Int32 → Rr) => ∀ Mh55 w55_1, Vj x 0 0 55 [(0, .ref a0), (1, .int w55_1)] [] Mh55 (j Mh55 w55_1)) (fun _ _ => Vj_none) ?_ nf
        intro g55 hg55 Mh55 w55_1
        unfold lp_St_clear_55
        refine vj_iload_n (j := 1) C dSt_clear_55 rfl rfl ?_
        refine vj_aload_n (j := 0) C dSt_clear_56 rfl rfl ?_
        refine vj_gr C dSt_clear_57 lf_St_32 rfl (fun a57 => ?_)
        refine vj_alen (t := 0) C dSt_clear_60 (by decide) (fun v60 => ?_)
        refine vj_icmp_ge (tgt := 77) C dSt_clear_61 rfl ?_ ?_
        · skip
          exact vj_retv C dSt_clear_77 rfl rfl (Nat.le_of_ble_eq_true rfl) (Nat.le_of_ble_eq_true rfl)
        · skip
          refine vj_aload_n (j := 0) C dSt_clear_64 rfl rfl ?_
          refine vj_gr C dSt_clear_65 lf_St_32 rfl (fun a65 => ?_)
          refine vj_iload_n (j := 1) C dSt_clear_68 rfl rfl ?_
          refine vj_iconst (v := 0) C dSt_clear_69 (by decide) ?_
          refine vj_iast C dSt_clear_70 (fun M70 => ?_)
          refine vj_iinc (j := 1) (b := 1) (lv' := [(0, .ref a0), (1, .int (w55_1 + 1))]) C dSt_clear_71 rfl (by decide) (by decide) [1, 0] rfl ?_
          refine vj_goto (tgt := 55) C dSt_clear_74 rfl ?_
          exact hg55 _ _
      exact hg55x _ _ _
    · skip
      refine vj_aload_n (j := 0) C dSt_clear_40 rfl rfl ?_
      refine vj_gr C dSt_clear_41 lf_St_28 rfl (fun a41 => ?_)
      refine vj_iload_n (j := 1) C dSt_clear_44 rfl rfl ?_
      refine vj_iconst (v := 0) C dSt_clear_45 (by decide) ?_
      refine vj_iast C dSt_clear_46 (fun M46 => ?_)
      refine vj_iinc (j := 1) (b := 1) (lv' := [(0, .ref a0), (1, .int (w31_1 + 1))]) C dSt_clear_47 rfl (by decide) (by decide) [1, 0] rfl ?_
      refine vj_goto (tgt := 31) C dSt_clear_50 rfl ?_
      exact hg31 _ _
  exact hg31x _ _ _
def fn_Ru_await (M : Mm) (a0 : Nat) (p1 : Int32) : Rr := fo_gi M 3 a0 2 fun v1 => if 800 ≤ v1 then some (0, M) else fo_gr M 3 a0 1 fun a11 => fo_gi M 3 a0 2 fun v15 => fo_si M a11 v15 p1 fun M19 => fo_gi M19 3 a0 2 fun v22 => fo_pi M19 3 a0 2 (v22 + 1) fun M27 => some (0, M27)
set_option maxHeartbeats 4000000 in
set_option maxRecDepth 100000 in
theorem cm_Ru_await (l : Launch) (M : Mm) (a0 : Nat) (p1 : Int32) : ct l zyRu_await ws_Ru_await { frames := 0, cells := 0, slots := 0, locals := 0 } 0 0 (fun _ => none) [.ref a0, .int p1] M (fn_Ru_await M a0 p1) := by
  refine ct_of (cc := zbRu_await) (maxL := 2) (ret := none) (lv0 := [(0, .ref a0), (1, .int p1)]) (by decide) rfl (Nat.le_of_ble_eq_true rfl) rfl rfl ?_
  intro x C
  unfold fn_Ru_await
  refine vj_aload_n (j := 0) C dRu_await_0 rfl rfl ?_
  refine vj_gi C dRu_await_1 lf_Ru_19 rfl (fun v1 => ?_)
  refine vj_sipush (v := 800) C dRu_await_4 (by decide) ?_
  refine vj_icmp_ge (tgt := 30) C dRu_await_7 rfl ?_ ?_
  · skip
    exact vj_retv C dRu_await_30 rfl rfl (Nat.le_of_ble_eq_true rfl) (Nat.le_of_ble_eq_true rfl)
  · skip
    refine vj_aload_n (j := 0) C dRu_await_10 rfl rfl ?_
    refine vj_gr C dRu_await_11 lf_Ru_15 rfl (fun a11 => ?_)
    refine vj_aload_n (j := 0) C dRu_await_14 rfl rfl ?_
    refine vj_gi C dRu_await_15 lf_Ru_19 rfl (fun v15 => ?_)
    refine vj_iload_n (j := 1) C dRu_await_18 rfl rfl ?_
    refine vj_iast C dRu_await_19 (fun M19 => ?_)
    refine vj_aload_n (j := 0) C dRu_await_20 rfl rfl ?_
    refine vj_dup C dRu_await_21 rfl ?_
    refine vj_gi C dRu_await_22 lf_Ru_19 rfl (fun v22 => ?_)
    refine vj_iconst (v := 1) C dRu_await_25 (by decide) ?_
    refine vj_iadd C dRu_await_26 ?_
    refine vj_pi C dRu_await_27 lf_Ru_19 lq_3_2 rfl (fun M27 => ?_)
    exact vj_retv C dRu_await_30 rfl rfl (Nat.le_of_ble_eq_true rfl) (Nat.le_of_ble_eq_true rfl)
def fn_St_debtOf (M : Mm) (a0 : Nat) (p1 : Int32) (p2 : Int32) : Rr := fo_gr M 5 a0 4 fun a1 => fo_ai M 0 a1 ((3 * p1) + p2) fun v9 => some (v9, M)
set_option maxHeartbeats 4000000 in
set_option maxRecDepth 100000 in
theorem cm_St_debtOf (l : Launch) (M : Mm) (a0 : Nat) (p1 : Int32) (p2 : Int32) : ct l zySt_debtOf ws_St_debtOf { frames := 0, cells := 0, slots := 0, locals := 0 } 0 0 (fun w => some (.int w)) [.ref a0, .int p1, .int p2] M (fn_St_debtOf M a0 p1 p2) := by
  refine ct_of (cc := zbSt_debtOf) (maxL := 3) (ret := (some .int)) (lv0 := [(0, .ref a0), (1, .int p1), (2, .int p2)]) (by decide) rfl (Nat.le_of_ble_eq_true rfl) rfl rfl ?_
  intro x C
  unfold fn_St_debtOf
  refine vj_aload_n (j := 0) C dSt_debtOf_0 rfl rfl ?_
  refine vj_gr C dSt_debtOf_1 lf_St_28 rfl (fun a1 => ?_)
  refine vj_iconst (v := 3) C dSt_debtOf_4 (by decide) ?_
  refine vj_iload_n (j := 1) C dSt_debtOf_5 rfl rfl ?_
  refine vj_imul C dSt_debtOf_6 ?_
  refine vj_iload_n (j := 2) C dSt_debtOf_7 rfl rfl ?_
  refine vj_iadd C dSt_debtOf_8 ?_
  refine vj_iald C dSt_debtOf_9 (by decide) (fun v9 => ?_)
  exact vj_ret C dSt_debtOf_10 rfl rfl (Nat.le_of_ble_eq_true rfl) (Nat.le_of_ble_eq_true rfl)
def fn_Cl_holds (M : Mm) (a0 : Nat) (p1 : Nat) : Rr := fo_gi M 1 a0 4 fun v1 => if v1 = 0 then fo_rz 1 M else fo_gi M 1 a0 5 fun v9 => fo_gi M 1 a0 6 fun v13 => fo_cv M 5 p1 (fn_St_debtOf M p1 v9 v13) fun v16 M16 => fo_gi M16 1 a0 7 fun v20 => if v16 ≤ v20 then fo_rz 0 M16 else fo_rz 1 M16
set_option maxHeartbeats 4000000 in
set_option maxRecDepth 100000 in
theorem cm_Cl_holds (l : Launch) (M : Mm) (a0 : Nat) (p1 : Nat) : ct l zyCl_holds ws_Cl_holds { frames := 1, cells := 0, slots := 0, locals := 22 } 0 0 (fun w => some (.int w)) [.ref a0, .ref p1] M (fn_Cl_holds M a0 p1) := by
  refine ct_of (cc := zbCl_holds) (maxL := 2) (ret := (some .boolean)) (lv0 := [(0, .ref a0), (1, .ref p1)]) (by decide) rfl (Nat.le_of_ble_eq_true rfl) rfl rfl ?_
  intro x C
  unfold fn_Cl_holds
  refine vj_aload_n (j := 0) C dCl_holds_0 rfl rfl ?_
  refine vj_gi C dCl_holds_1 lf_Cl_24 rfl (fun v1 => ?_)
  refine vj_if_eq (tgt := 26) C dCl_holds_4 rfl ?_ ?_
  · skip
    refine vj_iconst (v := 1) C dCl_holds_26 (by decide) ?_
    refine vj_goto (tgt := 31) C dCl_holds_27 rfl ?_
    exact vj_retz C dCl_holds_31 rfl rfl (Nat.le_of_ble_eq_true rfl) (Nat.le_of_ble_eq_true rfl)
  · skip
    refine vj_aload_n (j := 1) C dCl_holds_7 rfl rfl ?_
    refine vj_aload_n (j := 0) C dCl_holds_8 rfl rfl ?_
    refine vj_gi C dCl_holds_9 lf_Cl_28 rfl (fun v9 => ?_)
    refine vj_aload_n (j := 0) C dCl_holds_12 rfl rfl ?_
    refine vj_gi C dCl_holds_13 lf_Cl_31 rfl (fun v13 => ?_)
    refine vj_cV (ci := 5) (As := [.int v9, .int v13]) (st := []) (b := p1) (a1 := 2) C dCl_holds_16 (cm_St_debtOf _ _ _ _ _) rfl gv_Cl_52 rfl rfl rfl hv_St_debtOf ⟨Nat.le_of_ble_eq_true rfl, Nat.le_of_ble_eq_true rfl⟩ rfl rfl (Nat.le_of_ble_eq_true rfl) ⟨Nat.le_of_ble_eq_true rfl, Nat.le_of_ble_eq_true rfl⟩ (fun v16 M16 => ?_)
    show Vj x 0 0 19 [(0, .ref a0), (1, .ref p1)] [.int v16] M16 _
    refine vj_aload_n (j := 0) C dCl_holds_19 rfl rfl ?_
    refine vj_gi C dCl_holds_20 lf_Cl_34 rfl (fun v20 => ?_)
    refine vj_icmp_le (tgt := 30) C dCl_holds_23 rfl ?_ ?_
    · skip
      refine vj_iconst (v := 0) C dCl_holds_30 (by decide) ?_
      exact vj_retz C dCl_holds_31 rfl rfl (Nat.le_of_ble_eq_true rfl) (Nat.le_of_ble_eq_true rfl)
    · skip
      refine vj_iconst (v := 1) C dCl_holds_26 (by decide) ?_
      refine vj_goto (tgt := 31) C dCl_holds_27 rfl ?_
      exact vj_retz C dCl_holds_31 rfl rfl (Nat.le_of_ble_eq_true rfl) (Nat.le_of_ble_eq_true rfl)
