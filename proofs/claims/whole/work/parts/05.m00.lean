def fn_Tx_init (M : Mm) (a0 : Nat) : Rr := fo_nw M (4, 120) fun a7_0 M7_0 => fo_pr M7_0 7 a0 0 a7_0 fun M9 => fo_pi M9 7 a0 1 0 fun M14 => fo_pi M14 7 a0 2 0 fun M19 => fo_pi M19 7 a0 3 (-1) fun M24 => fo_pi M24 7 a0 4 (-1) fun M29 => fo_pi M29 7 a0 5 (-1) fun M34 => some (0, M34)
set_option maxHeartbeats 4000000 in
set_option maxRecDepth 100000 in
theorem cm_Tx_init (l : Launch) (M : Mm) (a0 : Nat) : ct l zyTx_init ws_Tx_init { frames := 1, cells := 1, slots := 120, locals := 24 } 1 120 (fun _ => none) [.ref a0] M (fn_Tx_init M a0) := by
  refine ct_of (cc := zbTx_init) (maxL := 1) (ret := none) (lv0 := [(0, .ref a0)]) (by decide) rfl (Nat.le_of_ble_eq_true rfl) rfl rfl ?_
  intro x C
  unfold fn_Tx_init
  refine vj_aload_n (j := 0) C dTx_init_0 rfl rfl ?_
  refine vj_oi C dTx_init_1 k_0 k_1 k_2 (Nat.le_of_ble_eq_true rfl) (Nat.le_of_ble_eq_true rfl) ?_
  refine vj_aload_n (j := 0) C dTx_init_4 rfl rfl ?_
  refine vj_bipush (v := 120) C dTx_init_5 (by decide) ?_
  refine vj_newa (t := 2) (N := 120) C dTx_init_7 ⟨by decide, rfl⟩ k_3 (by decide) (by decide) (by decide) (Nat.le_of_ble_eq_true rfl) (Nat.le_of_ble_eq_true rfl) (fun a7_0 M7_0 => ?_)
  refine vj_pr C dTx_init_9 lf_Tx_9 lq_7_0 rfl rfl rfl (fun M9 => ?_)
  refine vj_aload_n (j := 0) C dTx_init_12 rfl rfl ?_
  refine vj_iconst (v := 0) C dTx_init_13 (by decide) ?_
  refine vj_pi C dTx_init_14 lf_Tx_15 lq_7_1 rfl (fun M14 => ?_)
  refine vj_aload_n (j := 0) C dTx_init_17 rfl rfl ?_
  refine vj_iconst (v := 0) C dTx_init_18 (by decide) ?_
  refine vj_pi C dTx_init_19 lf_Tx_19 lq_7_2 rfl (fun M19 => ?_)
  refine vj_aload_n (j := 0) C dTx_init_22 rfl rfl ?_
  refine vj_iconst (v := (-1)) C dTx_init_23 (by decide) ?_
  refine vj_pi C dTx_init_24 lf_Tx_22 lq_7_3 rfl (fun M24 => ?_)
  refine vj_aload_n (j := 0) C dTx_init_27 rfl rfl ?_
  refine vj_iconst (v := (-1)) C dTx_init_28 (by decide) ?_
  refine vj_pi C dTx_init_29 lf_Tx_25 lq_7_4 rfl (fun M29 => ?_)
  refine vj_aload_n (j := 0) C dTx_init_32 rfl rfl ?_
  refine vj_iconst (v := (-1)) C dTx_init_33 (by decide) ?_
  refine vj_pi C dTx_init_34 lf_Tx_28 lq_7_5 rfl (fun M34 => ?_)
  exact vj_retv C dTx_init_37 rfl rfl (Nat.le_of_ble_eq_true rfl) (Nat.le_of_ble_eq_true rfl)
def fn_Cl_init (M : Mm) (a0 : Nat) : Rr := fo_pi M 1 a0 0 115 fun M7 => fo_pi M7 1 a0 1 (-1) fun M12 => fo_pi M12 1 a0 2 (-1) fun M17 => fo_pi M17 1 a0 3 (-1) fun M22 => fo_pz M22 1 a0 4 0 fun M27 => fo_pi M27 1 a0 5 0 fun M32 => fo_pi M32 1 a0 6 0 fun M37 => fo_pi M37 1 a0 7 0 fun M42 => fo_pi M42 1 a0 8 36 fun M48 => fo_pi M48 1 a0 9 (-1) fun M53 => fo_pi M53 1 a0 10 (-1) fun M58 => fo_pi M58 1 a0 11 (-1) fun M63 => fo_pi M63 1 a0 12 0 fun M68 => some (0, M68)
set_option maxHeartbeats 4000000 in
set_option maxRecDepth 100000 in
theorem cm_Cl_init (l : Launch) (M : Mm) (a0 : Nat) : ct l zyCl_init ws_Cl_init { frames := 1, cells := 0, slots := 0, locals := 24 } 0 0 (fun _ => none) [.ref a0] M (fn_Cl_init M a0) := by
  refine ct_of (cc := zbCl_init) (maxL := 1) (ret := none) (lv0 := [(0, .ref a0)]) (by decide) rfl (Nat.le_of_ble_eq_true rfl) rfl rfl ?_
  intro x C
  unfold fn_Cl_init
  refine vj_aload_n (j := 0) C dCl_init_0 rfl rfl ?_
  refine vj_oi C dCl_init_1 k_10 k_1 k_2 (Nat.le_of_ble_eq_true rfl) (Nat.le_of_ble_eq_true rfl) ?_
  refine vj_aload_n (j := 0) C dCl_init_4 rfl rfl ?_
  refine vj_bipush (v := 115) C dCl_init_5 (by decide) ?_
  refine vj_pi C dCl_init_7 lf_Cl_9 lq_1_0 rfl (fun M7 => ?_)
  refine vj_aload_n (j := 0) C dCl_init_10 rfl rfl ?_
  refine vj_iconst (v := (-1)) C dCl_init_11 (by decide) ?_
  refine vj_pi C dCl_init_12 lf_Cl_15 lq_1_1 rfl (fun M12 => ?_)
  refine vj_aload_n (j := 0) C dCl_init_15 rfl rfl ?_
  refine vj_iconst (v := (-1)) C dCl_init_16 (by decide) ?_
  refine vj_pi C dCl_init_17 lf_Cl_18 lq_1_2 rfl (fun M17 => ?_)
  refine vj_aload_n (j := 0) C dCl_init_20 rfl rfl ?_
  refine vj_iconst (v := (-1)) C dCl_init_21 (by decide) ?_
  refine vj_pi C dCl_init_22 lf_Cl_21 lq_1_3 rfl (fun M22 => ?_)
  refine vj_aload_n (j := 0) C dCl_init_25 rfl rfl ?_
  refine vj_iconst (v := 0) C dCl_init_26 (by decide) ?_
  refine vj_pz C dCl_init_27 lf_Cl_24 lq_1_4 rfl (fun M27 => ?_)
  refine vj_aload_n (j := 0) C dCl_init_30 rfl rfl ?_
  refine vj_iconst (v := 0) C dCl_init_31 (by decide) ?_
  refine vj_pi C dCl_init_32 lf_Cl_28 lq_1_5 rfl (fun M32 => ?_)
  refine vj_aload_n (j := 0) C dCl_init_35 rfl rfl ?_
  refine vj_iconst (v := 0) C dCl_init_36 (by decide) ?_
  refine vj_pi C dCl_init_37 lf_Cl_31 lq_1_6 rfl (fun M37 => ?_)
  refine vj_aload_n (j := 0) C dCl_init_40 rfl rfl ?_
  refine vj_iconst (v := 0) C dCl_init_41 (by decide) ?_
  refine vj_pi C dCl_init_42 lf_Cl_34 lq_1_7 rfl (fun M42 => ?_)
  refine vj_aload_n (j := 0) C dCl_init_45 rfl rfl ?_
  refine vj_bipush (v := 36) C dCl_init_46 (by decide) ?_
  refine vj_pi C dCl_init_48 lf_Cl_37 lq_1_8 rfl (fun M48 => ?_)
  refine vj_aload_n (j := 0) C dCl_init_51 rfl rfl ?_
  refine vj_iconst (v := (-1)) C dCl_init_52 (by decide) ?_
  refine vj_pi C dCl_init_53 lf_Cl_40 lq_1_9 rfl (fun M53 => ?_)
  refine vj_aload_n (j := 0) C dCl_init_56 rfl rfl ?_
  refine vj_iconst (v := (-1)) C dCl_init_57 (by decide) ?_
  refine vj_pi C dCl_init_58 lf_Cl_43 lq_1_10 rfl (fun M58 => ?_)
  refine vj_aload_n (j := 0) C dCl_init_61 rfl rfl ?_
  refine vj_iconst (v := (-1)) C dCl_init_62 (by decide) ?_
  refine vj_pi C dCl_init_63 lf_Cl_46 lq_1_11 rfl (fun M63 => ?_)
  refine vj_aload_n (j := 0) C dCl_init_66 rfl rfl ?_
  refine vj_iconst (v := 0) C dCl_init_67 (by decide) ?_
  refine vj_pi C dCl_init_68 lf_Cl_49 lq_1_12 rfl (fun M68 => ?_)
  exact vj_retv C dCl_init_71 rfl rfl (Nat.le_of_ble_eq_true rfl) (Nat.le_of_ble_eq_true rfl)
def fn_Ag_init (M : Mm) (a0 : Nat) : Rr := fo_nw M (6, 10) fun a7_0 M7_0 => fo_pr M7_0 0 a0 0 a7_0 fun M10 => fo_pi M10 0 a0 1 0 fun M15 => fo_gr M15 0 a0 0 fun a27 => fo_nw M15 (1, 1) fun a31_0 M31_0 => fo_cl (fn_Cl_init M31_0 a31_0) fun _ M35_1 => fo_sr M35_1 4 1 a27 0 a31_0 fun M38_1 => fo_gr M38_1 0 a0 0 fun a27 => fo_nw M38_1 (1, 1) fun a31_1 M31_1 => fo_cl (fn_Cl_init M31_1 a31_1) fun _ M35_2 => fo_sr M35_2 4 1 a27 1 a31_1 fun M38_2 => fo_gr M38_2 0 a0 0 fun a27 => fo_nw M38_2 (1, 1) fun a31_2 M31_2 => fo_cl (fn_Cl_init M31_2 a31_2) fun _ M35_3 => fo_sr M35_3 4 1 a27 2 a31_2 fun M38_3 => fo_gr M38_3 0 a0 0 fun a27 => fo_nw M38_3 (1, 1) fun a31_3 M31_3 => fo_cl (fn_Cl_init M31_3 a31_3) fun _ M35_4 => fo_sr M35_4 4 1 a27 3 a31_3 fun M38_4 => fo_gr M38_4 0 a0 0 fun a27 => fo_nw M38_4 (1, 1) fun a31_4 M31_4 => fo_cl (fn_Cl_init M31_4 a31_4) fun _ M35_5 => fo_sr M35_5 4 1 a27 4 a31_4 fun M38_5 => fo_gr M38_5 0 a0 0 fun a27 => fo_nw M38_5 (1, 1) fun a31_5 M31_5 => fo_cl (fn_Cl_init M31_5 a31_5) fun _ M35_6 => fo_sr M35_6 4 1 a27 5 a31_5 fun M38_6 => fo_gr M38_6 0 a0 0 fun a27 => fo_nw M38_6 (1, 1) fun a31_6 M31_6 => fo_cl (fn_Cl_init M31_6 a31_6) fun _ M35_7 => fo_sr M35_7 4 1 a27 6 a31_6 fun M38_7 => fo_gr M38_7 0 a0 0 fun a27 => fo_nw M38_7 (1, 1) fun a31_7 M31_7 => fo_cl (fn_Cl_init M31_7 a31_7) fun _ M35_8 => fo_sr M35_8 4 1 a27 7 a31_7 fun M38_8 => fo_gr M38_8 0 a0 0 fun a27 => fo_nw M38_8 (1, 1) fun a31_8 M31_8 => fo_cl (fn_Cl_init M31_8 a31_8) fun _ M35_9 => fo_sr M35_9 4 1 a27 8 a31_8 fun M38_9 => fo_gr M38_9 0 a0 0 fun a27 => fo_nw M38_9 (1, 1) fun a31_9 M31_9 => fo_cl (fn_Cl_init M31_9 a31_9) fun _ M35_10 => fo_sr M35_10 4 1 a27 9 a31_9 fun M38_10 => some (0, M38_10)
set_option maxHeartbeats 4000000 in
set_option maxRecDepth 100000 in
theorem cm_Ag_init (l : Launch) (M : Mm) (a0 : Nat) : ct l zyAg_init ws_Ag_init { frames := 2, cells := 11, slots := 140, locals := 44 } 11 140 (fun _ => none) [.ref a0] M (fn_Ag_init M a0) := by
  refine ct_of (cc := zbAg_init) (maxL := 2) (ret := none) (lv0 := [(0, .ref a0)]) (by decide) rfl (Nat.le_of_ble_eq_true rfl) rfl rfl ?_
  intro x C
  unfold fn_Ag_init
  refine vj_aload_n (j := 0) C dAg_init_0 rfl rfl ?_
  refine vj_oi C dAg_init_1 k_24 k_1 k_2 (Nat.le_of_ble_eq_true rfl) (Nat.le_of_ble_eq_true rfl) ?_
  refine vj_aload_n (j := 0) C dAg_init_4 rfl rfl ?_
  refine vj_bipush (v := 10) C dAg_init_5 (by decide) ?_
  refine vj_newq (t := 4) (N := 10) C dAg_init_7 ⟨by decide, rfl⟩ k_25 (by decide) (by decide) (by decide) (by decide) (Nat.le_of_ble_eq_true rfl) (Nat.le_of_ble_eq_true rfl) (fun a7_0 M7_0 => ?_)
  refine vj_pr C dAg_init_10 lf_Ag_11 lq_0_0 rfl rfl rfl (fun M10 => ?_)
  refine vj_aload_n (j := 0) C dAg_init_13 rfl rfl ?_
  refine vj_iconst (v := 0) C dAg_init_14 (by decide) ?_
  refine vj_pi C dAg_init_15 lf_Ag_17 lq_0_1 rfl (fun M15 => ?_)
  refine vj_iconst (v := 0) C dAg_init_18 (by decide) ?_
  refine vj_istore_n (lv' := [(0, .ref a0), (1, .int 0)]) C dAg_init_19 rfl (by decide) [1, 0] rfl ?_
  refine vj_iload_n (j := 1) C dAg_init_20 rfl rfl ?_
  refine vj_bipush (v := 10) C dAg_init_21 (by decide) ?_
  refine vj_ifn (q := 10 ≤ 0) (o1 := none) (by decide) (vj_icmp_ge (tgt := 45) C dAg_init_23 rfl Vj_none ?_)
  refine vj_aload_n (j := 0) C dAg_init_26 rfl rfl ?_
  refine vj_gr C dAg_init_27 lf_Ag_11 rfl (fun a27 => ?_)
  refine vj_iload_n (j := 1) C dAg_init_30 rfl rfl ?_
  refine vj_new C dAg_init_31 rfl rfl k_25 k_28 k_29 zin1 zt1 zty1 zdf1 (Nat.le_of_ble_eq_true rfl) (Nat.le_of_ble_eq_true rfl) (fun a31_0 M31_0 => ?_)
  refine vj_dup C dAg_init_34 rfl ?_
  refine vj_cIN (ret := none) (As := []) (st := [.ref a31_0, .int 0, .ref a27]) (b := a31_0) (a1 := 0) C dAg_init_35 (cm_Cl_init _ _ _) (gw_self k_31) nk_Ag_21 k_30 k_29 rfl rfl rfl rfl hn_Cl_init ⟨Nat.le_of_ble_eq_true rfl, Nat.le_of_ble_eq_true rfl⟩ rfl rfl (Nat.le_of_ble_eq_true rfl) ⟨Nat.le_of_ble_eq_true rfl, Nat.le_of_ble_eq_true rfl⟩ (fun _ M35_1 => ?_)
  show Vj x 2 23 38 [(0, .ref a0), (1, .int 0)] [.ref a31_0, .int 0, .ref a27] M35_1 _
  refine vj_aast (t := 4) (ci := 1) C dAg_init_38 (by decide) ⟨_, _, _, rfl, rfl⟩ (fun M38_1 => ?_)
  refine vj_iincC (j := 1) (b := 1) (w := 1) (lv' := [(0, .ref a0), (1, .int 1)]) C dAg_init_39 rfl (by decide) (by decide) (by decide) [1, 0] rfl ?_
  refine vj_goto (tgt := 20) C dAg_init_42 rfl ?_
  refine vj_iload_n (j := 1) C dAg_init_20 rfl rfl ?_
  refine vj_bipush (v := 10) C dAg_init_21 (by decide) ?_
  refine vj_ifn (q := 10 ≤ 1) (o1 := none) (by decide) (vj_icmp_ge (tgt := 45) C dAg_init_23 rfl Vj_none ?_)
  refine vj_aload_n (j := 0) C dAg_init_26 rfl rfl ?_
  refine vj_gr C dAg_init_27 lf_Ag_11 rfl (fun a27 => ?_)
  refine vj_iload_n (j := 1) C dAg_init_30 rfl rfl ?_
  refine vj_new C dAg_init_31 rfl rfl k_25 k_28 k_29 zin1 zt1 zty1 zdf1 (Nat.le_of_ble_eq_true rfl) (Nat.le_of_ble_eq_true rfl) (fun a31_1 M31_1 => ?_)
  refine vj_dup C dAg_init_34 rfl ?_
  refine vj_cIN (ret := none) (As := []) (st := [.ref a31_1, .int 1, .ref a27]) (b := a31_1) (a1 := 0) C dAg_init_35 (cm_Cl_init _ _ _) (gw_self k_31) nk_Ag_21 k_30 k_29 rfl rfl rfl rfl hn_Cl_init ⟨Nat.le_of_ble_eq_true rfl, Nat.le_of_ble_eq_true rfl⟩ rfl rfl (Nat.le_of_ble_eq_true rfl) ⟨Nat.le_of_ble_eq_true rfl, Nat.le_of_ble_eq_true rfl⟩ (fun _ M35_2 => ?_)
  show Vj x 3 36 38 [(0, .ref a0), (1, .int 1)] [.ref a31_1, .int 1, .ref a27] M35_2 _
  refine vj_aast (t := 4) (ci := 1) C dAg_init_38 (by decide) ⟨_, _, _, rfl, rfl⟩ (fun M38_2 => ?_)
  refine vj_iincC (j := 1) (b := 1) (w := 2) (lv' := [(0, .ref a0), (1, .int 2)]) C dAg_init_39 rfl (by decide) (by decide) (by decide) [1, 0] rfl ?_
  refine vj_goto (tgt := 20) C dAg_init_42 rfl ?_
  refine vj_iload_n (j := 1) C dAg_init_20 rfl rfl ?_
  refine vj_bipush (v := 10) C dAg_init_21 (by decide) ?_
  refine vj_ifn (q := 10 ≤ 2) (o1 := none) (by decide) (vj_icmp_ge (tgt := 45) C dAg_init_23 rfl Vj_none ?_)
  refine vj_aload_n (j := 0) C dAg_init_26 rfl rfl ?_
  refine vj_gr C dAg_init_27 lf_Ag_11 rfl (fun a27 => ?_)
  refine vj_iload_n (j := 1) C dAg_init_30 rfl rfl ?_
  refine vj_new C dAg_init_31 rfl rfl k_25 k_28 k_29 zin1 zt1 zty1 zdf1 (Nat.le_of_ble_eq_true rfl) (Nat.le_of_ble_eq_true rfl) (fun a31_2 M31_2 => ?_)
  refine vj_dup C dAg_init_34 rfl ?_
  refine vj_cIN (ret := none) (As := []) (st := [.ref a31_2, .int 2, .ref a27]) (b := a31_2) (a1 := 0) C dAg_init_35 (cm_Cl_init _ _ _) (gw_self k_31) nk_Ag_21 k_30 k_29 rfl rfl rfl rfl hn_Cl_init ⟨Nat.le_of_ble_eq_true rfl, Nat.le_of_ble_eq_true rfl⟩ rfl rfl (Nat.le_of_ble_eq_true rfl) ⟨Nat.le_of_ble_eq_true rfl, Nat.le_of_ble_eq_true rfl⟩ (fun _ M35_3 => ?_)
  show Vj x 4 49 38 [(0, .ref a0), (1, .int 2)] [.ref a31_2, .int 2, .ref a27] M35_3 _
  refine vj_aast (t := 4) (ci := 1) C dAg_init_38 (by decide) ⟨_, _, _, rfl, rfl⟩ (fun M38_3 => ?_)
  refine vj_iincC (j := 1) (b := 1) (w := 3) (lv' := [(0, .ref a0), (1, .int 3)]) C dAg_init_39 rfl (by decide) (by decide) (by decide) [1, 0] rfl ?_
  refine vj_goto (tgt := 20) C dAg_init_42 rfl ?_
  refine vj_iload_n (j := 1) C dAg_init_20 rfl rfl ?_
  refine vj_bipush (v := 10) C dAg_init_21 (by decide) ?_
  refine vj_ifn (q := 10 ≤ 3) (o1 := none) (by decide) (vj_icmp_ge (tgt := 45) C dAg_init_23 rfl Vj_none ?_)
  refine vj_aload_n (j := 0) C dAg_init_26 rfl rfl ?_
  refine vj_gr C dAg_init_27 lf_Ag_11 rfl (fun a27 => ?_)
  refine vj_iload_n (j := 1) C dAg_init_30 rfl rfl ?_
  refine vj_new C dAg_init_31 rfl rfl k_25 k_28 k_29 zin1 zt1 zty1 zdf1 (Nat.le_of_ble_eq_true rfl) (Nat.le_of_ble_eq_true rfl) (fun a31_3 M31_3 => ?_)
  refine vj_dup C dAg_init_34 rfl ?_
  refine vj_cIN (ret := none) (As := []) (st := [.ref a31_3, .int 3, .ref a27]) (b := a31_3) (a1 := 0) C dAg_init_35 (cm_Cl_init _ _ _) (gw_self k_31) nk_Ag_21 k_30 k_29 rfl rfl rfl rfl hn_Cl_init ⟨Nat.le_of_ble_eq_true rfl, Nat.le_of_ble_eq_true rfl⟩ rfl rfl (Nat.le_of_ble_eq_true rfl) ⟨Nat.le_of_ble_eq_true rfl, Nat.le_of_ble_eq_true rfl⟩ (fun _ M35_4 => ?_)
  show Vj x 5 62 38 [(0, .ref a0), (1, .int 3)] [.ref a31_3, .int 3, .ref a27] M35_4 _
  refine vj_aast (t := 4) (ci := 1) C dAg_init_38 (by decide) ⟨_, _, _, rfl, rfl⟩ (fun M38_4 => ?_)
  refine vj_iincC (j := 1) (b := 1) (w := 4) (lv' := [(0, .ref a0), (1, .int 4)]) C dAg_init_39 rfl (by decide) (by decide) (by decide) [1, 0] rfl ?_
  refine vj_goto (tgt := 20) C dAg_init_42 rfl ?_
  refine vj_iload_n (j := 1) C dAg_init_20 rfl rfl ?_
  refine vj_bipush (v := 10) C dAg_init_21 (by decide) ?_
  refine vj_ifn (q := 10 ≤ 4) (o1 := none) (by decide) (vj_icmp_ge (tgt := 45) C dAg_init_23 rfl Vj_none ?_)
  refine vj_aload_n (j := 0) C dAg_init_26 rfl rfl ?_
  refine vj_gr C dAg_init_27 lf_Ag_11 rfl (fun a27 => ?_)
  refine vj_iload_n (j := 1) C dAg_init_30 rfl rfl ?_
  refine vj_new C dAg_init_31 rfl rfl k_25 k_28 k_29 zin1 zt1 zty1 zdf1 (Nat.le_of_ble_eq_true rfl) (Nat.le_of_ble_eq_true rfl) (fun a31_4 M31_4 => ?_)
  refine vj_dup C dAg_init_34 rfl ?_
  refine vj_cIN (ret := none) (As := []) (st := [.ref a31_4, .int 4, .ref a27]) (b := a31_4) (a1 := 0) C dAg_init_35 (cm_Cl_init _ _ _) (gw_self k_31) nk_Ag_21 k_30 k_29 rfl rfl rfl rfl hn_Cl_init ⟨Nat.le_of_ble_eq_true rfl, Nat.le_of_ble_eq_true rfl⟩ rfl rfl (Nat.le_of_ble_eq_true rfl) ⟨Nat.le_of_ble_eq_true rfl, Nat.le_of_ble_eq_true rfl⟩ (fun _ M35_5 => ?_)
  show Vj x 6 75 38 [(0, .ref a0), (1, .int 4)] [.ref a31_4, .int 4, .ref a27] M35_5 _
  refine vj_aast (t := 4) (ci := 1) C dAg_init_38 (by decide) ⟨_, _, _, rfl, rfl⟩ (fun M38_5 => ?_)
  refine vj_iincC (j := 1) (b := 1) (w := 5) (lv' := [(0, .ref a0), (1, .int 5)]) C dAg_init_39 rfl (by decide) (by decide) (by decide) [1, 0] rfl ?_
  refine vj_goto (tgt := 20) C dAg_init_42 rfl ?_
  refine vj_iload_n (j := 1) C dAg_init_20 rfl rfl ?_
  refine vj_bipush (v := 10) C dAg_init_21 (by decide) ?_
  refine vj_ifn (q := 10 ≤ 5) (o1 := none) (by decide) (vj_icmp_ge (tgt := 45) C dAg_init_23 rfl Vj_none ?_)
  refine vj_aload_n (j := 0) C dAg_init_26 rfl rfl ?_
  refine vj_gr C dAg_init_27 lf_Ag_11 rfl (fun a27 => ?_)
  refine vj_iload_n (j := 1) C dAg_init_30 rfl rfl ?_
  refine vj_new C dAg_init_31 rfl rfl k_25 k_28 k_29 zin1 zt1 zty1 zdf1 (Nat.le_of_ble_eq_true rfl) (Nat.le_of_ble_eq_true rfl) (fun a31_5 M31_5 => ?_)
  refine vj_dup C dAg_init_34 rfl ?_
  refine vj_cIN (ret := none) (As := []) (st := [.ref a31_5, .int 5, .ref a27]) (b := a31_5) (a1 := 0) C dAg_init_35 (cm_Cl_init _ _ _) (gw_self k_31) nk_Ag_21 k_30 k_29 rfl rfl rfl rfl hn_Cl_init ⟨Nat.le_of_ble_eq_true rfl, Nat.le_of_ble_eq_true rfl⟩ rfl rfl (Nat.le_of_ble_eq_true rfl) ⟨Nat.le_of_ble_eq_true rfl, Nat.le_of_ble_eq_true rfl⟩ (fun _ M35_6 => ?_)
  show Vj x 7 88 38 [(0, .ref a0), (1, .int 5)] [.ref a31_5, .int 5, .ref a27] M35_6 _
  refine vj_aast (t := 4) (ci := 1) C dAg_init_38 (by decide) ⟨_, _, _, rfl, rfl⟩ (fun M38_6 => ?_)
  refine vj_iincC (j := 1) (b := 1) (w := 6) (lv' := [(0, .ref a0), (1, .int 6)]) C dAg_init_39 rfl (by decide) (by decide) (by decide) [1, 0] rfl ?_
  refine vj_goto (tgt := 20) C dAg_init_42 rfl ?_
  refine vj_iload_n (j := 1) C dAg_init_20 rfl rfl ?_
  refine vj_bipush (v := 10) C dAg_init_21 (by decide) ?_
  refine vj_ifn (q := 10 ≤ 6) (o1 := none) (by decide) (vj_icmp_ge (tgt := 45) C dAg_init_23 rfl Vj_none ?_)
  refine vj_aload_n (j := 0) C dAg_init_26 rfl rfl ?_
  refine vj_gr C dAg_init_27 lf_Ag_11 rfl (fun a27 => ?_)
  refine vj_iload_n (j := 1) C dAg_init_30 rfl rfl ?_
  refine vj_new C dAg_init_31 rfl rfl k_25 k_28 k_29 zin1 zt1 zty1 zdf1 (Nat.le_of_ble_eq_true rfl) (Nat.le_of_ble_eq_true rfl) (fun a31_6 M31_6 => ?_)
  refine vj_dup C dAg_init_34 rfl ?_
  refine vj_cIN (ret := none) (As := []) (st := [.ref a31_6, .int 6, .ref a27]) (b := a31_6) (a1 := 0) C dAg_init_35 (cm_Cl_init _ _ _) (gw_self k_31) nk_Ag_21 k_30 k_29 rfl rfl rfl rfl hn_Cl_init ⟨Nat.le_of_ble_eq_true rfl, Nat.le_of_ble_eq_true rfl⟩ rfl rfl (Nat.le_of_ble_eq_true rfl) ⟨Nat.le_of_ble_eq_true rfl, Nat.le_of_ble_eq_true rfl⟩ (fun _ M35_7 => ?_)
  show Vj x 8 101 38 [(0, .ref a0), (1, .int 6)] [.ref a31_6, .int 6, .ref a27] M35_7 _
  refine vj_aast (t := 4) (ci := 1) C dAg_init_38 (by decide) ⟨_, _, _, rfl, rfl⟩ (fun M38_7 => ?_)
  refine vj_iincC (j := 1) (b := 1) (w := 7) (lv' := [(0, .ref a0), (1, .int 7)]) C dAg_init_39 rfl (by decide) (by decide) (by decide) [1, 0] rfl ?_
  refine vj_goto (tgt := 20) C dAg_init_42 rfl ?_
  refine vj_iload_n (j := 1) C dAg_init_20 rfl rfl ?_
  refine vj_bipush (v := 10) C dAg_init_21 (by decide) ?_
  refine vj_ifn (q := 10 ≤ 7) (o1 := none) (by decide) (vj_icmp_ge (tgt := 45) C dAg_init_23 rfl Vj_none ?_)
  refine vj_aload_n (j := 0) C dAg_init_26 rfl rfl ?_
  refine vj_gr C dAg_init_27 lf_Ag_11 rfl (fun a27 => ?_)
  refine vj_iload_n (j := 1) C dAg_init_30 rfl rfl ?_
  refine vj_new C dAg_init_31 rfl rfl k_25 k_28 k_29 zin1 zt1 zty1 zdf1 (Nat.le_of_ble_eq_true rfl) (Nat.le_of_ble_eq_true rfl) (fun a31_7 M31_7 => ?_)
  refine vj_dup C dAg_init_34 rfl ?_
  refine vj_cIN (ret := none) (As := []) (st := [.ref a31_7, .int 7, .ref a27]) (b := a31_7) (a1 := 0) C dAg_init_35 (cm_Cl_init _ _ _) (gw_self k_31) nk_Ag_21 k_30 k_29 rfl rfl rfl rfl hn_Cl_init ⟨Nat.le_of_ble_eq_true rfl, Nat.le_of_ble_eq_true rfl⟩ rfl rfl (Nat.le_of_ble_eq_true rfl) ⟨Nat.le_of_ble_eq_true rfl, Nat.le_of_ble_eq_true rfl⟩ (fun _ M35_8 => ?_)
  show Vj x 9 114 38 [(0, .ref a0), (1, .int 7)] [.ref a31_7, .int 7, .ref a27] M35_8 _
  refine vj_aast (t := 4) (ci := 1) C dAg_init_38 (by decide) ⟨_, _, _, rfl, rfl⟩ (fun M38_8 => ?_)
  refine vj_iincC (j := 1) (b := 1) (w := 8) (lv' := [(0, .ref a0), (1, .int 8)]) C dAg_init_39 rfl (by decide) (by decide) (by decide) [1, 0] rfl ?_
  refine vj_goto (tgt := 20) C dAg_init_42 rfl ?_
  refine vj_iload_n (j := 1) C dAg_init_20 rfl rfl ?_
  refine vj_bipush (v := 10) C dAg_init_21 (by decide) ?_
  refine vj_ifn (q := 10 ≤ 8) (o1 := none) (by decide) (vj_icmp_ge (tgt := 45) C dAg_init_23 rfl Vj_none ?_)
  refine vj_aload_n (j := 0) C dAg_init_26 rfl rfl ?_
  refine vj_gr C dAg_init_27 lf_Ag_11 rfl (fun a27 => ?_)
  refine vj_iload_n (j := 1) C dAg_init_30 rfl rfl ?_
  refine vj_new C dAg_init_31 rfl rfl k_25 k_28 k_29 zin1 zt1 zty1 zdf1 (Nat.le_of_ble_eq_true rfl) (Nat.le_of_ble_eq_true rfl) (fun a31_8 M31_8 => ?_)
  refine vj_dup C dAg_init_34 rfl ?_
  refine vj_cIN (ret := none) (As := []) (st := [.ref a31_8, .int 8, .ref a27]) (b := a31_8) (a1 := 0) C dAg_init_35 (cm_Cl_init _ _ _) (gw_self k_31) nk_Ag_21 k_30 k_29 rfl rfl rfl rfl hn_Cl_init ⟨Nat.le_of_ble_eq_true rfl, Nat.le_of_ble_eq_true rfl⟩ rfl rfl (Nat.le_of_ble_eq_true rfl) ⟨Nat.le_of_ble_eq_true rfl, Nat.le_of_ble_eq_true rfl⟩ (fun _ M35_9 => ?_)
  show Vj x 10 127 38 [(0, .ref a0), (1, .int 8)] [.ref a31_8, .int 8, .ref a27] M35_9 _
  refine vj_aast (t := 4) (ci := 1) C dAg_init_38 (by decide) ⟨_, _, _, rfl, rfl⟩ (fun M38_9 => ?_)
  refine vj_iincC (j := 1) (b := 1) (w := 9) (lv' := [(0, .ref a0), (1, .int 9)]) C dAg_init_39 rfl (by decide) (by decide) (by decide) [1, 0] rfl ?_
  refine vj_goto (tgt := 20) C dAg_init_42 rfl ?_
  refine vj_iload_n (j := 1) C dAg_init_20 rfl rfl ?_
  refine vj_bipush (v := 10) C dAg_init_21 (by decide) ?_
  refine vj_ifn (q := 10 ≤ 9) (o1 := none) (by decide) (vj_icmp_ge (tgt := 45) C dAg_init_23 rfl Vj_none ?_)
  refine vj_aload_n (j := 0) C dAg_init_26 rfl rfl ?_
  refine vj_gr C dAg_init_27 lf_Ag_11 rfl (fun a27 => ?_)
  refine vj_iload_n (j := 1) C dAg_init_30 rfl rfl ?_
  refine vj_new C dAg_init_31 rfl rfl k_25 k_28 k_29 zin1 zt1 zty1 zdf1 (Nat.le_of_ble_eq_true rfl) (Nat.le_of_ble_eq_true rfl) (fun a31_9 M31_9 => ?_)
  refine vj_dup C dAg_init_34 rfl ?_
  refine vj_cIN (ret := none) (As := []) (st := [.ref a31_9, .int 9, .ref a27]) (b := a31_9) (a1 := 0) C dAg_init_35 (cm_Cl_init _ _ _) (gw_self k_31) nk_Ag_21 k_30 k_29 rfl rfl rfl rfl hn_Cl_init ⟨Nat.le_of_ble_eq_true rfl, Nat.le_of_ble_eq_true rfl⟩ rfl rfl (Nat.le_of_ble_eq_true rfl) ⟨Nat.le_of_ble_eq_true rfl, Nat.le_of_ble_eq_true rfl⟩ (fun _ M35_10 => ?_)
  show Vj x 11 140 38 [(0, .ref a0), (1, .int 9)] [.ref a31_9, .int 9, .ref a27] M35_10 _
  refine vj_aast (t := 4) (ci := 1) C dAg_init_38 (by decide) ⟨_, _, _, rfl, rfl⟩ (fun M38_10 => ?_)
  refine vj_iincC (j := 1) (b := 1) (w := 10) (lv' := [(0, .ref a0), (1, .int 10)]) C dAg_init_39 rfl (by decide) (by decide) (by decide) [1, 0] rfl ?_
  refine vj_goto (tgt := 20) C dAg_init_42 rfl ?_
  refine vj_iload_n (j := 1) C dAg_init_20 rfl rfl ?_
  refine vj_bipush (v := 10) C dAg_init_21 (by decide) ?_
  refine vj_if (q := 10 ≤ 10) (o2 := none) (by decide) (vj_icmp_ge (tgt := 45) C dAg_init_23 rfl ?_ Vj_none)
  exact vj_retv C dAg_init_45 rfl rfl (Nat.le_of_ble_eq_true rfl) (Nat.le_of_ble_eq_true rfl)
def fn_Te_init (M : Mm) (a0 : Nat) : Rr := fo_nw M (2, 8) fun a7_0 M7_0 => fo_pr M7_0 6 a0 0 a7_0 fun M9 => fo_pi M9 6 a0 1 0 fun M14 => some (0, M14)
set_option maxHeartbeats 4000000 in
set_option maxRecDepth 100000 in
theorem cm_Te_init (l : Launch) (M : Mm) (a0 : Nat) : ct l zyTe_init ws_Te_init { frames := 1, cells := 1, slots := 8, locals := 24 } 1 8 (fun _ => none) [.ref a0] M (fn_Te_init M a0) := by
  refine ct_of (cc := zbTe_init) (maxL := 1) (ret := none) (lv0 := [(0, .ref a0)]) (by decide) rfl (Nat.le_of_ble_eq_true rfl) rfl rfl ?_
  intro x C
  unfold fn_Te_init
  refine vj_aload_n (j := 0) C dTe_init_0 rfl rfl ?_
  refine vj_oi C dTe_init_1 k_32 k_1 k_2 (Nat.le_of_ble_eq_true rfl) (Nat.le_of_ble_eq_true rfl) ?_
  refine vj_aload_n (j := 0) C dTe_init_4 rfl rfl ?_
  refine vj_bipush (v := 8) C dTe_init_5 (by decide) ?_
  refine vj_newa (t := 0) (N := 8) C dTe_init_7 ⟨by decide, rfl⟩ k_33 (by decide) (by decide) (by decide) (Nat.le_of_ble_eq_true rfl) (Nat.le_of_ble_eq_true rfl) (fun a7_0 M7_0 => ?_)
  refine vj_pr C dTe_init_9 lf_Te_9 lq_6_0 rfl rfl rfl (fun M9 => ?_)
  refine vj_aload_n (j := 0) C dTe_init_12 rfl rfl ?_
  refine vj_iconst (v := 0) C dTe_init_13 (by decide) ?_
  refine vj_pi C dTe_init_14 lf_Te_15 lq_6_1 rfl (fun M14 => ?_)
  exact vj_retv C dTe_init_17 rfl rfl (Nat.le_of_ble_eq_true rfl) (Nat.le_of_ble_eq_true rfl)
def fn_St_init (M : Mm) (a0 : Nat) : Rr := fo_pi M 5 a0 0 0 fun M6 => fo_nw M6 (1, 6) fun a10_0 M10_0 => fo_cl (fn_Te_init M10_0 a10_0) fun _ M14_1 => fo_pr M14_1 5 a0 1 a10_0 fun M17 => fo_nw M17 (1, 6) fun a21_1 M21_1 => fo_cl (fn_Te_init M21_1 a21_1) fun _ M25_2 => fo_pr M25_2 5 a0 2 a21_1 fun M28 => fo_nw M28 (1, 6) fun a32_2 M32_2 => fo_cl (fn_Te_init M32_2 a32_2) fun _ M36_3 => fo_pr M36_3 5 a0 3 a32_2 fun M39 => fo_nw M39 (2, 9) fun a45_3 M45_3 => fo_pr M45_3 5 a0 4 a45_3 fun M47 => fo_nw M47 (2, 10) fun a53_3 M53_3 => fo_pr M53_3 5 a0 5 a53_3 fun M55 => some (0, M55)
set_option maxHeartbeats 4000000 in
set_option maxRecDepth 100000 in
theorem cm_St_init (l : Launch) (M : Mm) (a0 : Nat) : ct l zySt_init ws_St_init { frames := 2, cells := 8, slots := 49, locals := 44 } 8 49 (fun _ => none) [.ref a0] M (fn_St_init M a0) := by
  refine ct_of (cc := zbSt_init) (maxL := 1) (ret := none) (lv0 := [(0, .ref a0)]) (by decide) rfl (Nat.le_of_ble_eq_true rfl) rfl rfl ?_
  intro x C
  unfold fn_St_init
  refine vj_aload_n (j := 0) C dSt_init_0 rfl rfl ?_
  refine vj_oi C dSt_init_1 k_36 k_1 k_2 (Nat.le_of_ble_eq_true rfl) (Nat.le_of_ble_eq_true rfl) ?_
  refine vj_aload_n (j := 0) C dSt_init_4 rfl rfl ?_
  refine vj_iconst (v := 0) C dSt_init_5 (by decide) ?_
  refine vj_pi C dSt_init_6 lf_St_9 lq_5_0 rfl (fun M6 => ?_)
  refine vj_aload_n (j := 0) C dSt_init_9 rfl rfl ?_
  refine vj_new C dSt_init_10 rfl rfl k_38 k_39 k_40 zin6 zt6 zty6 zdf6 (Nat.le_of_ble_eq_true rfl) (Nat.le_of_ble_eq_true rfl) (fun a10_0 M10_0 => ?_)
  refine vj_dup C dSt_init_13 rfl ?_
  refine vj_cIN (ret := none) (As := []) (st := [.ref a10_0, .ref a0]) (b := a10_0) (a1 := 0) C dSt_init_14 (cm_Te_init _ _ _) (gw_self k_42) nk_St_17 k_41 k_40 rfl rfl rfl rfl hn_Te_init ⟨Nat.le_of_ble_eq_true rfl, Nat.le_of_ble_eq_true rfl⟩ rfl rfl (Nat.le_of_ble_eq_true rfl) ⟨Nat.le_of_ble_eq_true rfl, Nat.le_of_ble_eq_true rfl⟩ (fun _ M14_1 => ?_)
  show Vj x 2 10 17 [(0, .ref a0)] [.ref a10_0, .ref a0] M14_1 _
  refine vj_pr C dSt_init_17 lf_St_18 lq_5_1 rfl rfl rfl (fun M17 => ?_)
  refine vj_aload_n (j := 0) C dSt_init_20 rfl rfl ?_
  refine vj_new C dSt_init_21 rfl rfl k_38 k_39 k_40 zin6 zt6 zty6 zdf6 (Nat.le_of_ble_eq_true rfl) (Nat.le_of_ble_eq_true rfl) (fun a21_1 M21_1 => ?_)
  refine vj_dup C dSt_init_24 rfl ?_
  refine vj_cIN (ret := none) (As := []) (st := [.ref a21_1, .ref a0]) (b := a21_1) (a1 := 0) C dSt_init_25 (cm_Te_init _ _ _) (gw_self k_42) nk_St_17 k_41 k_40 rfl rfl rfl rfl hn_Te_init ⟨Nat.le_of_ble_eq_true rfl, Nat.le_of_ble_eq_true rfl⟩ rfl rfl (Nat.le_of_ble_eq_true rfl) ⟨Nat.le_of_ble_eq_true rfl, Nat.le_of_ble_eq_true rfl⟩ (fun _ M25_2 => ?_)
  show Vj x 4 20 28 [(0, .ref a0)] [.ref a21_1, .ref a0] M25_2 _
  refine vj_pr C dSt_init_28 lf_St_22 lq_5_2 rfl rfl rfl (fun M28 => ?_)
  refine vj_aload_n (j := 0) C dSt_init_31 rfl rfl ?_
  refine vj_new C dSt_init_32 rfl rfl k_38 k_39 k_40 zin6 zt6 zty6 zdf6 (Nat.le_of_ble_eq_true rfl) (Nat.le_of_ble_eq_true rfl) (fun a32_2 M32_2 => ?_)
  refine vj_dup C dSt_init_35 rfl ?_
  refine vj_cIN (ret := none) (As := []) (st := [.ref a32_2, .ref a0]) (b := a32_2) (a1 := 0) C dSt_init_36 (cm_Te_init _ _ _) (gw_self k_42) nk_St_17 k_41 k_40 rfl rfl rfl rfl hn_Te_init ⟨Nat.le_of_ble_eq_true rfl, Nat.le_of_ble_eq_true rfl⟩ rfl rfl (Nat.le_of_ble_eq_true rfl) ⟨Nat.le_of_ble_eq_true rfl, Nat.le_of_ble_eq_true rfl⟩ (fun _ M36_3 => ?_)
  show Vj x 6 30 39 [(0, .ref a0)] [.ref a32_2, .ref a0] M36_3 _
  refine vj_pr C dSt_init_39 lf_St_25 lq_5_3 rfl rfl rfl (fun M39 => ?_)
  refine vj_aload_n (j := 0) C dSt_init_42 rfl rfl ?_
  refine vj_bipush (v := 9) C dSt_init_43 (by decide) ?_
  refine vj_newa (t := 0) (N := 9) C dSt_init_45 ⟨by decide, rfl⟩ k_33 (by decide) (by decide) (by decide) (Nat.le_of_ble_eq_true rfl) (Nat.le_of_ble_eq_true rfl) (fun a45_3 M45_3 => ?_)
  refine vj_pr C dSt_init_47 lf_St_28 lq_5_4 rfl rfl rfl (fun M47 => ?_)
  refine vj_aload_n (j := 0) C dSt_init_50 rfl rfl ?_
  refine vj_bipush (v := 10) C dSt_init_51 (by decide) ?_
  refine vj_newa (t := 0) (N := 10) C dSt_init_53 ⟨by decide, rfl⟩ k_33 (by decide) (by decide) (by decide) (Nat.le_of_ble_eq_true rfl) (Nat.le_of_ble_eq_true rfl) (fun a53_3 M53_3 => ?_)
  refine vj_pr C dSt_init_55 lf_St_32 lq_5_5 rfl rfl rfl (fun M55 => ?_)
  exact vj_retv C dSt_init_58 rfl rfl (Nat.le_of_ble_eq_true rfl) (Nat.le_of_ble_eq_true rfl)
def fn_Hi_init (M : Mm) (a0 : Nat) : Rr := fo_nw M (7, 12) fun a7_0 M7_0 => fo_pr M7_0 2 a0 0 a7_0 fun M10 => fo_pi M10 2 a0 1 0 fun M15 => fo_pi M15 2 a0 2 0 fun M20 => fo_gr M20 2 a0 0 fun a32 => fo_nw M20 (1, 5) fun a36_0 M36_0 => fo_cl (fn_St_init M36_0 a36_0) fun _ M40_1 => fo_sr M40_1 5 5 a32 0 a36_0 fun M43_1 => fo_gr M43_1 2 a0 0 fun a32 => fo_nw M43_1 (1, 5) fun a36_1 M36_1 => fo_cl (fn_St_init M36_1 a36_1) fun _ M40_2 => fo_sr M40_2 5 5 a32 1 a36_1 fun M43_2 => fo_gr M43_2 2 a0 0 fun a32 => fo_nw M43_2 (1, 5) fun a36_2 M36_2 => fo_cl (fn_St_init M36_2 a36_2) fun _ M40_3 => fo_sr M40_3 5 5 a32 2 a36_2 fun M43_3 => fo_gr M43_3 2 a0 0 fun a32 => fo_nw M43_3 (1, 5) fun a36_3 M36_3 => fo_cl (fn_St_init M36_3 a36_3) fun _ M40_4 => fo_sr M40_4 5 5 a32 3 a36_3 fun M43_4 => fo_gr M43_4 2 a0 0 fun a32 => fo_nw M43_4 (1, 5) fun a36_4 M36_4 => fo_cl (fn_St_init M36_4 a36_4) fun _ M40_5 => fo_sr M40_5 5 5 a32 4 a36_4 fun M43_5 => fo_gr M43_5 2 a0 0 fun a32 => fo_nw M43_5 (1, 5) fun a36_5 M36_5 => fo_cl (fn_St_init M36_5 a36_5) fun _ M40_6 => fo_sr M40_6 5 5 a32 5 a36_5 fun M43_6 => fo_gr M43_6 2 a0 0 fun a32 => fo_nw M43_6 (1, 5) fun a36_6 M36_6 => fo_cl (fn_St_init M36_6 a36_6) fun _ M40_7 => fo_sr M40_7 5 5 a32 6 a36_6 fun M43_7 => fo_gr M43_7 2 a0 0 fun a32 => fo_nw M43_7 (1, 5) fun a36_7 M36_7 => fo_cl (fn_St_init M36_7 a36_7) fun _ M40_8 => fo_sr M40_8 5 5 a32 7 a36_7 fun M43_8 => fo_gr M43_8 2 a0 0 fun a32 => fo_nw M43_8 (1, 5) fun a36_8 M36_8 => fo_cl (fn_St_init M36_8 a36_8) fun _ M40_9 => fo_sr M40_9 5 5 a32 8 a36_8 fun M43_9 => fo_gr M43_9 2 a0 0 fun a32 => fo_nw M43_9 (1, 5) fun a36_9 M36_9 => fo_cl (fn_St_init M36_9 a36_9) fun _ M40_10 => fo_sr M40_10 5 5 a32 9 a36_9 fun M43_10 => fo_gr M43_10 2 a0 0 fun a32 => fo_nw M43_10 (1, 5) fun a36_10 M36_10 => fo_cl (fn_St_init M36_10 a36_10) fun _ M40_11 => fo_sr M40_11 5 5 a32 10 a36_10 fun M43_11 => fo_gr M43_11 2 a0 0 fun a32 => fo_nw M43_11 (1, 5) fun a36_11 M36_11 => fo_cl (fn_St_init M36_11 a36_11) fun _ M40_12 => fo_sr M40_12 5 5 a32 11 a36_11 fun M43_12 => some (0, M43_12)
set_option maxHeartbeats 4000000 in
set_option maxRecDepth 100000 in
theorem cm_Hi_init (l : Launch) (M : Mm) (a0 : Nat) : ct l zyHi_init ws_Hi_init { frames := 3, cells := 109, slots := 672, locals := 64 } 109 672 (fun _ => none) [.ref a0] M (fn_Hi_init M a0) := by
  refine ct_of (cc := zbHi_init) (maxL := 2) (ret := none) (lv0 := [(0, .ref a0)]) (by decide) rfl (Nat.le_of_ble_eq_true rfl) rfl rfl ?_
  intro x C
  unfold fn_Hi_init
  refine vj_aload_n (j := 0) C dHi_init_0 rfl rfl ?_
  refine vj_oi C dHi_init_1 k_48 k_1 k_2 (Nat.le_of_ble_eq_true rfl) (Nat.le_of_ble_eq_true rfl) ?_
  refine vj_aload_n (j := 0) C dHi_init_4 rfl rfl ?_
  refine vj_bipush (v := 12) C dHi_init_5 (by decide) ?_
  refine vj_newq (t := 5) (N := 12) C dHi_init_7 ⟨by decide, rfl⟩ k_49 (by decide) (by decide) (by decide) (by decide) (Nat.le_of_ble_eq_true rfl) (Nat.le_of_ble_eq_true rfl) (fun a7_0 M7_0 => ?_)
  refine vj_pr C dHi_init_10 lf_Hi_11 lq_2_0 rfl rfl rfl (fun M10 => ?_)
  refine vj_aload_n (j := 0) C dHi_init_13 rfl rfl ?_
  refine vj_iconst (v := 0) C dHi_init_14 (by decide) ?_
  refine vj_pi C dHi_init_15 lf_Hi_17 lq_2_1 rfl (fun M15 => ?_)
  refine vj_aload_n (j := 0) C dHi_init_18 rfl rfl ?_
  refine vj_iconst (v := 0) C dHi_init_19 (by decide) ?_
  refine vj_pi C dHi_init_20 lf_Hi_21 lq_2_2 rfl (fun M20 => ?_)
  refine vj_iconst (v := 0) C dHi_init_23 (by decide) ?_
  refine vj_istore_n (lv' := [(0, .ref a0), (1, .int 0)]) C dHi_init_24 rfl (by decide) [1, 0] rfl ?_
  refine vj_iload_n (j := 1) C dHi_init_25 rfl rfl ?_
  refine vj_bipush (v := 12) C dHi_init_26 (by decide) ?_
  refine vj_ifn (q := 12 ≤ 0) (o1 := none) (by decide) (vj_icmp_ge (tgt := 50) C dHi_init_28 rfl Vj_none ?_)
  refine vj_aload_n (j := 0) C dHi_init_31 rfl rfl ?_
  refine vj_gr C dHi_init_32 lf_Hi_11 rfl (fun a32 => ?_)
  refine vj_iload_n (j := 1) C dHi_init_35 rfl rfl ?_
  refine vj_new C dHi_init_36 rfl rfl k_49 k_53 k_54 zin5 zt5 zty5 zdf5 (Nat.le_of_ble_eq_true rfl) (Nat.le_of_ble_eq_true rfl) (fun a36_0 M36_0 => ?_)
  refine vj_dup C dHi_init_39 rfl ?_
  refine vj_cIN (ret := none) (As := []) (st := [.ref a36_0, .int 0, .ref a32]) (b := a36_0) (a1 := 0) C dHi_init_40 (cm_St_init _ _ _) (gw_self k_56) nk_Hi_24 k_55 k_54 rfl rfl rfl rfl hn_St_init ⟨Nat.le_of_ble_eq_true rfl, Nat.le_of_ble_eq_true rfl⟩ rfl rfl (Nat.le_of_ble_eq_true rfl) ⟨Nat.le_of_ble_eq_true rfl, Nat.le_of_ble_eq_true rfl⟩ (fun _ M40_1 => ?_)
  show Vj x 10 67 43 [(0, .ref a0), (1, .int 0)] [.ref a36_0, .int 0, .ref a32] M40_1 _
  refine vj_aast (t := 5) (ci := 5) C dHi_init_43 (by decide) ⟨_, _, _, rfl, rfl⟩ (fun M43_1 => ?_)
  refine vj_iincC (j := 1) (b := 1) (w := 1) (lv' := [(0, .ref a0), (1, .int 1)]) C dHi_init_44 rfl (by decide) (by decide) (by decide) [1, 0] rfl ?_
  refine vj_goto (tgt := 25) C dHi_init_47 rfl ?_
  refine vj_iload_n (j := 1) C dHi_init_25 rfl rfl ?_
  refine vj_bipush (v := 12) C dHi_init_26 (by decide) ?_
  refine vj_ifn (q := 12 ≤ 1) (o1 := none) (by decide) (vj_icmp_ge (tgt := 50) C dHi_init_28 rfl Vj_none ?_)
  refine vj_aload_n (j := 0) C dHi_init_31 rfl rfl ?_
  refine vj_gr C dHi_init_32 lf_Hi_11 rfl (fun a32 => ?_)
  refine vj_iload_n (j := 1) C dHi_init_35 rfl rfl ?_
  refine vj_new C dHi_init_36 rfl rfl k_49 k_53 k_54 zin5 zt5 zty5 zdf5 (Nat.le_of_ble_eq_true rfl) (Nat.le_of_ble_eq_true rfl) (fun a36_1 M36_1 => ?_)
  refine vj_dup C dHi_init_39 rfl ?_
  refine vj_cIN (ret := none) (As := []) (st := [.ref a36_1, .int 1, .ref a32]) (b := a36_1) (a1 := 0) C dHi_init_40 (cm_St_init _ _ _) (gw_self k_56) nk_Hi_24 k_55 k_54 rfl rfl rfl rfl hn_St_init ⟨Nat.le_of_ble_eq_true rfl, Nat.le_of_ble_eq_true rfl⟩ rfl rfl (Nat.le_of_ble_eq_true rfl) ⟨Nat.le_of_ble_eq_true rfl, Nat.le_of_ble_eq_true rfl⟩ (fun _ M40_2 => ?_)
  show Vj x 19 122 43 [(0, .ref a0), (1, .int 1)] [.ref a36_1, .int 1, .ref a32] M40_2 _
  refine vj_aast (t := 5) (ci := 5) C dHi_init_43 (by decide) ⟨_, _, _, rfl, rfl⟩ (fun M43_2 => ?_)
  refine vj_iincC (j := 1) (b := 1) (w := 2) (lv' := [(0, .ref a0), (1, .int 2)]) C dHi_init_44 rfl (by decide) (by decide) (by decide) [1, 0] rfl ?_
  refine vj_goto (tgt := 25) C dHi_init_47 rfl ?_
  refine vj_iload_n (j := 1) C dHi_init_25 rfl rfl ?_
  refine vj_bipush (v := 12) C dHi_init_26 (by decide) ?_
  refine vj_ifn (q := 12 ≤ 2) (o1 := none) (by decide) (vj_icmp_ge (tgt := 50) C dHi_init_28 rfl Vj_none ?_)
  refine vj_aload_n (j := 0) C dHi_init_31 rfl rfl ?_
  refine vj_gr C dHi_init_32 lf_Hi_11 rfl (fun a32 => ?_)
  refine vj_iload_n (j := 1) C dHi_init_35 rfl rfl ?_
  refine vj_new C dHi_init_36 rfl rfl k_49 k_53 k_54 zin5 zt5 zty5 zdf5 (Nat.le_of_ble_eq_true rfl) (Nat.le_of_ble_eq_true rfl) (fun a36_2 M36_2 => ?_)
  refine vj_dup C dHi_init_39 rfl ?_
  refine vj_cIN (ret := none) (As := []) (st := [.ref a36_2, .int 2, .ref a32]) (b := a36_2) (a1 := 0) C dHi_init_40 (cm_St_init _ _ _) (gw_self k_56) nk_Hi_24 k_55 k_54 rfl rfl rfl rfl hn_St_init ⟨Nat.le_of_ble_eq_true rfl, Nat.le_of_ble_eq_true rfl⟩ rfl rfl (Nat.le_of_ble_eq_true rfl) ⟨Nat.le_of_ble_eq_true rfl, Nat.le_of_ble_eq_true rfl⟩ (fun _ M40_3 => ?_)
  show Vj x 28 177 43 [(0, .ref a0), (1, .int 2)] [.ref a36_2, .int 2, .ref a32] M40_3 _
  refine vj_aast (t := 5) (ci := 5) C dHi_init_43 (by decide) ⟨_, _, _, rfl, rfl⟩ (fun M43_3 => ?_)
  refine vj_iincC (j := 1) (b := 1) (w := 3) (lv' := [(0, .ref a0), (1, .int 3)]) C dHi_init_44 rfl (by decide) (by decide) (by decide) [1, 0] rfl ?_
  refine vj_goto (tgt := 25) C dHi_init_47 rfl ?_
  refine vj_iload_n (j := 1) C dHi_init_25 rfl rfl ?_
  refine vj_bipush (v := 12) C dHi_init_26 (by decide) ?_
  refine vj_ifn (q := 12 ≤ 3) (o1 := none) (by decide) (vj_icmp_ge (tgt := 50) C dHi_init_28 rfl Vj_none ?_)
  refine vj_aload_n (j := 0) C dHi_init_31 rfl rfl ?_
  refine vj_gr C dHi_init_32 lf_Hi_11 rfl (fun a32 => ?_)
  refine vj_iload_n (j := 1) C dHi_init_35 rfl rfl ?_
  refine vj_new C dHi_init_36 rfl rfl k_49 k_53 k_54 zin5 zt5 zty5 zdf5 (Nat.le_of_ble_eq_true rfl) (Nat.le_of_ble_eq_true rfl) (fun a36_3 M36_3 => ?_)
  refine vj_dup C dHi_init_39 rfl ?_
  refine vj_cIN (ret := none) (As := []) (st := [.ref a36_3, .int 3, .ref a32]) (b := a36_3) (a1 := 0) C dHi_init_40 (cm_St_init _ _ _) (gw_self k_56) nk_Hi_24 k_55 k_54 rfl rfl rfl rfl hn_St_init ⟨Nat.le_of_ble_eq_true rfl, Nat.le_of_ble_eq_true rfl⟩ rfl rfl (Nat.le_of_ble_eq_true rfl) ⟨Nat.le_of_ble_eq_true rfl, Nat.le_of_ble_eq_true rfl⟩ (fun _ M40_4 => ?_)
  show Vj x 37 232 43 [(0, .ref a0), (1, .int 3)] [.ref a36_3, .int 3, .ref a32] M40_4 _
  refine vj_aast (t := 5) (ci := 5) C dHi_init_43 (by decide) ⟨_, _, _, rfl, rfl⟩ (fun M43_4 => ?_)
  refine vj_iincC (j := 1) (b := 1) (w := 4) (lv' := [(0, .ref a0), (1, .int 4)]) C dHi_init_44 rfl (by decide) (by decide) (by decide) [1, 0] rfl ?_
  refine vj_goto (tgt := 25) C dHi_init_47 rfl ?_
  refine vj_iload_n (j := 1) C dHi_init_25 rfl rfl ?_
  refine vj_bipush (v := 12) C dHi_init_26 (by decide) ?_
  refine vj_ifn (q := 12 ≤ 4) (o1 := none) (by decide) (vj_icmp_ge (tgt := 50) C dHi_init_28 rfl Vj_none ?_)
  refine vj_aload_n (j := 0) C dHi_init_31 rfl rfl ?_
  refine vj_gr C dHi_init_32 lf_Hi_11 rfl (fun a32 => ?_)
  refine vj_iload_n (j := 1) C dHi_init_35 rfl rfl ?_
  refine vj_new C dHi_init_36 rfl rfl k_49 k_53 k_54 zin5 zt5 zty5 zdf5 (Nat.le_of_ble_eq_true rfl) (Nat.le_of_ble_eq_true rfl) (fun a36_4 M36_4 => ?_)
  refine vj_dup C dHi_init_39 rfl ?_
  refine vj_cIN (ret := none) (As := []) (st := [.ref a36_4, .int 4, .ref a32]) (b := a36_4) (a1 := 0) C dHi_init_40 (cm_St_init _ _ _) (gw_self k_56) nk_Hi_24 k_55 k_54 rfl rfl rfl rfl hn_St_init ⟨Nat.le_of_ble_eq_true rfl, Nat.le_of_ble_eq_true rfl⟩ rfl rfl (Nat.le_of_ble_eq_true rfl) ⟨Nat.le_of_ble_eq_true rfl, Nat.le_of_ble_eq_true rfl⟩ (fun _ M40_5 => ?_)
  show Vj x 46 287 43 [(0, .ref a0), (1, .int 4)] [.ref a36_4, .int 4, .ref a32] M40_5 _
  refine vj_aast (t := 5) (ci := 5) C dHi_init_43 (by decide) ⟨_, _, _, rfl, rfl⟩ (fun M43_5 => ?_)
  refine vj_iincC (j := 1) (b := 1) (w := 5) (lv' := [(0, .ref a0), (1, .int 5)]) C dHi_init_44 rfl (by decide) (by decide) (by decide) [1, 0] rfl ?_
  refine vj_goto (tgt := 25) C dHi_init_47 rfl ?_
  refine vj_iload_n (j := 1) C dHi_init_25 rfl rfl ?_
  refine vj_bipush (v := 12) C dHi_init_26 (by decide) ?_
  refine vj_ifn (q := 12 ≤ 5) (o1 := none) (by decide) (vj_icmp_ge (tgt := 50) C dHi_init_28 rfl Vj_none ?_)
  refine vj_aload_n (j := 0) C dHi_init_31 rfl rfl ?_
  refine vj_gr C dHi_init_32 lf_Hi_11 rfl (fun a32 => ?_)
  refine vj_iload_n (j := 1) C dHi_init_35 rfl rfl ?_
  refine vj_new C dHi_init_36 rfl rfl k_49 k_53 k_54 zin5 zt5 zty5 zdf5 (Nat.le_of_ble_eq_true rfl) (Nat.le_of_ble_eq_true rfl) (fun a36_5 M36_5 => ?_)
  refine vj_dup C dHi_init_39 rfl ?_
  refine vj_cIN (ret := none) (As := []) (st := [.ref a36_5, .int 5, .ref a32]) (b := a36_5) (a1 := 0) C dHi_init_40 (cm_St_init _ _ _) (gw_self k_56) nk_Hi_24 k_55 k_54 rfl rfl rfl rfl hn_St_init ⟨Nat.le_of_ble_eq_true rfl, Nat.le_of_ble_eq_true rfl⟩ rfl rfl (Nat.le_of_ble_eq_true rfl) ⟨Nat.le_of_ble_eq_true rfl, Nat.le_of_ble_eq_true rfl⟩ (fun _ M40_6 => ?_)
  show Vj x 55 342 43 [(0, .ref a0), (1, .int 5)] [.ref a36_5, .int 5, .ref a32] M40_6 _
  refine vj_aast (t := 5) (ci := 5) C dHi_init_43 (by decide) ⟨_, _, _, rfl, rfl⟩ (fun M43_6 => ?_)
  refine vj_iincC (j := 1) (b := 1) (w := 6) (lv' := [(0, .ref a0), (1, .int 6)]) C dHi_init_44 rfl (by decide) (by decide) (by decide) [1, 0] rfl ?_
  refine vj_goto (tgt := 25) C dHi_init_47 rfl ?_
  refine vj_iload_n (j := 1) C dHi_init_25 rfl rfl ?_
  refine vj_bipush (v := 12) C dHi_init_26 (by decide) ?_
  refine vj_ifn (q := 12 ≤ 6) (o1 := none) (by decide) (vj_icmp_ge (tgt := 50) C dHi_init_28 rfl Vj_none ?_)
  refine vj_aload_n (j := 0) C dHi_init_31 rfl rfl ?_
  refine vj_gr C dHi_init_32 lf_Hi_11 rfl (fun a32 => ?_)
  refine vj_iload_n (j := 1) C dHi_init_35 rfl rfl ?_
  refine vj_new C dHi_init_36 rfl rfl k_49 k_53 k_54 zin5 zt5 zty5 zdf5 (Nat.le_of_ble_eq_true rfl) (Nat.le_of_ble_eq_true rfl) (fun a36_6 M36_6 => ?_)
  refine vj_dup C dHi_init_39 rfl ?_
  refine vj_cIN (ret := none) (As := []) (st := [.ref a36_6, .int 6, .ref a32]) (b := a36_6) (a1 := 0) C dHi_init_40 (cm_St_init _ _ _) (gw_self k_56) nk_Hi_24 k_55 k_54 rfl rfl rfl rfl hn_St_init ⟨Nat.le_of_ble_eq_true rfl, Nat.le_of_ble_eq_true rfl⟩ rfl rfl (Nat.le_of_ble_eq_true rfl) ⟨Nat.le_of_ble_eq_true rfl, Nat.le_of_ble_eq_true rfl⟩ (fun _ M40_7 => ?_)
  show Vj x 64 397 43 [(0, .ref a0), (1, .int 6)] [.ref a36_6, .int 6, .ref a32] M40_7 _
  refine vj_aast (t := 5) (ci := 5) C dHi_init_43 (by decide) ⟨_, _, _, rfl, rfl⟩ (fun M43_7 => ?_)
  refine vj_iincC (j := 1) (b := 1) (w := 7) (lv' := [(0, .ref a0), (1, .int 7)]) C dHi_init_44 rfl (by decide) (by decide) (by decide) [1, 0] rfl ?_
  refine vj_goto (tgt := 25) C dHi_init_47 rfl ?_
  refine vj_iload_n (j := 1) C dHi_init_25 rfl rfl ?_
  refine vj_bipush (v := 12) C dHi_init_26 (by decide) ?_
  refine vj_ifn (q := 12 ≤ 7) (o1 := none) (by decide) (vj_icmp_ge (tgt := 50) C dHi_init_28 rfl Vj_none ?_)
  refine vj_aload_n (j := 0) C dHi_init_31 rfl rfl ?_
  refine vj_gr C dHi_init_32 lf_Hi_11 rfl (fun a32 => ?_)
  refine vj_iload_n (j := 1) C dHi_init_35 rfl rfl ?_
  refine vj_new C dHi_init_36 rfl rfl k_49 k_53 k_54 zin5 zt5 zty5 zdf5 (Nat.le_of_ble_eq_true rfl) (Nat.le_of_ble_eq_true rfl) (fun a36_7 M36_7 => ?_)
  refine vj_dup C dHi_init_39 rfl ?_
  refine vj_cIN (ret := none) (As := []) (st := [.ref a36_7, .int 7, .ref a32]) (b := a36_7) (a1 := 0) C dHi_init_40 (cm_St_init _ _ _) (gw_self k_56) nk_Hi_24 k_55 k_54 rfl rfl rfl rfl hn_St_init ⟨Nat.le_of_ble_eq_true rfl, Nat.le_of_ble_eq_true rfl⟩ rfl rfl (Nat.le_of_ble_eq_true rfl) ⟨Nat.le_of_ble_eq_true rfl, Nat.le_of_ble_eq_true rfl⟩ (fun _ M40_8 => ?_)
  show Vj x 73 452 43 [(0, .ref a0), (1, .int 7)] [.ref a36_7, .int 7, .ref a32] M40_8 _
  refine vj_aast (t := 5) (ci := 5) C dHi_init_43 (by decide) ⟨_, _, _, rfl, rfl⟩ (fun M43_8 => ?_)
  refine vj_iincC (j := 1) (b := 1) (w := 8) (lv' := [(0, .ref a0), (1, .int 8)]) C dHi_init_44 rfl (by decide) (by decide) (by decide) [1, 0] rfl ?_
  refine vj_goto (tgt := 25) C dHi_init_47 rfl ?_
  refine vj_iload_n (j := 1) C dHi_init_25 rfl rfl ?_
  refine vj_bipush (v := 12) C dHi_init_26 (by decide) ?_
  refine vj_ifn (q := 12 ≤ 8) (o1 := none) (by decide) (vj_icmp_ge (tgt := 50) C dHi_init_28 rfl Vj_none ?_)
  refine vj_aload_n (j := 0) C dHi_init_31 rfl rfl ?_
  refine vj_gr C dHi_init_32 lf_Hi_11 rfl (fun a32 => ?_)
  refine vj_iload_n (j := 1) C dHi_init_35 rfl rfl ?_
  refine vj_new C dHi_init_36 rfl rfl k_49 k_53 k_54 zin5 zt5 zty5 zdf5 (Nat.le_of_ble_eq_true rfl) (Nat.le_of_ble_eq_true rfl) (fun a36_8 M36_8 => ?_)
  refine vj_dup C dHi_init_39 rfl ?_
  refine vj_cIN (ret := none) (As := []) (st := [.ref a36_8, .int 8, .ref a32]) (b := a36_8) (a1 := 0) C dHi_init_40 (cm_St_init _ _ _) (gw_self k_56) nk_Hi_24 k_55 k_54 rfl rfl rfl rfl hn_St_init ⟨Nat.le_of_ble_eq_true rfl, Nat.le_of_ble_eq_true rfl⟩ rfl rfl (Nat.le_of_ble_eq_true rfl) ⟨Nat.le_of_ble_eq_true rfl, Nat.le_of_ble_eq_true rfl⟩ (fun _ M40_9 => ?_)
  show Vj x 82 507 43 [(0, .ref a0), (1, .int 8)] [.ref a36_8, .int 8, .ref a32] M40_9 _
  refine vj_aast (t := 5) (ci := 5) C dHi_init_43 (by decide) ⟨_, _, _, rfl, rfl⟩ (fun M43_9 => ?_)
  refine vj_iincC (j := 1) (b := 1) (w := 9) (lv' := [(0, .ref a0), (1, .int 9)]) C dHi_init_44 rfl (by decide) (by decide) (by decide) [1, 0] rfl ?_
  refine vj_goto (tgt := 25) C dHi_init_47 rfl ?_
  refine vj_iload_n (j := 1) C dHi_init_25 rfl rfl ?_
  refine vj_bipush (v := 12) C dHi_init_26 (by decide) ?_
  refine vj_ifn (q := 12 ≤ 9) (o1 := none) (by decide) (vj_icmp_ge (tgt := 50) C dHi_init_28 rfl Vj_none ?_)
  refine vj_aload_n (j := 0) C dHi_init_31 rfl rfl ?_
  refine vj_gr C dHi_init_32 lf_Hi_11 rfl (fun a32 => ?_)
  refine vj_iload_n (j := 1) C dHi_init_35 rfl rfl ?_
  refine vj_new C dHi_init_36 rfl rfl k_49 k_53 k_54 zin5 zt5 zty5 zdf5 (Nat.le_of_ble_eq_true rfl) (Nat.le_of_ble_eq_true rfl) (fun a36_9 M36_9 => ?_)
  refine vj_dup C dHi_init_39 rfl ?_
  refine vj_cIN (ret := none) (As := []) (st := [.ref a36_9, .int 9, .ref a32]) (b := a36_9) (a1 := 0) C dHi_init_40 (cm_St_init _ _ _) (gw_self k_56) nk_Hi_24 k_55 k_54 rfl rfl rfl rfl hn_St_init ⟨Nat.le_of_ble_eq_true rfl, Nat.le_of_ble_eq_true rfl⟩ rfl rfl (Nat.le_of_ble_eq_true rfl) ⟨Nat.le_of_ble_eq_true rfl, Nat.le_of_ble_eq_true rfl⟩ (fun _ M40_10 => ?_)
  show Vj x 91 562 43 [(0, .ref a0), (1, .int 9)] [.ref a36_9, .int 9, .ref a32] M40_10 _
  refine vj_aast (t := 5) (ci := 5) C dHi_init_43 (by decide) ⟨_, _, _, rfl, rfl⟩ (fun M43_10 => ?_)
  refine vj_iincC (j := 1) (b := 1) (w := 10) (lv' := [(0, .ref a0), (1, .int 10)]) C dHi_init_44 rfl (by decide) (by decide) (by decide) [1, 0] rfl ?_
  refine vj_goto (tgt := 25) C dHi_init_47 rfl ?_
  refine vj_iload_n (j := 1) C dHi_init_25 rfl rfl ?_
  refine vj_bipush (v := 12) C dHi_init_26 (by decide) ?_
  refine vj_ifn (q := 12 ≤ 10) (o1 := none) (by decide) (vj_icmp_ge (tgt := 50) C dHi_init_28 rfl Vj_none ?_)
  refine vj_aload_n (j := 0) C dHi_init_31 rfl rfl ?_
  refine vj_gr C dHi_init_32 lf_Hi_11 rfl (fun a32 => ?_)
  refine vj_iload_n (j := 1) C dHi_init_35 rfl rfl ?_
  refine vj_new C dHi_init_36 rfl rfl k_49 k_53 k_54 zin5 zt5 zty5 zdf5 (Nat.le_of_ble_eq_true rfl) (Nat.le_of_ble_eq_true rfl) (fun a36_10 M36_10 => ?_)
  refine vj_dup C dHi_init_39 rfl ?_
  refine vj_cIN (ret := none) (As := []) (st := [.ref a36_10, .int 10, .ref a32]) (b := a36_10) (a1 := 0) C dHi_init_40 (cm_St_init _ _ _) (gw_self k_56) nk_Hi_24 k_55 k_54 rfl rfl rfl rfl hn_St_init ⟨Nat.le_of_ble_eq_true rfl, Nat.le_of_ble_eq_true rfl⟩ rfl rfl (Nat.le_of_ble_eq_true rfl) ⟨Nat.le_of_ble_eq_true rfl, Nat.le_of_ble_eq_true rfl⟩ (fun _ M40_11 => ?_)
  show Vj x 100 617 43 [(0, .ref a0), (1, .int 10)] [.ref a36_10, .int 10, .ref a32] M40_11 _
  refine vj_aast (t := 5) (ci := 5) C dHi_init_43 (by decide) ⟨_, _, _, rfl, rfl⟩ (fun M43_11 => ?_)
  refine vj_iincC (j := 1) (b := 1) (w := 11) (lv' := [(0, .ref a0), (1, .int 11)]) C dHi_init_44 rfl (by decide) (by decide) (by decide) [1, 0] rfl ?_
  refine vj_goto (tgt := 25) C dHi_init_47 rfl ?_
  refine vj_iload_n (j := 1) C dHi_init_25 rfl rfl ?_
  refine vj_bipush (v := 12) C dHi_init_26 (by decide) ?_
  refine vj_ifn (q := 12 ≤ 11) (o1 := none) (by decide) (vj_icmp_ge (tgt := 50) C dHi_init_28 rfl Vj_none ?_)
  refine vj_aload_n (j := 0) C dHi_init_31 rfl rfl ?_
  refine vj_gr C dHi_init_32 lf_Hi_11 rfl (fun a32 => ?_)
  refine vj_iload_n (j := 1) C dHi_init_35 rfl rfl ?_
  refine vj_new C dHi_init_36 rfl rfl k_49 k_53 k_54 zin5 zt5 zty5 zdf5 (Nat.le_of_ble_eq_true rfl) (Nat.le_of_ble_eq_true rfl) (fun a36_11 M36_11 => ?_)
  refine vj_dup C dHi_init_39 rfl ?_
  refine vj_cIN (ret := none) (As := []) (st := [.ref a36_11, .int 11, .ref a32]) (b := a36_11) (a1 := 0) C dHi_init_40 (cm_St_init _ _ _) (gw_self k_56) nk_Hi_24 k_55 k_54 rfl rfl rfl rfl hn_St_init ⟨Nat.le_of_ble_eq_true rfl, Nat.le_of_ble_eq_true rfl⟩ rfl rfl (Nat.le_of_ble_eq_true rfl) ⟨Nat.le_of_ble_eq_true rfl, Nat.le_of_ble_eq_true rfl⟩ (fun _ M40_12 => ?_)
  show Vj x 109 672 43 [(0, .ref a0), (1, .int 11)] [.ref a36_11, .int 11, .ref a32] M40_12 _
  refine vj_aast (t := 5) (ci := 5) C dHi_init_43 (by decide) ⟨_, _, _, rfl, rfl⟩ (fun M43_12 => ?_)
  refine vj_iincC (j := 1) (b := 1) (w := 12) (lv' := [(0, .ref a0), (1, .int 12)]) C dHi_init_44 rfl (by decide) (by decide) (by decide) [1, 0] rfl ?_
  refine vj_goto (tgt := 25) C dHi_init_47 rfl ?_
  refine vj_iload_n (j := 1) C dHi_init_25 rfl rfl ?_
  refine vj_bipush (v := 12) C dHi_init_26 (by decide) ?_
  refine vj_if (q := 12 ≤ 12) (o2 := none) (by decide) (vj_icmp_ge (tgt := 50) C dHi_init_28 rfl ?_ Vj_none)
  exact vj_retv C dHi_init_50 rfl rfl (Nat.le_of_ble_eq_true rfl) (Nat.le_of_ble_eq_true rfl)
def fn_Ru_init (M : Mm) (a0 : Nat) : Rr := fo_nw M (3, 61) fun a7_0 M7_0 => fo_pr M7_0 3 a0 0 a7_0 fun M9 => fo_nw M9 (2, 800) fun a16_0 M16_0 => fo_pr M16_0 3 a0 1 a16_0 fun M18 => fo_pi M18 3 a0 2 0 fun M23 => some (0, M23)
set_option maxHeartbeats 4000000 in
set_option maxRecDepth 100000 in
theorem cm_Ru_init (l : Launch) (M : Mm) (a0 : Nat) : ct l zyRu_init ws_Ru_init { frames := 1, cells := 2, slots := 861, locals := 24 } 2 861 (fun _ => none) [.ref a0] M (fn_Ru_init M a0) := by
  refine ct_of (cc := zbRu_init) (maxL := 1) (ret := none) (lv0 := [(0, .ref a0)]) (by decide) rfl (Nat.le_of_ble_eq_true rfl) rfl rfl ?_
  intro x C
  unfold fn_Ru_init
  refine vj_aload_n (j := 0) C dRu_init_0 rfl rfl ?_
  refine vj_oi C dRu_init_1 k_57 k_1 k_2 (Nat.le_of_ble_eq_true rfl) (Nat.le_of_ble_eq_true rfl) ?_
  refine vj_aload_n (j := 0) C dRu_init_4 rfl rfl ?_
  refine vj_bipush (v := 61) C dRu_init_5 (by decide) ?_
  refine vj_newa (t := 1) (N := 61) C dRu_init_7 ⟨by decide, rfl⟩ k_58 (by decide) (by decide) (by decide) (Nat.le_of_ble_eq_true rfl) (Nat.le_of_ble_eq_true rfl) (fun a7_0 M7_0 => ?_)
  refine vj_pr C dRu_init_9 lf_Ru_9 lq_3_0 rfl rfl rfl (fun M9 => ?_)
  refine vj_aload_n (j := 0) C dRu_init_12 rfl rfl ?_
  refine vj_sipush (v := 800) C dRu_init_13 (by decide) ?_
  refine vj_newa (t := 0) (N := 800) C dRu_init_16 ⟨by decide, rfl⟩ k_33 (by decide) (by decide) (by decide) (Nat.le_of_ble_eq_true rfl) (Nat.le_of_ble_eq_true rfl) (fun a16_0 M16_0 => ?_)
  refine vj_pr C dRu_init_18 lf_Ru_15 lq_3_1 rfl rfl rfl (fun M18 => ?_)
  refine vj_aload_n (j := 0) C dRu_init_21 rfl rfl ?_
  refine vj_iconst (v := 0) C dRu_init_22 (by decide) ?_
  refine vj_pi C dRu_init_23 lf_Ru_19 lq_3_2 rfl (fun M23 => ?_)
  exact vj_retv C dRu_init_26 rfl rfl (Nat.le_of_ble_eq_true rfl) (Nat.le_of_ble_eq_true rfl)
def fn_Se_init (M : Mm) (a0 : Nat) : Rr := fo_nw M (1, 3) fun a5_0 M5_0 => fo_cl (fn_Ru_init M5_0 a5_0) fun _ M9_1 => fo_pr M9_1 4 a0 0 a5_0 fun M12 => fo_nw M12 (7, 2) fun a17_1 M17_1 => fo_pr M17_1 4 a0 1 a17_1 fun M20 => fo_nw M20 (7, 2) fun a25_1 M25_1 => fo_pr M25_1 4 a0 2 a25_1 fun M28 => fo_nw M28 (7, 2) fun a33_1 M33_1 => fo_pr M33_1 4 a0 3 a33_1 fun M36 => fo_gr M36 4 a0 1 fun a47 => fo_nw M36 (1, 5) fun a51_1 M51_1 => fo_cl (fn_St_init M51_1 a51_1) fun _ M55_2 => fo_sr M55_2 5 5 a47 0 a51_1 fun M58_2 => fo_gr M58_2 4 a0 2 fun a60 => fo_nw M58_2 (1, 5) fun a64_2 M64_2 => fo_cl (fn_St_init M64_2 a64_2) fun _ M68_3 => fo_sr M68_3 5 5 a60 0 a64_2 fun M71_3 => fo_gr M71_3 4 a0 3 fun a73 => fo_nw M71_3 (1, 5) fun a77_3 M77_3 => fo_cl (fn_St_init M77_3 a77_3) fun _ M81_4 => fo_sr M81_4 5 5 a73 0 a77_3 fun M84_4 => fo_gr M84_4 4 a0 1 fun a47 => fo_nw M84_4 (1, 5) fun a51_4 M51_4 => fo_cl (fn_St_init M51_4 a51_4) fun _ M55_5 => fo_sr M55_5 5 5 a47 1 a51_4 fun M58_5 => fo_gr M58_5 4 a0 2 fun a60 => fo_nw M58_5 (1, 5) fun a64_5 M64_5 => fo_cl (fn_St_init M64_5 a64_5) fun _ M68_6 => fo_sr M68_6 5 5 a60 1 a64_5 fun M71_6 => fo_gr M71_6 4 a0 3 fun a73 => fo_nw M71_6 (1, 5) fun a77_6 M77_6 => fo_cl (fn_St_init M77_6 a77_6) fun _ M81_7 => fo_sr M81_7 5 5 a73 1 a77_6 fun M84_7 => some (0, M84_7)
set_option maxHeartbeats 4000000 in
set_option maxRecDepth 100000 in
theorem cm_Se_init (l : Launch) (M : Mm) (a0 : Nat) : ct l zySe_init ws_Se_init { frames := 3, cells := 60, slots := 1200, locals := 64 } 60 1200 (fun _ => none) [.ref a0] M (fn_Se_init M a0) := by
  refine ct_of (cc := zbSe_init) (maxL := 2) (ret := none) (lv0 := [(0, .ref a0)]) (by decide) rfl (Nat.le_of_ble_eq_true rfl) rfl rfl ?_
  intro x C
  unfold fn_Se_init
  refine vj_aload_n (j := 0) C dSe_init_0 rfl rfl ?_
  refine vj_oi C dSe_init_1 k_62 k_1 k_2 (Nat.le_of_ble_eq_true rfl) (Nat.le_of_ble_eq_true rfl) ?_
  refine vj_aload_n (j := 0) C dSe_init_4 rfl rfl ?_
  refine vj_new C dSe_init_5 rfl rfl k_63 k_64 k_65 zin3 zt3 zty3 zdf3 (Nat.le_of_ble_eq_true rfl) (Nat.le_of_ble_eq_true rfl) (fun a5_0 M5_0 => ?_)
  refine vj_dup C dSe_init_8 rfl ?_
  refine vj_cIN (ret := none) (As := []) (st := [.ref a5_0, .ref a0]) (b := a5_0) (a1 := 0) C dSe_init_9 (cm_Ru_init _ _ _) (gw_self k_67) nk_Se_11 k_66 k_65 rfl rfl rfl rfl hn_Ru_init ⟨Nat.le_of_ble_eq_true rfl, Nat.le_of_ble_eq_true rfl⟩ rfl rfl (Nat.le_of_ble_eq_true rfl) ⟨Nat.le_of_ble_eq_true rfl, Nat.le_of_ble_eq_true rfl⟩ (fun _ M9_1 => ?_)
  show Vj x 3 864 12 [(0, .ref a0)] [.ref a5_0, .ref a0] M9_1 _
  refine vj_pr C dSe_init_12 lf_Se_12 lq_4_0 rfl rfl rfl (fun M12 => ?_)
  refine vj_aload_n (j := 0) C dSe_init_15 rfl rfl ?_
  refine vj_iconst (v := 2) C dSe_init_16 (by decide) ?_
  refine vj_newq (t := 5) (N := 2) C dSe_init_17 ⟨by decide, rfl⟩ k_69 (by decide) (by decide) (by decide) (by decide) (Nat.le_of_ble_eq_true rfl) (Nat.le_of_ble_eq_true rfl) (fun a17_1 M17_1 => ?_)
  refine vj_pr C dSe_init_20 lf_Se_20 lq_4_1 rfl rfl rfl (fun M20 => ?_)
  refine vj_aload_n (j := 0) C dSe_init_23 rfl rfl ?_
  refine vj_iconst (v := 2) C dSe_init_24 (by decide) ?_
  refine vj_newq (t := 5) (N := 2) C dSe_init_25 ⟨by decide, rfl⟩ k_69 (by decide) (by decide) (by decide) (by decide) (Nat.le_of_ble_eq_true rfl) (Nat.le_of_ble_eq_true rfl) (fun a25_1 M25_1 => ?_)
  refine vj_pr C dSe_init_28 lf_Se_24 lq_4_2 rfl rfl rfl (fun M28 => ?_)
  refine vj_aload_n (j := 0) C dSe_init_31 rfl rfl ?_
  refine vj_iconst (v := 2) C dSe_init_32 (by decide) ?_
  refine vj_newq (t := 5) (N := 2) C dSe_init_33 ⟨by decide, rfl⟩ k_69 (by decide) (by decide) (by decide) (by decide) (Nat.le_of_ble_eq_true rfl) (Nat.le_of_ble_eq_true rfl) (fun a33_1 M33_1 => ?_)
  refine vj_pr C dSe_init_36 lf_Se_27 lq_4_3 rfl rfl rfl (fun M36 => ?_)
  refine vj_iconst (v := 0) C dSe_init_39 (by decide) ?_
  refine vj_istore_n (lv' := [(0, .ref a0), (1, .int 0)]) C dSe_init_40 rfl (by decide) [1, 0] rfl ?_
  refine vj_iload_n (j := 1) C dSe_init_41 rfl rfl ?_
  refine vj_iconst (v := 2) C dSe_init_42 (by decide) ?_
  refine vj_ifn (q := 2 ≤ 0) (o1 := none) (by decide) (vj_icmp_ge (tgt := 91) C dSe_init_43 rfl Vj_none ?_)
  refine vj_aload_n (j := 0) C dSe_init_46 rfl rfl ?_
  refine vj_gr C dSe_init_47 lf_Se_20 rfl (fun a47 => ?_)
  refine vj_iload_n (j := 1) C dSe_init_50 rfl rfl ?_
  refine vj_new C dSe_init_51 rfl rfl k_69 k_53 k_54 zin5 zt5 zty5 zdf5 (Nat.le_of_ble_eq_true rfl) (Nat.le_of_ble_eq_true rfl) (fun a51_1 M51_1 => ?_)
  refine vj_dup C dSe_init_54 rfl ?_
  refine vj_cIN (ret := none) (As := []) (st := [.ref a51_1, .int 0, .ref a47]) (b := a51_1) (a1 := 0) C dSe_init_55 (cm_St_init _ _ _) (gw_self k_56) nk_Se_30 k_55 k_54 rfl rfl rfl rfl hn_St_init ⟨Nat.le_of_ble_eq_true rfl, Nat.le_of_ble_eq_true rfl⟩ rfl rfl (Nat.le_of_ble_eq_true rfl) ⟨Nat.le_of_ble_eq_true rfl, Nat.le_of_ble_eq_true rfl⟩ (fun _ M55_2 => ?_)
  show Vj x 15 925 58 [(0, .ref a0), (1, .int 0)] [.ref a51_1, .int 0, .ref a47] M55_2 _
  refine vj_aast (t := 5) (ci := 5) C dSe_init_58 (by decide) ⟨_, _, _, rfl, rfl⟩ (fun M58_2 => ?_)
  refine vj_aload_n (j := 0) C dSe_init_59 rfl rfl ?_
  refine vj_gr C dSe_init_60 lf_Se_24 rfl (fun a60 => ?_)
  refine vj_iload_n (j := 1) C dSe_init_63 rfl rfl ?_
  refine vj_new C dSe_init_64 rfl rfl k_69 k_53 k_54 zin5 zt5 zty5 zdf5 (Nat.le_of_ble_eq_true rfl) (Nat.le_of_ble_eq_true rfl) (fun a64_2 M64_2 => ?_)
  refine vj_dup C dSe_init_67 rfl ?_
  refine vj_cIN (ret := none) (As := []) (st := [.ref a64_2, .int 0, .ref a60]) (b := a64_2) (a1 := 0) C dSe_init_68 (cm_St_init _ _ _) (gw_self k_56) nk_Se_30 k_55 k_54 rfl rfl rfl rfl hn_St_init ⟨Nat.le_of_ble_eq_true rfl, Nat.le_of_ble_eq_true rfl⟩ rfl rfl (Nat.le_of_ble_eq_true rfl) ⟨Nat.le_of_ble_eq_true rfl, Nat.le_of_ble_eq_true rfl⟩ (fun _ M68_3 => ?_)
  show Vj x 24 980 71 [(0, .ref a0), (1, .int 0)] [.ref a64_2, .int 0, .ref a60] M68_3 _
  refine vj_aast (t := 5) (ci := 5) C dSe_init_71 (by decide) ⟨_, _, _, rfl, rfl⟩ (fun M71_3 => ?_)
  refine vj_aload_n (j := 0) C dSe_init_72 rfl rfl ?_
  refine vj_gr C dSe_init_73 lf_Se_27 rfl (fun a73 => ?_)
  refine vj_iload_n (j := 1) C dSe_init_76 rfl rfl ?_
  refine vj_new C dSe_init_77 rfl rfl k_69 k_53 k_54 zin5 zt5 zty5 zdf5 (Nat.le_of_ble_eq_true rfl) (Nat.le_of_ble_eq_true rfl) (fun a77_3 M77_3 => ?_)
  refine vj_dup C dSe_init_80 rfl ?_
  refine vj_cIN (ret := none) (As := []) (st := [.ref a77_3, .int 0, .ref a73]) (b := a77_3) (a1 := 0) C dSe_init_81 (cm_St_init _ _ _) (gw_self k_56) nk_Se_30 k_55 k_54 rfl rfl rfl rfl hn_St_init ⟨Nat.le_of_ble_eq_true rfl, Nat.le_of_ble_eq_true rfl⟩ rfl rfl (Nat.le_of_ble_eq_true rfl) ⟨Nat.le_of_ble_eq_true rfl, Nat.le_of_ble_eq_true rfl⟩ (fun _ M81_4 => ?_)
  show Vj x 33 1035 84 [(0, .ref a0), (1, .int 0)] [.ref a77_3, .int 0, .ref a73] M81_4 _
  refine vj_aast (t := 5) (ci := 5) C dSe_init_84 (by decide) ⟨_, _, _, rfl, rfl⟩ (fun M84_4 => ?_)
  refine vj_iincC (j := 1) (b := 1) (w := 1) (lv' := [(0, .ref a0), (1, .int 1)]) C dSe_init_85 rfl (by decide) (by decide) (by decide) [1, 0] rfl ?_
  refine vj_goto (tgt := 41) C dSe_init_88 rfl ?_
  refine vj_iload_n (j := 1) C dSe_init_41 rfl rfl ?_
  refine vj_iconst (v := 2) C dSe_init_42 (by decide) ?_
  refine vj_ifn (q := 2 ≤ 1) (o1 := none) (by decide) (vj_icmp_ge (tgt := 91) C dSe_init_43 rfl Vj_none ?_)
  refine vj_aload_n (j := 0) C dSe_init_46 rfl rfl ?_
  refine vj_gr C dSe_init_47 lf_Se_20 rfl (fun a47 => ?_)
  refine vj_iload_n (j := 1) C dSe_init_50 rfl rfl ?_
  refine vj_new C dSe_init_51 rfl rfl k_69 k_53 k_54 zin5 zt5 zty5 zdf5 (Nat.le_of_ble_eq_true rfl) (Nat.le_of_ble_eq_true rfl) (fun a51_4 M51_4 => ?_)
  refine vj_dup C dSe_init_54 rfl ?_
  refine vj_cIN (ret := none) (As := []) (st := [.ref a51_4, .int 1, .ref a47]) (b := a51_4) (a1 := 0) C dSe_init_55 (cm_St_init _ _ _) (gw_self k_56) nk_Se_30 k_55 k_54 rfl rfl rfl rfl hn_St_init ⟨Nat.le_of_ble_eq_true rfl, Nat.le_of_ble_eq_true rfl⟩ rfl rfl (Nat.le_of_ble_eq_true rfl) ⟨Nat.le_of_ble_eq_true rfl, Nat.le_of_ble_eq_true rfl⟩ (fun _ M55_5 => ?_)
  show Vj x 42 1090 58 [(0, .ref a0), (1, .int 1)] [.ref a51_4, .int 1, .ref a47] M55_5 _
  refine vj_aast (t := 5) (ci := 5) C dSe_init_58 (by decide) ⟨_, _, _, rfl, rfl⟩ (fun M58_5 => ?_)
  refine vj_aload_n (j := 0) C dSe_init_59 rfl rfl ?_
  refine vj_gr C dSe_init_60 lf_Se_24 rfl (fun a60 => ?_)
  refine vj_iload_n (j := 1) C dSe_init_63 rfl rfl ?_
  refine vj_new C dSe_init_64 rfl rfl k_69 k_53 k_54 zin5 zt5 zty5 zdf5 (Nat.le_of_ble_eq_true rfl) (Nat.le_of_ble_eq_true rfl) (fun a64_5 M64_5 => ?_)
  refine vj_dup C dSe_init_67 rfl ?_
  refine vj_cIN (ret := none) (As := []) (st := [.ref a64_5, .int 1, .ref a60]) (b := a64_5) (a1 := 0) C dSe_init_68 (cm_St_init _ _ _) (gw_self k_56) nk_Se_30 k_55 k_54 rfl rfl rfl rfl hn_St_init ⟨Nat.le_of_ble_eq_true rfl, Nat.le_of_ble_eq_true rfl⟩ rfl rfl (Nat.le_of_ble_eq_true rfl) ⟨Nat.le_of_ble_eq_true rfl, Nat.le_of_ble_eq_true rfl⟩ (fun _ M68_6 => ?_)
  show Vj x 51 1145 71 [(0, .ref a0), (1, .int 1)] [.ref a64_5, .int 1, .ref a60] M68_6 _
  refine vj_aast (t := 5) (ci := 5) C dSe_init_71 (by decide) ⟨_, _, _, rfl, rfl⟩ (fun M71_6 => ?_)
  refine vj_aload_n (j := 0) C dSe_init_72 rfl rfl ?_
  refine vj_gr C dSe_init_73 lf_Se_27 rfl (fun a73 => ?_)
  refine vj_iload_n (j := 1) C dSe_init_76 rfl rfl ?_
  refine vj_new C dSe_init_77 rfl rfl k_69 k_53 k_54 zin5 zt5 zty5 zdf5 (Nat.le_of_ble_eq_true rfl) (Nat.le_of_ble_eq_true rfl) (fun a77_6 M77_6 => ?_)
  refine vj_dup C dSe_init_80 rfl ?_
  refine vj_cIN (ret := none) (As := []) (st := [.ref a77_6, .int 1, .ref a73]) (b := a77_6) (a1 := 0) C dSe_init_81 (cm_St_init _ _ _) (gw_self k_56) nk_Se_30 k_55 k_54 rfl rfl rfl rfl hn_St_init ⟨Nat.le_of_ble_eq_true rfl, Nat.le_of_ble_eq_true rfl⟩ rfl rfl (Nat.le_of_ble_eq_true rfl) ⟨Nat.le_of_ble_eq_true rfl, Nat.le_of_ble_eq_true rfl⟩ (fun _ M81_7 => ?_)
  show Vj x 60 1200 84 [(0, .ref a0), (1, .int 1)] [.ref a77_6, .int 1, .ref a73] M81_7 _
  refine vj_aast (t := 5) (ci := 5) C dSe_init_84 (by decide) ⟨_, _, _, rfl, rfl⟩ (fun M84_7 => ?_)
  refine vj_iincC (j := 1) (b := 1) (w := 2) (lv' := [(0, .ref a0), (1, .int 2)]) C dSe_init_85 rfl (by decide) (by decide) (by decide) [1, 0] rfl ?_
  refine vj_goto (tgt := 41) C dSe_init_88 rfl ?_
  refine vj_iload_n (j := 1) C dSe_init_41 rfl rfl ?_
  refine vj_iconst (v := 2) C dSe_init_42 (by decide) ?_
  refine vj_if (q := 2 ≤ 2) (o2 := none) (by decide) (vj_icmp_ge (tgt := 91) C dSe_init_43 rfl ?_ Vj_none)
  exact vj_retv C dSe_init_91 rfl rfl (Nat.le_of_ble_eq_true rfl) (Nat.le_of_ble_eq_true rfl)
def fn_Pm_init (M : Mm) (a0 : Nat) : Rr := fo_nw M (1, 7) fun a5_0 M5_0 => fo_cl (fn_Tx_init M5_0 a5_0) fun _ M9_1 => fo_pr M9_1 8 a0 0 a5_0 fun M12 => fo_pi M12 8 a0 1 (-1) fun M17 => fo_pz M17 8 a0 2 0 fun M22 => fo_nw M22 (1, 0) fun a26_1 M26_1 => fo_cl (fn_Ag_init M26_1 a26_1) fun _ M30_2 => fo_pr M30_2 8 a0 3 a26_1 fun M33 => fo_nw M33 (1, 0) fun a37_2 M37_2 => fo_cl (fn_Ag_init M37_2 a37_2) fun _ M41_3 => fo_pr M41_3 8 a0 4 a37_2 fun M44 => fo_nw M44 (1, 5) fun a48_3 M48_3 => fo_cl (fn_St_init M48_3 a48_3) fun _ M52_4 => fo_pr M52_4 8 a0 5 a48_3 fun M55 => fo_nw M55 (1, 5) fun a59_4 M59_4 => fo_cl (fn_St_init M59_4 a59_4) fun _ M63_5 => fo_pr M63_5 8 a0 6 a59_4 fun M66 => fo_nw M66 (1, 2) fun a70_5 M70_5 => fo_cl (fn_Hi_init M70_5 a70_5) fun _ M74_6 => fo_pr M74_6 8 a0 7 a70_5 fun M77 => fo_nw M77 (1, 4) fun a81_6 M81_6 => fo_cl (fn_Se_init M81_6 a81_6) fun _ M85_7 => fo_pr M85_7 8 a0 8 a81_6 fun M88 => fo_gr M88 8 a0 8 fun a93 => fo_gr M88 4 a93 0 fun a96 => fo_pr M88 8 a0 9 a96 fun M99 => some (0, M99)
set_option maxHeartbeats 4000000 in
set_option maxRecDepth 100000 in
theorem cm_Pm_init (l : Launch) (M : Mm) (a0 : Nat) : ct l zyPm_init ws_Pm_init { frames := 4, cells := 215, slots := 2399, locals := 85 } 215 2399 (fun _ => none) [.ref a0] M (fn_Pm_init M a0) := by
  refine ct_of (cc := zbPm_init) (maxL := 1) (ret := none) (lv0 := [(0, .ref a0)]) (by decide) rfl (Nat.le_of_ble_eq_true rfl) rfl rfl ?_
  intro x C
  unfold fn_Pm_init
  refine vj_aload_n (j := 0) C dPm_init_0 rfl rfl ?_
  refine vj_oi C dPm_init_1 k_73 k_1 k_2 (Nat.le_of_ble_eq_true rfl) (Nat.le_of_ble_eq_true rfl) ?_
  refine vj_aload_n (j := 0) C dPm_init_4 rfl rfl ?_
  refine vj_new C dPm_init_5 rfl rfl k_74 k_75 k_76 zin7 zt7 zty7 zdf7 (Nat.le_of_ble_eq_true rfl) (Nat.le_of_ble_eq_true rfl) (fun a5_0 M5_0 => ?_)
  refine vj_dup C dPm_init_8 rfl ?_
  refine vj_cIN (ret := none) (As := []) (st := [.ref a5_0, .ref a0]) (b := a5_0) (a1 := 0) C dPm_init_9 (cm_Tx_init _ _ _) (gw_self k_78) nk_Pm_9 k_77 k_76 rfl rfl rfl rfl hn_Tx_init ⟨Nat.le_of_ble_eq_true rfl, Nat.le_of_ble_eq_true rfl⟩ rfl rfl (Nat.le_of_ble_eq_true rfl) ⟨Nat.le_of_ble_eq_true rfl, Nat.le_of_ble_eq_true rfl⟩ (fun _ M9_1 => ?_)
  show Vj x 2 126 12 [(0, .ref a0)] [.ref a5_0, .ref a0] M9_1 _
  refine vj_pr C dPm_init_12 lf_Pm_10 lq_8_0 rfl rfl rfl (fun M12 => ?_)
  refine vj_aload_n (j := 0) C dPm_init_15 rfl rfl ?_
  refine vj_iconst (v := (-1)) C dPm_init_16 (by decide) ?_
  refine vj_pi C dPm_init_17 lf_Pm_16 lq_8_1 rfl (fun M17 => ?_)
  refine vj_aload_n (j := 0) C dPm_init_20 rfl rfl ?_
  refine vj_iconst (v := 0) C dPm_init_21 (by decide) ?_
  refine vj_pz C dPm_init_22 lf_Pm_20 lq_8_2 rfl (fun M22 => ?_)
  refine vj_aload_n (j := 0) C dPm_init_25 rfl rfl ?_
  refine vj_new C dPm_init_26 rfl rfl k_82 k_83 k_84 zin0 zt0 zty0 zdf0 (Nat.le_of_ble_eq_true rfl) (Nat.le_of_ble_eq_true rfl) (fun a26_1 M26_1 => ?_)
  refine vj_dup C dPm_init_29 rfl ?_
  refine vj_cI (ret := none) (As := []) (st := [.ref a26_1, .ref a0]) (b := a26_1) (a1 := 0) C dPm_init_30 (cm_Ag_init _ _ _) (gw_self k_87) k_86 k_85 k_84 rfl rfl rfl rfl hn_Ag_init ⟨Nat.le_of_ble_eq_true rfl, Nat.le_of_ble_eq_true rfl⟩ rfl rfl (Nat.le_of_ble_eq_true rfl) ⟨Nat.le_of_ble_eq_true rfl, Nat.le_of_ble_eq_true rfl⟩ (fun _ M30_2 => ?_)
  show Vj x 14 268 33 [(0, .ref a0)] [.ref a26_1, .ref a0] M30_2 _
  refine vj_pr C dPm_init_33 lf_Pm_27 lq_8_3 rfl rfl rfl (fun M33 => ?_)
  refine vj_aload_n (j := 0) C dPm_init_36 rfl rfl ?_
  refine vj_new C dPm_init_37 rfl rfl k_82 k_83 k_84 zin0 zt0 zty0 zdf0 (Nat.le_of_ble_eq_true rfl) (Nat.le_of_ble_eq_true rfl) (fun a37_2 M37_2 => ?_)
  refine vj_dup C dPm_init_40 rfl ?_
  refine vj_cI (ret := none) (As := []) (st := [.ref a37_2, .ref a0]) (b := a37_2) (a1 := 0) C dPm_init_41 (cm_Ag_init _ _ _) (gw_self k_87) k_86 k_85 k_84 rfl rfl rfl rfl hn_Ag_init ⟨Nat.le_of_ble_eq_true rfl, Nat.le_of_ble_eq_true rfl⟩ rfl rfl (Nat.le_of_ble_eq_true rfl) ⟨Nat.le_of_ble_eq_true rfl, Nat.le_of_ble_eq_true rfl⟩ (fun _ M41_3 => ?_)
  show Vj x 26 410 44 [(0, .ref a0)] [.ref a37_2, .ref a0] M41_3 _
  refine vj_pr C dPm_init_44 lf_Pm_31 lq_8_4 rfl rfl rfl (fun M44 => ?_)
  refine vj_aload_n (j := 0) C dPm_init_47 rfl rfl ?_
  refine vj_new C dPm_init_48 rfl rfl k_90 k_53 k_54 zin5 zt5 zty5 zdf5 (Nat.le_of_ble_eq_true rfl) (Nat.le_of_ble_eq_true rfl) (fun a48_3 M48_3 => ?_)
  refine vj_dup C dPm_init_51 rfl ?_
  refine vj_cIN (ret := none) (As := []) (st := [.ref a48_3, .ref a0]) (b := a48_3) (a1 := 0) C dPm_init_52 (cm_St_init _ _ _) (gw_self k_56) nk_Pm_36 k_55 k_54 rfl rfl rfl rfl hn_St_init ⟨Nat.le_of_ble_eq_true rfl, Nat.le_of_ble_eq_true rfl⟩ rfl rfl (Nat.le_of_ble_eq_true rfl) ⟨Nat.le_of_ble_eq_true rfl, Nat.le_of_ble_eq_true rfl⟩ (fun _ M52_4 => ?_)
  show Vj x 35 465 55 [(0, .ref a0)] [.ref a48_3, .ref a0] M52_4 _
  refine vj_pr C dPm_init_55 lf_Pm_37 lq_8_5 rfl rfl rfl (fun M55 => ?_)
  refine vj_aload_n (j := 0) C dPm_init_58 rfl rfl ?_
  refine vj_new C dPm_init_59 rfl rfl k_90 k_53 k_54 zin5 zt5 zty5 zdf5 (Nat.le_of_ble_eq_true rfl) (Nat.le_of_ble_eq_true rfl) (fun a59_4 M59_4 => ?_)
  refine vj_dup C dPm_init_62 rfl ?_
  refine vj_cIN (ret := none) (As := []) (st := [.ref a59_4, .ref a0]) (b := a59_4) (a1 := 0) C dPm_init_63 (cm_St_init _ _ _) (gw_self k_56) nk_Pm_36 k_55 k_54 rfl rfl rfl rfl hn_St_init ⟨Nat.le_of_ble_eq_true rfl, Nat.le_of_ble_eq_true rfl⟩ rfl rfl (Nat.le_of_ble_eq_true rfl) ⟨Nat.le_of_ble_eq_true rfl, Nat.le_of_ble_eq_true rfl⟩ (fun _ M63_5 => ?_)
  show Vj x 44 520 66 [(0, .ref a0)] [.ref a59_4, .ref a0] M63_5 _
  refine vj_pr C dPm_init_66 lf_Pm_41 lq_8_6 rfl rfl rfl (fun M66 => ?_)
  refine vj_aload_n (j := 0) C dPm_init_69 rfl rfl ?_
  refine vj_new C dPm_init_70 rfl rfl k_93 k_94 k_95 zin2 zt2 zty2 zdf2 (Nat.le_of_ble_eq_true rfl) (Nat.le_of_ble_eq_true rfl) (fun a70_5 M70_5 => ?_)
  refine vj_dup C dPm_init_73 rfl ?_
  refine vj_cI (ret := none) (As := []) (st := [.ref a70_5, .ref a0]) (b := a70_5) (a1 := 0) C dPm_init_74 (cm_Hi_init _ _ _) (gw_self k_98) k_97 k_96 k_95 rfl rfl rfl rfl hn_Hi_init ⟨Nat.le_of_ble_eq_true rfl, Nat.le_of_ble_eq_true rfl⟩ rfl rfl (Nat.le_of_ble_eq_true rfl) ⟨Nat.le_of_ble_eq_true rfl, Nat.le_of_ble_eq_true rfl⟩ (fun _ M74_6 => ?_)
  show Vj x 154 1195 77 [(0, .ref a0)] [.ref a70_5, .ref a0] M74_6 _
  refine vj_pr C dPm_init_77 lf_Pm_47 lq_8_7 rfl rfl rfl (fun M77 => ?_)
  refine vj_aload_n (j := 0) C dPm_init_80 rfl rfl ?_
  refine vj_new C dPm_init_81 rfl rfl k_100 k_101 k_102 zin4 zt4 zty4 zdf4 (Nat.le_of_ble_eq_true rfl) (Nat.le_of_ble_eq_true rfl) (fun a81_6 M81_6 => ?_)
  refine vj_dup C dPm_init_84 rfl ?_
  refine vj_cI (ret := none) (As := []) (st := [.ref a81_6, .ref a0]) (b := a81_6) (a1 := 0) C dPm_init_85 (cm_Se_init _ _ _) (gw_self k_105) k_104 k_103 k_102 rfl rfl rfl rfl hn_Se_init ⟨Nat.le_of_ble_eq_true rfl, Nat.le_of_ble_eq_true rfl⟩ rfl rfl (Nat.le_of_ble_eq_true rfl) ⟨Nat.le_of_ble_eq_true rfl, Nat.le_of_ble_eq_true rfl⟩ (fun _ M85_7 => ?_)
  show Vj x 215 2399 88 [(0, .ref a0)] [.ref a81_6, .ref a0] M85_7 _
  refine vj_pr C dPm_init_88 lf_Pm_54 lq_8_8 rfl rfl rfl (fun M88 => ?_)
  refine vj_aload_n (j := 0) C dPm_init_91 rfl rfl ?_
  refine vj_aload_n (j := 0) C dPm_init_92 rfl rfl ?_
  refine vj_gr C dPm_init_93 lf_Pm_54 rfl (fun a93 => ?_)
  refine vj_gr C dPm_init_96 lf_Pm_58 rfl (fun a96 => ?_)
  refine vj_pr C dPm_init_99 lf_Pm_62 lq_8_9 rfl rfl rfl (fun M99 => ?_)
  exact vj_retv C dPm_init_102 rfl rfl (Nat.le_of_ble_eq_true rfl) (Nat.le_of_ble_eq_true rfl)
def fn_Tx_characterOf (M : Mm) (p0 : Int64) (p2 : Int32) : Rr := some (((((p0.toUInt64 >>> ((8 * p2).toInt64.toUInt64 &&& Int64.toUInt64 63)).toInt64).toInt32) &&& 255), M)
set_option maxHeartbeats 4000000 in
set_option maxRecDepth 100000 in
theorem cm_Tx_characterOf (l : Launch) (M : Mm) (p0 : Int64) (p2 : Int32) : ct l zyTx_characterOf ws_Tx_characterOf { frames := 0, cells := 0, slots := 0, locals := 0 } 0 0 (fun w => some (.int w)) [.long p0, .int p2] M (fn_Tx_characterOf M p0 p2) := by
  refine ct_of (cc := zbTx_characterOf) (maxL := 3) (ret := (some .int)) (lv0 := [(0, .long p0), (2, .int p2)]) (by decide) rfl (Nat.le_of_ble_eq_true rfl) rfl rfl ?_
  intro x C
  unfold fn_Tx_characterOf
  refine vj_lload_n (j := 0) C dTx_characterOf_0 rfl rfl ?_
  refine vj_bipush (v := 8) C dTx_characterOf_1 (by decide) ?_
  refine vj_iload_n (j := 1) C dTx_characterOf_3 rfl rfl ?_
  refine vj_imul C dTx_characterOf_4 ?_
  refine vj_lushr C dTx_characterOf_5 ?_
  refine vj_l2i C dTx_characterOf_6 ?_
  refine vj_sipush (v := 255) C dTx_characterOf_7 (by decide) ?_
  refine vj_iand C dTx_characterOf_10 ?_
  exact vj_ret C dTx_characterOf_11 rfl rfl (Nat.le_of_ble_eq_true rfl) (Nat.le_of_ble_eq_true rfl)
def lp_Tx_put_61 (a0 : Nat) (p1 : Int64) (w2_3 : Int32) (g61 : Mm → Int32 → Rr) (Mh61 : Mm) (w61_4 : Int32) : Rr := if w2_3 ≤ w61_4 then fo_gi Mh61 7 a0 1 fun v94 => fo_pi Mh61 7 a0 1 (v94 + w2_3) fun M99 => fo_rz 1 M99 else fo_gr Mh61 7 a0 0 fun a68 => fo_gi Mh61 7 a0 1 fun v72 => fo_cl (fn_Tx_characterOf Mh61 p1 w61_4) fun v81 M81 => fo_sc M81 a68 (v72 + w61_4) ((v81.toUInt32 % 65536).toInt32) fun M85 => g61 M85 (w61_4 + 1)
def lp_Tx_put_2 (a0 : Nat) (p1 : Int64) (g2 : Mm → Int32 → Rr) (Mh2 : Mm) (w2_3 : Int32) : Rr := fo_jp (fun (Mj45 : Mm) => fo_gi Mj45 7 a0 1 fun v46 => if (v46 + w2_3) ≤ 120 then fo_fx (fun _ _ => none) (lp_Tx_put_61 a0 p1 w2_3) fo_N Mj45 0 else fo_rz 0 Mj45) (fun j45 => if 8 ≤ w2_3 then j45 Mh2 else fo_cl (fn_Tx_characterOf Mh2 p1 w2_3) fun v10 M10 => if v10 = 0 then j45 M10 else fo_cl (fn_Tx_characterOf M10 p1 w2_3) fun v18 M18 => if v18 < 33 then fo_rz 0 M18 else if v18 ≤ 126 then g2 M18 (w2_3 + 1) else fo_rz 0 M18)
def fn_Tx_put (M : Mm) (a0 : Nat) (p1 : Int64) : Rr := fo_fx (fun _ _ => none) (lp_Tx_put_2 a0 p1) fo_N M 0
set_option maxHeartbeats 4000000 in
set_option maxRecDepth 100000 in
theorem cm_Tx_put (l : Launch) (M : Mm) (a0 : Nat) (p1 : Int64) : ct l zyTx_put ws_Tx_put { frames := 1, cells := 0, slots := 0, locals := 22 } 0 0 (fun w => some (.int w)) [.ref a0, .long p1] M (fn_Tx_put M a0 p1) := by
  refine ct_of (cc := zbTx_put) (maxL := 5) (ret := (some .boolean)) (lv0 := [(0, .ref a0), (1, .long p1)]) (by decide) rfl (Nat.le_of_ble_eq_true rfl) rfl rfl ?_
  intro x C
  unfold fn_Tx_put
  refine vj_iconst (v := 0) C dTx_put_0 (by decide) ?_
  refine vj_istore_n (lv' := [(0, .ref a0), (1, .long p1), (3, .int 0)]) C dTx_put_1 rfl (by decide) [1, 2, 0] rfl ?_
  have hg2x : ∀ nf Mh2 w2_3, Vj x 0 0 2 [(0, .ref a0), (1, .long p1), (3, .int w2_3)] [] Mh2 (fo_fx (fun _ _ => none) (lp_Tx_put_2 a0 p1) nf Mh2 w2_3) := by
    intro nf
    refine fo_fx_P (fun (j : Mm → Int32 → Rr) => ∀ Mh2 w2_3, Vj x 0 0 2 [(0, .ref a0), (1, .long p1), (3, .int w2_3)] [] Mh2 (j Mh2 w2_3)) (fun _ _ => Vj_none) ?_ nf
    intro g2 hg2 Mh2 w2_3
    unfold lp_Tx_put_2
    refine vj_iload_n (j := 2) C dTx_put_2 rfl rfl ?_
    refine vj_bipush (v := 8) C dTx_put_3 (by decide) ?_
    refine vj_jp (fun (j : Mm → Rr) => ∀ Mj45, Vj x 0 0 45 [(0, .ref a0), (1, .long p1), (3, .int w2_3)] [] Mj45 (j Mj45)) ?_ ?_
    · intro Mj45
      refine vj_aload_n (j := 0) C dTx_put_45 rfl rfl ?_
      refine vj_gi C dTx_put_46 lf_Tx_15 rfl (fun v46 => ?_)
      refine vj_iload_n (j := 2) C dTx_put_49 rfl rfl ?_
      refine vj_iadd C dTx_put_50 ?_
      refine vj_bipush (v := 120) C dTx_put_51 (by decide) ?_
      refine vj_icmp_le (tgt := 58) C dTx_put_53 rfl ?_ ?_
      · skip
        refine vj_iconst (v := 0) C dTx_put_58 (by decide) ?_
        refine vj_istore (lv' := [(0, .ref a0), (1, .long p1), (3, .int w2_3), (4, .int 0)]) C dTx_put_59 (by decide) [1, 2, 3, 0] rfl ?_
        have hg61x : ∀ nf Mh61 w61_4, Vj x 0 0 61 [(0, .ref a0), (1, .long p1), (3, .int w2_3), (4, .int w61_4)] [] Mh61 (fo_fx (fun _ _ => none) (lp_Tx_put_61 a0 p1 w2_3) nf Mh61 w61_4) := by
          intro nf
          refine fo_fx_P (fun (j : Mm → Int32 → Rr) => ∀ Mh61 w61_4, Vj x 0 0 61 [(0, .ref a0), (1, .long p1), (3, .int w2_3), (4, .int w61_4)] [] Mh61 (j Mh61 w61_4)) (fun _ _ => Vj_none) ?_ nf
          intro g61 hg61 Mh61 w61_4
          unfold lp_Tx_put_61
          refine vj_iload (j := 3) C dTx_put_61 rfl ?_
          refine vj_iload_n (j := 2) C dTx_put_63 rfl rfl ?_
          refine vj_icmp_ge (tgt := 92) C dTx_put_64 rfl ?_ ?_
          · skip
            refine vj_aload_n (j := 0) C dTx_put_92 rfl rfl ?_
            refine vj_dup C dTx_put_93 rfl ?_
            refine vj_gi C dTx_put_94 lf_Tx_15 rfl (fun v94 => ?_)
            refine vj_iload_n (j := 2) C dTx_put_97 rfl rfl ?_
            refine vj_iadd C dTx_put_98 ?_
            refine vj_pi C dTx_put_99 lf_Tx_15 lq_7_1 rfl (fun M99 => ?_)
            refine vj_iconst (v := 1) C dTx_put_102 (by decide) ?_
            exact vj_retz C dTx_put_103 rfl rfl (Nat.le_of_ble_eq_true rfl) (Nat.le_of_ble_eq_true rfl)
          · skip
            refine vj_aload_n (j := 0) C dTx_put_67 rfl rfl ?_
            refine vj_gr C dTx_put_68 lf_Tx_9 rfl (fun a68 => ?_)
            refine vj_aload_n (j := 0) C dTx_put_71 rfl rfl ?_
            refine vj_gi C dTx_put_72 lf_Tx_15 rfl (fun v72 => ?_)
            refine vj_iload (j := 3) C dTx_put_75 rfl ?_
            refine vj_iadd C dTx_put_77 ?_
            refine vj_lload_n (j := 1) C dTx_put_78 rfl rfl ?_
            refine vj_iload (j := 3) C dTx_put_79 rfl ?_
            refine vj_cS (As := [.long p1, .int w61_4]) (st := [.int (v72 + w61_4), .ref a68]) (a1 := 2) C dTx_put_81 (cm_Tx_characterOf _ _ _ _) gs_Tx_31 rfl rfl rfl hs_Tx_characterOf ⟨Nat.le_of_ble_eq_true rfl, Nat.le_of_ble_eq_true rfl⟩ rfl rfl (Nat.le_of_ble_eq_true rfl) ⟨Nat.le_of_ble_eq_true rfl, Nat.le_of_ble_eq_true rfl⟩ (fun v81 M81 => ?_)
            show Vj x 0 0 84 [(0, .ref a0), (1, .long p1), (3, .int w2_3), (4, .int w61_4)] [.int v81, .int (v72 + w61_4), .ref a68] M81 _
            refine vj_i2c C dTx_put_84 ?_
            refine vj_cast C dTx_put_85 (fun M85 => ?_)
            refine vj_iinc (j := 3) (b := 1) (lv' := [(0, .ref a0), (1, .long p1), (3, .int w2_3), (4, .int (w61_4 + 1))]) C dTx_put_86 rfl (by decide) (by decide) [1, 2, 3, 0] rfl ?_
            refine vj_goto (tgt := 61) C dTx_put_89 rfl ?_
            exact hg61 _ _
        exact hg61x _ _ _
      · skip
        refine vj_iconst (v := 0) C dTx_put_56 (by decide) ?_
        exact vj_retz C dTx_put_57 rfl rfl (Nat.le_of_ble_eq_true rfl) (Nat.le_of_ble_eq_true rfl)
    · intro j45 hj45
      refine vj_icmp_ge (tgt := 45) C dTx_put_5 rfl ?_ ?_
      · skip
        exact hj45 _
      · skip
        refine vj_lload_n (j := 1) C dTx_put_8 rfl rfl ?_
        refine vj_iload_n (j := 2) C dTx_put_9 rfl rfl ?_
        refine vj_cS (As := [.long p1, .int w2_3]) (st := []) (a1 := 2) C dTx_put_10 (cm_Tx_characterOf _ _ _ _) gs_Tx_31 rfl rfl rfl hs_Tx_characterOf ⟨Nat.le_of_ble_eq_true rfl, Nat.le_of_ble_eq_true rfl⟩ rfl rfl (Nat.le_of_ble_eq_true rfl) ⟨Nat.le_of_ble_eq_true rfl, Nat.le_of_ble_eq_true rfl⟩ (fun v10 M10 => ?_)
        show Vj x 0 0 13 [(0, .ref a0), (1, .long p1), (3, .int w2_3)] [.int v10] M10 _
        refine vj_if_eq (tgt := 45) C dTx_put_13 rfl ?_ ?_
        · skip
          exact hj45 _
        · skip
          refine vj_lload_n (j := 1) C dTx_put_16 rfl rfl ?_
          refine vj_iload_n (j := 2) C dTx_put_17 rfl rfl ?_
          refine vj_cS (As := [.long p1, .int w2_3]) (st := []) (a1 := 2) C dTx_put_18 (cm_Tx_characterOf _ _ _ _) gs_Tx_31 rfl rfl rfl hs_Tx_characterOf ⟨Nat.le_of_ble_eq_true rfl, Nat.le_of_ble_eq_true rfl⟩ rfl rfl (Nat.le_of_ble_eq_true rfl) ⟨Nat.le_of_ble_eq_true rfl, Nat.le_of_ble_eq_true rfl⟩ (fun v18 M18 => ?_)
          show Vj x 0 0 21 [(0, .ref a0), (1, .long p1), (3, .int w2_3)] [.int v18] M18 _
          refine vj_istore (lv' := [(0, .ref a0), (1, .long p1), (3, .int w2_3), (4, .int v18)]) C dTx_put_21 (by decide) [1, 2, 3, 0] rfl ?_
          refine vj_iload (j := 3) C dTx_put_23 rfl ?_
          refine vj_bipush (v := 33) C dTx_put_25 (by decide) ?_
          refine vj_icmp_lt (tgt := 37) C dTx_put_27 rfl ?_ ?_
          · skip
            refine vj_iconst (v := 0) C dTx_put_37 (by decide) ?_
            exact vj_retz C dTx_put_38 rfl rfl (Nat.le_of_ble_eq_true rfl) (Nat.le_of_ble_eq_true rfl)
          · skip
            refine vj_iload (j := 3) C dTx_put_30 rfl ?_
            refine vj_bipush (v := 126) C dTx_put_32 (by decide) ?_
            refine vj_icmp_le (tgt := 39) C dTx_put_34 rfl ?_ ?_
            · skip
              refine vj_iinc (j := 2) (b := 1) (lv' := [(0, .ref a0), (1, .long p1), (3, .int (w2_3 + 1))]) C dTx_put_39 rfl (by decide) (by decide) [1, 2, 0] rfl ?_
              refine vj_goto (tgt := 2) C dTx_put_42 rfl ?_
              exact hg2 _ _
            · skip
              refine vj_iconst (v := 0) C dTx_put_37 (by decide) ?_
              exact vj_retz C dTx_put_38 rfl rfl (Nat.le_of_ble_eq_true rfl) (Nat.le_of_ble_eq_true rfl)
  exact hg2x _ _ _
def fn_Pm_type (M : Mm) (a0 : Nat) (p1 : Int64) : Rr := fo_gr M 8 a0 0 fun a1 => fo_cv M 7 a1 (fn_Tx_put M a1 p1) fun v5 M5 => fo_rz v5 M5
set_option maxHeartbeats 4000000 in
set_option maxRecDepth 100000 in
theorem cm_Pm_type (l : Launch) (M : Mm) (a0 : Nat) (p1 : Int64) : ct l zyPm_type ws_Pm_type { frames := 2, cells := 0, slots := 0, locals := 46 } 0 0 (fun w => some (.int w)) [.ref a0, .long p1] M (fn_Pm_type M a0 p1) := by
  refine ct_of (cc := zbPm_type) (maxL := 3) (ret := (some .boolean)) (lv0 := [(0, .ref a0), (1, .long p1)]) (by decide) rfl (Nat.le_of_ble_eq_true rfl) rfl rfl ?_
  intro x C
  unfold fn_Pm_type
  refine vj_aload_n (j := 0) C dPm_type_0 rfl rfl ?_
  refine vj_gr C dPm_type_1 lf_Pm_10 rfl (fun a1 => ?_)
  refine vj_lload_n (j := 1) C dPm_type_4 rfl rfl ?_
  refine vj_cV (ci := 7) (As := [.long p1]) (st := []) (b := a1) (a1 := 1) C dPm_type_5 (cm_Tx_put _ _ _ _) rfl gv_Pm_63 rfl rfl rfl hv_Tx_put ⟨Nat.le_of_ble_eq_true rfl, Nat.le_of_ble_eq_true rfl⟩ rfl rfl (Nat.le_of_ble_eq_true rfl) ⟨Nat.le_of_ble_eq_true rfl, Nat.le_of_ble_eq_true rfl⟩ (fun v5 M5 => ?_)
  show Vj x 0 0 8 [(0, .ref a0), (1, .long p1)] [.int v5] M5 _
  exact vj_retz C dPm_type_8 rfl rfl (Nat.le_of_ble_eq_true rfl) (Nat.le_of_ble_eq_true rfl)
def fn_Pm_erase (M : Mm) (a0 : Nat) : Rr := fo_gr M 8 a0 0 fun a1 => fo_gi M 7 a1 1 fun v4 => fo_gr M 8 a0 0 fun a9 => fo_pi M 7 a9 1 0 fun M13 => some (v4, M13)
set_option maxHeartbeats 4000000 in
set_option maxRecDepth 100000 in
theorem cm_Pm_erase (l : Launch) (M : Mm) (a0 : Nat) : ct l zyPm_erase ws_Pm_erase { frames := 0, cells := 0, slots := 0, locals := 0 } 0 0 (fun w => some (.int w)) [.ref a0] M (fn_Pm_erase M a0) := by
  refine ct_of (cc := zbPm_erase) (maxL := 2) (ret := (some .int)) (lv0 := [(0, .ref a0)]) (by decide) rfl (Nat.le_of_ble_eq_true rfl) rfl rfl ?_
  intro x C
  unfold fn_Pm_erase
  refine vj_aload_n (j := 0) C dPm_erase_0 rfl rfl ?_
  refine vj_gr C dPm_erase_1 lf_Pm_10 rfl (fun a1 => ?_)
  refine vj_gi C dPm_erase_4 lf_Pm_67 rfl (fun v4 => ?_)
  refine vj_istore_n (lv' := [(0, .ref a0), (1, .int v4)]) C dPm_erase_7 rfl (by decide) [1, 0] rfl ?_
  refine vj_aload_n (j := 0) C dPm_erase_8 rfl rfl ?_
  refine vj_gr C dPm_erase_9 lf_Pm_10 rfl (fun a9 => ?_)
  refine vj_iconst (v := 0) C dPm_erase_12 (by decide) ?_
  refine vj_pi C dPm_erase_13 lf_Pm_67 lq_7_1 rfl (fun M13 => ?_)
  refine vj_iload_n (j := 1) C dPm_erase_16 rfl rfl ?_
  exact vj_ret C dPm_erase_17 rfl rfl (Nat.le_of_ble_eq_true rfl) (Nat.le_of_ble_eq_true rfl)
def fn_Pm_free (M : Mm) (a0 : Nat) (p1 : Int32) : Rr := fo_gi M 8 a0 2 fun v1 => if v1 = 0 then if p1 < 0 then fo_rz 0 M else if p1 ≤ 60 then fo_gr M 8 a0 9 fun a20 => fo_gr M 3 a20 0 fun a23 => fo_gr M 8 a0 9 fun a28 => fo_gr M 3 a28 0 fun a31 => fo_ai M 1 a31 p1 fun v35 => fo_jp (fun (s44_2 : Int32) => fo_sz M a23 p1 s44_2 fun M44 => fo_gr M44 8 a0 9 fun a46 => fo_gr M44 3 a46 0 fun a49 => fo_ai M44 1 a49 p1 fun v53 => fo_rz v53 M44) (fun j44 => if v35 = 0 then j44 1 else j44 0) else fo_rz 0 M else fo_rz 0 M
set_option maxHeartbeats 4000000 in
set_option maxRecDepth 100000 in
theorem cm_Pm_free (l : Launch) (M : Mm) (a0 : Nat) (p1 : Int32) : ct l zyPm_free ws_Pm_free { frames := 0, cells := 0, slots := 0, locals := 0 } 0 0 (fun w => some (.int w)) [.ref a0, .int p1] M (fn_Pm_free M a0 p1) := by
  refine ct_of (cc := zbPm_free) (maxL := 2) (ret := (some .boolean)) (lv0 := [(0, .ref a0), (1, .int p1)]) (by decide) rfl (Nat.le_of_ble_eq_true rfl) rfl rfl ?_
  intro x C
  unfold fn_Pm_free
  refine vj_aload_n (j := 0) C dPm_free_0 rfl rfl ?_
  refine vj_gi C dPm_free_1 lf_Pm_20 rfl (fun v1 => ?_)
  refine vj_if_ne (tgt := 17) C dPm_free_4 rfl ?_ ?_
  · skip
    refine vj_iconst (v := 0) C dPm_free_17 (by decide) ?_
    exact vj_retz C dPm_free_18 rfl rfl (Nat.le_of_ble_eq_true rfl) (Nat.le_of_ble_eq_true rfl)
  · skip
    refine vj_iload_n (j := 1) C dPm_free_7 rfl rfl ?_
    refine vj_if_lt (tgt := 17) C dPm_free_8 rfl ?_ ?_
    · skip
      refine vj_iconst (v := 0) C dPm_free_17 (by decide) ?_
      exact vj_retz C dPm_free_18 rfl rfl (Nat.le_of_ble_eq_true rfl) (Nat.le_of_ble_eq_true rfl)
    · skip
      refine vj_iload_n (j := 1) C dPm_free_11 rfl rfl ?_
      refine vj_bipush (v := 60) C dPm_free_12 (by decide) ?_
      refine vj_icmp_le (tgt := 19) C dPm_free_14 rfl ?_ ?_
      · skip
        refine vj_aload_n (j := 0) C dPm_free_19 rfl rfl ?_
        refine vj_gr C dPm_free_20 lf_Pm_62 rfl (fun a20 => ?_)
        refine vj_gr C dPm_free_23 lf_Pm_70 rfl (fun a23 => ?_)
        refine vj_iload_n (j := 1) C dPm_free_26 rfl rfl ?_
        refine vj_aload_n (j := 0) C dPm_free_27 rfl rfl ?_
        refine vj_gr C dPm_free_28 lf_Pm_62 rfl (fun a28 => ?_)
        refine vj_gr C dPm_free_31 lf_Pm_70 rfl (fun a31 => ?_)
        refine vj_iload_n (j := 1) C dPm_free_34 rfl rfl ?_
        refine vj_zald C dPm_free_35 (by decide) (fun v35 => ?_)
        refine vj_jp (fun (j : Int32 → Rr) => ∀ s44_2, Vj x 0 0 44 [(0, .ref a0), (1, .int p1)] [.int s44_2, .int p1, .ref a23] M (j s44_2)) ?_ ?_
        · intro s44_2
          refine vj_zast C dPm_free_44 (fun M44 => ?_)
          refine vj_aload_n (j := 0) C dPm_free_45 rfl rfl ?_
          refine vj_gr C dPm_free_46 lf_Pm_62 rfl (fun a46 => ?_)
          refine vj_gr C dPm_free_49 lf_Pm_70 rfl (fun a49 => ?_)
          refine vj_iload_n (j := 1) C dPm_free_52 rfl rfl ?_
          refine vj_zald C dPm_free_53 (by decide) (fun v53 => ?_)
          exact vj_retz C dPm_free_54 rfl rfl (Nat.le_of_ble_eq_true rfl) (Nat.le_of_ble_eq_true rfl)
        · intro j44 hj44
          refine vj_if_ne (tgt := 43) C dPm_free_36 rfl ?_ ?_
          · skip
            refine vj_iconst (v := 0) C dPm_free_43 (by decide) ?_
            exact hj44 _
          · skip
            refine vj_iconst (v := 1) C dPm_free_39 (by decide) ?_
            refine vj_goto (tgt := 44) C dPm_free_40 rfl ?_
            exact hj44 _
      · skip
        refine vj_iconst (v := 0) C dPm_free_17 (by decide) ?_
        exact vj_retz C dPm_free_18 rfl rfl (Nat.le_of_ble_eq_true rfl) (Nat.le_of_ble_eq_true rfl)
def fn_Tx_isNext (M : Mm) (a0 : Nat) (p1 : Int32) : Rr := fo_gi M 7 a0 2 fun v1 => fo_gi M 7 a0 1 fun v5 => if v5 ≤ v1 then fo_rz 0 M else fo_gr M 7 a0 0 fun a12 => fo_gi M 7 a0 2 fun v16 => fo_ai M 2 a12 v16 fun v19 => if v19 = p1 then fo_rz 1 M else fo_rz 0 M
set_option maxHeartbeats 4000000 in
set_option maxRecDepth 100000 in
theorem cm_Tx_isNext (l : Launch) (M : Mm) (a0 : Nat) (p1 : Int32) : ct l zyTx_isNext ws_Tx_isNext { frames := 0, cells := 0, slots := 0, locals := 0 } 0 0 (fun w => some (.int w)) [.ref a0, .int p1] M (fn_Tx_isNext M a0 p1) := by
  refine ct_of (cc := zbTx_isNext) (maxL := 2) (ret := (some .boolean)) (lv0 := [(0, .ref a0), (1, .int p1)]) (by decide) rfl (Nat.le_of_ble_eq_true rfl) rfl rfl ?_
  intro x C
  unfold fn_Tx_isNext
  refine vj_aload_n (j := 0) C dTx_isNext_0 rfl rfl ?_
  refine vj_gi C dTx_isNext_1 lf_Tx_19 rfl (fun v1 => ?_)
  refine vj_aload_n (j := 0) C dTx_isNext_4 rfl rfl ?_
  refine vj_gi C dTx_isNext_5 lf_Tx_15 rfl (fun v5 => ?_)
  refine vj_icmp_ge (tgt := 28) C dTx_isNext_8 rfl ?_ ?_
  · skip
    refine vj_iconst (v := 0) C dTx_isNext_28 (by decide) ?_
    exact vj_retz C dTx_isNext_29 rfl rfl (Nat.le_of_ble_eq_true rfl) (Nat.le_of_ble_eq_true rfl)
  · skip
    refine vj_aload_n (j := 0) C dTx_isNext_11 rfl rfl ?_
    refine vj_gr C dTx_isNext_12 lf_Tx_9 rfl (fun a12 => ?_)
    refine vj_aload_n (j := 0) C dTx_isNext_15 rfl rfl ?_
    refine vj_gi C dTx_isNext_16 lf_Tx_19 rfl (fun v16 => ?_)
    refine vj_cald C dTx_isNext_19 (by decide) (fun v19 => ?_)
    refine vj_iload_n (j := 1) C dTx_isNext_20 rfl rfl ?_
    refine vj_icmp_ne (tgt := 28) C dTx_isNext_21 rfl ?_ ?_
    · skip
      refine vj_iconst (v := 0) C dTx_isNext_28 (by decide) ?_
      exact vj_retz C dTx_isNext_29 rfl rfl (Nat.le_of_ble_eq_true rfl) (Nat.le_of_ble_eq_true rfl)
    · skip
      refine vj_iconst (v := 1) C dTx_isNext_24 (by decide) ?_
      refine vj_goto (tgt := 29) C dTx_isNext_25 rfl ?_
      exact vj_retz C dTx_isNext_29 rfl rfl (Nat.le_of_ble_eq_true rfl) (Nat.le_of_ble_eq_true rfl)
def fn_Tx_takes (M : Mm) (a0 : Nat) (p1 : Int32) : Rr := fo_cv M 7 a0 (fn_Tx_isNext M a0 p1) fun v2 M2 => if v2 = 0 then fo_rz 0 M2 else fo_gi M2 7 a0 2 fun v12 => fo_pi M2 7 a0 2 (v12 + 1) fun M17 => fo_rz 1 M17
set_option maxHeartbeats 4000000 in
set_option maxRecDepth 100000 in
theorem cm_Tx_takes (l : Launch) (M : Mm) (a0 : Nat) (p1 : Int32) : ct l zyTx_takes ws_Tx_takes { frames := 1, cells := 0, slots := 0, locals := 21 } 0 0 (fun w => some (.int w)) [.ref a0, .int p1] M (fn_Tx_takes M a0 p1) := by
  refine ct_of (cc := zbTx_takes) (maxL := 2) (ret := (some .boolean)) (lv0 := [(0, .ref a0), (1, .int p1)]) (by decide) rfl (Nat.le_of_ble_eq_true rfl) rfl rfl ?_
  intro x C
  unfold fn_Tx_takes
  refine vj_aload_n (j := 0) C dTx_takes_0 rfl rfl ?_
  refine vj_iload_n (j := 1) C dTx_takes_1 rfl rfl ?_
  refine vj_cV (ci := 7) (As := [.int p1]) (st := []) (b := a0) (a1 := 1) C dTx_takes_2 (cm_Tx_isNext _ _ _ _) rfl gv_Tx_130 rfl rfl rfl hv_Tx_isNext ⟨Nat.le_of_ble_eq_true rfl, Nat.le_of_ble_eq_true rfl⟩ rfl rfl (Nat.le_of_ble_eq_true rfl) ⟨Nat.le_of_ble_eq_true rfl, Nat.le_of_ble_eq_true rfl⟩ (fun v2 M2 => ?_)
  show Vj x 0 0 5 [(0, .ref a0), (1, .int p1)] [.int v2] M2 _
  refine vj_if_ne (tgt := 10) C dTx_takes_5 rfl ?_ ?_
  · skip
    refine vj_aload_n (j := 0) C dTx_takes_10 rfl rfl ?_
    refine vj_dup C dTx_takes_11 rfl ?_
    refine vj_gi C dTx_takes_12 lf_Tx_19 rfl (fun v12 => ?_)
    refine vj_iconst (v := 1) C dTx_takes_15 (by decide) ?_
    refine vj_iadd C dTx_takes_16 ?_
    refine vj_pi C dTx_takes_17 lf_Tx_19 lq_7_2 rfl (fun M17 => ?_)
    refine vj_iconst (v := 1) C dTx_takes_20 (by decide) ?_
    exact vj_retz C dTx_takes_21 rfl rfl (Nat.le_of_ble_eq_true rfl) (Nat.le_of_ble_eq_true rfl)
  · skip
    refine vj_iconst (v := 0) C dTx_takes_8 (by decide) ?_
    exact vj_retz C dTx_takes_9 rfl rfl (Nat.le_of_ble_eq_true rfl) (Nat.le_of_ble_eq_true rfl)
def fn_Tx_takeFrom (M : Mm) (a0 : Nat) (p1 : Int32) (p2 : Int32) : Rr := fo_gi M 7 a0 2 fun v1 => fo_gi M 7 a0 1 fun v5 => if v5 ≤ v1 then some ((-1), M) else fo_gr M 7 a0 0 fun a12 => fo_gi M 7 a0 2 fun v16 => fo_ai M 2 a12 v16 fun v19 => if v19 < p1 then some ((-1), M) else fo_gr M 7 a0 0 fun a25 => fo_gi M 7 a0 2 fun v29 => fo_ai M 2 a25 v29 fun v32 => if v32 < (p1 + p2) then fo_gr M 7 a0 0 fun a42 => fo_gi M 7 a0 2 fun v46 => fo_ai M 2 a42 v46 fun v49 => fo_nm (v49 - p1) fun v52 => fo_gi M 7 a0 2 fun v55 => fo_pi M 7 a0 2 (v55 + 1) fun M60 => some (v52, M60) else some ((-1), M)
set_option maxHeartbeats 4000000 in
set_option maxRecDepth 100000 in
theorem cm_Tx_takeFrom (l : Launch) (M : Mm) (a0 : Nat) (p1 : Int32) (p2 : Int32) : ct l zyTx_takeFrom ws_Tx_takeFrom { frames := 0, cells := 0, slots := 0, locals := 0 } 0 0 (fun w => some (.int w)) [.ref a0, .int p1, .int p2] M (fn_Tx_takeFrom M a0 p1 p2) := by
  refine ct_of (cc := zbTx_takeFrom) (maxL := 4) (ret := (some .int)) (lv0 := [(0, .ref a0), (1, .int p1), (2, .int p2)]) (by decide) rfl (Nat.le_of_ble_eq_true rfl) rfl rfl ?_
  intro x C
  unfold fn_Tx_takeFrom
  refine vj_aload_n (j := 0) C dTx_takeFrom_0 rfl rfl ?_
  refine vj_gi C dTx_takeFrom_1 lf_Tx_19 rfl (fun v1 => ?_)
  refine vj_aload_n (j := 0) C dTx_takeFrom_4 rfl rfl ?_
  refine vj_gi C dTx_takeFrom_5 lf_Tx_15 rfl (fun v5 => ?_)
  refine vj_icmp_ge (tgt := 39) C dTx_takeFrom_8 rfl ?_ ?_
  · skip
    refine vj_iconst (v := (-1)) C dTx_takeFrom_39 (by decide) ?_
    exact vj_ret C dTx_takeFrom_40 rfl rfl (Nat.le_of_ble_eq_true rfl) (Nat.le_of_ble_eq_true rfl)
  · skip
    refine vj_aload_n (j := 0) C dTx_takeFrom_11 rfl rfl ?_
    refine vj_gr C dTx_takeFrom_12 lf_Tx_9 rfl (fun a12 => ?_)
    refine vj_aload_n (j := 0) C dTx_takeFrom_15 rfl rfl ?_
    refine vj_gi C dTx_takeFrom_16 lf_Tx_19 rfl (fun v16 => ?_)
    refine vj_cald C dTx_takeFrom_19 (by decide) (fun v19 => ?_)
    refine vj_iload_n (j := 1) C dTx_takeFrom_20 rfl rfl ?_
    refine vj_icmp_lt (tgt := 39) C dTx_takeFrom_21 rfl ?_ ?_
    · skip
      refine vj_iconst (v := (-1)) C dTx_takeFrom_39 (by decide) ?_
      exact vj_ret C dTx_takeFrom_40 rfl rfl (Nat.le_of_ble_eq_true rfl) (Nat.le_of_ble_eq_true rfl)
    · skip
      refine vj_aload_n (j := 0) C dTx_takeFrom_24 rfl rfl ?_
      refine vj_gr C dTx_takeFrom_25 lf_Tx_9 rfl (fun a25 => ?_)
      refine vj_aload_n (j := 0) C dTx_takeFrom_28 rfl rfl ?_
      refine vj_gi C dTx_takeFrom_29 lf_Tx_19 rfl (fun v29 => ?_)
      refine vj_cald C dTx_takeFrom_32 (by decide) (fun v32 => ?_)
      refine vj_iload_n (j := 1) C dTx_takeFrom_33 rfl rfl ?_
      refine vj_iload_n (j := 2) C dTx_takeFrom_34 rfl rfl ?_
      refine vj_iadd C dTx_takeFrom_35 ?_
      refine vj_icmp_lt (tgt := 41) C dTx_takeFrom_36 rfl ?_ ?_
      · skip
        refine vj_aload_n (j := 0) C dTx_takeFrom_41 rfl rfl ?_
        refine vj_gr C dTx_takeFrom_42 lf_Tx_9 rfl (fun a42 => ?_)
        refine vj_aload_n (j := 0) C dTx_takeFrom_45 rfl rfl ?_
        refine vj_gi C dTx_takeFrom_46 lf_Tx_19 rfl (fun v46 => ?_)
        refine vj_cald C dTx_takeFrom_49 (by decide) (fun v49 => ?_)
        refine vj_iload_n (j := 1) C dTx_takeFrom_50 rfl rfl ?_
        refine vj_isub C dTx_takeFrom_51 ?_
        refine vj_nm (fun v52 => ?_)
        refine vj_istore_n (lv' := [(0, .ref a0), (3, .int v52)]) C dTx_takeFrom_52 rfl (by decide) [1, 0] rfl ?_
        refine vj_aload_n (j := 0) C dTx_takeFrom_53 rfl rfl ?_
        refine vj_dup C dTx_takeFrom_54 rfl ?_
        refine vj_gi C dTx_takeFrom_55 lf_Tx_19 rfl (fun v55 => ?_)
        refine vj_iconst (v := 1) C dTx_takeFrom_58 (by decide) ?_
        refine vj_iadd C dTx_takeFrom_59 ?_
        refine vj_pi C dTx_takeFrom_60 lf_Tx_19 lq_7_2 rfl (fun M60 => ?_)
        refine vj_iload_n (j := 1) C dTx_takeFrom_63 rfl rfl ?_
        exact vj_ret C dTx_takeFrom_64 rfl rfl (Nat.le_of_ble_eq_true rfl) (Nat.le_of_ble_eq_true rfl)
      · skip
        refine vj_iconst (v := (-1)) C dTx_takeFrom_39 (by decide) ?_
        exact vj_ret C dTx_takeFrom_40 rfl rfl (Nat.le_of_ble_eq_true rfl) (Nat.le_of_ble_eq_true rfl)
