def lp_Ru_businessDay_5 (M : Mm) (a0 : Nat) (g5 : Int32 → Int32 → Rr) (w5_3 : Int32) (w5_4 : Int32) : Rr := if w5_3 ≤ 0 then some (w5_4, M) else if 69 ≤ w5_4 then some (w5_4, M) else fo_jp (g5 (w5_3 + (-1)) (w5_4 + 1)) (fun j36 => if 60 < (w5_4 + 1) then j36 else fo_gr M 3 a0 0 fun a27 => fo_ai M 1 a27 (w5_4 + 1) fun v32 => if v32 = 0 then j36 else g5 w5_3 (w5_4 + 1))
def fn_Ru_businessDay (M : Mm) (a0 : Nat) (p1 : Int32) (p2 : Int32) : Rr := fo_fx (fun _ _ => none) (lp_Ru_businessDay_5 M a0) fo_N p2 p1
set_option maxHeartbeats 4000000 in
set_option maxRecDepth 100000 in
theorem cm_Ru_businessDay (l : Launch) (M : Mm) (a0 : Nat) (p1 : Int32) (p2 : Int32) : ct l zyRu_businessDay ws_Ru_businessDay { frames := 0, cells := 0, slots := 0, locals := 0 } 0 0 (fun w => some (.int w)) [.ref a0, .int p1, .int p2] M (fn_Ru_businessDay M a0 p1 p2) := by
  refine ct_of (cc := zbRu_businessDay) (maxL := 5) (ret := (some .int)) (lv0 := [(0, .ref a0), (1, .int p1), (2, .int p2)]) (by decide) rfl (Nat.le_of_ble_eq_true rfl) rfl rfl ?_
  intro x C
  unfold fn_Ru_businessDay
  refine vj_iload_n (j := 2) C dRu_businessDay_0 rfl rfl ?_
  refine vj_istore_n (lv' := [(0, .ref a0), (1, .int p1), (3, .int p2)]) C dRu_businessDay_1 rfl (by decide) [1, 2, 0] rfl ?_
  refine vj_iload_n (j := 1) C dRu_businessDay_2 rfl rfl ?_
  refine vj_istore (lv' := [(0, .ref a0), (3, .int p2), (4, .int p1)]) C dRu_businessDay_3 (by decide) [1, 3, 0] rfl ?_
  have hg5x : ∀ nf w5_3 w5_4, Vj x 0 0 5 [(0, .ref a0), (3, .int w5_3), (4, .int w5_4)] [] M (fo_fx (fun _ _ => none) (lp_Ru_businessDay_5 M a0) nf w5_3 w5_4) := by
    intro nf
    refine fo_fx_P (fun (j : Int32 → Int32 → Rr) => ∀ w5_3 w5_4, Vj x 0 0 5 [(0, .ref a0), (3, .int w5_3), (4, .int w5_4)] [] M (j w5_3 w5_4)) (fun _ _ => Vj_none) ?_ nf
    intro g5 hg5 w5_3 w5_4
    unfold lp_Ru_businessDay_5
    refine vj_iload_n (j := 1) C dRu_businessDay_5 rfl rfl ?_
    refine vj_if_le (tgt := 42) C dRu_businessDay_6 rfl ?_ ?_
    · skip
      refine vj_iload (j := 2) C dRu_businessDay_42 rfl ?_
      exact vj_ret C dRu_businessDay_44 rfl rfl (Nat.le_of_ble_eq_true rfl) (Nat.le_of_ble_eq_true rfl)
    · skip
      refine vj_iload (j := 2) C dRu_businessDay_9 rfl ?_
      refine vj_bipush (v := 69) C dRu_businessDay_11 (by decide) ?_
      refine vj_icmp_ge (tgt := 42) C dRu_businessDay_13 rfl ?_ ?_
      · skip
        refine vj_iload (j := 2) C dRu_businessDay_42 rfl ?_
        exact vj_ret C dRu_businessDay_44 rfl rfl (Nat.le_of_ble_eq_true rfl) (Nat.le_of_ble_eq_true rfl)
      · skip
        refine vj_iinc (j := 2) (b := 1) (lv' := [(0, .ref a0), (3, .int w5_3), (4, .int (w5_4 + 1))]) C dRu_businessDay_16 rfl (by decide) (by decide) [1, 2, 0] rfl ?_
        refine vj_iload (j := 2) C dRu_businessDay_19 rfl ?_
        refine vj_bipush (v := 60) C dRu_businessDay_21 (by decide) ?_
        refine vj_jp (fun (j : Rr) => Vj x 0 0 36 [(0, .ref a0), (3, .int w5_3), (4, .int (w5_4 + 1))] [] M j) ?_ ?_
        · skip
          refine vj_iinc (j := 1) (b := (-1)) (lv' := [(0, .ref a0), (3, .int (w5_3 + (-1))), (4, .int (w5_4 + 1))]) C dRu_businessDay_36 rfl (by decide) (by decide) [1, 0, 2] rfl ?_
          refine vj_goto (tgt := 5) C dRu_businessDay_39 rfl ?_
          exact hg5 _ _
        · intro j36 hj36
          refine vj_icmp_gt (tgt := 36) C dRu_businessDay_23 rfl ?_ ?_
          · skip
            exact hj36
          · skip
            refine vj_aload_n (j := 0) C dRu_businessDay_26 rfl rfl ?_
            refine vj_gr C dRu_businessDay_27 lf_Ru_9 rfl (fun a27 => ?_)
            refine vj_iload (j := 2) C dRu_businessDay_30 rfl ?_
            refine vj_zald C dRu_businessDay_32 (by decide) (fun v32 => ?_)
            refine vj_if_ne (tgt := 5) C dRu_businessDay_33 rfl ?_ ?_
            · skip
              exact hg5 _ _
            · skip
              exact hj36
  exact hg5x _ _ _
def lp_Te_add_24 (a0 : Nat) (v17 : Int32) (g24 : Mm → Int32 → Rr) (Mh24 : Mm) (w24_4 : Int32) : Rr := fo_jp (fo_gr Mh24 6 a0 0 fun a65 => fo_si Mh24 a65 w24_4 v17 fun M71 => fo_gi M71 6 a0 1 fun v74 => fo_pi M71 6 a0 1 (v74 + 1) fun M79 => fo_rz 1 M79) (fun j64 => if w24_4 ≤ 0 then j64 else fo_gr Mh24 6 a0 0 fun a30 => fo_ai Mh24 0 a30 (w24_4 - 1) fun v37 => if v37 ≤ v17 then j64 else fo_gr Mh24 6 a0 0 fun a43 => fo_gr Mh24 6 a0 0 fun a49 => fo_ai Mh24 0 a49 (w24_4 - 1) fun v56 => fo_si Mh24 a43 w24_4 v56 fun M57 => g24 M57 (w24_4 + (-1)))
def fn_Te_add (M : Mm) (a0 : Nat) (p1 : Int32) (p2 : Int32) : Rr := fo_gi M 6 a0 1 fun v1 => if v1 < 8 then fo_nm ((100 * p2) + p1) fun v17 => fo_gi M 6 a0 1 fun v19 => fo_fx (fun _ _ => none) (lp_Te_add_24 a0 v17) fo_N M v19 else fo_rz 0 M
set_option maxHeartbeats 4000000 in
set_option maxRecDepth 100000 in
theorem cm_Te_add (l : Launch) (M : Mm) (a0 : Nat) (p1 : Int32) (p2 : Int32) : ct l zyTe_add ws_Te_add { frames := 0, cells := 0, slots := 0, locals := 0 } 0 0 (fun w => some (.int w)) [.ref a0, .int p1, .int p2] M (fn_Te_add M a0 p1 p2) := by
  refine ct_of (cc := zbTe_add) (maxL := 5) (ret := (some .boolean)) (lv0 := [(0, .ref a0), (1, .int p1), (2, .int p2)]) (by decide) rfl (Nat.le_of_ble_eq_true rfl) rfl rfl ?_
  intro x C
  unfold fn_Te_add
  refine vj_aload_n (j := 0) C dTe_add_0 rfl rfl ?_
  refine vj_gi C dTe_add_1 lf_Te_15 rfl (fun v1 => ?_)
  refine vj_bipush (v := 8) C dTe_add_4 (by decide) ?_
  refine vj_icmp_lt (tgt := 11) C dTe_add_6 rfl ?_ ?_
  · skip
    refine vj_bipush (v := 100) C dTe_add_11 (by decide) ?_
    refine vj_iload_n (j := 2) C dTe_add_13 rfl rfl ?_
    refine vj_imul C dTe_add_14 ?_
    refine vj_iload_n (j := 1) C dTe_add_15 rfl rfl ?_
    refine vj_iadd C dTe_add_16 ?_
    refine vj_nm (fun v17 => ?_)
    refine vj_istore_n (lv' := [(0, .ref a0), (3, .int v17)]) C dTe_add_17 rfl (by decide) [1, 0] rfl ?_
    refine vj_aload_n (j := 0) C dTe_add_18 rfl rfl ?_
    refine vj_gi C dTe_add_19 lf_Te_15 rfl (fun v19 => ?_)
    refine vj_istore (lv' := [(0, .ref a0), (3, .int v17), (4, .int v19)]) C dTe_add_22 (by decide) [1, 2, 0] rfl ?_
    have hg24x : ∀ nf Mh24 w24_4, Vj x 0 0 24 [(0, .ref a0), (3, .int v17), (4, .int w24_4)] [] Mh24 (fo_fx (fun _ _ => none) (lp_Te_add_24 a0 v17) nf Mh24 w24_4) := by
      intro nf
      refine fo_fx_P (fun (j : Mm → Int32 → Rr) => ∀ Mh24 w24_4, Vj x 0 0 24 [(0, .ref a0), (3, .int v17), (4, .int w24_4)] [] Mh24 (j Mh24 w24_4)) (fun _ _ => Vj_none) ?_ nf
      intro g24 hg24 Mh24 w24_4
      unfold lp_Te_add_24
      refine vj_iload (j := 2) C dTe_add_24 rfl ?_
      refine vj_jp (fun (j : Rr) => Vj x 0 0 64 [(0, .ref a0), (3, .int v17), (4, .int w24_4)] [] Mh24 j) ?_ ?_
      · skip
        refine vj_aload_n (j := 0) C dTe_add_64 rfl rfl ?_
        refine vj_gr C dTe_add_65 lf_Te_9 rfl (fun a65 => ?_)
        refine vj_iload (j := 2) C dTe_add_68 rfl ?_
        refine vj_iload_n (j := 1) C dTe_add_70 rfl rfl ?_
        refine vj_iast C dTe_add_71 (fun M71 => ?_)
        refine vj_aload_n (j := 0) C dTe_add_72 rfl rfl ?_
        refine vj_dup C dTe_add_73 rfl ?_
        refine vj_gi C dTe_add_74 lf_Te_15 rfl (fun v74 => ?_)
        refine vj_iconst (v := 1) C dTe_add_77 (by decide) ?_
        refine vj_iadd C dTe_add_78 ?_
        refine vj_pi C dTe_add_79 lf_Te_15 lq_6_1 rfl (fun M79 => ?_)
        refine vj_iconst (v := 1) C dTe_add_82 (by decide) ?_
        exact vj_retz C dTe_add_83 rfl rfl (Nat.le_of_ble_eq_true rfl) (Nat.le_of_ble_eq_true rfl)
      · intro j64 hj64
        refine vj_if_le (tgt := 64) C dTe_add_26 rfl ?_ ?_
        · skip
          exact hj64
        · skip
          refine vj_aload_n (j := 0) C dTe_add_29 rfl rfl ?_
          refine vj_gr C dTe_add_30 lf_Te_9 rfl (fun a30 => ?_)
          refine vj_iload (j := 2) C dTe_add_33 rfl ?_
          refine vj_iconst (v := 1) C dTe_add_35 (by decide) ?_
          refine vj_isub C dTe_add_36 ?_
          refine vj_iald C dTe_add_37 (by decide) (fun v37 => ?_)
          refine vj_iload_n (j := 1) C dTe_add_38 rfl rfl ?_
          refine vj_icmp_le (tgt := 64) C dTe_add_39 rfl ?_ ?_
          · skip
            exact hj64
          · skip
            refine vj_aload_n (j := 0) C dTe_add_42 rfl rfl ?_
            refine vj_gr C dTe_add_43 lf_Te_9 rfl (fun a43 => ?_)
            refine vj_iload (j := 2) C dTe_add_46 rfl ?_
            refine vj_aload_n (j := 0) C dTe_add_48 rfl rfl ?_
            refine vj_gr C dTe_add_49 lf_Te_9 rfl (fun a49 => ?_)
            refine vj_iload (j := 2) C dTe_add_52 rfl ?_
            refine vj_iconst (v := 1) C dTe_add_54 (by decide) ?_
            refine vj_isub C dTe_add_55 ?_
            refine vj_iald C dTe_add_56 (by decide) (fun v56 => ?_)
            refine vj_iast C dTe_add_57 (fun M57 => ?_)
            refine vj_iinc (j := 2) (b := (-1)) (lv' := [(0, .ref a0), (3, .int v17), (4, .int (w24_4 + (-1)))]) C dTe_add_58 rfl (by decide) (by decide) [1, 2, 0] rfl ?_
            refine vj_goto (tgt := 24) C dTe_add_61 rfl ?_
            exact hg24 _ _
    exact hg24x _ _ _
  · skip
    refine vj_iconst (v := 0) C dTe_add_9 (by decide) ?_
    exact vj_retz C dTe_add_10 rfl rfl (Nat.le_of_ble_eq_true rfl) (Nat.le_of_ble_eq_true rfl)
def fn_St_addDebt (M : Mm) (a0 : Nat) (p1 : Int32) (p2 : Int32) (p3 : Int32) : Rr := fo_nm ((3 * p1) + p2) fun v5 => fo_gr M 5 a0 4 fun a8 => fo_ai M 0 a8 v5 fun v13 => if (v13 + p3) ≤ 999 then fo_gr M 5 a0 4 fun a25 => fo_ai M 0 a25 v5 fun v31 => fo_si M a25 v5 (v31 + p3) fun M34 => fo_rz 1 M34 else fo_rz 0 M
set_option maxHeartbeats 4000000 in
set_option maxRecDepth 100000 in
theorem cm_St_addDebt (l : Launch) (M : Mm) (a0 : Nat) (p1 : Int32) (p2 : Int32) (p3 : Int32) : ct l zySt_addDebt ws_St_addDebt { frames := 0, cells := 0, slots := 0, locals := 0 } 0 0 (fun w => some (.int w)) [.ref a0, .int p1, .int p2, .int p3] M (fn_St_addDebt M a0 p1 p2 p3) := by
  refine ct_of (cc := zbSt_addDebt) (maxL := 5) (ret := (some .boolean)) (lv0 := [(0, .ref a0), (1, .int p1), (2, .int p2), (3, .int p3)]) (by decide) rfl (Nat.le_of_ble_eq_true rfl) rfl rfl ?_
  intro x C
  unfold fn_St_addDebt
  refine vj_iconst (v := 3) C dSt_addDebt_0 (by decide) ?_
  refine vj_iload_n (j := 1) C dSt_addDebt_1 rfl rfl ?_
  refine vj_imul C dSt_addDebt_2 ?_
  refine vj_iload_n (j := 2) C dSt_addDebt_3 rfl rfl ?_
  refine vj_iadd C dSt_addDebt_4 ?_
  refine vj_nm (fun v5 => ?_)
  refine vj_istore (lv' := [(0, .ref a0), (3, .int p3), (4, .int v5)]) C dSt_addDebt_5 (by decide) [1, 4, 0] rfl ?_
  refine vj_aload_n (j := 0) C dSt_addDebt_7 rfl rfl ?_
  refine vj_gr C dSt_addDebt_8 lf_St_28 rfl (fun a8 => ?_)
  refine vj_iload (j := 2) C dSt_addDebt_11 rfl ?_
  refine vj_iald C dSt_addDebt_13 (by decide) (fun v13 => ?_)
  refine vj_iload_n (j := 1) C dSt_addDebt_14 rfl rfl ?_
  refine vj_iadd C dSt_addDebt_15 ?_
  refine vj_sipush (v := 999) C dSt_addDebt_16 (by decide) ?_
  refine vj_icmp_le (tgt := 24) C dSt_addDebt_19 rfl ?_ ?_
  · skip
    refine vj_aload_n (j := 0) C dSt_addDebt_24 rfl rfl ?_
    refine vj_gr C dSt_addDebt_25 lf_St_28 rfl (fun a25 => ?_)
    refine vj_iload (j := 2) C dSt_addDebt_28 rfl ?_
    refine vj_dup2 C dSt_addDebt_30 rfl rfl ?_
    refine vj_iald C dSt_addDebt_31 (by decide) (fun v31 => ?_)
    refine vj_iload_n (j := 1) C dSt_addDebt_32 rfl rfl ?_
    refine vj_iadd C dSt_addDebt_33 ?_
    refine vj_iast C dSt_addDebt_34 (fun M34 => ?_)
    refine vj_iconst (v := 1) C dSt_addDebt_35 (by decide) ?_
    exact vj_retz C dSt_addDebt_36 rfl rfl (Nat.le_of_ble_eq_true rfl) (Nat.le_of_ble_eq_true rfl)
  · skip
    refine vj_iconst (v := 0) C dSt_addDebt_22 (by decide) ?_
    exact vj_retz C dSt_addDebt_23 rfl rfl (Nat.le_of_ble_eq_true rfl) (Nat.le_of_ble_eq_true rfl)
def fn_Ru_act (M : Mm) (a0 : Nat) (p1 : Nat) (p2 : Int32) (p3 : Nat) : Rr := fo_gi M 1 p1 8 fun v1 => if v1 = 33 then fo_gr M 5 p3 1 fun a49 => fo_gi M 5 p3 0 fun v55 => fo_gi M 1 p1 12 fun v59 => fo_cv M 3 a0 (fn_Ru_businessDay M a0 v55 v59) fun v62 M62 => fo_cv M62 6 a49 (fn_Te_add M62 a49 p2 v62) fun v65 M65 => fo_rz v65 M65 else if v1 = 36 then fo_gi M 1 p1 9 fun v107 => fo_gi M 1 p1 11 fun v111 => fo_gi M 1 p1 12 fun v115 => fo_cv M 5 p3 (fn_St_addDebt M p3 v107 v111 v115) fun v118 M118 => fo_rz v118 M118 else if v1 = 63 then fo_gr M 5 p3 3 fun a88 => fo_gi M 5 p3 0 fun v93 => fo_gi M 1 p1 12 fun v97 => fo_cv M 6 a88 (fn_Te_add M a88 p2 (v93 + v97)) fun v101 M101 => fo_rz v101 M101 else if v1 = 126 then fo_gr M 5 p3 2 fun a70 => fo_gi M 5 p3 0 fun v75 => fo_gi M 1 p1 12 fun v79 => fo_cv M 6 a70 (fn_Te_add M a70 p2 (v75 + v79)) fun v83 M83 => fo_rz v83 M83 else fo_gi M 1 p1 12 fun v124 => fo_cv M 3 a0 (fn_Ru_await M a0 v124) fun _ M127 => fo_rz 1 M127
set_option maxHeartbeats 4000000 in
set_option maxRecDepth 100000 in
theorem cm_Ru_act (l : Launch) (M : Mm) (a0 : Nat) (p1 : Nat) (p2 : Int32) (p3 : Nat) : ct l zyRu_act ws_Ru_act { frames := 1, cells := 0, slots := 0, locals := 24 } 0 0 (fun w => some (.int w)) [.ref a0, .ref p1, .int p2, .ref p3] M (fn_Ru_act M a0 p1 p2 p3) := by
  refine ct_of (cc := zbRu_act) (maxL := 4) (ret := (some .boolean)) (lv0 := [(0, .ref a0), (1, .ref p1), (2, .int p2), (3, .ref p3)]) (by decide) rfl (Nat.le_of_ble_eq_true rfl) rfl rfl ?_
  intro x C
  unfold fn_Ru_act
  refine vj_aload_n (j := 1) C dRu_act_0 rfl rfl ?_
  refine vj_gi C dRu_act_1 lf_Ru_114 rfl (fun v1 => ?_)
  refine vj_ls (cs := 33) (off := 44) (tgt := 48) C dRu_act_4 (by decide +kernel) rfl ?_ (fun hc33 => ?_)
  · skip
    refine vj_aload_n (j := 3) C dRu_act_48 rfl rfl ?_
    refine vj_gr C dRu_act_49 lf_Ru_76 rfl (fun a49 => ?_)
    refine vj_iload_n (j := 2) C dRu_act_52 rfl rfl ?_
    refine vj_aload_n (j := 0) C dRu_act_53 rfl rfl ?_
    refine vj_aload_n (j := 3) C dRu_act_54 rfl rfl ?_
    refine vj_gi C dRu_act_55 lf_Ru_79 rfl (fun v55 => ?_)
    refine vj_aload_n (j := 1) C dRu_act_58 rfl rfl ?_
    refine vj_gi C dRu_act_59 lf_Ru_117 rfl (fun v59 => ?_)
    refine vj_cV (ci := 3) (As := [.int v55, .int v59]) (st := [.int p2, .ref a49]) (b := a0) (a1 := 2) C dRu_act_62 (cm_Ru_businessDay _ _ _ _ _) rfl gv_Ru_120 rfl rfl rfl hv_Ru_businessDay ⟨Nat.le_of_ble_eq_true rfl, Nat.le_of_ble_eq_true rfl⟩ rfl rfl (Nat.le_of_ble_eq_true rfl) ⟨Nat.le_of_ble_eq_true rfl, Nat.le_of_ble_eq_true rfl⟩ (fun v62 M62 => ?_)
    show Vj x 0 0 65 [(0, .ref a0), (1, .ref p1), (2, .int p2), (3, .ref p3)] [.int v62, .int p2, .ref a49] M62 _
    refine vj_cV (ci := 6) (As := [.int p2, .int v62]) (st := []) (b := a49) (a1 := 2) C dRu_act_65 (cm_Te_add _ _ _ _ _) rfl gv_Ru_123 rfl rfl rfl hv_Te_add ⟨Nat.le_of_ble_eq_true rfl, Nat.le_of_ble_eq_true rfl⟩ rfl rfl (Nat.le_of_ble_eq_true rfl) ⟨Nat.le_of_ble_eq_true rfl, Nat.le_of_ble_eq_true rfl⟩ (fun v65 M65 => ?_)
    show Vj x 0 0 68 [(0, .ref a0), (1, .ref p1), (2, .int p2), (3, .ref p3)] [.int v65] M65 _
    exact vj_retz C dRu_act_68 rfl rfl (Nat.le_of_ble_eq_true rfl) (Nat.le_of_ble_eq_true rfl)
  refine vj_ls (cs := 36) (off := 101) (tgt := 105) C dRu_act_4 (by decide +kernel) rfl ?_ (fun hc36 => ?_)
  · skip
    refine vj_aload_n (j := 3) C dRu_act_105 rfl rfl ?_
    refine vj_aload_n (j := 1) C dRu_act_106 rfl rfl ?_
    refine vj_gi C dRu_act_107 lf_Ru_126 rfl (fun v107 => ?_)
    refine vj_aload_n (j := 1) C dRu_act_110 rfl rfl ?_
    refine vj_gi C dRu_act_111 lf_Ru_129 rfl (fun v111 => ?_)
    refine vj_aload_n (j := 1) C dRu_act_114 rfl rfl ?_
    refine vj_gi C dRu_act_115 lf_Ru_117 rfl (fun v115 => ?_)
    refine vj_cV (ci := 5) (As := [.int v107, .int v111, .int v115]) (st := []) (b := p3) (a1 := 3) C dRu_act_118 (cm_St_addDebt _ _ _ _ _ _) rfl gv_Ru_132 rfl rfl rfl hv_St_addDebt ⟨Nat.le_of_ble_eq_true rfl, Nat.le_of_ble_eq_true rfl⟩ rfl rfl (Nat.le_of_ble_eq_true rfl) ⟨Nat.le_of_ble_eq_true rfl, Nat.le_of_ble_eq_true rfl⟩ (fun v118 M118 => ?_)
    show Vj x 0 0 121 [(0, .ref a0), (1, .ref p1), (2, .int p2), (3, .ref p3)] [.int v118] M118 _
    exact vj_retz C dRu_act_121 rfl rfl (Nat.le_of_ble_eq_true rfl) (Nat.le_of_ble_eq_true rfl)
  refine vj_ls (cs := 63) (off := 83) (tgt := 87) C dRu_act_4 (by decide +kernel) rfl ?_ (fun hc63 => ?_)
  · skip
    refine vj_aload_n (j := 3) C dRu_act_87 rfl rfl ?_
    refine vj_gr C dRu_act_88 lf_Ru_59 rfl (fun a88 => ?_)
    refine vj_iload_n (j := 2) C dRu_act_91 rfl rfl ?_
    refine vj_aload_n (j := 3) C dRu_act_92 rfl rfl ?_
    refine vj_gi C dRu_act_93 lf_Ru_79 rfl (fun v93 => ?_)
    refine vj_aload_n (j := 1) C dRu_act_96 rfl rfl ?_
    refine vj_gi C dRu_act_97 lf_Ru_117 rfl (fun v97 => ?_)
    refine vj_iadd C dRu_act_100 ?_
    refine vj_cV (ci := 6) (As := [.int p2, .int (v93 + v97)]) (st := []) (b := a88) (a1 := 2) C dRu_act_101 (cm_Te_add _ _ _ _ _) rfl gv_Ru_123 rfl rfl rfl hv_Te_add ⟨Nat.le_of_ble_eq_true rfl, Nat.le_of_ble_eq_true rfl⟩ rfl rfl (Nat.le_of_ble_eq_true rfl) ⟨Nat.le_of_ble_eq_true rfl, Nat.le_of_ble_eq_true rfl⟩ (fun v101 M101 => ?_)
    show Vj x 0 0 104 [(0, .ref a0), (1, .ref p1), (2, .int p2), (3, .ref p3)] [.int v101] M101 _
    exact vj_retz C dRu_act_104 rfl rfl (Nat.le_of_ble_eq_true rfl) (Nat.le_of_ble_eq_true rfl)
  refine vj_ls (cs := 126) (off := 65) (tgt := 69) C dRu_act_4 (by decide +kernel) rfl ?_ (fun hc126 => ?_)
  · skip
    refine vj_aload_n (j := 3) C dRu_act_69 rfl rfl ?_
    refine vj_gr C dRu_act_70 lf_Ru_49 rfl (fun a70 => ?_)
    refine vj_iload_n (j := 2) C dRu_act_73 rfl rfl ?_
    refine vj_aload_n (j := 3) C dRu_act_74 rfl rfl ?_
    refine vj_gi C dRu_act_75 lf_Ru_79 rfl (fun v75 => ?_)
    refine vj_aload_n (j := 1) C dRu_act_78 rfl rfl ?_
    refine vj_gi C dRu_act_79 lf_Ru_117 rfl (fun v79 => ?_)
    refine vj_iadd C dRu_act_82 ?_
    refine vj_cV (ci := 6) (As := [.int p2, .int (v75 + v79)]) (st := []) (b := a70) (a1 := 2) C dRu_act_83 (cm_Te_add _ _ _ _ _) rfl gv_Ru_123 rfl rfl rfl hv_Te_add ⟨Nat.le_of_ble_eq_true rfl, Nat.le_of_ble_eq_true rfl⟩ rfl rfl (Nat.le_of_ble_eq_true rfl) ⟨Nat.le_of_ble_eq_true rfl, Nat.le_of_ble_eq_true rfl⟩ (fun v83 M83 => ?_)
    show Vj x 0 0 86 [(0, .ref a0), (1, .ref p1), (2, .int p2), (3, .ref p3)] [.int v83] M83 _
    exact vj_retz C dRu_act_86 rfl rfl (Nat.le_of_ble_eq_true rfl) (Nat.le_of_ble_eq_true rfl)
  refine vj_lsd (off := 118) (tgt := 122) C dRu_act_4 ⟨by decide +kernel, (lv_osw (a := 33) (o := 44) hc33 rfl).trans ((lv_osw (a := 36) (o := 101) hc36 rfl).trans ((lv_osw (a := 63) (o := 83) hc63 rfl).trans ((lv_osw (a := 126) (o := 65) hc126 rfl).trans (rfl))))⟩ rfl ?_
  refine vj_aload_n (j := 0) C dRu_act_122 rfl rfl ?_
  refine vj_aload_n (j := 1) C dRu_act_123 rfl rfl ?_
  refine vj_gi C dRu_act_124 lf_Ru_117 rfl (fun v124 => ?_)
  refine vj_cV (ci := 3) (As := [.int v124]) (st := []) (b := a0) (a1 := 1) C dRu_act_127 (cm_Ru_await _ _ _ _) rfl gv_Ru_37 rfl rfl rfl hv_Ru_await ⟨Nat.le_of_ble_eq_true rfl, Nat.le_of_ble_eq_true rfl⟩ rfl rfl (Nat.le_of_ble_eq_true rfl) ⟨Nat.le_of_ble_eq_true rfl, Nat.le_of_ble_eq_true rfl⟩ (fun _ M127 => ?_)
  show Vj x 0 0 130 [(0, .ref a0), (1, .ref p1), (2, .int p2), (3, .ref p3)] [] M127 _
  refine vj_iconst (v := 1) C dRu_act_130 (by decide) ?_
  exact vj_retz C dRu_act_131 rfl rfl (Nat.le_of_ble_eq_true rfl) (Nat.le_of_ble_eq_true rfl)
def lp_Ru_runWaiting_2 (a0 : Nat) (p1 : Nat) (p2 : Nat) (g2 : Mm → Int32 → Rr) (Mh2 : Mm) (w2_3 : Int32) : Rr := fo_gi Mh2 3 a0 2 fun v4 => if v4 ≤ w2_3 then fo_rz 1 Mh2 else if 800 ≤ w2_3 then fo_rz 1 Mh2 else fo_gr Mh2 0 p1 0 fun a18 => fo_gr Mh2 3 a0 1 fun a22 => fo_ai Mh2 0 a22 w2_3 fun v26 => fo_ar Mh2 4 a18 v26 fun a27 => fo_cv Mh2 1 a27 (fn_Cl_holds Mh2 a27 p2) fun v33 M33 => fo_jp (fun (Mj57 : Mm) => g2 Mj57 (w2_3 + 1)) (fun j57 => if v33 = 0 then j57 M33 else fo_gr M33 3 a0 1 fun a43 => fo_ai M33 0 a43 w2_3 fun v47 => fo_cv M33 3 a0 (fn_Ru_act M33 a0 a27 v47 p2) fun v49 M49 => if v49 = 0 then fo_rz 0 M49 else j57 M49)
def fn_Ru_runWaiting (M : Mm) (a0 : Nat) (p1 : Nat) (p2 : Nat) : Rr := fo_fx (fun _ _ => none) (lp_Ru_runWaiting_2 a0 p1 p2) fo_N M 0
set_option maxHeartbeats 4000000 in
set_option maxRecDepth 100000 in
theorem cm_Ru_runWaiting (l : Launch) (M : Mm) (a0 : Nat) (p1 : Nat) (p2 : Nat) : ct l zyRu_runWaiting ws_Ru_runWaiting { frames := 2, cells := 0, slots := 0, locals := 47 } 0 0 (fun w => some (.int w)) [.ref a0, .ref p1, .ref p2] M (fn_Ru_runWaiting M a0 p1 p2) := by
  refine ct_of (cc := zbRu_runWaiting) (maxL := 5) (ret := (some .boolean)) (lv0 := [(0, .ref a0), (1, .ref p1), (2, .ref p2)]) (by decide) rfl (Nat.le_of_ble_eq_true rfl) rfl rfl ?_
  intro x C
  unfold fn_Ru_runWaiting
  refine vj_iconst (v := 0) C dRu_runWaiting_0 (by decide) ?_
  refine vj_istore_n (lv' := [(0, .ref a0), (1, .ref p1), (2, .ref p2), (3, .int 0)]) C dRu_runWaiting_1 rfl (by decide) [1, 2, 3, 0] rfl ?_
  have hg2x : ∀ nf Mh2 w2_3, Vj x 0 0 2 [(0, .ref a0), (1, .ref p1), (2, .ref p2), (3, .int w2_3)] [] Mh2 (fo_fx (fun _ _ => none) (lp_Ru_runWaiting_2 a0 p1 p2) nf Mh2 w2_3) := by
    intro nf
    refine fo_fx_P (fun (j : Mm → Int32 → Rr) => ∀ Mh2 w2_3, Vj x 0 0 2 [(0, .ref a0), (1, .ref p1), (2, .ref p2), (3, .int w2_3)] [] Mh2 (j Mh2 w2_3)) (fun _ _ => Vj_none) ?_ nf
    intro g2 hg2 Mh2 w2_3
    unfold lp_Ru_runWaiting_2
    refine vj_iload_n (j := 3) C dRu_runWaiting_2 rfl rfl ?_
    refine vj_aload_n (j := 0) C dRu_runWaiting_3 rfl rfl ?_
    refine vj_gi C dRu_runWaiting_4 lf_Ru_19 rfl (fun v4 => ?_)
    refine vj_icmp_ge (tgt := 63) C dRu_runWaiting_7 rfl ?_ ?_
    · skip
      refine vj_iconst (v := 1) C dRu_runWaiting_63 (by decide) ?_
      exact vj_retz C dRu_runWaiting_64 rfl rfl (Nat.le_of_ble_eq_true rfl) (Nat.le_of_ble_eq_true rfl)
    · skip
      refine vj_iload_n (j := 3) C dRu_runWaiting_10 rfl rfl ?_
      refine vj_sipush (v := 800) C dRu_runWaiting_11 (by decide) ?_
      refine vj_icmp_ge (tgt := 63) C dRu_runWaiting_14 rfl ?_ ?_
      · skip
        refine vj_iconst (v := 1) C dRu_runWaiting_63 (by decide) ?_
        exact vj_retz C dRu_runWaiting_64 rfl rfl (Nat.le_of_ble_eq_true rfl) (Nat.le_of_ble_eq_true rfl)
      · skip
        refine vj_aload_n (j := 1) C dRu_runWaiting_17 rfl rfl ?_
        refine vj_gr C dRu_runWaiting_18 lf_Ru_28 rfl (fun a18 => ?_)
        refine vj_aload_n (j := 0) C dRu_runWaiting_21 rfl rfl ?_
        refine vj_gr C dRu_runWaiting_22 lf_Ru_15 rfl (fun a22 => ?_)
        refine vj_iload_n (j := 3) C dRu_runWaiting_25 rfl rfl ?_
        refine vj_iald C dRu_runWaiting_26 (by decide) (fun v26 => ?_)
        refine vj_aald C dRu_runWaiting_27 (by decide) (fun a27 => ?_)
        refine vj_astore (lv' := [(0, .ref a0), (1, .ref p1), (2, .ref p2), (3, .int w2_3), (4, .ref a27)]) C dRu_runWaiting_28 (by decide) [1, 2, 3, 4, 0] rfl ?_
        refine vj_aload (j := 4) C dRu_runWaiting_30 rfl ?_
        refine vj_aload_n (j := 2) C dRu_runWaiting_32 rfl rfl ?_
        refine vj_cV (ci := 1) (As := [.ref p2]) (st := []) (b := a27) (a1 := 1) C dRu_runWaiting_33 (cm_Cl_holds _ _ _ _) rfl gv_Ru_106 rfl rfl rfl hv_Cl_holds ⟨Nat.le_of_ble_eq_true rfl, Nat.le_of_ble_eq_true rfl⟩ rfl rfl (Nat.le_of_ble_eq_true rfl) ⟨Nat.le_of_ble_eq_true rfl, Nat.le_of_ble_eq_true rfl⟩ (fun v33 M33 => ?_)
        show Vj x 0 0 36 [(0, .ref a0), (1, .ref p1), (2, .ref p2), (3, .int w2_3), (4, .ref a27)] [.int v33] M33 _
        refine vj_jp (fun (j : Mm → Rr) => ∀ Mj57, Vj x 0 0 57 [(0, .ref a0), (1, .ref p1), (2, .ref p2), (3, .int w2_3)] [] Mj57 (j Mj57)) ?_ ?_
        · intro Mj57
          refine vj_iinc (j := 3) (b := 1) (lv' := [(0, .ref a0), (1, .ref p1), (2, .ref p2), (3, .int (w2_3 + 1))]) C dRu_runWaiting_57 rfl (by decide) (by decide) [1, 2, 3, 0] rfl ?_
          refine vj_goto (tgt := 2) C dRu_runWaiting_60 rfl ?_
          exact hg2 _ _
        · intro j57 hj57
          refine vj_if_eq (tgt := 57) C dRu_runWaiting_36 rfl ?_ ?_
          · skip
            refine vj_lk (lv' := [(0, .ref a0), (1, .ref p1), (2, .ref p2), (3, .int w2_3)]) [0, 1, 2, 3] rfl ?_
            exact hj57 _
          · skip
            refine vj_aload_n (j := 0) C dRu_runWaiting_39 rfl rfl ?_
            refine vj_aload (j := 4) C dRu_runWaiting_40 rfl ?_
            refine vj_aload_n (j := 0) C dRu_runWaiting_42 rfl rfl ?_
            refine vj_gr C dRu_runWaiting_43 lf_Ru_15 rfl (fun a43 => ?_)
            refine vj_iload_n (j := 3) C dRu_runWaiting_46 rfl rfl ?_
            refine vj_iald C dRu_runWaiting_47 (by decide) (fun v47 => ?_)
            refine vj_aload_n (j := 2) C dRu_runWaiting_48 rfl rfl ?_
            refine vj_cV (ci := 3) (As := [.ref a27, .int v47, .ref p2]) (st := []) (b := a0) (a1 := 3) C dRu_runWaiting_49 (cm_Ru_act _ _ _ _ _ _) rfl gv_Ru_110 rfl rfl rfl hv_Ru_act ⟨Nat.le_of_ble_eq_true rfl, Nat.le_of_ble_eq_true rfl⟩ rfl rfl (Nat.le_of_ble_eq_true rfl) ⟨Nat.le_of_ble_eq_true rfl, Nat.le_of_ble_eq_true rfl⟩ (fun v49 M49 => ?_)
            show Vj x 0 0 52 [(0, .ref a0), (1, .ref p1), (2, .ref p2), (3, .int w2_3), (4, .ref a27)] [.int v49] M49 _
            refine vj_if_ne (tgt := 57) C dRu_runWaiting_52 rfl ?_ ?_
            · skip
              refine vj_lk (lv' := [(0, .ref a0), (1, .ref p1), (2, .ref p2), (3, .int w2_3)]) [0, 1, 2, 3] rfl ?_
              exact hj57 _
            · skip
              refine vj_iconst (v := 0) C dRu_runWaiting_55 (by decide) ?_
              exact vj_retz C dRu_runWaiting_56 rfl rfl (Nat.le_of_ble_eq_true rfl) (Nat.le_of_ble_eq_true rfl)
  exact hg2x _ _ _
def lp_Ru_start_7 (a0 : Nat) (p1 : Nat) (p2 : Nat) (g7 : Mm → Int32 → Rr) (Mh7 : Mm) (w7_3 : Int32) : Rr := fo_gi Mh7 0 p1 1 fun v9 => if v9 ≤ w7_3 then fo_cv Mh7 3 a0 (fn_Ru_runWaiting Mh7 a0 p1 p2) fun v43 M43 => fo_rz v43 M43 else fo_gr Mh7 0 p1 0 fun a16 => fo_ar Mh7 4 a16 w7_3 fun a20 => fo_gi Mh7 1 a20 0 fun v21 => fo_jp (fun (Mj34 : Mm) => g7 Mj34 (w7_3 + 1)) (fun j34 => if v21 = 115 then fo_cv Mh7 3 a0 (fn_Ru_await Mh7 a0 w7_3) fun _ M31 => j34 M31 else j34 Mh7)
def fn_Ru_start (M : Mm) (a0 : Nat) (p1 : Nat) (p2 : Nat) : Rr := fo_pi M 3 a0 2 0 fun M2 => fo_fx (fun _ _ => none) (lp_Ru_start_7 a0 p1 p2) fo_N M2 0
set_option maxHeartbeats 4000000 in
set_option maxRecDepth 100000 in
theorem cm_Ru_start (l : Launch) (M : Mm) (a0 : Nat) (p1 : Nat) (p2 : Nat) : ct l zyRu_start ws_Ru_start { frames := 3, cells := 0, slots := 0, locals := 71 } 0 0 (fun w => some (.int w)) [.ref a0, .ref p1, .ref p2] M (fn_Ru_start M a0 p1 p2) := by
  refine ct_of (cc := zbRu_start) (maxL := 4) (ret := (some .boolean)) (lv0 := [(0, .ref a0), (1, .ref p1), (2, .ref p2)]) (by decide) rfl (Nat.le_of_ble_eq_true rfl) rfl rfl ?_
  intro x C
  unfold fn_Ru_start
  refine vj_aload_n (j := 0) C dRu_start_0 rfl rfl ?_
  refine vj_iconst (v := 0) C dRu_start_1 (by decide) ?_
  refine vj_pi C dRu_start_2 lf_Ru_19 lq_3_2 rfl (fun M2 => ?_)
  refine vj_iconst (v := 0) C dRu_start_5 (by decide) ?_
  refine vj_istore_n (lv' := [(0, .ref a0), (1, .ref p1), (2, .ref p2), (3, .int 0)]) C dRu_start_6 rfl (by decide) [1, 2, 3, 0] rfl ?_
  have hg7x : ∀ nf Mh7 w7_3, Vj x 0 0 7 [(0, .ref a0), (1, .ref p1), (2, .ref p2), (3, .int w7_3)] [] Mh7 (fo_fx (fun _ _ => none) (lp_Ru_start_7 a0 p1 p2) nf Mh7 w7_3) := by
    intro nf
    refine fo_fx_P (fun (j : Mm → Int32 → Rr) => ∀ Mh7 w7_3, Vj x 0 0 7 [(0, .ref a0), (1, .ref p1), (2, .ref p2), (3, .int w7_3)] [] Mh7 (j Mh7 w7_3)) (fun _ _ => Vj_none) ?_ nf
    intro g7 hg7 Mh7 w7_3
    unfold lp_Ru_start_7
    refine vj_iload_n (j := 3) C dRu_start_7 rfl rfl ?_
    refine vj_aload_n (j := 1) C dRu_start_8 rfl rfl ?_
    refine vj_gi C dRu_start_9 lf_Ru_23 rfl (fun v9 => ?_)
    refine vj_icmp_ge (tgt := 40) C dRu_start_12 rfl ?_ ?_
    · skip
      refine vj_aload_n (j := 0) C dRu_start_40 rfl rfl ?_
      refine vj_aload_n (j := 1) C dRu_start_41 rfl rfl ?_
      refine vj_aload_n (j := 2) C dRu_start_42 rfl rfl ?_
      refine vj_cV (ci := 3) (As := [.ref p1, .ref p2]) (st := []) (b := a0) (a1 := 2) C dRu_start_43 (cm_Ru_runWaiting _ _ _ _ _) rfl gv_Ru_41 rfl rfl rfl hv_Ru_runWaiting ⟨Nat.le_of_ble_eq_true rfl, Nat.le_of_ble_eq_true rfl⟩ rfl rfl (Nat.le_of_ble_eq_true rfl) ⟨Nat.le_of_ble_eq_true rfl, Nat.le_of_ble_eq_true rfl⟩ (fun v43 M43 => ?_)
      show Vj x 0 0 46 [(0, .ref a0), (1, .ref p1), (2, .ref p2), (3, .int w7_3)] [.int v43] M43 _
      exact vj_retz C dRu_start_46 rfl rfl (Nat.le_of_ble_eq_true rfl) (Nat.le_of_ble_eq_true rfl)
    · skip
      refine vj_aload_n (j := 1) C dRu_start_15 rfl rfl ?_
      refine vj_gr C dRu_start_16 lf_Ru_28 rfl (fun a16 => ?_)
      refine vj_iload_n (j := 3) C dRu_start_19 rfl rfl ?_
      refine vj_aald C dRu_start_20 (by decide) (fun a20 => ?_)
      refine vj_gi C dRu_start_21 lf_Ru_32 rfl (fun v21 => ?_)
      refine vj_bipush (v := 115) C dRu_start_24 (by decide) ?_
      refine vj_jp (fun (j : Mm → Rr) => ∀ Mj34, Vj x 0 0 34 [(0, .ref a0), (1, .ref p1), (2, .ref p2), (3, .int w7_3)] [] Mj34 (j Mj34)) ?_ ?_
      · intro Mj34
        refine vj_iinc (j := 3) (b := 1) (lv' := [(0, .ref a0), (1, .ref p1), (2, .ref p2), (3, .int (w7_3 + 1))]) C dRu_start_34 rfl (by decide) (by decide) [1, 2, 3, 0] rfl ?_
        refine vj_goto (tgt := 7) C dRu_start_37 rfl ?_
        exact hg7 _ _
      · intro j34 hj34
        refine vj_icmp_ne (tgt := 34) C dRu_start_26 rfl ?_ ?_
        · skip
          exact hj34 _
        · skip
          refine vj_aload_n (j := 0) C dRu_start_29 rfl rfl ?_
          refine vj_iload_n (j := 3) C dRu_start_30 rfl rfl ?_
          refine vj_cV (ci := 3) (As := [.int w7_3]) (st := []) (b := a0) (a1 := 1) C dRu_start_31 (cm_Ru_await _ _ _ _) rfl gv_Ru_37 rfl rfl rfl hv_Ru_await ⟨Nat.le_of_ble_eq_true rfl, Nat.le_of_ble_eq_true rfl⟩ rfl rfl (Nat.le_of_ble_eq_true rfl) ⟨Nat.le_of_ble_eq_true rfl, Nat.le_of_ble_eq_true rfl⟩ (fun _ M31 => ?_)
          show Vj x 0 0 34 [(0, .ref a0), (1, .ref p1), (2, .ref p2), (3, .int w7_3)] [] M31 _
          exact hj34 _
  exact hg7x _ _ _
def fn_Te_copyFrom (M : Mm) (a0 : Nat) (p1 : Nat) : Rr := fo_gr M 6 p1 0 fun a1 => fo_gr M 6 a0 0 fun a6 => fo_gi M 6 p1 1 fun v11 => fo_cp M a1 a6 0 0 v11 fun M14 => fo_gi M14 6 p1 1 fun v19 => fo_pi M14 6 a0 1 v19 fun M22 => some (0, M22)
set_option maxHeartbeats 4000000 in
set_option maxRecDepth 100000 in
theorem cm_Te_copyFrom (l : Launch) (M : Mm) (a0 : Nat) (p1 : Nat) : ct l zyTe_copyFrom ws_Te_copyFrom { frames := 1, cells := 0, slots := 0, locals := 200 } 0 0 (fun _ => none) [.ref a0, .ref p1] M (fn_Te_copyFrom M a0 p1) := by
  refine ct_of (cc := zbTe_copyFrom) (maxL := 2) (ret := none) (lv0 := [(0, .ref a0), (1, .ref p1)]) (by decide) rfl (Nat.le_of_ble_eq_true rfl) rfl rfl ?_
  intro x C
  unfold fn_Te_copyFrom
  refine vj_aload_n (j := 1) C dTe_copyFrom_0 rfl rfl ?_
  refine vj_gr C dTe_copyFrom_1 lf_Te_9 rfl (fun a1 => ?_)
  refine vj_iconst (v := 0) C dTe_copyFrom_4 (by decide) ?_
  refine vj_aload_n (j := 0) C dTe_copyFrom_5 rfl rfl ?_
  refine vj_gr C dTe_copyFrom_6 lf_Te_9 rfl (fun a6 => ?_)
  refine vj_iconst (v := 0) C dTe_copyFrom_9 (by decide) ?_
  refine vj_aload_n (j := 1) C dTe_copyFrom_10 rfl rfl ?_
  refine vj_gi C dTe_copyFrom_11 lf_Te_15 rfl (fun v11 => ?_)
  refine vj_cp C dTe_copyFrom_14 ⟨k_253, k_254, k_255, k_256⟩ ⟨Nat.le_of_ble_eq_true rfl, by decide +kernel⟩ (fun M14 => ?_)
  refine vj_aload_n (j := 0) C dTe_copyFrom_17 rfl rfl ?_
  refine vj_aload_n (j := 1) C dTe_copyFrom_18 rfl rfl ?_
  refine vj_gi C dTe_copyFrom_19 lf_Te_15 rfl (fun v19 => ?_)
  refine vj_pi C dTe_copyFrom_22 lf_Te_15 lq_6_1 rfl (fun M22 => ?_)
  exact vj_retv C dTe_copyFrom_25 rfl rfl (Nat.le_of_ble_eq_true rfl) (Nat.le_of_ble_eq_true rfl)
def fn_St_copyFrom (M : Mm) (a0 : Nat) (p1 : Nat) : Rr := fo_gi M 5 p1 0 fun v2 => fo_pi M 5 a0 0 v2 fun M5 => fo_gr M5 5 a0 1 fun a9 => fo_gr M5 5 p1 1 fun a13 => fo_cv M5 6 a9 (fn_Te_copyFrom M5 a9 a13) fun _ M16 => fo_gr M16 5 a0 2 fun a20 => fo_gr M16 5 p1 2 fun a24 => fo_cv M16 6 a20 (fn_Te_copyFrom M16 a20 a24) fun _ M27 => fo_gr M27 5 a0 3 fun a31 => fo_gr M27 5 p1 3 fun a35 => fo_cv M27 6 a31 (fn_Te_copyFrom M27 a31 a35) fun _ M38 => fo_gr M38 5 p1 4 fun a42 => fo_gr M38 5 a0 4 fun a47 => fo_gr M38 5 a0 4 fun a52 => fo_an M38 0 a52 fun v55 => fo_cp M38 a42 a47 0 0 v55 fun M56 => fo_gr M56 5 p1 5 fun a60 => fo_gr M56 5 a0 5 fun a65 => fo_gr M56 5 a0 5 fun a70 => fo_an M56 0 a70 fun v73 => fo_cp M56 a60 a65 0 0 v73 fun M74 => some (0, M74)
set_option maxHeartbeats 4000000 in
set_option maxRecDepth 100000 in
theorem cm_St_copyFrom (l : Launch) (M : Mm) (a0 : Nat) (p1 : Nat) : ct l zySt_copyFrom ws_St_copyFrom { frames := 2, cells := 0, slots := 0, locals := 221 } 0 0 (fun _ => none) [.ref a0, .ref p1] M (fn_St_copyFrom M a0 p1) := by
  refine ct_of (cc := zbSt_copyFrom) (maxL := 2) (ret := none) (lv0 := [(0, .ref a0), (1, .ref p1)]) (by decide) rfl (Nat.le_of_ble_eq_true rfl) rfl rfl ?_
  intro x C
  unfold fn_St_copyFrom
  refine vj_aload_n (j := 0) C dSt_copyFrom_0 rfl rfl ?_
  refine vj_aload_n (j := 1) C dSt_copyFrom_1 rfl rfl ?_
  refine vj_gi C dSt_copyFrom_2 lf_St_9 rfl (fun v2 => ?_)
  refine vj_pi C dSt_copyFrom_5 lf_St_9 lq_5_0 rfl (fun M5 => ?_)
  refine vj_aload_n (j := 0) C dSt_copyFrom_8 rfl rfl ?_
  refine vj_gr C dSt_copyFrom_9 lf_St_18 rfl (fun a9 => ?_)
  refine vj_aload_n (j := 1) C dSt_copyFrom_12 rfl rfl ?_
  refine vj_gr C dSt_copyFrom_13 lf_St_18 rfl (fun a13 => ?_)
  refine vj_cV (ci := 6) (As := [.ref a13]) (st := []) (b := a9) (a1 := 1) C dSt_copyFrom_16 (cm_Te_copyFrom _ _ _ _) rfl gv_St_38 rfl rfl rfl hv_Te_copyFrom ⟨Nat.le_of_ble_eq_true rfl, Nat.le_of_ble_eq_true rfl⟩ rfl rfl (Nat.le_of_ble_eq_true rfl) ⟨Nat.le_of_ble_eq_true rfl, Nat.le_of_ble_eq_true rfl⟩ (fun _ M16 => ?_)
  show Vj x 0 0 19 [(0, .ref a0), (1, .ref p1)] [] M16 _
  refine vj_aload_n (j := 0) C dSt_copyFrom_19 rfl rfl ?_
  refine vj_gr C dSt_copyFrom_20 lf_St_22 rfl (fun a20 => ?_)
  refine vj_aload_n (j := 1) C dSt_copyFrom_23 rfl rfl ?_
  refine vj_gr C dSt_copyFrom_24 lf_St_22 rfl (fun a24 => ?_)
  refine vj_cV (ci := 6) (As := [.ref a24]) (st := []) (b := a20) (a1 := 1) C dSt_copyFrom_27 (cm_Te_copyFrom _ _ _ _) rfl gv_St_38 rfl rfl rfl hv_Te_copyFrom ⟨Nat.le_of_ble_eq_true rfl, Nat.le_of_ble_eq_true rfl⟩ rfl rfl (Nat.le_of_ble_eq_true rfl) ⟨Nat.le_of_ble_eq_true rfl, Nat.le_of_ble_eq_true rfl⟩ (fun _ M27 => ?_)
  show Vj x 0 0 30 [(0, .ref a0), (1, .ref p1)] [] M27 _
  refine vj_aload_n (j := 0) C dSt_copyFrom_30 rfl rfl ?_
  refine vj_gr C dSt_copyFrom_31 lf_St_25 rfl (fun a31 => ?_)
  refine vj_aload_n (j := 1) C dSt_copyFrom_34 rfl rfl ?_
  refine vj_gr C dSt_copyFrom_35 lf_St_25 rfl (fun a35 => ?_)
  refine vj_cV (ci := 6) (As := [.ref a35]) (st := []) (b := a31) (a1 := 1) C dSt_copyFrom_38 (cm_Te_copyFrom _ _ _ _) rfl gv_St_38 rfl rfl rfl hv_Te_copyFrom ⟨Nat.le_of_ble_eq_true rfl, Nat.le_of_ble_eq_true rfl⟩ rfl rfl (Nat.le_of_ble_eq_true rfl) ⟨Nat.le_of_ble_eq_true rfl, Nat.le_of_ble_eq_true rfl⟩ (fun _ M38 => ?_)
  show Vj x 0 0 41 [(0, .ref a0), (1, .ref p1)] [] M38 _
  refine vj_aload_n (j := 1) C dSt_copyFrom_41 rfl rfl ?_
  refine vj_gr C dSt_copyFrom_42 lf_St_28 rfl (fun a42 => ?_)
  refine vj_iconst (v := 0) C dSt_copyFrom_45 (by decide) ?_
  refine vj_aload_n (j := 0) C dSt_copyFrom_46 rfl rfl ?_
  refine vj_gr C dSt_copyFrom_47 lf_St_28 rfl (fun a47 => ?_)
  refine vj_iconst (v := 0) C dSt_copyFrom_50 (by decide) ?_
  refine vj_aload_n (j := 0) C dSt_copyFrom_51 rfl rfl ?_
  refine vj_gr C dSt_copyFrom_52 lf_St_28 rfl (fun a52 => ?_)
  refine vj_alen (t := 0) C dSt_copyFrom_55 (by decide) (fun v55 => ?_)
  refine vj_cp C dSt_copyFrom_56 ⟨k_261, k_254, k_255, k_256⟩ ⟨Nat.le_of_ble_eq_true rfl, by decide +kernel⟩ (fun M56 => ?_)
  refine vj_aload_n (j := 1) C dSt_copyFrom_59 rfl rfl ?_
  refine vj_gr C dSt_copyFrom_60 lf_St_32 rfl (fun a60 => ?_)
  refine vj_iconst (v := 0) C dSt_copyFrom_63 (by decide) ?_
  refine vj_aload_n (j := 0) C dSt_copyFrom_64 rfl rfl ?_
  refine vj_gr C dSt_copyFrom_65 lf_St_32 rfl (fun a65 => ?_)
  refine vj_iconst (v := 0) C dSt_copyFrom_68 (by decide) ?_
  refine vj_aload_n (j := 0) C dSt_copyFrom_69 rfl rfl ?_
  refine vj_gr C dSt_copyFrom_70 lf_St_32 rfl (fun a70 => ?_)
  refine vj_alen (t := 0) C dSt_copyFrom_73 (by decide) (fun v73 => ?_)
  refine vj_cp C dSt_copyFrom_74 ⟨k_261, k_254, k_255, k_256⟩ ⟨Nat.le_of_ble_eq_true rfl, by decide +kernel⟩ (fun M74 => ?_)
  exact vj_retv C dSt_copyFrom_77 rfl rfl (Nat.le_of_ble_eq_true rfl) (Nat.le_of_ble_eq_true rfl)
def fn_Hi_forget (M : Mm) (a0 : Nat) : Rr := fo_pi M 2 a0 1 0 fun M2 => some (0, M2)
set_option maxHeartbeats 4000000 in
set_option maxRecDepth 100000 in
theorem cm_Hi_forget (l : Launch) (M : Mm) (a0 : Nat) : ct l zyHi_forget ws_Hi_forget { frames := 0, cells := 0, slots := 0, locals := 0 } 0 0 (fun _ => none) [.ref a0] M (fn_Hi_forget M a0) := by
  refine ct_of (cc := zbHi_forget) (maxL := 1) (ret := none) (lv0 := [(0, .ref a0)]) (by decide) rfl (Nat.le_of_ble_eq_true rfl) rfl rfl ?_
  intro x C
  unfold fn_Hi_forget
  refine vj_aload_n (j := 0) C dHi_forget_0 rfl rfl ?_
  refine vj_iconst (v := 0) C dHi_forget_1 (by decide) ?_
  refine vj_pi C dHi_forget_2 lf_Hi_17 lq_2_1 rfl (fun M2 => ?_)
  exact vj_retv C dHi_forget_5 rfl rfl (Nat.le_of_ble_eq_true rfl) (Nat.le_of_ble_eq_true rfl)
def fn_Pm_stop (M : Mm) (a0 : Nat) : Rr := fo_gi M 8 a0 2 fun v1 => fo_pz M 8 a0 2 0 fun M7 => fo_gr M7 8 a0 7 fun a11 => fo_cv M7 2 a11 (fn_Hi_forget M7 a11) fun _ M14 => fo_rz v1 M14
set_option maxHeartbeats 4000000 in
set_option maxRecDepth 100000 in
theorem cm_Pm_stop (l : Launch) (M : Mm) (a0 : Nat) : ct l zyPm_stop ws_Pm_stop { frames := 1, cells := 0, slots := 0, locals := 20 } 0 0 (fun w => some (.int w)) [.ref a0] M (fn_Pm_stop M a0) := by
  refine ct_of (cc := zbPm_stop) (maxL := 2) (ret := (some .boolean)) (lv0 := [(0, .ref a0)]) (by decide) rfl (Nat.le_of_ble_eq_true rfl) rfl rfl ?_
  intro x C
  unfold fn_Pm_stop
  refine vj_aload_n (j := 0) C dPm_stop_0 rfl rfl ?_
  refine vj_gi C dPm_stop_1 lf_Pm_20 rfl (fun v1 => ?_)
  refine vj_istore_n (lv' := [(0, .ref a0), (1, .int v1)]) C dPm_stop_4 rfl (by decide) [1, 0] rfl ?_
  refine vj_aload_n (j := 0) C dPm_stop_5 rfl rfl ?_
  refine vj_iconst (v := 0) C dPm_stop_6 (by decide) ?_
  refine vj_pz C dPm_stop_7 lf_Pm_20 lq_8_2 rfl (fun M7 => ?_)
  refine vj_aload_n (j := 0) C dPm_stop_10 rfl rfl ?_
  refine vj_gr C dPm_stop_11 lf_Pm_47 rfl (fun a11 => ?_)
  refine vj_cV (ci := 2) (As := []) (st := []) (b := a11) (a1 := 0) C dPm_stop_14 (cm_Hi_forget _ _ _) rfl gv_Pm_97 rfl rfl rfl hv_Hi_forget ⟨Nat.le_of_ble_eq_true rfl, Nat.le_of_ble_eq_true rfl⟩ rfl rfl (Nat.le_of_ble_eq_true rfl) ⟨Nat.le_of_ble_eq_true rfl, Nat.le_of_ble_eq_true rfl⟩ (fun _ M14 => ?_)
  show Vj x 0 0 17 [(0, .ref a0), (1, .int v1)] [] M14 _
  refine vj_iload_n (j := 1) C dPm_stop_17 rfl rfl ?_
  exact vj_retz C dPm_stop_18 rfl rfl (Nat.le_of_ble_eq_true rfl) (Nat.le_of_ble_eq_true rfl)
def fn_Pm_fault (M : Mm) (a0 : Nat) : Rr := fo_gi M 8 a0 1 fun v1 => some (v1, M)
set_option maxHeartbeats 4000000 in
set_option maxRecDepth 100000 in
theorem cm_Pm_fault (l : Launch) (M : Mm) (a0 : Nat) : ct l zyPm_fault ws_Pm_fault { frames := 0, cells := 0, slots := 0, locals := 0 } 0 0 (fun w => some (.int w)) [.ref a0] M (fn_Pm_fault M a0) := by
  refine ct_of (cc := zbPm_fault) (maxL := 1) (ret := (some .int)) (lv0 := [(0, .ref a0)]) (by decide) rfl (Nat.le_of_ble_eq_true rfl) rfl rfl ?_
  intro x C
  unfold fn_Pm_fault
  refine vj_aload_n (j := 0) C dPm_fault_0 rfl rfl ?_
  refine vj_gi C dPm_fault_1 lf_Pm_16 rfl (fun v1 => ?_)
  exact vj_ret C dPm_fault_4 rfl rfl (Nat.le_of_ble_eq_true rfl) (Nat.le_of_ble_eq_true rfl)
def fn_Pm_isParty (M : Mm) (p0 : Int32) : Rr := if p0 < 0 then fo_rz 0 M else if 3 ≤ p0 then fo_rz 0 M else fo_rz 1 M
set_option maxHeartbeats 4000000 in
set_option maxRecDepth 100000 in
theorem cm_Pm_isParty (l : Launch) (M : Mm) (p0 : Int32) : ct l zyPm_isParty ws_Pm_isParty { frames := 0, cells := 0, slots := 0, locals := 0 } 0 0 (fun w => some (.int w)) [.int p0] M (fn_Pm_isParty M p0) := by
  refine ct_of (cc := zbPm_isParty) (maxL := 1) (ret := (some .boolean)) (lv0 := [(0, .int p0)]) (by decide) rfl (Nat.le_of_ble_eq_true rfl) rfl rfl ?_
  intro x C
  unfold fn_Pm_isParty
  refine vj_iload_n (j := 0) C dPm_isParty_0 rfl rfl ?_
  refine vj_if_lt (tgt := 13) C dPm_isParty_1 rfl ?_ ?_
  · skip
    refine vj_iconst (v := 0) C dPm_isParty_13 (by decide) ?_
    exact vj_retz C dPm_isParty_14 rfl rfl (Nat.le_of_ble_eq_true rfl) (Nat.le_of_ble_eq_true rfl)
  · skip
    refine vj_iload_n (j := 0) C dPm_isParty_4 rfl rfl ?_
    refine vj_iconst (v := 3) C dPm_isParty_5 (by decide) ?_
    refine vj_icmp_ge (tgt := 13) C dPm_isParty_6 rfl ?_ ?_
    · skip
      refine vj_iconst (v := 0) C dPm_isParty_13 (by decide) ?_
      exact vj_retz C dPm_isParty_14 rfl rfl (Nat.le_of_ble_eq_true rfl) (Nat.le_of_ble_eq_true rfl)
    · skip
      refine vj_iconst (v := 1) C dPm_isParty_9 (by decide) ?_
      refine vj_goto (tgt := 14) C dPm_isParty_10 rfl ?_
      exact vj_retz C dPm_isParty_14 rfl rfl (Nat.le_of_ble_eq_true rfl) (Nat.le_of_ble_eq_true rfl)
def fn_Pm_isKind (M : Mm) (p0 : Int32) : Rr := if p0 < 0 then fo_rz 0 M else if 5 ≤ p0 then fo_rz 0 M else fo_rz 1 M
set_option maxHeartbeats 4000000 in
set_option maxRecDepth 100000 in
theorem cm_Pm_isKind (l : Launch) (M : Mm) (p0 : Int32) : ct l zyPm_isKind ws_Pm_isKind { frames := 0, cells := 0, slots := 0, locals := 0 } 0 0 (fun w => some (.int w)) [.int p0] M (fn_Pm_isKind M p0) := by
  refine ct_of (cc := zbPm_isKind) (maxL := 1) (ret := (some .boolean)) (lv0 := [(0, .int p0)]) (by decide) rfl (Nat.le_of_ble_eq_true rfl) rfl rfl ?_
  intro x C
  unfold fn_Pm_isKind
  refine vj_iload_n (j := 0) C dPm_isKind_0 rfl rfl ?_
  refine vj_if_lt (tgt := 13) C dPm_isKind_1 rfl ?_ ?_
  · skip
    refine vj_iconst (v := 0) C dPm_isKind_13 (by decide) ?_
    exact vj_retz C dPm_isKind_14 rfl rfl (Nat.le_of_ble_eq_true rfl) (Nat.le_of_ble_eq_true rfl)
  · skip
    refine vj_iload_n (j := 0) C dPm_isKind_4 rfl rfl ?_
    refine vj_iconst (v := 5) C dPm_isKind_5 (by decide) ?_
    refine vj_icmp_ge (tgt := 13) C dPm_isKind_6 rfl ?_ ?_
    · skip
      refine vj_iconst (v := 0) C dPm_isKind_13 (by decide) ?_
      exact vj_retz C dPm_isKind_14 rfl rfl (Nat.le_of_ble_eq_true rfl) (Nat.le_of_ble_eq_true rfl)
    · skip
      refine vj_iconst (v := 1) C dPm_isKind_9 (by decide) ?_
      refine vj_goto (tgt := 14) C dPm_isKind_10 rfl ?_
      exact vj_retz C dPm_isKind_14 rfl rfl (Nat.le_of_ble_eq_true rfl) (Nat.le_of_ble_eq_true rfl)
def fn_Cl_isOnEvent (M : Mm) (a0 : Nat) (p1 : Int32) (p2 : Int32) : Rr := fo_gi M 1 a0 0 fun v1 => if v1 = 101 then fo_gi M 1 a0 1 fun v10 => if v10 = p1 then fo_gi M 1 a0 2 fun v18 => if v18 = p2 then fo_rz 1 M else fo_rz 0 M else fo_rz 0 M else fo_rz 0 M
set_option maxHeartbeats 4000000 in
set_option maxRecDepth 100000 in
theorem cm_Cl_isOnEvent (l : Launch) (M : Mm) (a0 : Nat) (p1 : Int32) (p2 : Int32) : ct l zyCl_isOnEvent ws_Cl_isOnEvent { frames := 0, cells := 0, slots := 0, locals := 0 } 0 0 (fun w => some (.int w)) [.ref a0, .int p1, .int p2] M (fn_Cl_isOnEvent M a0 p1 p2) := by
  refine ct_of (cc := zbCl_isOnEvent) (maxL := 3) (ret := (some .boolean)) (lv0 := [(0, .ref a0), (1, .int p1), (2, .int p2)]) (by decide) rfl (Nat.le_of_ble_eq_true rfl) rfl rfl ?_
  intro x C
  unfold fn_Cl_isOnEvent
  refine vj_aload_n (j := 0) C dCl_isOnEvent_0 rfl rfl ?_
  refine vj_gi C dCl_isOnEvent_1 lf_Cl_9 rfl (fun v1 => ?_)
  refine vj_bipush (v := 101) C dCl_isOnEvent_4 (by decide) ?_
  refine vj_icmp_ne (tgt := 29) C dCl_isOnEvent_6 rfl ?_ ?_
  · skip
    refine vj_iconst (v := 0) C dCl_isOnEvent_29 (by decide) ?_
    exact vj_retz C dCl_isOnEvent_30 rfl rfl (Nat.le_of_ble_eq_true rfl) (Nat.le_of_ble_eq_true rfl)
  · skip
    refine vj_aload_n (j := 0) C dCl_isOnEvent_9 rfl rfl ?_
    refine vj_gi C dCl_isOnEvent_10 lf_Cl_15 rfl (fun v10 => ?_)
    refine vj_iload_n (j := 1) C dCl_isOnEvent_13 rfl rfl ?_
    refine vj_icmp_ne (tgt := 29) C dCl_isOnEvent_14 rfl ?_ ?_
    · skip
      refine vj_iconst (v := 0) C dCl_isOnEvent_29 (by decide) ?_
      exact vj_retz C dCl_isOnEvent_30 rfl rfl (Nat.le_of_ble_eq_true rfl) (Nat.le_of_ble_eq_true rfl)
    · skip
      refine vj_aload_n (j := 0) C dCl_isOnEvent_17 rfl rfl ?_
      refine vj_gi C dCl_isOnEvent_18 lf_Cl_18 rfl (fun v18 => ?_)
      refine vj_iload_n (j := 2) C dCl_isOnEvent_21 rfl rfl ?_
      refine vj_icmp_ne (tgt := 29) C dCl_isOnEvent_22 rfl ?_ ?_
      · skip
        refine vj_iconst (v := 0) C dCl_isOnEvent_29 (by decide) ?_
        exact vj_retz C dCl_isOnEvent_30 rfl rfl (Nat.le_of_ble_eq_true rfl) (Nat.le_of_ble_eq_true rfl)
      · skip
        refine vj_iconst (v := 1) C dCl_isOnEvent_25 (by decide) ?_
        refine vj_goto (tgt := 30) C dCl_isOnEvent_26 rfl ?_
        exact vj_retz C dCl_isOnEvent_30 rfl rfl (Nat.le_of_ble_eq_true rfl) (Nat.le_of_ble_eq_true rfl)
def fn_Te_clauseAt (M : Mm) (a0 : Nat) (p1 : Int32) : Rr := fo_gr M 6 a0 0 fun a1 => fo_ai M 0 a1 p1 fun v5 => some ((v5 - v5 / 100 * 100), M)
set_option maxHeartbeats 4000000 in
set_option maxRecDepth 100000 in
theorem cm_Te_clauseAt (l : Launch) (M : Mm) (a0 : Nat) (p1 : Int32) : ct l zyTe_clauseAt ws_Te_clauseAt { frames := 0, cells := 0, slots := 0, locals := 0 } 0 0 (fun w => some (.int w)) [.ref a0, .int p1] M (fn_Te_clauseAt M a0 p1) := by
  refine ct_of (cc := zbTe_clauseAt) (maxL := 2) (ret := (some .int)) (lv0 := [(0, .ref a0), (1, .int p1)]) (by decide) rfl (Nat.le_of_ble_eq_true rfl) rfl rfl ?_
  intro x C
  unfold fn_Te_clauseAt
  refine vj_aload_n (j := 0) C dTe_clauseAt_0 rfl rfl ?_
  refine vj_gr C dTe_clauseAt_1 lf_Te_9 rfl (fun a1 => ?_)
  refine vj_iload_n (j := 1) C dTe_clauseAt_4 rfl rfl ?_
  refine vj_iald C dTe_clauseAt_5 (by decide) (fun v5 => ?_)
  refine vj_bipush (v := 100) C dTe_clauseAt_6 (by decide) ?_
  refine vj_irem C dTe_clauseAt_8 (by decide) ?_
  exact vj_ret C dTe_clauseAt_9 rfl rfl (Nat.le_of_ble_eq_true rfl) (Nat.le_of_ble_eq_true rfl)
def fn_Cl_isFor (M : Mm) (a0 : Nat) (p1 : Int32) (p2 : Int32) : Rr := fo_gi M 1 a0 9 fun v1 => if v1 = p1 then fo_gi M 1 a0 10 fun v9 => if v9 = p2 then fo_rz 1 M else fo_rz 0 M else fo_rz 0 M
set_option maxHeartbeats 4000000 in
set_option maxRecDepth 100000 in
theorem cm_Cl_isFor (l : Launch) (M : Mm) (a0 : Nat) (p1 : Int32) (p2 : Int32) : ct l zyCl_isFor ws_Cl_isFor { frames := 0, cells := 0, slots := 0, locals := 0 } 0 0 (fun w => some (.int w)) [.ref a0, .int p1, .int p2] M (fn_Cl_isFor M a0 p1 p2) := by
  refine ct_of (cc := zbCl_isFor) (maxL := 3) (ret := (some .boolean)) (lv0 := [(0, .ref a0), (1, .int p1), (2, .int p2)]) (by decide) rfl (Nat.le_of_ble_eq_true rfl) rfl rfl ?_
  intro x C
  unfold fn_Cl_isFor
  refine vj_aload_n (j := 0) C dCl_isFor_0 rfl rfl ?_
  refine vj_gi C dCl_isFor_1 lf_Cl_40 rfl (fun v1 => ?_)
  refine vj_iload_n (j := 1) C dCl_isFor_4 rfl rfl ?_
  refine vj_icmp_ne (tgt := 20) C dCl_isFor_5 rfl ?_ ?_
  · skip
    refine vj_iconst (v := 0) C dCl_isFor_20 (by decide) ?_
    exact vj_retz C dCl_isFor_21 rfl rfl (Nat.le_of_ble_eq_true rfl) (Nat.le_of_ble_eq_true rfl)
  · skip
    refine vj_aload_n (j := 0) C dCl_isFor_8 rfl rfl ?_
    refine vj_gi C dCl_isFor_9 lf_Cl_43 rfl (fun v9 => ?_)
    refine vj_iload_n (j := 2) C dCl_isFor_12 rfl rfl ?_
    refine vj_icmp_ne (tgt := 20) C dCl_isFor_13 rfl ?_ ?_
    · skip
      refine vj_iconst (v := 0) C dCl_isFor_20 (by decide) ?_
      exact vj_retz C dCl_isFor_21 rfl rfl (Nat.le_of_ble_eq_true rfl) (Nat.le_of_ble_eq_true rfl)
    · skip
      refine vj_iconst (v := 1) C dCl_isFor_16 (by decide) ?_
      refine vj_goto (tgt := 21) C dCl_isFor_17 rfl ?_
      exact vj_retz C dCl_isFor_21 rfl rfl (Nat.le_of_ble_eq_true rfl) (Nat.le_of_ble_eq_true rfl)
def lp_Ag_find_3 (a0 : Nat) (p1 : Nat) (p2 : Int32) (p3 : Int32) (g3 : Mm → Int32 → Rr) (Mh3 : Mm) (w3_4 : Int32) : Rr := fo_gi Mh3 6 p1 1 fun v6 => if v6 ≤ w3_4 then some ((-1), Mh3) else fo_gr Mh3 0 a0 0 fun a13 => fo_cv Mh3 6 p1 (fn_Te_clauseAt Mh3 p1 w3_4) fun v19 M19 => fo_ar M19 4 a13 v19 fun a22 => fo_cv M19 1 a22 (fn_Cl_isFor M19 a22 p2 p3) fun v25 M25 => if v25 = 0 then g3 M25 (w3_4 + 1) else some (w3_4, M25)
def fn_Ag_find (M : Mm) (a0 : Nat) (p1 : Nat) (p2 : Int32) (p3 : Int32) : Rr := fo_fx (fun _ _ => none) (lp_Ag_find_3 a0 p1 p2 p3) fo_N M 0
set_option maxHeartbeats 4000000 in
set_option maxRecDepth 100000 in
theorem cm_Ag_find (l : Launch) (M : Mm) (a0 : Nat) (p1 : Nat) (p2 : Int32) (p3 : Int32) : ct l zyAg_find ws_Ag_find { frames := 1, cells := 0, slots := 0, locals := 22 } 0 0 (fun w => some (.int w)) [.ref a0, .ref p1, .int p2, .int p3] M (fn_Ag_find M a0 p1 p2 p3) := by
  refine ct_of (cc := zbAg_find) (maxL := 5) (ret := (some .int)) (lv0 := [(0, .ref a0), (1, .ref p1), (2, .int p2), (3, .int p3)]) (by decide) rfl (Nat.le_of_ble_eq_true rfl) rfl rfl ?_
  intro x C
  unfold fn_Ag_find
  refine vj_iconst (v := 0) C dAg_find_0 (by decide) ?_
  refine vj_istore (lv' := [(0, .ref a0), (1, .ref p1), (2, .int p2), (3, .int p3), (4, .int 0)]) C dAg_find_1 (by decide) [1, 2, 3, 4, 0] rfl ?_
  have hg3x : ∀ nf Mh3 w3_4, Vj x 0 0 3 [(0, .ref a0), (1, .ref p1), (2, .int p2), (3, .int p3), (4, .int w3_4)] [] Mh3 (fo_fx (fun _ _ => none) (lp_Ag_find_3 a0 p1 p2 p3) nf Mh3 w3_4) := by
    intro nf
    refine fo_fx_P (fun (j : Mm → Int32 → Rr) => ∀ Mh3 w3_4, Vj x 0 0 3 [(0, .ref a0), (1, .ref p1), (2, .int p2), (3, .int p3), (4, .int w3_4)] [] Mh3 (j Mh3 w3_4)) (fun _ _ => Vj_none) ?_ nf
    intro g3 hg3 Mh3 w3_4
    unfold lp_Ag_find_3
    refine vj_iload (j := 4) C dAg_find_3 rfl ?_
    refine vj_aload_n (j := 1) C dAg_find_5 rfl rfl ?_
    refine vj_gi C dAg_find_6 lf_Ag_22 rfl (fun v6 => ?_)
    refine vj_icmp_ge (tgt := 40) C dAg_find_9 rfl ?_ ?_
    · skip
      refine vj_iconst (v := (-1)) C dAg_find_40 (by decide) ?_
      exact vj_ret C dAg_find_41 rfl rfl (Nat.le_of_ble_eq_true rfl) (Nat.le_of_ble_eq_true rfl)
    · skip
      refine vj_aload_n (j := 0) C dAg_find_12 rfl rfl ?_
      refine vj_gr C dAg_find_13 lf_Ag_11 rfl (fun a13 => ?_)
      refine vj_aload_n (j := 1) C dAg_find_16 rfl rfl ?_
      refine vj_iload (j := 4) C dAg_find_17 rfl ?_
      refine vj_cV (ci := 6) (As := [.int w3_4]) (st := [.ref a13]) (b := p1) (a1 := 1) C dAg_find_19 (cm_Te_clauseAt _ _ _ _) rfl gv_Ag_25 rfl rfl rfl hv_Te_clauseAt ⟨Nat.le_of_ble_eq_true rfl, Nat.le_of_ble_eq_true rfl⟩ rfl rfl (Nat.le_of_ble_eq_true rfl) ⟨Nat.le_of_ble_eq_true rfl, Nat.le_of_ble_eq_true rfl⟩ (fun v19 M19 => ?_)
      show Vj x 0 0 22 [(0, .ref a0), (1, .ref p1), (2, .int p2), (3, .int p3), (4, .int w3_4)] [.int v19, .ref a13] M19 _
      refine vj_aald C dAg_find_22 (by decide) (fun a22 => ?_)
      refine vj_iload_n (j := 2) C dAg_find_23 rfl rfl ?_
      refine vj_iload_n (j := 3) C dAg_find_24 rfl rfl ?_
      refine vj_cV (ci := 1) (As := [.int p2, .int p3]) (st := []) (b := a22) (a1 := 2) C dAg_find_25 (cm_Cl_isFor _ _ _ _ _) rfl gv_Ag_29 rfl rfl rfl hv_Cl_isFor ⟨Nat.le_of_ble_eq_true rfl, Nat.le_of_ble_eq_true rfl⟩ rfl rfl (Nat.le_of_ble_eq_true rfl) ⟨Nat.le_of_ble_eq_true rfl, Nat.le_of_ble_eq_true rfl⟩ (fun v25 M25 => ?_)
      show Vj x 0 0 28 [(0, .ref a0), (1, .ref p1), (2, .int p2), (3, .int p3), (4, .int w3_4)] [.int v25] M25 _
      refine vj_if_eq (tgt := 34) C dAg_find_28 rfl ?_ ?_
      · skip
        refine vj_iinc (j := 4) (b := 1) (lv' := [(0, .ref a0), (1, .ref p1), (2, .int p2), (3, .int p3), (4, .int (w3_4 + 1))]) C dAg_find_34 rfl (by decide) (by decide) [1, 2, 3, 4, 0] rfl ?_
        refine vj_goto (tgt := 3) C dAg_find_37 rfl ?_
        exact hg3 _ _
      · skip
        refine vj_iload (j := 4) C dAg_find_31 rfl ?_
        exact vj_ret C dAg_find_33 rfl rfl (Nat.le_of_ble_eq_true rfl) (Nat.le_of_ble_eq_true rfl)
  exact hg3x _ _ _
def fn_Te_dayAt (M : Mm) (a0 : Nat) (p1 : Int32) : Rr := fo_gr M 6 a0 0 fun a1 => fo_ai M 0 a1 p1 fun v5 => some ((v5 / 100), M)
set_option maxHeartbeats 4000000 in
set_option maxRecDepth 100000 in
theorem cm_Te_dayAt (l : Launch) (M : Mm) (a0 : Nat) (p1 : Int32) : ct l zyTe_dayAt ws_Te_dayAt { frames := 0, cells := 0, slots := 0, locals := 0 } 0 0 (fun w => some (.int w)) [.ref a0, .int p1] M (fn_Te_dayAt M a0 p1) := by
  refine ct_of (cc := zbTe_dayAt) (maxL := 2) (ret := (some .int)) (lv0 := [(0, .ref a0), (1, .int p1)]) (by decide) rfl (Nat.le_of_ble_eq_true rfl) rfl rfl ?_
  intro x C
  unfold fn_Te_dayAt
  refine vj_aload_n (j := 0) C dTe_dayAt_0 rfl rfl ?_
  refine vj_gr C dTe_dayAt_1 lf_Te_9 rfl (fun a1 => ?_)
  refine vj_iload_n (j := 1) C dTe_dayAt_4 rfl rfl ?_
  refine vj_iald C dTe_dayAt_5 (by decide) (fun v5 => ?_)
  refine vj_bipush (v := 100) C dTe_dayAt_6 (by decide) ?_
  refine vj_idiv C dTe_dayAt_8 (by decide) ?_
  exact vj_ret C dTe_dayAt_9 rfl rfl (Nat.le_of_ble_eq_true rfl) (Nat.le_of_ble_eq_true rfl)
def lp_Te_countUntil_5 (a0 : Nat) (p1 : Int32) (p2 : Int32) (g5 : Mm → Int32 → Int32 → Rr) (Mh5 : Mm) (w5_3 : Int32) (w5_4 : Int32) : Rr := fo_gi Mh5 6 a0 1 fun v8 => if v8 ≤ w5_4 then some (w5_3, Mh5) else fo_cv Mh5 6 a0 (fn_Te_clauseAt Mh5 a0 w5_4) fun v17 M17 => fo_jp (fun (Mj37 : Mm) (w37_3 : Int32) => g5 Mj37 w37_3 (w5_4 + 1)) (fun j37 => if v17 = p1 then fo_cv M17 6 a0 (fn_Te_dayAt M17 a0 w5_4) fun v27 M27 => if p2 < v27 then j37 M27 w5_3 else j37 M27 (w5_3 + 1) else j37 M17 w5_3)
def fn_Te_countUntil (M : Mm) (a0 : Nat) (p1 : Int32) (p2 : Int32) : Rr := fo_fx (fun _ _ _ => none) (lp_Te_countUntil_5 a0 p1 p2) fo_N M 0 0
set_option maxHeartbeats 4000000 in
set_option maxRecDepth 100000 in
theorem cm_Te_countUntil (l : Launch) (M : Mm) (a0 : Nat) (p1 : Int32) (p2 : Int32) : ct l zyTe_countUntil ws_Te_countUntil { frames := 1, cells := 0, slots := 0, locals := 21 } 0 0 (fun w => some (.int w)) [.ref a0, .int p1, .int p2] M (fn_Te_countUntil M a0 p1 p2) := by
  refine ct_of (cc := zbTe_countUntil) (maxL := 5) (ret := (some .int)) (lv0 := [(0, .ref a0), (1, .int p1), (2, .int p2)]) (by decide) rfl (Nat.le_of_ble_eq_true rfl) rfl rfl ?_
  intro x C
  unfold fn_Te_countUntil
  refine vj_iconst (v := 0) C dTe_countUntil_0 (by decide) ?_
  refine vj_istore_n (lv' := [(0, .ref a0), (1, .int p1), (2, .int p2), (3, .int 0)]) C dTe_countUntil_1 rfl (by decide) [1, 2, 3, 0] rfl ?_
  refine vj_iconst (v := 0) C dTe_countUntil_2 (by decide) ?_
  refine vj_istore (lv' := [(0, .ref a0), (1, .int p1), (2, .int p2), (3, .int 0), (4, .int 0)]) C dTe_countUntil_3 (by decide) [1, 2, 3, 4, 0] rfl ?_
  have hg5x : ∀ nf Mh5 w5_3 w5_4, Vj x 0 0 5 [(0, .ref a0), (1, .int p1), (2, .int p2), (3, .int w5_3), (4, .int w5_4)] [] Mh5 (fo_fx (fun _ _ _ => none) (lp_Te_countUntil_5 a0 p1 p2) nf Mh5 w5_3 w5_4) := by
    intro nf
    refine fo_fx_P (fun (j : Mm → Int32 → Int32 → Rr) => ∀ Mh5 w5_3 w5_4, Vj x 0 0 5 [(0, .ref a0), (1, .int p1), (2, .int p2), (3, .int w5_3), (4, .int w5_4)] [] Mh5 (j Mh5 w5_3 w5_4)) (fun _ _ _ => Vj_none) ?_ nf
    intro g5 hg5 Mh5 w5_3 w5_4
    unfold lp_Te_countUntil_5
    refine vj_iload (j := 4) C dTe_countUntil_5 rfl ?_
    refine vj_aload_n (j := 0) C dTe_countUntil_7 rfl rfl ?_
    refine vj_gi C dTe_countUntil_8 lf_Te_15 rfl (fun v8 => ?_)
    refine vj_icmp_ge (tgt := 43) C dTe_countUntil_11 rfl ?_ ?_
    · skip
      refine vj_iload_n (j := 3) C dTe_countUntil_43 rfl rfl ?_
      exact vj_ret C dTe_countUntil_44 rfl rfl (Nat.le_of_ble_eq_true rfl) (Nat.le_of_ble_eq_true rfl)
    · skip
      refine vj_aload_n (j := 0) C dTe_countUntil_14 rfl rfl ?_
      refine vj_iload (j := 4) C dTe_countUntil_15 rfl ?_
      refine vj_cV (ci := 6) (As := [.int w5_4]) (st := []) (b := a0) (a1 := 1) C dTe_countUntil_17 (cm_Te_clauseAt _ _ _ _) rfl gv_Te_27 rfl rfl rfl hv_Te_clauseAt ⟨Nat.le_of_ble_eq_true rfl, Nat.le_of_ble_eq_true rfl⟩ rfl rfl (Nat.le_of_ble_eq_true rfl) ⟨Nat.le_of_ble_eq_true rfl, Nat.le_of_ble_eq_true rfl⟩ (fun v17 M17 => ?_)
      show Vj x 0 0 20 [(0, .ref a0), (1, .int p1), (2, .int p2), (3, .int w5_3), (4, .int w5_4)] [.int v17] M17 _
      refine vj_iload_n (j := 1) C dTe_countUntil_20 rfl rfl ?_
      refine vj_jp (fun (j : Mm → Int32 → Rr) => ∀ Mj37 w37_3, Vj x 0 0 37 [(0, .ref a0), (1, .int p1), (2, .int p2), (3, .int w37_3), (4, .int w5_4)] [] Mj37 (j Mj37 w37_3)) ?_ ?_
      · intro Mj37 w37_3
        refine vj_iinc (j := 4) (b := 1) (lv' := [(0, .ref a0), (1, .int p1), (2, .int p2), (3, .int w37_3), (4, .int (w5_4 + 1))]) C dTe_countUntil_37 rfl (by decide) (by decide) [1, 2, 3, 4, 0] rfl ?_
        refine vj_goto (tgt := 5) C dTe_countUntil_40 rfl ?_
        exact hg5 _ _ _
      · intro j37 hj37
        refine vj_icmp_ne (tgt := 37) C dTe_countUntil_21 rfl ?_ ?_
        · skip
          exact hj37 _ _
        · skip
          refine vj_aload_n (j := 0) C dTe_countUntil_24 rfl rfl ?_
          refine vj_iload (j := 4) C dTe_countUntil_25 rfl ?_
          refine vj_cV (ci := 6) (As := [.int w5_4]) (st := []) (b := a0) (a1 := 1) C dTe_countUntil_27 (cm_Te_dayAt _ _ _ _) rfl gv_Te_19 rfl rfl rfl hv_Te_dayAt ⟨Nat.le_of_ble_eq_true rfl, Nat.le_of_ble_eq_true rfl⟩ rfl rfl (Nat.le_of_ble_eq_true rfl) ⟨Nat.le_of_ble_eq_true rfl, Nat.le_of_ble_eq_true rfl⟩ (fun v27 M27 => ?_)
          show Vj x 0 0 30 [(0, .ref a0), (1, .int p1), (2, .int p2), (3, .int w5_3), (4, .int w5_4)] [.int v27] M27 _
          refine vj_iload_n (j := 2) C dTe_countUntil_30 rfl rfl ?_
          refine vj_icmp_gt (tgt := 37) C dTe_countUntil_31 rfl ?_ ?_
          · skip
            exact hj37 _ _
          · skip
            refine vj_iinc (j := 3) (b := 1) (lv' := [(0, .ref a0), (1, .int p1), (2, .int p2), (3, .int (w5_3 + 1)), (4, .int w5_4)]) C dTe_countUntil_34 rfl (by decide) (by decide) [1, 2, 3, 0, 4] rfl ?_
            exact hj37 _ _
  exact hg5x _ _ _ _
def fn_Cl_isOn (M : Mm) (a0 : Nat) (p1 : Int32) (p2 : Int32) : Rr := fo_gi M 1 a0 0 fun v1 => if v1 = p1 then fo_gi M 1 a0 3 fun v9 => if v9 = p2 then fo_rz 1 M else fo_rz 0 M else fo_rz 0 M
set_option maxHeartbeats 4000000 in
set_option maxRecDepth 100000 in
theorem cm_Cl_isOn (l : Launch) (M : Mm) (a0 : Nat) (p1 : Int32) (p2 : Int32) : ct l zyCl_isOn ws_Cl_isOn { frames := 0, cells := 0, slots := 0, locals := 0 } 0 0 (fun w => some (.int w)) [.ref a0, .int p1, .int p2] M (fn_Cl_isOn M a0 p1 p2) := by
  refine ct_of (cc := zbCl_isOn) (maxL := 3) (ret := (some .boolean)) (lv0 := [(0, .ref a0), (1, .int p1), (2, .int p2)]) (by decide) rfl (Nat.le_of_ble_eq_true rfl) rfl rfl ?_
  intro x C
  unfold fn_Cl_isOn
  refine vj_aload_n (j := 0) C dCl_isOn_0 rfl rfl ?_
  refine vj_gi C dCl_isOn_1 lf_Cl_9 rfl (fun v1 => ?_)
  refine vj_iload_n (j := 1) C dCl_isOn_4 rfl rfl ?_
  refine vj_icmp_ne (tgt := 20) C dCl_isOn_5 rfl ?_ ?_
  · skip
    refine vj_iconst (v := 0) C dCl_isOn_20 (by decide) ?_
    exact vj_retz C dCl_isOn_21 rfl rfl (Nat.le_of_ble_eq_true rfl) (Nat.le_of_ble_eq_true rfl)
  · skip
    refine vj_aload_n (j := 0) C dCl_isOn_8 rfl rfl ?_
    refine vj_gi C dCl_isOn_9 lf_Cl_21 rfl (fun v9 => ?_)
    refine vj_iload_n (j := 2) C dCl_isOn_12 rfl rfl ?_
    refine vj_icmp_ne (tgt := 20) C dCl_isOn_13 rfl ?_ ?_
    · skip
      refine vj_iconst (v := 0) C dCl_isOn_20 (by decide) ?_
      exact vj_retz C dCl_isOn_21 rfl rfl (Nat.le_of_ble_eq_true rfl) (Nat.le_of_ble_eq_true rfl)
    · skip
      refine vj_iconst (v := 1) C dCl_isOn_16 (by decide) ?_
      refine vj_goto (tgt := 21) C dCl_isOn_17 rfl ?_
      exact vj_retz C dCl_isOn_21 rfl rfl (Nat.le_of_ble_eq_true rfl) (Nat.le_of_ble_eq_true rfl)
def lp_Ru_awaitAllOn_13 (a0 : Nat) (p1 : Nat) (p2 : Int32) (p3 : Int32) (g3 : Mm → Int32 → Rr) (w3_5 : Int32) (g13 : Mm → Int32 → Rr) (Mh13 : Mm) (w13_6 : Int32) : Rr := fo_gi Mh13 0 p1 1 fun v16 => if v16 ≤ w13_6 then g3 Mh13 (w3_5 + 1) else fo_gr Mh13 0 p1 0 fun a23 => fo_ar Mh13 4 a23 w13_6 fun a28 => fo_cv Mh13 1 a28 (fn_Cl_isOn Mh13 a28 p2 p3) fun v31 M31 => fo_jp (fun (Mj43 : Mm) => g13 Mj43 (w13_6 + 1)) (fun j43 => if v31 = 0 then j43 M31 else fo_cv M31 3 a0 (fn_Ru_await M31 a0 w13_6) fun _ M40 => j43 M40)
def lp_Ru_awaitAllOn_3 (a0 : Nat) (p1 : Nat) (p2 : Int32) (p3 : Int32) (p4 : Int32) (g3 : Mm → Int32 → Rr) (Mh3 : Mm) (w3_5 : Int32) : Rr := if p4 ≤ w3_5 then some (0, Mh3) else fo_fx (fun _ _ => none) (lp_Ru_awaitAllOn_13 a0 p1 p2 p3 g3 w3_5) fo_N Mh3 0
def fn_Ru_awaitAllOn (M : Mm) (a0 : Nat) (p1 : Nat) (p2 : Int32) (p3 : Int32) (p4 : Int32) : Rr := fo_fx (fun _ _ => none) (lp_Ru_awaitAllOn_3 a0 p1 p2 p3 p4) fo_N M 0
set_option maxHeartbeats 4000000 in
set_option maxRecDepth 100000 in
theorem cm_Ru_awaitAllOn (l : Launch) (M : Mm) (a0 : Nat) (p1 : Nat) (p2 : Int32) (p3 : Int32) (p4 : Int32) : ct l zyRu_awaitAllOn ws_Ru_awaitAllOn { frames := 1, cells := 0, slots := 0, locals := 22 } 0 0 (fun _ => none) [.ref a0, .ref p1, .int p2, .int p3, .int p4] M (fn_Ru_awaitAllOn M a0 p1 p2 p3 p4) := by
  refine ct_of (cc := zbRu_awaitAllOn) (maxL := 7) (ret := none) (lv0 := [(0, .ref a0), (1, .ref p1), (2, .int p2), (3, .int p3), (4, .int p4)]) (by decide) rfl (Nat.le_of_ble_eq_true rfl) rfl rfl ?_
  intro x C
  unfold fn_Ru_awaitAllOn
  refine vj_iconst (v := 0) C dRu_awaitAllOn_0 (by decide) ?_
  refine vj_istore (lv' := [(0, .ref a0), (1, .ref p1), (2, .int p2), (3, .int p3), (4, .int p4), (5, .int 0)]) C dRu_awaitAllOn_1 (by decide) [1, 2, 3, 4, 5, 0] rfl ?_
  have hg3x : ∀ nf Mh3 w3_5, Vj x 0 0 3 [(0, .ref a0), (1, .ref p1), (2, .int p2), (3, .int p3), (4, .int p4), (5, .int w3_5)] [] Mh3 (fo_fx (fun _ _ => none) (lp_Ru_awaitAllOn_3 a0 p1 p2 p3 p4) nf Mh3 w3_5) := by
    intro nf
    refine fo_fx_P (fun (j : Mm → Int32 → Rr) => ∀ Mh3 w3_5, Vj x 0 0 3 [(0, .ref a0), (1, .ref p1), (2, .int p2), (3, .int p3), (4, .int p4), (5, .int w3_5)] [] Mh3 (j Mh3 w3_5)) (fun _ _ => Vj_none) ?_ nf
    intro g3 hg3 Mh3 w3_5
    unfold lp_Ru_awaitAllOn_3
    refine vj_iload (j := 5) C dRu_awaitAllOn_3 rfl ?_
    refine vj_iload (j := 4) C dRu_awaitAllOn_5 rfl ?_
    refine vj_icmp_ge (tgt := 55) C dRu_awaitAllOn_7 rfl ?_ ?_
    · skip
      exact vj_retv C dRu_awaitAllOn_55 rfl rfl (Nat.le_of_ble_eq_true rfl) (Nat.le_of_ble_eq_true rfl)
    · skip
      refine vj_iconst (v := 0) C dRu_awaitAllOn_10 (by decide) ?_
      refine vj_istore (lv' := [(0, .ref a0), (1, .ref p1), (2, .int p2), (3, .int p3), (4, .int p4), (5, .int w3_5), (6, .int 0)]) C dRu_awaitAllOn_11 (by decide) [1, 2, 3, 4, 5, 6, 0] rfl ?_
      have hg13x : ∀ nf Mh13 w13_6, Vj x 0 0 13 [(0, .ref a0), (1, .ref p1), (2, .int p2), (3, .int p3), (4, .int p4), (5, .int w3_5), (6, .int w13_6)] [] Mh13 (fo_fx (fun _ _ => none) (lp_Ru_awaitAllOn_13 a0 p1 p2 p3 g3 w3_5) nf Mh13 w13_6) := by
        intro nf
        refine fo_fx_P (fun (j : Mm → Int32 → Rr) => ∀ Mh13 w13_6, Vj x 0 0 13 [(0, .ref a0), (1, .ref p1), (2, .int p2), (3, .int p3), (4, .int p4), (5, .int w3_5), (6, .int w13_6)] [] Mh13 (j Mh13 w13_6)) (fun _ _ => Vj_none) ?_ nf
        intro g13 hg13 Mh13 w13_6
        unfold lp_Ru_awaitAllOn_13
        refine vj_iload (j := 6) C dRu_awaitAllOn_13 rfl ?_
        refine vj_aload_n (j := 1) C dRu_awaitAllOn_15 rfl rfl ?_
        refine vj_gi C dRu_awaitAllOn_16 lf_Ru_23 rfl (fun v16 => ?_)
        refine vj_icmp_ge (tgt := 49) C dRu_awaitAllOn_19 rfl ?_ ?_
        · skip
          refine vj_iinc (j := 5) (b := 1) (lv' := [(0, .ref a0), (1, .ref p1), (2, .int p2), (3, .int p3), (4, .int p4), (5, .int (w3_5 + 1))]) C dRu_awaitAllOn_49 rfl (by decide) (by decide) [1, 2, 3, 4, 5, 0] rfl ?_
          refine vj_goto (tgt := 3) C dRu_awaitAllOn_52 rfl ?_
          exact hg3 _ _
        · skip
          refine vj_aload_n (j := 1) C dRu_awaitAllOn_22 rfl rfl ?_
          refine vj_gr C dRu_awaitAllOn_23 lf_Ru_28 rfl (fun a23 => ?_)
          refine vj_iload (j := 6) C dRu_awaitAllOn_26 rfl ?_
          refine vj_aald C dRu_awaitAllOn_28 (by decide) (fun a28 => ?_)
          refine vj_iload_n (j := 2) C dRu_awaitAllOn_29 rfl rfl ?_
          refine vj_iload_n (j := 3) C dRu_awaitAllOn_30 rfl rfl ?_
          refine vj_cV (ci := 1) (As := [.int p2, .int p3]) (st := []) (b := a28) (a1 := 2) C dRu_awaitAllOn_31 (cm_Cl_isOn _ _ _ _ _) rfl gv_Ru_103 rfl rfl rfl hv_Cl_isOn ⟨Nat.le_of_ble_eq_true rfl, Nat.le_of_ble_eq_true rfl⟩ rfl rfl (Nat.le_of_ble_eq_true rfl) ⟨Nat.le_of_ble_eq_true rfl, Nat.le_of_ble_eq_true rfl⟩ (fun v31 M31 => ?_)
          show Vj x 0 0 34 [(0, .ref a0), (1, .ref p1), (2, .int p2), (3, .int p3), (4, .int p4), (5, .int w3_5), (6, .int w13_6)] [.int v31] M31 _
          refine vj_jp (fun (j : Mm → Rr) => ∀ Mj43, Vj x 0 0 43 [(0, .ref a0), (1, .ref p1), (2, .int p2), (3, .int p3), (4, .int p4), (5, .int w3_5), (6, .int w13_6)] [] Mj43 (j Mj43)) ?_ ?_
          · intro Mj43
            refine vj_iinc (j := 6) (b := 1) (lv' := [(0, .ref a0), (1, .ref p1), (2, .int p2), (3, .int p3), (4, .int p4), (5, .int w3_5), (6, .int (w13_6 + 1))]) C dRu_awaitAllOn_43 rfl (by decide) (by decide) [1, 2, 3, 4, 5, 6, 0] rfl ?_
            refine vj_goto (tgt := 13) C dRu_awaitAllOn_46 rfl ?_
            exact hg13 _ _
          · intro j43 hj43
            refine vj_if_eq (tgt := 43) C dRu_awaitAllOn_34 rfl ?_ ?_
            · skip
              exact hj43 _
            · skip
              refine vj_aload_n (j := 0) C dRu_awaitAllOn_37 rfl rfl ?_
              refine vj_iload (j := 6) C dRu_awaitAllOn_38 rfl ?_
              refine vj_cV (ci := 3) (As := [.int w13_6]) (st := []) (b := a0) (a1 := 1) C dRu_awaitAllOn_40 (cm_Ru_await _ _ _ _) rfl gv_Ru_37 rfl rfl rfl hv_Ru_await ⟨Nat.le_of_ble_eq_true rfl, Nat.le_of_ble_eq_true rfl⟩ rfl rfl (Nat.le_of_ble_eq_true rfl) ⟨Nat.le_of_ble_eq_true rfl, Nat.le_of_ble_eq_true rfl⟩ (fun _ M40 => ?_)
              show Vj x 0 0 43 [(0, .ref a0), (1, .ref p1), (2, .int p2), (3, .int p3), (4, .int p4), (5, .int w3_5), (6, .int w13_6)] [] M40 _
              exact hj43 _
      exact hg13x _ _ _
  exact hg3x _ _ _
def lp_Ru_breachBans_6 (a0 : Nat) (p1 : Nat) (p2 : Nat) (p3 : Int32) (p4 : Int32) (g6 : Mm → Int32 → Int32 → Rr) (Mh6 : Mm) (w6_5 : Int32) (w6_6 : Int32) : Rr := fo_gi Mh6 0 p1 1 fun v9 => if v9 ≤ w6_6 then some (w6_5, Mh6) else fo_gr Mh6 0 p1 0 fun a16 => fo_ar Mh6 4 a16 w6_6 fun a21 => fo_cv Mh6 1 a21 (fn_Cl_isFor Mh6 a21 p3 p4) fun v25 M25 => fo_jp (fun (Mj74 : Mm) (w74_5 : Int32) => g6 Mj74 w74_5 (w6_6 + 1)) (fun j74 => if v25 = 0 then j74 M25 w6_5 else fo_gr M25 5 p2 2 fun a32 => fo_cv M25 6 a32 (fn_Te_countUntil M25 a32 w6_6 69) fun v39 M39 => fo_gr M39 5 p2 5 fun a45 => fo_ai M39 0 a45 w6_6 fun v51 => fo_si M39 a45 w6_6 (v51 + v39) fun M55 => fo_cv M55 3 a0 (fn_Ru_awaitAllOn M55 a0 p1 120 w6_6 v39) fun _ M64 => fo_nm (w6_5 + v39) fun v72 => j74 M64 v72)
def fn_Ru_breachBans (M : Mm) (a0 : Nat) (p1 : Nat) (p2 : Nat) (p3 : Int32) (p4 : Int32) : Rr := fo_fx (fun _ _ _ => none) (lp_Ru_breachBans_6 a0 p1 p2 p3 p4) fo_N M 0 0
set_option maxHeartbeats 4000000 in
set_option maxRecDepth 100000 in
theorem cm_Ru_breachBans (l : Launch) (M : Mm) (a0 : Nat) (p1 : Nat) (p2 : Nat) (p3 : Int32) (p4 : Int32) : ct l zyRu_breachBans ws_Ru_breachBans { frames := 2, cells := 0, slots := 0, locals := 48 } 0 0 (fun w => some (.int w)) [.ref a0, .ref p1, .ref p2, .int p3, .int p4] M (fn_Ru_breachBans M a0 p1 p2 p3 p4) := by
  refine ct_of (cc := zbRu_breachBans) (maxL := 8) (ret := (some .int)) (lv0 := [(0, .ref a0), (1, .ref p1), (2, .ref p2), (3, .int p3), (4, .int p4)]) (by decide) rfl (Nat.le_of_ble_eq_true rfl) rfl rfl ?_
  intro x C
  unfold fn_Ru_breachBans
  refine vj_iconst (v := 0) C dRu_breachBans_0 (by decide) ?_
  refine vj_istore (lv' := [(0, .ref a0), (1, .ref p1), (2, .ref p2), (3, .int p3), (4, .int p4), (5, .int 0)]) C dRu_breachBans_1 (by decide) [1, 2, 3, 4, 5, 0] rfl ?_
  refine vj_iconst (v := 0) C dRu_breachBans_3 (by decide) ?_
  refine vj_istore (lv' := [(0, .ref a0), (1, .ref p1), (2, .ref p2), (3, .int p3), (4, .int p4), (5, .int 0), (6, .int 0)]) C dRu_breachBans_4 (by decide) [1, 2, 3, 4, 5, 6, 0] rfl ?_
  have hg6x : ∀ nf Mh6 w6_5 w6_6, Vj x 0 0 6 [(0, .ref a0), (1, .ref p1), (2, .ref p2), (3, .int p3), (4, .int p4), (5, .int w6_5), (6, .int w6_6)] [] Mh6 (fo_fx (fun _ _ _ => none) (lp_Ru_breachBans_6 a0 p1 p2 p3 p4) nf Mh6 w6_5 w6_6) := by
    intro nf
    refine fo_fx_P (fun (j : Mm → Int32 → Int32 → Rr) => ∀ Mh6 w6_5 w6_6, Vj x 0 0 6 [(0, .ref a0), (1, .ref p1), (2, .ref p2), (3, .int p3), (4, .int p4), (5, .int w6_5), (6, .int w6_6)] [] Mh6 (j Mh6 w6_5 w6_6)) (fun _ _ _ => Vj_none) ?_ nf
    intro g6 hg6 Mh6 w6_5 w6_6
    unfold lp_Ru_breachBans_6
    refine vj_iload (j := 6) C dRu_breachBans_6 rfl ?_
    refine vj_aload_n (j := 1) C dRu_breachBans_8 rfl rfl ?_
    refine vj_gi C dRu_breachBans_9 lf_Ru_23 rfl (fun v9 => ?_)
    refine vj_icmp_ge (tgt := 80) C dRu_breachBans_12 rfl ?_ ?_
    · skip
      refine vj_iload (j := 5) C dRu_breachBans_80 rfl ?_
      exact vj_ret C dRu_breachBans_82 rfl rfl (Nat.le_of_ble_eq_true rfl) (Nat.le_of_ble_eq_true rfl)
    · skip
      refine vj_aload_n (j := 1) C dRu_breachBans_15 rfl rfl ?_
      refine vj_gr C dRu_breachBans_16 lf_Ru_28 rfl (fun a16 => ?_)
      refine vj_iload (j := 6) C dRu_breachBans_19 rfl ?_
      refine vj_aald C dRu_breachBans_21 (by decide) (fun a21 => ?_)
      refine vj_iload_n (j := 3) C dRu_breachBans_22 rfl rfl ?_
      refine vj_iload (j := 4) C dRu_breachBans_23 rfl ?_
      refine vj_cV (ci := 1) (As := [.int p3, .int p4]) (st := []) (b := a21) (a1 := 2) C dRu_breachBans_25 (cm_Cl_isFor _ _ _ _ _) rfl gv_Ru_96 rfl rfl rfl hv_Cl_isFor ⟨Nat.le_of_ble_eq_true rfl, Nat.le_of_ble_eq_true rfl⟩ rfl rfl (Nat.le_of_ble_eq_true rfl) ⟨Nat.le_of_ble_eq_true rfl, Nat.le_of_ble_eq_true rfl⟩ (fun v25 M25 => ?_)
      show Vj x 0 0 28 [(0, .ref a0), (1, .ref p1), (2, .ref p2), (3, .int p3), (4, .int p4), (5, .int w6_5), (6, .int w6_6)] [.int v25] M25 _
      refine vj_jp (fun (j : Mm → Int32 → Rr) => ∀ Mj74 w74_5, Vj x 0 0 74 [(0, .ref a0), (1, .ref p1), (2, .ref p2), (3, .int p3), (4, .int p4), (5, .int w74_5), (6, .int w6_6)] [] Mj74 (j Mj74 w74_5)) ?_ ?_
      · intro Mj74 w74_5
        refine vj_iinc (j := 6) (b := 1) (lv' := [(0, .ref a0), (1, .ref p1), (2, .ref p2), (3, .int p3), (4, .int p4), (5, .int w74_5), (6, .int (w6_6 + 1))]) C dRu_breachBans_74 rfl (by decide) (by decide) [1, 2, 3, 4, 5, 6, 0] rfl ?_
        refine vj_goto (tgt := 6) C dRu_breachBans_77 rfl ?_
        exact hg6 _ _ _
      · intro j74 hj74
        refine vj_if_eq (tgt := 74) C dRu_breachBans_28 rfl ?_ ?_
        · skip
          exact hj74 _ _
        · skip
          refine vj_aload_n (j := 2) C dRu_breachBans_31 rfl rfl ?_
          refine vj_gr C dRu_breachBans_32 lf_Ru_49 rfl (fun a32 => ?_)
          refine vj_iload (j := 6) C dRu_breachBans_35 rfl ?_
          refine vj_bipush (v := 69) C dRu_breachBans_37 (by decide) ?_
          refine vj_cV (ci := 6) (As := [.int w6_6, .int 69]) (st := []) (b := a32) (a1 := 2) C dRu_breachBans_39 (cm_Te_countUntil _ _ _ _ _) rfl gv_Ru_82 rfl rfl rfl hv_Te_countUntil ⟨Nat.le_of_ble_eq_true rfl, Nat.le_of_ble_eq_true rfl⟩ rfl rfl (Nat.le_of_ble_eq_true rfl) ⟨Nat.le_of_ble_eq_true rfl, Nat.le_of_ble_eq_true rfl⟩ (fun v39 M39 => ?_)
          show Vj x 0 0 42 [(0, .ref a0), (1, .ref p1), (2, .ref p2), (3, .int p3), (4, .int p4), (5, .int w6_5), (6, .int w6_6)] [.int v39] M39 _
          refine vj_istore (lv' := [(0, .ref a0), (1, .ref p1), (2, .ref p2), (3, .int p3), (4, .int p4), (5, .int w6_5), (6, .int w6_6), (7, .int v39)]) C dRu_breachBans_42 (by decide) [1, 2, 3, 4, 5, 6, 7, 0] rfl ?_
          refine vj_aload_n (j := 2) C dRu_breachBans_44 rfl rfl ?_
          refine vj_gr C dRu_breachBans_45 lf_Ru_86 rfl (fun a45 => ?_)
          refine vj_iload (j := 6) C dRu_breachBans_48 rfl ?_
          refine vj_dup2 C dRu_breachBans_50 rfl rfl ?_
          refine vj_iald C dRu_breachBans_51 (by decide) (fun v51 => ?_)
          refine vj_iload (j := 7) C dRu_breachBans_52 rfl ?_
          refine vj_iadd C dRu_breachBans_54 ?_
          refine vj_iast C dRu_breachBans_55 (fun M55 => ?_)
          refine vj_aload_n (j := 0) C dRu_breachBans_56 rfl rfl ?_
          refine vj_aload_n (j := 1) C dRu_breachBans_57 rfl rfl ?_
          refine vj_bipush (v := 120) C dRu_breachBans_58 (by decide) ?_
          refine vj_iload (j := 6) C dRu_breachBans_60 rfl ?_
          refine vj_iload (j := 7) C dRu_breachBans_62 rfl ?_
          refine vj_cV (ci := 3) (As := [.ref p1, .int 120, .int w6_6, .int v39]) (st := []) (b := a0) (a1 := 4) C dRu_breachBans_64 (cm_Ru_awaitAllOn _ _ _ _ _ _ _) rfl gv_Ru_89 rfl rfl rfl hv_Ru_awaitAllOn ⟨Nat.le_of_ble_eq_true rfl, Nat.le_of_ble_eq_true rfl⟩ rfl rfl (Nat.le_of_ble_eq_true rfl) ⟨Nat.le_of_ble_eq_true rfl, Nat.le_of_ble_eq_true rfl⟩ (fun _ M64 => ?_)
          show Vj x 0 0 67 [(0, .ref a0), (1, .ref p1), (2, .ref p2), (3, .int p3), (4, .int p4), (5, .int w6_5), (6, .int w6_6), (7, .int v39)] [] M64 _
          refine vj_iload (j := 5) C dRu_breachBans_67 rfl ?_
          refine vj_iload (j := 7) C dRu_breachBans_69 rfl ?_
          refine vj_iadd C dRu_breachBans_71 ?_
          refine vj_nm (fun v72 => ?_)
          refine vj_istore (lv' := [(0, .ref a0), (1, .ref p1), (2, .ref p2), (3, .int p3), (4, .int p4), (5, .int v72), (6, .int w6_6)]) C dRu_breachBans_72 (by decide) [1, 2, 3, 4, 5, 0, 6] rfl ?_
          exact hj74 _ _
  exact hg6x _ _ _ _
def lp_Te_remove_2 (a0 : Nat) (p2 : Int32) (g2 : Mm → Int32 → Rr) (Mh2 : Mm) (w2_3 : Int32) : Rr := fo_gi Mh2 6 a0 1 fun v6 => if v6 ≤ (w2_3 + p2) then fo_gi Mh2 6 a0 1 fun v34 => fo_pi Mh2 6 a0 1 (v34 - p2) fun M39 => some (0, M39) else fo_gr Mh2 6 a0 0 fun a13 => fo_gr Mh2 6 a0 0 fun a18 => fo_ai Mh2 0 a18 (w2_3 + p2) fun v24 => fo_si Mh2 a13 w2_3 v24 fun M25 => g2 M25 (w2_3 + 1)
def fn_Te_remove (M : Mm) (a0 : Nat) (p1 : Int32) (p2 : Int32) : Rr := fo_fx (fun _ _ => none) (lp_Te_remove_2 a0 p2) fo_N M p1
set_option maxHeartbeats 4000000 in
set_option maxRecDepth 100000 in
theorem cm_Te_remove (l : Launch) (M : Mm) (a0 : Nat) (p1 : Int32) (p2 : Int32) : ct l zyTe_remove ws_Te_remove { frames := 0, cells := 0, slots := 0, locals := 0 } 0 0 (fun _ => none) [.ref a0, .int p1, .int p2] M (fn_Te_remove M a0 p1 p2) := by
  refine ct_of (cc := zbTe_remove) (maxL := 4) (ret := none) (lv0 := [(0, .ref a0), (1, .int p1), (2, .int p2)]) (by decide) rfl (Nat.le_of_ble_eq_true rfl) rfl rfl ?_
  intro x C
  unfold fn_Te_remove
  refine vj_iload_n (j := 1) C dTe_remove_0 rfl rfl ?_
  refine vj_istore_n (lv' := [(0, .ref a0), (2, .int p2), (3, .int p1)]) C dTe_remove_1 rfl (by decide) [1, 3, 0] rfl ?_
  have hg2x : ∀ nf Mh2 w2_3, Vj x 0 0 2 [(0, .ref a0), (2, .int p2), (3, .int w2_3)] [] Mh2 (fo_fx (fun _ _ => none) (lp_Te_remove_2 a0 p2) nf Mh2 w2_3) := by
    intro nf
    refine fo_fx_P (fun (j : Mm → Int32 → Rr) => ∀ Mh2 w2_3, Vj x 0 0 2 [(0, .ref a0), (2, .int p2), (3, .int w2_3)] [] Mh2 (j Mh2 w2_3)) (fun _ _ => Vj_none) ?_ nf
    intro g2 hg2 Mh2 w2_3
    unfold lp_Te_remove_2
    refine vj_iload_n (j := 2) C dTe_remove_2 rfl rfl ?_
    refine vj_iload_n (j := 1) C dTe_remove_3 rfl rfl ?_
    refine vj_iadd C dTe_remove_4 ?_
    refine vj_aload_n (j := 0) C dTe_remove_5 rfl rfl ?_
    refine vj_gi C dTe_remove_6 lf_Te_15 rfl (fun v6 => ?_)
    refine vj_icmp_ge (tgt := 32) C dTe_remove_9 rfl ?_ ?_
    · skip
      refine vj_aload_n (j := 0) C dTe_remove_32 rfl rfl ?_
      refine vj_dup C dTe_remove_33 rfl ?_
      refine vj_gi C dTe_remove_34 lf_Te_15 rfl (fun v34 => ?_)
      refine vj_iload_n (j := 1) C dTe_remove_37 rfl rfl ?_
      refine vj_isub C dTe_remove_38 ?_
      refine vj_pi C dTe_remove_39 lf_Te_15 lq_6_1 rfl (fun M39 => ?_)
      exact vj_retv C dTe_remove_42 rfl rfl (Nat.le_of_ble_eq_true rfl) (Nat.le_of_ble_eq_true rfl)
    · skip
      refine vj_aload_n (j := 0) C dTe_remove_12 rfl rfl ?_
      refine vj_gr C dTe_remove_13 lf_Te_9 rfl (fun a13 => ?_)
      refine vj_iload_n (j := 2) C dTe_remove_16 rfl rfl ?_
      refine vj_aload_n (j := 0) C dTe_remove_17 rfl rfl ?_
      refine vj_gr C dTe_remove_18 lf_Te_9 rfl (fun a18 => ?_)
      refine vj_iload_n (j := 2) C dTe_remove_21 rfl rfl ?_
      refine vj_iload_n (j := 1) C dTe_remove_22 rfl rfl ?_
      refine vj_iadd C dTe_remove_23 ?_
      refine vj_iald C dTe_remove_24 (by decide) (fun v24 => ?_)
      refine vj_iast C dTe_remove_25 (fun M25 => ?_)
      refine vj_iinc (j := 2) (b := 1) (lv' := [(0, .ref a0), (2, .int p2), (3, .int (w2_3 + 1))]) C dTe_remove_26 rfl (by decide) (by decide) [1, 2, 0] rfl ?_
      refine vj_goto (tgt := 2) C dTe_remove_29 rfl ?_
      exact hg2 _ _
  exact hg2x _ _ _
def fn_Ru_fulfilDuty (M : Mm) (a0 : Nat) (p1 : Nat) (p2 : Nat) (p3 : Int32) (p4 : Int32) : Rr := fo_gr M 5 p2 1 fun a2 => fo_cv M 0 p1 (fn_Ag_find M p1 a2 p3 p4) fun v8 M8 => if v8 = (-1) then some (0, M8) else fo_gr M8 5 p2 1 fun a24 => fo_cv M8 6 a24 (fn_Te_clauseAt M8 a24 v8) fun v29 M29 => fo_cv M29 3 a0 (fn_Ru_awaitAllOn M29 a0 p1 102 v29 1) fun _ M33 => fo_gr M33 5 p2 1 fun a37 => fo_cv M33 6 a37 (fn_Te_remove M33 a37 v8 1) fun _ M43 => some (0, M43)
set_option maxHeartbeats 4000000 in
set_option maxRecDepth 100000 in
theorem cm_Ru_fulfilDuty (l : Launch) (M : Mm) (a0 : Nat) (p1 : Nat) (p2 : Nat) (p3 : Int32) (p4 : Int32) : ct l zyRu_fulfilDuty ws_Ru_fulfilDuty { frames := 2, cells := 0, slots := 0, locals := 48 } 0 0 (fun _ => none) [.ref a0, .ref p1, .ref p2, .int p3, .int p4] M (fn_Ru_fulfilDuty M a0 p1 p2 p3 p4) := by
  refine ct_of (cc := zbRu_fulfilDuty) (maxL := 6) (ret := none) (lv0 := [(0, .ref a0), (1, .ref p1), (2, .ref p2), (3, .int p3), (4, .int p4)]) (by decide) rfl (Nat.le_of_ble_eq_true rfl) rfl rfl ?_
  intro x C
  unfold fn_Ru_fulfilDuty
  refine vj_aload_n (j := 1) C dRu_fulfilDuty_0 rfl rfl ?_
  refine vj_aload_n (j := 2) C dRu_fulfilDuty_1 rfl rfl ?_
  refine vj_gr C dRu_fulfilDuty_2 lf_Ru_76 rfl (fun a2 => ?_)
  refine vj_iload_n (j := 3) C dRu_fulfilDuty_5 rfl rfl ?_
  refine vj_iload (j := 4) C dRu_fulfilDuty_6 rfl ?_
  refine vj_cV (ci := 0) (As := [.ref a2, .int p3, .int p4]) (st := []) (b := p1) (a1 := 3) C dRu_fulfilDuty_8 (cm_Ag_find _ _ _ _ _ _) rfl gv_Ru_55 rfl rfl rfl hv_Ag_find ⟨Nat.le_of_ble_eq_true rfl, Nat.le_of_ble_eq_true rfl⟩ rfl rfl (Nat.le_of_ble_eq_true rfl) ⟨Nat.le_of_ble_eq_true rfl, Nat.le_of_ble_eq_true rfl⟩ (fun v8 M8 => ?_)
  show Vj x 0 0 11 [(0, .ref a0), (1, .ref p1), (2, .ref p2), (3, .int p3), (4, .int p4)] [.int v8] M8 _
  refine vj_istore (lv' := [(0, .ref a0), (1, .ref p1), (2, .ref p2), (5, .int v8)]) C dRu_fulfilDuty_11 (by decide) [1, 2, 3, 0] rfl ?_
  refine vj_iload (j := 3) C dRu_fulfilDuty_13 rfl ?_
  refine vj_iconst (v := (-1)) C dRu_fulfilDuty_15 (by decide) ?_
  refine vj_icmp_eq (tgt := 46) C dRu_fulfilDuty_16 rfl ?_ ?_
  · skip
    exact vj_retv C dRu_fulfilDuty_46 rfl rfl (Nat.le_of_ble_eq_true rfl) (Nat.le_of_ble_eq_true rfl)
  · skip
    refine vj_aload_n (j := 0) C dRu_fulfilDuty_19 rfl rfl ?_
    refine vj_aload_n (j := 1) C dRu_fulfilDuty_20 rfl rfl ?_
    refine vj_bipush (v := 102) C dRu_fulfilDuty_21 (by decide) ?_
    refine vj_aload_n (j := 2) C dRu_fulfilDuty_23 rfl rfl ?_
    refine vj_gr C dRu_fulfilDuty_24 lf_Ru_76 rfl (fun a24 => ?_)
    refine vj_iload (j := 3) C dRu_fulfilDuty_27 rfl ?_
    refine vj_cV (ci := 6) (As := [.int v8]) (st := [.int 102, .ref p1, .ref a0]) (b := a24) (a1 := 1) C dRu_fulfilDuty_29 (cm_Te_clauseAt _ _ _ _) rfl gv_Ru_99 rfl rfl rfl hv_Te_clauseAt ⟨Nat.le_of_ble_eq_true rfl, Nat.le_of_ble_eq_true rfl⟩ rfl rfl (Nat.le_of_ble_eq_true rfl) ⟨Nat.le_of_ble_eq_true rfl, Nat.le_of_ble_eq_true rfl⟩ (fun v29 M29 => ?_)
    show Vj x 0 0 32 [(0, .ref a0), (1, .ref p1), (2, .ref p2), (5, .int v8)] [.int v29, .int 102, .ref p1, .ref a0] M29 _
    refine vj_iconst (v := 1) C dRu_fulfilDuty_32 (by decide) ?_
    refine vj_cV (ci := 3) (As := [.ref p1, .int 102, .int v29, .int 1]) (st := []) (b := a0) (a1 := 4) C dRu_fulfilDuty_33 (cm_Ru_awaitAllOn _ _ _ _ _ _ _) rfl gv_Ru_89 rfl rfl rfl hv_Ru_awaitAllOn ⟨Nat.le_of_ble_eq_true rfl, Nat.le_of_ble_eq_true rfl⟩ rfl rfl (Nat.le_of_ble_eq_true rfl) ⟨Nat.le_of_ble_eq_true rfl, Nat.le_of_ble_eq_true rfl⟩ (fun _ M33 => ?_)
    show Vj x 0 0 36 [(0, .ref a0), (1, .ref p1), (2, .ref p2), (5, .int v8)] [] M33 _
    refine vj_aload_n (j := 2) C dRu_fulfilDuty_36 rfl rfl ?_
    refine vj_gr C dRu_fulfilDuty_37 lf_Ru_76 rfl (fun a37 => ?_)
    refine vj_iload (j := 3) C dRu_fulfilDuty_40 rfl ?_
    refine vj_iconst (v := 1) C dRu_fulfilDuty_42 (by decide) ?_
    refine vj_cV (ci := 6) (As := [.int v8, .int 1]) (st := []) (b := a37) (a1 := 2) C dRu_fulfilDuty_43 (cm_Te_remove _ _ _ _ _) rfl gv_Ru_66 rfl rfl rfl hv_Te_remove ⟨Nat.le_of_ble_eq_true rfl, Nat.le_of_ble_eq_true rfl⟩ rfl rfl (Nat.le_of_ble_eq_true rfl) ⟨Nat.le_of_ble_eq_true rfl, Nat.le_of_ble_eq_true rfl⟩ (fun _ M43 => ?_)
    show Vj x 0 0 46 [(0, .ref a0), (1, .ref p1), (2, .ref p2), (5, .int v8)] [] M43 _
    exact vj_retv C dRu_fulfilDuty_46 rfl rfl (Nat.le_of_ble_eq_true rfl) (Nat.le_of_ble_eq_true rfl)
