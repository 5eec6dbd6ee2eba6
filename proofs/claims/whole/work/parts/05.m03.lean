def lp_Ru_happen_8 (a0 : Nat) (p1 : Nat) (p2 : Nat) (p3 : Int32) (p4 : Int32) (g8 : Mm → Int32 → Rr) (Mh8 : Mm) (w8_5 : Int32) : Rr := fo_gi Mh8 0 p1 1 fun v11 => if v11 ≤ w8_5 then fo_gr Mh8 5 p2 2 fun a50 => fo_cv Mh8 0 p1 (fn_Ag_find Mh8 p1 a50 p3 p4) fun v56 M56 => fo_jp (fun (Mj106 : Mm) (w106_5 : Int32) => fo_cv Mj106 3 a0 (fn_Ru_fulfilDuty Mj106 a0 p1 p2 p3 p4) fun _ M112 => fo_cv M112 3 a0 (fn_Ru_runWaiting M112 a0 p1 p2) fun v118 M118 => if v118 = 0 then some ((-2), M118) else some (w106_5, M118)) (fun j106 => if v56 = (-1) then j106 M56 0 else fo_gr M56 5 p2 3 fun a65 => fo_cv M56 0 p1 (fn_Ag_find M56 p1 a65 p3 p4) fun v71 M71 => if v71 = (-1) then fo_cv M71 3 a0 (fn_Ru_breachBans M71 a0 p1 p2 p3 p4) fun v88 M88 => j106 M88 v88 else fo_gr M71 5 p2 3 fun a97 => fo_cv M71 6 a97 (fn_Te_remove M71 a97 v71 1) fun _ M103 => j106 M103 0) else fo_gr Mh8 0 p1 0 fun a18 => fo_ar Mh8 4 a18 w8_5 fun a23 => fo_cv Mh8 1 a23 (fn_Cl_isOnEvent Mh8 a23 p3 p4) fun v27 M27 => fo_jp (fun (Mj39 : Mm) => g8 Mj39 (w8_5 + 1)) (fun j39 => if v27 = 0 then j39 M27 else fo_cv M27 3 a0 (fn_Ru_await M27 a0 w8_5) fun _ M36 => j39 M36)
def fn_Ru_happen (M : Mm) (a0 : Nat) (p1 : Nat) (p2 : Nat) (p3 : Int32) (p4 : Int32) : Rr := fo_pi M 3 a0 2 0 fun M2 => fo_fx (fun _ _ => none) (lp_Ru_happen_8 a0 p1 p2 p3 p4) fo_N M2 0
set_option maxHeartbeats 4000000 in
set_option maxRecDepth 100000 in
theorem cm_Ru_happen (l : Launch) (M : Mm) (a0 : Nat) (p1 : Nat) (p2 : Nat) (p3 : Int32) (p4 : Int32) : ct l zyRu_happen ws_Ru_happen { frames := 3, cells := 0, slots := 0, locals := 75 } 0 0 (fun w => some (.int w)) [.ref a0, .ref p1, .ref p2, .int p3, .int p4] M (fn_Ru_happen M a0 p1 p2 p3 p4) := by
  refine ct_of (cc := zbRu_happen) (maxL := 7) (ret := (some .int)) (lv0 := [(0, .ref a0), (1, .ref p1), (2, .ref p2), (3, .int p3), (4, .int p4)]) (by decide) rfl (Nat.le_of_ble_eq_true rfl) rfl rfl ?_
  intro x C
  unfold fn_Ru_happen
  refine vj_aload_n (j := 0) C dRu_happen_0 rfl rfl ?_
  refine vj_iconst (v := 0) C dRu_happen_1 (by decide) ?_
  refine vj_pi C dRu_happen_2 lf_Ru_19 lq_3_2 rfl (fun M2 => ?_)
  refine vj_iconst (v := 0) C dRu_happen_5 (by decide) ?_
  refine vj_istore (lv' := [(0, .ref a0), (1, .ref p1), (2, .ref p2), (3, .int p3), (4, .int p4), (5, .int 0)]) C dRu_happen_6 (by decide) [1, 2, 3, 4, 5, 0] rfl ?_
  have hg8x : ∀ nf Mh8 w8_5, Vj x 0 0 8 [(0, .ref a0), (1, .ref p1), (2, .ref p2), (3, .int p3), (4, .int p4), (5, .int w8_5)] [] Mh8 (fo_fx (fun _ _ => none) (lp_Ru_happen_8 a0 p1 p2 p3 p4) nf Mh8 w8_5) := by
    intro nf
    refine fo_fx_P (fun (j : Mm → Int32 → Rr) => ∀ Mh8 w8_5, Vj x 0 0 8 [(0, .ref a0), (1, .ref p1), (2, .ref p2), (3, .int p3), (4, .int p4), (5, .int w8_5)] [] Mh8 (j Mh8 w8_5)) (fun _ _ => Vj_none) ?_ nf
    intro g8 hg8 Mh8 w8_5
    unfold lp_Ru_happen_8
    refine vj_iload (j := 5) C dRu_happen_8 rfl ?_
    refine vj_aload_n (j := 1) C dRu_happen_10 rfl rfl ?_
    refine vj_gi C dRu_happen_11 lf_Ru_23 rfl (fun v11 => ?_)
    refine vj_icmp_ge (tgt := 45) C dRu_happen_14 rfl ?_ ?_
    · skip
      refine vj_iconst (v := 0) C dRu_happen_45 (by decide) ?_
      refine vj_istore (lv' := [(0, .ref a0), (1, .ref p1), (2, .ref p2), (3, .int p3), (4, .int p4), (5, .int 0)]) C dRu_happen_46 (by decide) [1, 2, 3, 4, 5, 0] rfl ?_
      refine vj_aload_n (j := 1) C dRu_happen_48 rfl rfl ?_
      refine vj_aload_n (j := 2) C dRu_happen_49 rfl rfl ?_
      refine vj_gr C dRu_happen_50 lf_Ru_49 rfl (fun a50 => ?_)
      refine vj_iload_n (j := 3) C dRu_happen_53 rfl rfl ?_
      refine vj_iload (j := 4) C dRu_happen_54 rfl ?_
      refine vj_cV (ci := 0) (As := [.ref a50, .int p3, .int p4]) (st := []) (b := p1) (a1 := 3) C dRu_happen_56 (cm_Ag_find _ _ _ _ _ _) rfl gv_Ru_55 rfl rfl rfl hv_Ag_find ⟨Nat.le_of_ble_eq_true rfl, Nat.le_of_ble_eq_true rfl⟩ rfl rfl (Nat.le_of_ble_eq_true rfl) ⟨Nat.le_of_ble_eq_true rfl, Nat.le_of_ble_eq_true rfl⟩ (fun v56 M56 => ?_)
      show Vj x 0 0 59 [(0, .ref a0), (1, .ref p1), (2, .ref p2), (3, .int p3), (4, .int p4), (5, .int 0)] [.int v56] M56 _
      refine vj_iconst (v := (-1)) C dRu_happen_59 (by decide) ?_
      refine vj_jp (fun (j : Mm → Int32 → Rr) => ∀ Mj106 w106_5, Vj x 0 0 106 [(0, .ref a0), (1, .ref p1), (2, .ref p2), (3, .int p3), (4, .int p4), (5, .int w106_5)] [] Mj106 (j Mj106 w106_5)) ?_ ?_
      · intro Mj106 w106_5
        refine vj_aload_n (j := 0) C dRu_happen_106 rfl rfl ?_
        refine vj_aload_n (j := 1) C dRu_happen_107 rfl rfl ?_
        refine vj_aload_n (j := 2) C dRu_happen_108 rfl rfl ?_
        refine vj_iload_n (j := 3) C dRu_happen_109 rfl rfl ?_
        refine vj_iload (j := 4) C dRu_happen_110 rfl ?_
        refine vj_cV (ci := 3) (As := [.ref p1, .ref p2, .int p3, .int p4]) (st := []) (b := a0) (a1 := 4) C dRu_happen_112 (cm_Ru_fulfilDuty _ _ _ _ _ _ _) rfl gv_Ru_72 rfl rfl rfl hv_Ru_fulfilDuty ⟨Nat.le_of_ble_eq_true rfl, Nat.le_of_ble_eq_true rfl⟩ rfl rfl (Nat.le_of_ble_eq_true rfl) ⟨Nat.le_of_ble_eq_true rfl, Nat.le_of_ble_eq_true rfl⟩ (fun _ M112 => ?_)
        show Vj x 0 0 115 [(0, .ref a0), (1, .ref p1), (2, .ref p2), (3, .int p3), (4, .int p4), (5, .int w106_5)] [] M112 _
        refine vj_aload_n (j := 0) C dRu_happen_115 rfl rfl ?_
        refine vj_aload_n (j := 1) C dRu_happen_116 rfl rfl ?_
        refine vj_aload_n (j := 2) C dRu_happen_117 rfl rfl ?_
        refine vj_cV (ci := 3) (As := [.ref p1, .ref p2]) (st := []) (b := a0) (a1 := 2) C dRu_happen_118 (cm_Ru_runWaiting _ _ _ _ _) rfl gv_Ru_41 rfl rfl rfl hv_Ru_runWaiting ⟨Nat.le_of_ble_eq_true rfl, Nat.le_of_ble_eq_true rfl⟩ rfl rfl (Nat.le_of_ble_eq_true rfl) ⟨Nat.le_of_ble_eq_true rfl, Nat.le_of_ble_eq_true rfl⟩ (fun v118 M118 => ?_)
        show Vj x 0 0 121 [(0, .ref a0), (1, .ref p1), (2, .ref p2), (3, .int p3), (4, .int p4), (5, .int w106_5)] [.int v118] M118 _
        refine vj_if_eq (tgt := 129) C dRu_happen_121 rfl ?_ ?_
        · skip
          refine vj_bipush (v := (-2)) C dRu_happen_129 (by decide) ?_
          exact vj_ret C dRu_happen_131 rfl rfl (Nat.le_of_ble_eq_true rfl) (Nat.le_of_ble_eq_true rfl)
        · skip
          refine vj_iload (j := 5) C dRu_happen_124 rfl ?_
          refine vj_goto (tgt := 131) C dRu_happen_126 rfl ?_
          exact vj_ret C dRu_happen_131 rfl rfl (Nat.le_of_ble_eq_true rfl) (Nat.le_of_ble_eq_true rfl)
      · intro j106 hj106
        refine vj_icmp_eq (tgt := 106) C dRu_happen_60 rfl ?_ ?_
        · skip
          exact hj106 _ _
        · skip
          refine vj_aload_n (j := 1) C dRu_happen_63 rfl rfl ?_
          refine vj_aload_n (j := 2) C dRu_happen_64 rfl rfl ?_
          refine vj_gr C dRu_happen_65 lf_Ru_59 rfl (fun a65 => ?_)
          refine vj_iload_n (j := 3) C dRu_happen_68 rfl rfl ?_
          refine vj_iload (j := 4) C dRu_happen_69 rfl ?_
          refine vj_cV (ci := 0) (As := [.ref a65, .int p3, .int p4]) (st := []) (b := p1) (a1 := 3) C dRu_happen_71 (cm_Ag_find _ _ _ _ _ _) rfl gv_Ru_55 rfl rfl rfl hv_Ag_find ⟨Nat.le_of_ble_eq_true rfl, Nat.le_of_ble_eq_true rfl⟩ rfl rfl (Nat.le_of_ble_eq_true rfl) ⟨Nat.le_of_ble_eq_true rfl, Nat.le_of_ble_eq_true rfl⟩ (fun v71 M71 => ?_)
          show Vj x 0 0 74 [(0, .ref a0), (1, .ref p1), (2, .ref p2), (3, .int p3), (4, .int p4), (5, .int 0)] [.int v71] M71 _
          refine vj_istore (lv' := [(0, .ref a0), (1, .ref p1), (2, .ref p2), (3, .int p3), (4, .int p4), (5, .int 0), (6, .int v71)]) C dRu_happen_74 (by decide) [1, 2, 3, 4, 5, 6, 0] rfl ?_
          refine vj_iload (j := 6) C dRu_happen_76 rfl ?_
          refine vj_iconst (v := (-1)) C dRu_happen_78 (by decide) ?_
          refine vj_icmp_ne (tgt := 96) C dRu_happen_79 rfl ?_ ?_
          · skip
            refine vj_aload_n (j := 2) C dRu_happen_96 rfl rfl ?_
            refine vj_gr C dRu_happen_97 lf_Ru_59 rfl (fun a97 => ?_)
            refine vj_iload (j := 6) C dRu_happen_100 rfl ?_
            refine vj_iconst (v := 1) C dRu_happen_102 (by decide) ?_
            refine vj_cV (ci := 6) (As := [.int v71, .int 1]) (st := []) (b := a97) (a1 := 2) C dRu_happen_103 (cm_Te_remove _ _ _ _ _) rfl gv_Ru_66 rfl rfl rfl hv_Te_remove ⟨Nat.le_of_ble_eq_true rfl, Nat.le_of_ble_eq_true rfl⟩ rfl rfl (Nat.le_of_ble_eq_true rfl) ⟨Nat.le_of_ble_eq_true rfl, Nat.le_of_ble_eq_true rfl⟩ (fun _ M103 => ?_)
            show Vj x 0 0 106 [(0, .ref a0), (1, .ref p1), (2, .ref p2), (3, .int p3), (4, .int p4), (5, .int 0), (6, .int v71)] [] M103 _
            refine vj_lk (lv' := [(0, .ref a0), (1, .ref p1), (2, .ref p2), (3, .int p3), (4, .int p4), (5, .int 0)]) [0, 1, 2, 3, 4, 5] rfl ?_
            exact hj106 _ _
          · skip
            refine vj_aload_n (j := 0) C dRu_happen_82 rfl rfl ?_
            refine vj_aload_n (j := 1) C dRu_happen_83 rfl rfl ?_
            refine vj_aload_n (j := 2) C dRu_happen_84 rfl rfl ?_
            refine vj_iload_n (j := 3) C dRu_happen_85 rfl rfl ?_
            refine vj_iload (j := 4) C dRu_happen_86 rfl ?_
            refine vj_cV (ci := 3) (As := [.ref p1, .ref p2, .int p3, .int p4]) (st := []) (b := a0) (a1 := 4) C dRu_happen_88 (cm_Ru_breachBans _ _ _ _ _ _ _) rfl gv_Ru_62 rfl rfl rfl hv_Ru_breachBans ⟨Nat.le_of_ble_eq_true rfl, Nat.le_of_ble_eq_true rfl⟩ rfl rfl (Nat.le_of_ble_eq_true rfl) ⟨Nat.le_of_ble_eq_true rfl, Nat.le_of_ble_eq_true rfl⟩ (fun v88 M88 => ?_)
            show Vj x 0 0 91 [(0, .ref a0), (1, .ref p1), (2, .ref p2), (3, .int p3), (4, .int p4), (5, .int 0), (6, .int v71)] [.int v88] M88 _
            refine vj_istore (lv' := [(0, .ref a0), (1, .ref p1), (2, .ref p2), (3, .int p3), (4, .int p4), (5, .int v88)]) C dRu_happen_91 (by decide) [1, 2, 3, 4, 5, 0] rfl ?_
            refine vj_goto (tgt := 106) C dRu_happen_93 rfl ?_
            exact hj106 _ _
    · skip
      refine vj_aload_n (j := 1) C dRu_happen_17 rfl rfl ?_
      refine vj_gr C dRu_happen_18 lf_Ru_28 rfl (fun a18 => ?_)
      refine vj_iload (j := 5) C dRu_happen_21 rfl ?_
      refine vj_aald C dRu_happen_23 (by decide) (fun a23 => ?_)
      refine vj_iload_n (j := 3) C dRu_happen_24 rfl rfl ?_
      refine vj_iload (j := 4) C dRu_happen_25 rfl ?_
      refine vj_cV (ci := 1) (As := [.int p3, .int p4]) (st := []) (b := a23) (a1 := 2) C dRu_happen_27 (cm_Cl_isOnEvent _ _ _ _ _) rfl gv_Ru_45 rfl rfl rfl hv_Cl_isOnEvent ⟨Nat.le_of_ble_eq_true rfl, Nat.le_of_ble_eq_true rfl⟩ rfl rfl (Nat.le_of_ble_eq_true rfl) ⟨Nat.le_of_ble_eq_true rfl, Nat.le_of_ble_eq_true rfl⟩ (fun v27 M27 => ?_)
      show Vj x 0 0 30 [(0, .ref a0), (1, .ref p1), (2, .ref p2), (3, .int p3), (4, .int p4), (5, .int w8_5)] [.int v27] M27 _
      refine vj_jp (fun (j : Mm → Rr) => ∀ Mj39, Vj x 0 0 39 [(0, .ref a0), (1, .ref p1), (2, .ref p2), (3, .int p3), (4, .int p4), (5, .int w8_5)] [] Mj39 (j Mj39)) ?_ ?_
      · intro Mj39
        refine vj_iinc (j := 5) (b := 1) (lv' := [(0, .ref a0), (1, .ref p1), (2, .ref p2), (3, .int p3), (4, .int p4), (5, .int (w8_5 + 1))]) C dRu_happen_39 rfl (by decide) (by decide) [1, 2, 3, 4, 5, 0] rfl ?_
        refine vj_goto (tgt := 8) C dRu_happen_42 rfl ?_
        exact hg8 _ _
      · intro j39 hj39
        refine vj_if_eq (tgt := 39) C dRu_happen_30 rfl ?_ ?_
        · skip
          exact hj39 _
        · skip
          refine vj_aload_n (j := 0) C dRu_happen_33 rfl rfl ?_
          refine vj_iload (j := 5) C dRu_happen_34 rfl ?_
          refine vj_cV (ci := 3) (As := [.int w8_5]) (st := []) (b := a0) (a1 := 1) C dRu_happen_36 (cm_Ru_await _ _ _ _) rfl gv_Ru_37 rfl rfl rfl hv_Ru_await ⟨Nat.le_of_ble_eq_true rfl, Nat.le_of_ble_eq_true rfl⟩ rfl rfl (Nat.le_of_ble_eq_true rfl) ⟨Nat.le_of_ble_eq_true rfl, Nat.le_of_ble_eq_true rfl⟩ (fun _ M36 => ?_)
          show Vj x 0 0 39 [(0, .ref a0), (1, .ref p1), (2, .ref p2), (3, .int p3), (4, .int p4), (5, .int w8_5)] [] M36 _
          exact hj39 _
  exact hg8x _ _ _
def fn_Hi_keep (M : Mm) (a0 : Nat) (p1 : Nat) : Rr := fo_gr M 2 a0 0 fun a1 => fo_gi M 2 a0 2 fun v5 => fo_ar M 5 a1 v5 fun a8 => fo_cv M 5 a8 (fn_St_copyFrom M a8 p1) fun _ M10 => fo_gi M10 2 a0 2 fun v15 => fo_pi M10 2 a0 2 ((v15 + 1) - (v15 + 1) / 12 * 12) fun M23 => fo_gi M23 2 a0 1 fun v28 => fo_pi M23 2 a0 1 (if 12 < (v28 + 1) then 12 else (v28 + 1)) fun M38 => some (0, M38)
set_option maxHeartbeats 4000000 in
set_option maxRecDepth 100000 in
theorem cm_Hi_keep (l : Launch) (M : Mm) (a0 : Nat) (p1 : Nat) : ct l zyHi_keep ws_Hi_keep { frames := 3, cells := 0, slots := 0, locals := 242 } 0 0 (fun _ => none) [.ref a0, .ref p1] M (fn_Hi_keep M a0 p1) := by
  refine ct_of (cc := zbHi_keep) (maxL := 2) (ret := none) (lv0 := [(0, .ref a0), (1, .ref p1)]) (by decide) rfl (Nat.le_of_ble_eq_true rfl) rfl rfl ?_
  intro x C
  unfold fn_Hi_keep
  refine vj_aload_n (j := 0) C dHi_keep_0 rfl rfl ?_
  refine vj_gr C dHi_keep_1 lf_Hi_11 rfl (fun a1 => ?_)
  refine vj_aload_n (j := 0) C dHi_keep_4 rfl rfl ?_
  refine vj_gi C dHi_keep_5 lf_Hi_21 rfl (fun v5 => ?_)
  refine vj_aald C dHi_keep_8 (by decide) (fun a8 => ?_)
  refine vj_aload_n (j := 1) C dHi_keep_9 rfl rfl ?_
  refine vj_cV (ci := 5) (As := [.ref p1]) (st := []) (b := a8) (a1 := 1) C dHi_keep_10 (cm_St_copyFrom _ _ _ _) rfl gv_Hi_25 rfl rfl rfl hv_St_copyFrom ⟨Nat.le_of_ble_eq_true rfl, Nat.le_of_ble_eq_true rfl⟩ rfl rfl (Nat.le_of_ble_eq_true rfl) ⟨Nat.le_of_ble_eq_true rfl, Nat.le_of_ble_eq_true rfl⟩ (fun _ M10 => ?_)
  show Vj x 0 0 13 [(0, .ref a0), (1, .ref p1)] [] M10 _
  refine vj_aload_n (j := 0) C dHi_keep_13 rfl rfl ?_
  refine vj_aload_n (j := 0) C dHi_keep_14 rfl rfl ?_
  refine vj_gi C dHi_keep_15 lf_Hi_21 rfl (fun v15 => ?_)
  refine vj_iconst (v := 1) C dHi_keep_18 (by decide) ?_
  refine vj_iadd C dHi_keep_19 ?_
  refine vj_bipush (v := 12) C dHi_keep_20 (by decide) ?_
  refine vj_irem C dHi_keep_22 (by decide) ?_
  refine vj_pi C dHi_keep_23 lf_Hi_21 lq_2_2 rfl (fun M23 => ?_)
  refine vj_aload_n (j := 0) C dHi_keep_26 rfl rfl ?_
  refine vj_aload_n (j := 0) C dHi_keep_27 rfl rfl ?_
  refine vj_gi C dHi_keep_28 lf_Hi_17 rfl (fun v28 => ?_)
  refine vj_iconst (v := 1) C dHi_keep_31 (by decide) ?_
  refine vj_iadd C dHi_keep_32 ?_
  refine vj_bipush (v := 12) C dHi_keep_33 (by decide) ?_
  refine vj_min C dHi_keep_35 ⟨k_319, k_320, k_321, k_322⟩ ⟨Nat.le_of_ble_eq_true rfl, Nat.le_of_ble_eq_true rfl, Nat.le_of_ble_eq_true rfl, Nat.le_of_ble_eq_true rfl⟩ ?_
  refine vj_pi C dHi_keep_38 lf_Hi_17 lq_2_1 rfl (fun M38 => ?_)
  exact vj_retv C dHi_keep_41 rfl rfl (Nat.le_of_ble_eq_true rfl) (Nat.le_of_ble_eq_true rfl)
def fn_Pm_moveToTrial (M : Mm) (a0 : Nat) : Rr := fo_gr M 8 a0 7 fun a1 => fo_gr M 8 a0 5 fun a5 => fo_cv M 2 a1 (fn_Hi_keep M a1 a5) fun _ M8 => fo_gr M8 8 a0 5 fun a12 => fo_gr M8 8 a0 6 fun a16 => fo_cv M8 5 a12 (fn_St_copyFrom M8 a12 a16) fun _ M19 => some (0, M19)
set_option maxHeartbeats 4000000 in
set_option maxRecDepth 100000 in
theorem cm_Pm_moveToTrial (l : Launch) (M : Mm) (a0 : Nat) : ct l zyPm_moveToTrial ws_Pm_moveToTrial { frames := 4, cells := 0, slots := 0, locals := 263 } 0 0 (fun _ => none) [.ref a0] M (fn_Pm_moveToTrial M a0) := by
  refine ct_of (cc := zbPm_moveToTrial) (maxL := 1) (ret := none) (lv0 := [(0, .ref a0)]) (by decide) rfl (Nat.le_of_ble_eq_true rfl) rfl rfl ?_
  intro x C
  unfold fn_Pm_moveToTrial
  refine vj_aload_n (j := 0) C dPm_moveToTrial_0 rfl rfl ?_
  refine vj_gr C dPm_moveToTrial_1 lf_Pm_47 rfl (fun a1 => ?_)
  refine vj_aload_n (j := 0) C dPm_moveToTrial_4 rfl rfl ?_
  refine vj_gr C dPm_moveToTrial_5 lf_Pm_37 rfl (fun a5 => ?_)
  refine vj_cV (ci := 2) (As := [.ref a5]) (st := []) (b := a1) (a1 := 1) C dPm_moveToTrial_8 (cm_Hi_keep _ _ _ _) rfl gv_Pm_170 rfl rfl rfl hv_Hi_keep ⟨Nat.le_of_ble_eq_true rfl, Nat.le_of_ble_eq_true rfl⟩ rfl rfl (Nat.le_of_ble_eq_true rfl) ⟨Nat.le_of_ble_eq_true rfl, Nat.le_of_ble_eq_true rfl⟩ (fun _ M8 => ?_)
  show Vj x 0 0 11 [(0, .ref a0)] [] M8 _
  refine vj_aload_n (j := 0) C dPm_moveToTrial_11 rfl rfl ?_
  refine vj_gr C dPm_moveToTrial_12 lf_Pm_37 rfl (fun a12 => ?_)
  refine vj_aload_n (j := 0) C dPm_moveToTrial_15 rfl rfl ?_
  refine vj_gr C dPm_moveToTrial_16 lf_Pm_41 rfl (fun a16 => ?_)
  refine vj_cV (ci := 5) (As := [.ref a16]) (st := []) (b := a12) (a1 := 1) C dPm_moveToTrial_19 (cm_St_copyFrom _ _ _ _) rfl gv_Pm_93 rfl rfl rfl hv_St_copyFrom ⟨Nat.le_of_ble_eq_true rfl, Nat.le_of_ble_eq_true rfl⟩ rfl rfl (Nat.le_of_ble_eq_true rfl) ⟨Nat.le_of_ble_eq_true rfl, Nat.le_of_ble_eq_true rfl⟩ (fun _ M19 => ?_)
  show Vj x 0 0 22 [(0, .ref a0)] [] M19 _
  exact vj_retv C dPm_moveToTrial_22 rfl rfl (Nat.le_of_ble_eq_true rfl) (Nat.le_of_ble_eq_true rfl)
def lp_Te_dropBefore_2 (a0 : Nat) (p1 : Int32) (g2 : Mm → Int32 → Rr) (Mh2 : Mm) (w2_2 : Int32) : Rr := fo_gi Mh2 6 a0 1 fun v4 => fo_jp (fun (Mj25 : Mm) => fo_cv Mj25 6 a0 (fn_Te_remove Mj25 a0 0 w2_2) fun _ M28 => some (0, M28)) (fun j25 => if v4 ≤ w2_2 then j25 Mh2 else fo_cv Mh2 6 a0 (fn_Te_dayAt Mh2 a0 w2_2) fun v12 M12 => if p1 ≤ v12 then j25 M12 else g2 M12 (w2_2 + 1))
def fn_Te_dropBefore (M : Mm) (a0 : Nat) (p1 : Int32) : Rr := fo_fx (fun _ _ => none) (lp_Te_dropBefore_2 a0 p1) fo_N M 0
set_option maxHeartbeats 4000000 in
set_option maxRecDepth 100000 in
theorem cm_Te_dropBefore (l : Launch) (M : Mm) (a0 : Nat) (p1 : Int32) : ct l zyTe_dropBefore ws_Te_dropBefore { frames := 1, cells := 0, slots := 0, locals := 23 } 0 0 (fun _ => none) [.ref a0, .int p1] M (fn_Te_dropBefore M a0 p1) := by
  refine ct_of (cc := zbTe_dropBefore) (maxL := 3) (ret := none) (lv0 := [(0, .ref a0), (1, .int p1)]) (by decide) rfl (Nat.le_of_ble_eq_true rfl) rfl rfl ?_
  intro x C
  unfold fn_Te_dropBefore
  refine vj_iconst (v := 0) C dTe_dropBefore_0 (by decide) ?_
  refine vj_istore_n (lv' := [(0, .ref a0), (1, .int p1), (2, .int 0)]) C dTe_dropBefore_1 rfl (by decide) [1, 2, 0] rfl ?_
  have hg2x : ∀ nf Mh2 w2_2, Vj x 0 0 2 [(0, .ref a0), (1, .int p1), (2, .int w2_2)] [] Mh2 (fo_fx (fun _ _ => none) (lp_Te_dropBefore_2 a0 p1) nf Mh2 w2_2) := by
    intro nf
    refine fo_fx_P (fun (j : Mm → Int32 → Rr) => ∀ Mh2 w2_2, Vj x 0 0 2 [(0, .ref a0), (1, .int p1), (2, .int w2_2)] [] Mh2 (j Mh2 w2_2)) (fun _ _ => Vj_none) ?_ nf
    intro g2 hg2 Mh2 w2_2
    unfold lp_Te_dropBefore_2
    refine vj_iload_n (j := 2) C dTe_dropBefore_2 rfl rfl ?_
    refine vj_aload_n (j := 0) C dTe_dropBefore_3 rfl rfl ?_
    refine vj_gi C dTe_dropBefore_4 lf_Te_15 rfl (fun v4 => ?_)
    refine vj_jp (fun (j : Mm → Rr) => ∀ Mj25, Vj x 0 0 25 [(0, .ref a0), (2, .int w2_2)] [] Mj25 (j Mj25)) ?_ ?_
    · intro Mj25
      refine vj_aload_n (j := 0) C dTe_dropBefore_25 rfl rfl ?_
      refine vj_iconst (v := 0) C dTe_dropBefore_26 (by decide) ?_
      refine vj_iload_n (j := 1) C dTe_dropBefore_27 rfl rfl ?_
      refine vj_cV (ci := 6) (As := [.int 0, .int w2_2]) (st := []) (b := a0) (a1 := 2) C dTe_dropBefore_28 (cm_Te_remove _ _ _ _ _) rfl gv_Te_23 rfl rfl rfl hv_Te_remove ⟨Nat.le_of_ble_eq_true rfl, Nat.le_of_ble_eq_true rfl⟩ rfl rfl (Nat.le_of_ble_eq_true rfl) ⟨Nat.le_of_ble_eq_true rfl, Nat.le_of_ble_eq_true rfl⟩ (fun _ M28 => ?_)
      show Vj x 0 0 31 [(0, .ref a0), (2, .int w2_2)] [] M28 _
      exact vj_retv C dTe_dropBefore_31 rfl rfl (Nat.le_of_ble_eq_true rfl) (Nat.le_of_ble_eq_true rfl)
    · intro j25 hj25
      refine vj_icmp_ge (tgt := 25) C dTe_dropBefore_7 rfl ?_ ?_
      · skip
        refine vj_lk (lv' := [(0, .ref a0), (2, .int w2_2)]) [0, 2] rfl ?_
        exact hj25 _
      · skip
        refine vj_aload_n (j := 0) C dTe_dropBefore_10 rfl rfl ?_
        refine vj_iload_n (j := 2) C dTe_dropBefore_11 rfl rfl ?_
        refine vj_cV (ci := 6) (As := [.int w2_2]) (st := []) (b := a0) (a1 := 1) C dTe_dropBefore_12 (cm_Te_dayAt _ _ _ _) rfl gv_Te_19 rfl rfl rfl hv_Te_dayAt ⟨Nat.le_of_ble_eq_true rfl, Nat.le_of_ble_eq_true rfl⟩ rfl rfl (Nat.le_of_ble_eq_true rfl) ⟨Nat.le_of_ble_eq_true rfl, Nat.le_of_ble_eq_true rfl⟩ (fun v12 M12 => ?_)
        show Vj x 0 0 15 [(0, .ref a0), (1, .int p1), (2, .int w2_2)] [.int v12] M12 _
        refine vj_iload_n (j := 1) C dTe_dropBefore_15 rfl rfl ?_
        refine vj_icmp_ge (tgt := 25) C dTe_dropBefore_16 rfl ?_ ?_
        · skip
          refine vj_lk (lv' := [(0, .ref a0), (2, .int w2_2)]) [0, 2] rfl ?_
          exact hj25 _
        · skip
          refine vj_iinc (j := 2) (b := 1) (lv' := [(0, .ref a0), (1, .int p1), (2, .int (w2_2 + 1))]) C dTe_dropBefore_19 rfl (by decide) (by decide) [1, 2, 0] rfl ?_
          refine vj_goto (tgt := 2) C dTe_dropBefore_22 rfl ?_
          exact hg2 _ _
  exact hg2x _ _ _
def lp_Ru_endDay_10 (a0 : Nat) (p1 : Nat) (p2 : Nat) (g10 : Mm → Int32 → Int32 → Rr) (Mh10 : Mm) (w10_3 : Int32) (w10_4 : Int32) : Rr := fo_gi Mh10 0 p1 1 fun v13 => if v13 ≤ w10_4 then fo_gr Mh10 5 p2 1 fun a69 => fo_gi Mh10 5 p2 0 fun v73 => fo_cv Mh10 6 a69 (fn_Te_dropBefore Mh10 a69 (v73 + 1)) fun _ M78 => fo_cv M78 3 a0 (fn_Ru_runWaiting M78 a0 p1 p2) fun v84 M84 => if v84 = 0 then some ((-2), M84) else fo_gi M84 5 p2 0 fun v95 => fo_pi M84 5 p2 0 (v95 + 1) fun M100 => fo_gr M100 5 p2 2 fun a104 => fo_gi M100 5 p2 0 fun v108 => fo_cv M100 6 a104 (fn_Te_dropBefore M100 a104 v108) fun _ M111 => fo_gr M111 5 p2 3 fun a115 => fo_gi M111 5 p2 0 fun v119 => fo_cv M111 6 a115 (fn_Te_dropBefore M111 a115 v119) fun _ M122 => some (w10_3, M122) else fo_gr Mh10 5 p2 1 fun a20 => fo_gi Mh10 5 p2 0 fun v26 => fo_cv Mh10 6 a20 (fn_Te_countUntil Mh10 a20 w10_4 v26) fun v29 M29 => fo_gr M29 5 p2 5 fun a35 => fo_ai M29 0 a35 w10_4 fun v41 => fo_si M29 a35 w10_4 (v41 + v29) fun M45 => fo_cv M45 3 a0 (fn_Ru_awaitAllOn M45 a0 p1 120 w10_4 v29) fun _ M54 => fo_nm (w10_3 + v29) fun v61 => g10 M54 v61 (w10_4 + 1)
def fn_Ru_endDay (M : Mm) (a0 : Nat) (p1 : Nat) (p2 : Nat) : Rr := fo_pi M 3 a0 2 0 fun M2 => fo_fx (fun _ _ _ => none) (lp_Ru_endDay_10 a0 p1 p2) fo_N M2 0 0
set_option maxHeartbeats 4000000 in
set_option maxRecDepth 100000 in
theorem cm_Ru_endDay (l : Launch) (M : Mm) (a0 : Nat) (p1 : Nat) (p2 : Nat) : ct l zyRu_endDay ws_Ru_endDay { frames := 3, cells := 0, slots := 0, locals := 71 } 0 0 (fun w => some (.int w)) [.ref a0, .ref p1, .ref p2] M (fn_Ru_endDay M a0 p1 p2) := by
  refine ct_of (cc := zbRu_endDay) (maxL := 6) (ret := (some .int)) (lv0 := [(0, .ref a0), (1, .ref p1), (2, .ref p2)]) (by decide) rfl (Nat.le_of_ble_eq_true rfl) rfl rfl ?_
  intro x C
  unfold fn_Ru_endDay
  refine vj_aload_n (j := 0) C dRu_endDay_0 rfl rfl ?_
  refine vj_iconst (v := 0) C dRu_endDay_1 (by decide) ?_
  refine vj_pi C dRu_endDay_2 lf_Ru_19 lq_3_2 rfl (fun M2 => ?_)
  refine vj_iconst (v := 0) C dRu_endDay_5 (by decide) ?_
  refine vj_istore_n (lv' := [(0, .ref a0), (1, .ref p1), (2, .ref p2), (3, .int 0)]) C dRu_endDay_6 rfl (by decide) [1, 2, 3, 0] rfl ?_
  refine vj_iconst (v := 0) C dRu_endDay_7 (by decide) ?_
  refine vj_istore (lv' := [(0, .ref a0), (1, .ref p1), (2, .ref p2), (3, .int 0), (4, .int 0)]) C dRu_endDay_8 (by decide) [1, 2, 3, 4, 0] rfl ?_
  have hg10x : ∀ nf Mh10 w10_3 w10_4, Vj x 0 0 10 [(0, .ref a0), (1, .ref p1), (2, .ref p2), (3, .int w10_3), (4, .int w10_4)] [] Mh10 (fo_fx (fun _ _ _ => none) (lp_Ru_endDay_10 a0 p1 p2) nf Mh10 w10_3 w10_4) := by
    intro nf
    refine fo_fx_P (fun (j : Mm → Int32 → Int32 → Rr) => ∀ Mh10 w10_3 w10_4, Vj x 0 0 10 [(0, .ref a0), (1, .ref p1), (2, .ref p2), (3, .int w10_3), (4, .int w10_4)] [] Mh10 (j Mh10 w10_3 w10_4)) (fun _ _ _ => Vj_none) ?_ nf
    intro g10 hg10 Mh10 w10_3 w10_4
    unfold lp_Ru_endDay_10
    refine vj_iload (j := 4) C dRu_endDay_10 rfl ?_
    refine vj_aload_n (j := 1) C dRu_endDay_12 rfl rfl ?_
    refine vj_gi C dRu_endDay_13 lf_Ru_23 rfl (fun v13 => ?_)
    refine vj_icmp_ge (tgt := 68) C dRu_endDay_16 rfl ?_ ?_
    · skip
      refine vj_aload_n (j := 2) C dRu_endDay_68 rfl rfl ?_
      refine vj_gr C dRu_endDay_69 lf_Ru_76 rfl (fun a69 => ?_)
      refine vj_aload_n (j := 2) C dRu_endDay_72 rfl rfl ?_
      refine vj_gi C dRu_endDay_73 lf_Ru_79 rfl (fun v73 => ?_)
      refine vj_iconst (v := 1) C dRu_endDay_76 (by decide) ?_
      refine vj_iadd C dRu_endDay_77 ?_
      refine vj_cV (ci := 6) (As := [.int (v73 + 1)]) (st := []) (b := a69) (a1 := 1) C dRu_endDay_78 (cm_Te_dropBefore _ _ _ _) rfl gv_Ru_93 rfl rfl rfl hv_Te_dropBefore ⟨Nat.le_of_ble_eq_true rfl, Nat.le_of_ble_eq_true rfl⟩ rfl rfl (Nat.le_of_ble_eq_true rfl) ⟨Nat.le_of_ble_eq_true rfl, Nat.le_of_ble_eq_true rfl⟩ (fun _ M78 => ?_)
      show Vj x 0 0 81 [(0, .ref a0), (1, .ref p1), (2, .ref p2), (3, .int w10_3), (4, .int w10_4)] [] M78 _
      refine vj_aload_n (j := 0) C dRu_endDay_81 rfl rfl ?_
      refine vj_aload_n (j := 1) C dRu_endDay_82 rfl rfl ?_
      refine vj_aload_n (j := 2) C dRu_endDay_83 rfl rfl ?_
      refine vj_cV (ci := 3) (As := [.ref p1, .ref p2]) (st := []) (b := a0) (a1 := 2) C dRu_endDay_84 (cm_Ru_runWaiting _ _ _ _ _) rfl gv_Ru_41 rfl rfl rfl hv_Ru_runWaiting ⟨Nat.le_of_ble_eq_true rfl, Nat.le_of_ble_eq_true rfl⟩ rfl rfl (Nat.le_of_ble_eq_true rfl) ⟨Nat.le_of_ble_eq_true rfl, Nat.le_of_ble_eq_true rfl⟩ (fun v84 M84 => ?_)
      show Vj x 0 0 87 [(0, .ref a0), (1, .ref p1), (2, .ref p2), (3, .int w10_3), (4, .int w10_4)] [.int v84] M84 _
      refine vj_if_ne (tgt := 93) C dRu_endDay_87 rfl ?_ ?_
      · skip
        refine vj_aload_n (j := 2) C dRu_endDay_93 rfl rfl ?_
        refine vj_dup C dRu_endDay_94 rfl ?_
        refine vj_gi C dRu_endDay_95 lf_Ru_79 rfl (fun v95 => ?_)
        refine vj_iconst (v := 1) C dRu_endDay_98 (by decide) ?_
        refine vj_iadd C dRu_endDay_99 ?_
        refine vj_pi C dRu_endDay_100 lf_Ru_79 lq_5_0 rfl (fun M100 => ?_)
        refine vj_aload_n (j := 2) C dRu_endDay_103 rfl rfl ?_
        refine vj_gr C dRu_endDay_104 lf_Ru_49 rfl (fun a104 => ?_)
        refine vj_aload_n (j := 2) C dRu_endDay_107 rfl rfl ?_
        refine vj_gi C dRu_endDay_108 lf_Ru_79 rfl (fun v108 => ?_)
        refine vj_cV (ci := 6) (As := [.int v108]) (st := []) (b := a104) (a1 := 1) C dRu_endDay_111 (cm_Te_dropBefore _ _ _ _) rfl gv_Ru_93 rfl rfl rfl hv_Te_dropBefore ⟨Nat.le_of_ble_eq_true rfl, Nat.le_of_ble_eq_true rfl⟩ rfl rfl (Nat.le_of_ble_eq_true rfl) ⟨Nat.le_of_ble_eq_true rfl, Nat.le_of_ble_eq_true rfl⟩ (fun _ M111 => ?_)
        show Vj x 0 0 114 [(0, .ref a0), (1, .ref p1), (2, .ref p2), (3, .int w10_3), (4, .int w10_4)] [] M111 _
        refine vj_aload_n (j := 2) C dRu_endDay_114 rfl rfl ?_
        refine vj_gr C dRu_endDay_115 lf_Ru_59 rfl (fun a115 => ?_)
        refine vj_aload_n (j := 2) C dRu_endDay_118 rfl rfl ?_
        refine vj_gi C dRu_endDay_119 lf_Ru_79 rfl (fun v119 => ?_)
        refine vj_cV (ci := 6) (As := [.int v119]) (st := []) (b := a115) (a1 := 1) C dRu_endDay_122 (cm_Te_dropBefore _ _ _ _) rfl gv_Ru_93 rfl rfl rfl hv_Te_dropBefore ⟨Nat.le_of_ble_eq_true rfl, Nat.le_of_ble_eq_true rfl⟩ rfl rfl (Nat.le_of_ble_eq_true rfl) ⟨Nat.le_of_ble_eq_true rfl, Nat.le_of_ble_eq_true rfl⟩ (fun _ M122 => ?_)
        show Vj x 0 0 125 [(0, .ref a0), (1, .ref p1), (2, .ref p2), (3, .int w10_3), (4, .int w10_4)] [] M122 _
        refine vj_iload_n (j := 3) C dRu_endDay_125 rfl rfl ?_
        exact vj_ret C dRu_endDay_126 rfl rfl (Nat.le_of_ble_eq_true rfl) (Nat.le_of_ble_eq_true rfl)
      · skip
        refine vj_bipush (v := (-2)) C dRu_endDay_90 (by decide) ?_
        exact vj_ret C dRu_endDay_92 rfl rfl (Nat.le_of_ble_eq_true rfl) (Nat.le_of_ble_eq_true rfl)
    · skip
      refine vj_aload_n (j := 2) C dRu_endDay_19 rfl rfl ?_
      refine vj_gr C dRu_endDay_20 lf_Ru_76 rfl (fun a20 => ?_)
      refine vj_iload (j := 4) C dRu_endDay_23 rfl ?_
      refine vj_aload_n (j := 2) C dRu_endDay_25 rfl rfl ?_
      refine vj_gi C dRu_endDay_26 lf_Ru_79 rfl (fun v26 => ?_)
      refine vj_cV (ci := 6) (As := [.int w10_4, .int v26]) (st := []) (b := a20) (a1 := 2) C dRu_endDay_29 (cm_Te_countUntil _ _ _ _ _) rfl gv_Ru_82 rfl rfl rfl hv_Te_countUntil ⟨Nat.le_of_ble_eq_true rfl, Nat.le_of_ble_eq_true rfl⟩ rfl rfl (Nat.le_of_ble_eq_true rfl) ⟨Nat.le_of_ble_eq_true rfl, Nat.le_of_ble_eq_true rfl⟩ (fun v29 M29 => ?_)
      show Vj x 0 0 32 [(0, .ref a0), (1, .ref p1), (2, .ref p2), (3, .int w10_3), (4, .int w10_4)] [.int v29] M29 _
      refine vj_istore (lv' := [(0, .ref a0), (1, .ref p1), (2, .ref p2), (3, .int w10_3), (4, .int w10_4), (5, .int v29)]) C dRu_endDay_32 (by decide) [1, 2, 3, 4, 5, 0] rfl ?_
      refine vj_aload_n (j := 2) C dRu_endDay_34 rfl rfl ?_
      refine vj_gr C dRu_endDay_35 lf_Ru_86 rfl (fun a35 => ?_)
      refine vj_iload (j := 4) C dRu_endDay_38 rfl ?_
      refine vj_dup2 C dRu_endDay_40 rfl rfl ?_
      refine vj_iald C dRu_endDay_41 (by decide) (fun v41 => ?_)
      refine vj_iload (j := 5) C dRu_endDay_42 rfl ?_
      refine vj_iadd C dRu_endDay_44 ?_
      refine vj_iast C dRu_endDay_45 (fun M45 => ?_)
      refine vj_aload_n (j := 0) C dRu_endDay_46 rfl rfl ?_
      refine vj_aload_n (j := 1) C dRu_endDay_47 rfl rfl ?_
      refine vj_bipush (v := 120) C dRu_endDay_48 (by decide) ?_
      refine vj_iload (j := 4) C dRu_endDay_50 rfl ?_
      refine vj_iload (j := 5) C dRu_endDay_52 rfl ?_
      refine vj_cV (ci := 3) (As := [.ref p1, .int 120, .int w10_4, .int v29]) (st := []) (b := a0) (a1 := 4) C dRu_endDay_54 (cm_Ru_awaitAllOn _ _ _ _ _ _ _) rfl gv_Ru_89 rfl rfl rfl hv_Ru_awaitAllOn ⟨Nat.le_of_ble_eq_true rfl, Nat.le_of_ble_eq_true rfl⟩ rfl rfl (Nat.le_of_ble_eq_true rfl) ⟨Nat.le_of_ble_eq_true rfl, Nat.le_of_ble_eq_true rfl⟩ (fun _ M54 => ?_)
      show Vj x 0 0 57 [(0, .ref a0), (1, .ref p1), (2, .ref p2), (3, .int w10_3), (4, .int w10_4), (5, .int v29)] [] M54 _
      refine vj_iload_n (j := 3) C dRu_endDay_57 rfl rfl ?_
      refine vj_iload (j := 5) C dRu_endDay_58 rfl ?_
      refine vj_iadd C dRu_endDay_60 ?_
      refine vj_nm (fun v61 => ?_)
      refine vj_istore_n (lv' := [(0, .ref a0), (1, .ref p1), (2, .ref p2), (3, .int v61), (4, .int w10_4)]) C dRu_endDay_61 rfl (by decide) [1, 2, 3, 0, 4] rfl ?_
      refine vj_iinc (j := 4) (b := 1) (lv' := [(0, .ref a0), (1, .ref p1), (2, .ref p2), (3, .int v61), (4, .int (w10_4 + 1))]) C dRu_endDay_62 rfl (by decide) (by decide) [1, 2, 3, 4, 0] rfl ?_
      refine vj_goto (tgt := 10) C dRu_endDay_65 rfl ?_
      exact hg10 _ _ _
  exact hg10x _ _ _ _
def fn_Hi_giveBack (M : Mm) (a0 : Nat) (p1 : Nat) : Rr := fo_gi M 2 a0 1 fun v1 => if v1 = 0 then fo_rz 0 M else fo_gi M 2 a0 2 fun v11 => fo_pi M 2 a0 2 (((v11 + 12) - 1) - ((v11 + 12) - 1) / 12 * 12) fun M22 => fo_gi M22 2 a0 1 fun v27 => fo_pi M22 2 a0 1 (v27 - 1) fun M32 => fo_gr M32 2 a0 0 fun a37 => fo_gi M32 2 a0 2 fun v41 => fo_ar M32 5 a37 v41 fun a44 => fo_cv M32 5 p1 (fn_St_copyFrom M32 p1 a44) fun _ M45 => fo_rz 1 M45
set_option maxHeartbeats 4000000 in
set_option maxRecDepth 100000 in
theorem cm_Hi_giveBack (l : Launch) (M : Mm) (a0 : Nat) (p1 : Nat) : ct l zyHi_giveBack ws_Hi_giveBack { frames := 3, cells := 0, slots := 0, locals := 242 } 0 0 (fun w => some (.int w)) [.ref a0, .ref p1] M (fn_Hi_giveBack M a0 p1) := by
  refine ct_of (cc := zbHi_giveBack) (maxL := 2) (ret := (some .boolean)) (lv0 := [(0, .ref a0), (1, .ref p1)]) (by decide) rfl (Nat.le_of_ble_eq_true rfl) rfl rfl ?_
  intro x C
  unfold fn_Hi_giveBack
  refine vj_aload_n (j := 0) C dHi_giveBack_0 rfl rfl ?_
  refine vj_gi C dHi_giveBack_1 lf_Hi_17 rfl (fun v1 => ?_)
  refine vj_if_ne (tgt := 9) C dHi_giveBack_4 rfl ?_ ?_
  · skip
    refine vj_aload_n (j := 0) C dHi_giveBack_9 rfl rfl ?_
    refine vj_aload_n (j := 0) C dHi_giveBack_10 rfl rfl ?_
    refine vj_gi C dHi_giveBack_11 lf_Hi_21 rfl (fun v11 => ?_)
    refine vj_bipush (v := 12) C dHi_giveBack_14 (by decide) ?_
    refine vj_iadd C dHi_giveBack_16 ?_
    refine vj_iconst (v := 1) C dHi_giveBack_17 (by decide) ?_
    refine vj_isub C dHi_giveBack_18 ?_
    refine vj_bipush (v := 12) C dHi_giveBack_19 (by decide) ?_
    refine vj_irem C dHi_giveBack_21 (by decide) ?_
    refine vj_pi C dHi_giveBack_22 lf_Hi_21 lq_2_2 rfl (fun M22 => ?_)
    refine vj_aload_n (j := 0) C dHi_giveBack_25 rfl rfl ?_
    refine vj_dup C dHi_giveBack_26 rfl ?_
    refine vj_gi C dHi_giveBack_27 lf_Hi_17 rfl (fun v27 => ?_)
    refine vj_iconst (v := 1) C dHi_giveBack_30 (by decide) ?_
    refine vj_isub C dHi_giveBack_31 ?_
    refine vj_pi C dHi_giveBack_32 lf_Hi_17 lq_2_1 rfl (fun M32 => ?_)
    refine vj_aload_n (j := 1) C dHi_giveBack_35 rfl rfl ?_
    refine vj_aload_n (j := 0) C dHi_giveBack_36 rfl rfl ?_
    refine vj_gr C dHi_giveBack_37 lf_Hi_11 rfl (fun a37 => ?_)
    refine vj_aload_n (j := 0) C dHi_giveBack_40 rfl rfl ?_
    refine vj_gi C dHi_giveBack_41 lf_Hi_21 rfl (fun v41 => ?_)
    refine vj_aald C dHi_giveBack_44 (by decide) (fun a44 => ?_)
    refine vj_cV (ci := 5) (As := [.ref a44]) (st := []) (b := p1) (a1 := 1) C dHi_giveBack_45 (cm_St_copyFrom _ _ _ _) rfl gv_Hi_25 rfl rfl rfl hv_St_copyFrom ⟨Nat.le_of_ble_eq_true rfl, Nat.le_of_ble_eq_true rfl⟩ rfl rfl (Nat.le_of_ble_eq_true rfl) ⟨Nat.le_of_ble_eq_true rfl, Nat.le_of_ble_eq_true rfl⟩ (fun _ M45 => ?_)
    show Vj x 0 0 48 [(0, .ref a0), (1, .ref p1)] [] M45 _
    refine vj_iconst (v := 1) C dHi_giveBack_48 (by decide) ?_
    exact vj_retz C dHi_giveBack_49 rfl rfl (Nat.le_of_ble_eq_true rfl) (Nat.le_of_ble_eq_true rfl)
  · skip
    refine vj_iconst (v := 0) C dHi_giveBack_7 (by decide) ?_
    exact vj_retz C dHi_giveBack_8 rfl rfl (Nat.le_of_ble_eq_true rfl) (Nat.le_of_ble_eq_true rfl)
def fn_Pm_undo (M : Mm) (a0 : Nat) : Rr := fo_gr M 8 a0 7 fun a1 => fo_gr M 8 a0 5 fun a5 => fo_cv M 2 a1 (fn_Hi_giveBack M a1 a5) fun v8 M8 => fo_rz v8 M8
set_option maxHeartbeats 4000000 in
set_option maxRecDepth 100000 in
theorem cm_Pm_undo (l : Launch) (M : Mm) (a0 : Nat) : ct l zyPm_undo ws_Pm_undo { frames := 4, cells := 0, slots := 0, locals := 263 } 0 0 (fun w => some (.int w)) [.ref a0] M (fn_Pm_undo M a0) := by
  refine ct_of (cc := zbPm_undo) (maxL := 1) (ret := (some .boolean)) (lv0 := [(0, .ref a0)]) (by decide) rfl (Nat.le_of_ble_eq_true rfl) rfl rfl ?_
  intro x C
  unfold fn_Pm_undo
  refine vj_aload_n (j := 0) C dPm_undo_0 rfl rfl ?_
  refine vj_gr C dPm_undo_1 lf_Pm_47 rfl (fun a1 => ?_)
  refine vj_aload_n (j := 0) C dPm_undo_4 rfl rfl ?_
  refine vj_gr C dPm_undo_5 lf_Pm_37 rfl (fun a5 => ?_)
  refine vj_cV (ci := 2) (As := [.ref a5]) (st := []) (b := a1) (a1 := 1) C dPm_undo_8 (cm_Hi_giveBack _ _ _ _) rfl gv_Pm_127 rfl rfl rfl hv_Hi_giveBack ⟨Nat.le_of_ble_eq_true rfl, Nat.le_of_ble_eq_true rfl⟩ rfl rfl (Nat.le_of_ble_eq_true rfl) ⟨Nat.le_of_ble_eq_true rfl, Nat.le_of_ble_eq_true rfl⟩ (fun v8 M8 => ?_)
  show Vj x 0 0 11 [(0, .ref a0)] [.int v8] M8 _
  exact vj_retz C dPm_undo_11 rfl rfl (Nat.le_of_ble_eq_true rfl) (Nat.le_of_ble_eq_true rfl)
def fn_Pm_today (M : Mm) (a0 : Nat) : Rr := fo_gi M 8 a0 2 fun v1 => if v1 = 0 then some ((-1), M) else fo_gr M 8 a0 5 fun a8 => fo_gi M 5 a8 0 fun v11 => some (v11, M)
set_option maxHeartbeats 4000000 in
set_option maxRecDepth 100000 in
theorem cm_Pm_today (l : Launch) (M : Mm) (a0 : Nat) : ct l zyPm_today ws_Pm_today { frames := 0, cells := 0, slots := 0, locals := 0 } 0 0 (fun w => some (.int w)) [.ref a0] M (fn_Pm_today M a0) := by
  refine ct_of (cc := zbPm_today) (maxL := 1) (ret := (some .int)) (lv0 := [(0, .ref a0)]) (by decide) rfl (Nat.le_of_ble_eq_true rfl) rfl rfl ?_
  intro x C
  unfold fn_Pm_today
  refine vj_aload_n (j := 0) C dPm_today_0 rfl rfl ?_
  refine vj_gi C dPm_today_1 lf_Pm_20 rfl (fun v1 => ?_)
  refine vj_if_eq (tgt := 17) C dPm_today_4 rfl ?_ ?_
  · skip
    refine vj_iconst (v := (-1)) C dPm_today_17 (by decide) ?_
    exact vj_ret C dPm_today_18 rfl rfl (Nat.le_of_ble_eq_true rfl) (Nat.le_of_ble_eq_true rfl)
  · skip
    refine vj_aload_n (j := 0) C dPm_today_7 rfl rfl ?_
    refine vj_gr C dPm_today_8 lf_Pm_37 rfl (fun a8 => ?_)
    refine vj_gi C dPm_today_11 lf_Pm_120 rfl (fun v11 => ?_)
    refine vj_goto (tgt := 18) C dPm_today_14 rfl ?_
    exact vj_ret C dPm_today_18 rfl rfl (Nat.le_of_ble_eq_true rfl) (Nat.le_of_ble_eq_true rfl)
def fn_Pm_duty (M : Mm) (a0 : Nat) (p1 : Int32) : Rr := fo_gi M 8 a0 2 fun v1 => if v1 = 0 then some ((-1), M) else if p1 < 0 then some ((-1), M) else fo_gr M 8 a0 5 fun a13 => fo_gr M 5 a13 1 fun a16 => fo_gi M 6 a16 1 fun v19 => if p1 < v19 then fo_gr M 8 a0 5 fun a28 => fo_gr M 5 a28 1 fun a31 => fo_gr M 6 a31 0 fun a34 => fo_ai M 0 a34 p1 fun v38 => some (v38, M) else some ((-1), M)
set_option maxHeartbeats 4000000 in
set_option maxRecDepth 100000 in
theorem cm_Pm_duty (l : Launch) (M : Mm) (a0 : Nat) (p1 : Int32) : ct l zyPm_duty ws_Pm_duty { frames := 0, cells := 0, slots := 0, locals := 0 } 0 0 (fun w => some (.int w)) [.ref a0, .int p1] M (fn_Pm_duty M a0 p1) := by
  refine ct_of (cc := zbPm_duty) (maxL := 2) (ret := (some .int)) (lv0 := [(0, .ref a0), (1, .int p1)]) (by decide) rfl (Nat.le_of_ble_eq_true rfl) rfl rfl ?_
  intro x C
  unfold fn_Pm_duty
  refine vj_aload_n (j := 0) C dPm_duty_0 rfl rfl ?_
  refine vj_gi C dPm_duty_1 lf_Pm_20 rfl (fun v1 => ?_)
  refine vj_if_eq (tgt := 25) C dPm_duty_4 rfl ?_ ?_
  · skip
    refine vj_iconst (v := (-1)) C dPm_duty_25 (by decide) ?_
    exact vj_ret C dPm_duty_26 rfl rfl (Nat.le_of_ble_eq_true rfl) (Nat.le_of_ble_eq_true rfl)
  · skip
    refine vj_iload_n (j := 1) C dPm_duty_7 rfl rfl ?_
    refine vj_if_lt (tgt := 25) C dPm_duty_8 rfl ?_ ?_
    · skip
      refine vj_iconst (v := (-1)) C dPm_duty_25 (by decide) ?_
      exact vj_ret C dPm_duty_26 rfl rfl (Nat.le_of_ble_eq_true rfl) (Nat.le_of_ble_eq_true rfl)
    · skip
      refine vj_iload_n (j := 1) C dPm_duty_11 rfl rfl ?_
      refine vj_aload_n (j := 0) C dPm_duty_12 rfl rfl ?_
      refine vj_gr C dPm_duty_13 lf_Pm_37 rfl (fun a13 => ?_)
      refine vj_gr C dPm_duty_16 lf_Pm_131 rfl (fun a16 => ?_)
      refine vj_gi C dPm_duty_19 lf_Pm_135 rfl (fun v19 => ?_)
      refine vj_icmp_lt (tgt := 27) C dPm_duty_22 rfl ?_ ?_
      · skip
        refine vj_aload_n (j := 0) C dPm_duty_27 rfl rfl ?_
        refine vj_gr C dPm_duty_28 lf_Pm_37 rfl (fun a28 => ?_)
        refine vj_gr C dPm_duty_31 lf_Pm_131 rfl (fun a31 => ?_)
        refine vj_gr C dPm_duty_34 lf_Pm_138 rfl (fun a34 => ?_)
        refine vj_iload_n (j := 1) C dPm_duty_37 rfl rfl ?_
        refine vj_iald C dPm_duty_38 (by decide) (fun v38 => ?_)
        exact vj_ret C dPm_duty_39 rfl rfl (Nat.le_of_ble_eq_true rfl) (Nat.le_of_ble_eq_true rfl)
      · skip
        refine vj_iconst (v := (-1)) C dPm_duty_25 (by decide) ?_
        exact vj_ret C dPm_duty_26 rfl rfl (Nat.le_of_ble_eq_true rfl) (Nat.le_of_ble_eq_true rfl)
def fn_Pm_count (M : Mm) (a0 : Nat) (p1 : Int32) : Rr := fo_gi M 8 a0 2 fun v1 => if v1 = 0 then some (0, M) else if p1 = 0 then fo_gr M 8 a0 5 fun a37 => fo_gr M 5 a37 1 fun a40 => fo_gi M 6 a40 1 fun v43 => some (v43, M) else if p1 = 1 then fo_gr M 8 a0 5 fun a48 => fo_gr M 5 a48 2 fun a51 => fo_gi M 6 a51 1 fun v54 => some (v54, M) else if p1 = 2 then fo_gr M 8 a0 5 fun a59 => fo_gr M 5 a59 3 fun a62 => fo_gi M 6 a62 1 fun v65 => some (v65, M) else some (0, M)
set_option maxHeartbeats 4000000 in
set_option maxRecDepth 100000 in
theorem cm_Pm_count (l : Launch) (M : Mm) (a0 : Nat) (p1 : Int32) : ct l zyPm_count ws_Pm_count { frames := 0, cells := 0, slots := 0, locals := 0 } 0 0 (fun w => some (.int w)) [.ref a0, .int p1] M (fn_Pm_count M a0 p1) := by
  refine ct_of (cc := zbPm_count) (maxL := 2) (ret := (some .int)) (lv0 := [(0, .ref a0), (1, .int p1)]) (by decide) rfl (Nat.le_of_ble_eq_true rfl) rfl rfl ?_
  intro x C
  unfold fn_Pm_count
  refine vj_aload_n (j := 0) C dPm_count_0 rfl rfl ?_
  refine vj_gi C dPm_count_1 lf_Pm_20 rfl (fun v1 => ?_)
  refine vj_if_ne (tgt := 9) C dPm_count_4 rfl ?_ ?_
  · skip
    refine vj_iload_n (j := 1) C dPm_count_9 rfl rfl ?_
    refine vj_ts (cs := 0) (off := 26) (tgt := 36) C dPm_count_10 (by decide +kernel) rfl ?_ (fun hc0 => ?_)
    · skip
      refine vj_aload_n (j := 0) C dPm_count_36 rfl rfl ?_
      refine vj_gr C dPm_count_37 lf_Pm_37 rfl (fun a37 => ?_)
      refine vj_gr C dPm_count_40 lf_Pm_131 rfl (fun a40 => ?_)
      refine vj_gi C dPm_count_43 lf_Pm_135 rfl (fun v43 => ?_)
      exact vj_ret C dPm_count_46 rfl rfl (Nat.le_of_ble_eq_true rfl) (Nat.le_of_ble_eq_true rfl)
    refine vj_ts (cs := 1) (off := 37) (tgt := 47) C dPm_count_10 (by decide +kernel) rfl ?_ (fun hc1 => ?_)
    · skip
      refine vj_aload_n (j := 0) C dPm_count_47 rfl rfl ?_
      refine vj_gr C dPm_count_48 lf_Pm_37 rfl (fun a48 => ?_)
      refine vj_gr C dPm_count_51 lf_Pm_142 rfl (fun a51 => ?_)
      refine vj_gi C dPm_count_54 lf_Pm_135 rfl (fun v54 => ?_)
      exact vj_ret C dPm_count_57 rfl rfl (Nat.le_of_ble_eq_true rfl) (Nat.le_of_ble_eq_true rfl)
    refine vj_ts (cs := 2) (off := 48) (tgt := 58) C dPm_count_10 (by decide +kernel) rfl ?_ (fun hc2 => ?_)
    · skip
      refine vj_aload_n (j := 0) C dPm_count_58 rfl rfl ?_
      refine vj_gr C dPm_count_59 lf_Pm_37 rfl (fun a59 => ?_)
      refine vj_gr C dPm_count_62 lf_Pm_145 rfl (fun a62 => ?_)
      refine vj_gi C dPm_count_65 lf_Pm_135 rfl (fun v65 => ?_)
      exact vj_ret C dPm_count_68 rfl rfl (Nat.le_of_ble_eq_true rfl) (Nat.le_of_ble_eq_true rfl)
    refine vj_tsd (tgt := 69) C dPm_count_10 (by have h0 := lv_neT hc0 (a := 0) rfl; have h1 := lv_neT hc1 (a := 1) rfl; have h2 := lv_neT hc2 (a := 2) rfl; omega) rfl ?_
    refine vj_iconst (v := 0) C dPm_count_69 (by decide) ?_
    exact vj_ret C dPm_count_70 rfl rfl (Nat.le_of_ble_eq_true rfl) (Nat.le_of_ble_eq_true rfl)
  · skip
    refine vj_iconst (v := 0) C dPm_count_7 (by decide) ?_
    exact vj_ret C dPm_count_8 rfl rfl (Nat.le_of_ble_eq_true rfl) (Nat.le_of_ble_eq_true rfl)
def fn_Pm_breaches (M : Mm) (a0 : Nat) (p1 : Int32) : Rr := fo_gi M 8 a0 2 fun v1 => if v1 = 0 then some (0, M) else if p1 < 0 then some (0, M) else fo_gr M 8 a0 3 fun a13 => fo_gi M 0 a13 1 fun v16 => if p1 < v16 then fo_gr M 8 a0 5 fun a25 => fo_gr M 5 a25 5 fun a28 => fo_ai M 0 a28 p1 fun v32 => some (v32, M) else some (0, M)
set_option maxHeartbeats 4000000 in
set_option maxRecDepth 100000 in
theorem cm_Pm_breaches (l : Launch) (M : Mm) (a0 : Nat) (p1 : Int32) : ct l zyPm_breaches ws_Pm_breaches { frames := 0, cells := 0, slots := 0, locals := 0 } 0 0 (fun w => some (.int w)) [.ref a0, .int p1] M (fn_Pm_breaches M a0 p1) := by
  refine ct_of (cc := zbPm_breaches) (maxL := 2) (ret := (some .int)) (lv0 := [(0, .ref a0), (1, .int p1)]) (by decide) rfl (Nat.le_of_ble_eq_true rfl) rfl rfl ?_
  intro x C
  unfold fn_Pm_breaches
  refine vj_aload_n (j := 0) C dPm_breaches_0 rfl rfl ?_
  refine vj_gi C dPm_breaches_1 lf_Pm_20 rfl (fun v1 => ?_)
  refine vj_if_eq (tgt := 22) C dPm_breaches_4 rfl ?_ ?_
  · skip
    refine vj_iconst (v := 0) C dPm_breaches_22 (by decide) ?_
    exact vj_ret C dPm_breaches_23 rfl rfl (Nat.le_of_ble_eq_true rfl) (Nat.le_of_ble_eq_true rfl)
  · skip
    refine vj_iload_n (j := 1) C dPm_breaches_7 rfl rfl ?_
    refine vj_if_lt (tgt := 22) C dPm_breaches_8 rfl ?_ ?_
    · skip
      refine vj_iconst (v := 0) C dPm_breaches_22 (by decide) ?_
      exact vj_ret C dPm_breaches_23 rfl rfl (Nat.le_of_ble_eq_true rfl) (Nat.le_of_ble_eq_true rfl)
    · skip
      refine vj_iload_n (j := 1) C dPm_breaches_11 rfl rfl ?_
      refine vj_aload_n (j := 0) C dPm_breaches_12 rfl rfl ?_
      refine vj_gr C dPm_breaches_13 lf_Pm_27 rfl (fun a13 => ?_)
      refine vj_gi C dPm_breaches_16 lf_Pm_100 rfl (fun v16 => ?_)
      refine vj_icmp_lt (tgt := 24) C dPm_breaches_19 rfl ?_ ?_
      · skip
        refine vj_aload_n (j := 0) C dPm_breaches_24 rfl rfl ?_
        refine vj_gr C dPm_breaches_25 lf_Pm_37 rfl (fun a25 => ?_)
        refine vj_gr C dPm_breaches_28 lf_Pm_148 rfl (fun a28 => ?_)
        refine vj_iload_n (j := 1) C dPm_breaches_31 rfl rfl ?_
        refine vj_iald C dPm_breaches_32 (by decide) (fun v32 => ?_)
        exact vj_ret C dPm_breaches_33 rfl rfl (Nat.le_of_ble_eq_true rfl) (Nat.le_of_ble_eq_true rfl)
      · skip
        refine vj_iconst (v := 0) C dPm_breaches_22 (by decide) ?_
        exact vj_ret C dPm_breaches_23 rfl rfl (Nat.le_of_ble_eq_true rfl) (Nat.le_of_ble_eq_true rfl)
def fn_Pm_may (M : Mm) (a0 : Nat) (p1 : Int32) (p2 : Int32) : Rr := fo_gi M 8 a0 2 fun v1 => if v1 = 0 then some ((-1), M) else fo_cl (fn_Pm_isParty M p1) fun v8 M8 => if v8 = 0 then some ((-1), M8) else fo_cl (fn_Pm_isKind M8 p2) fun v15 M15 => if v15 = 0 then some ((-1), M15) else fo_gr M15 8 a0 3 fun a24 => fo_gr M15 8 a0 5 fun a28 => fo_gr M15 5 a28 2 fun a31 => fo_cv M15 0 a24 (fn_Ag_find M15 a24 a31 p1 p2) fun v36 M36 => if v36 = (-1) then some (0, M36) else fo_gr M36 8 a0 3 fun a46 => fo_gr M36 8 a0 5 fun a50 => fo_gr M36 5 a50 3 fun a53 => fo_cv M36 0 a46 (fn_Ag_find M36 a46 a53 p1 p2) fun v58 M58 => if v58 = (-1) then some (2, M58) else some (1, M58)
set_option maxHeartbeats 4000000 in
set_option maxRecDepth 100000 in
theorem cm_Pm_may (l : Launch) (M : Mm) (a0 : Nat) (p1 : Int32) (p2 : Int32) : ct l zyPm_may ws_Pm_may { frames := 2, cells := 0, slots := 0, locals := 46 } 0 0 (fun w => some (.int w)) [.ref a0, .int p1, .int p2] M (fn_Pm_may M a0 p1 p2) := by
  refine ct_of (cc := zbPm_may) (maxL := 3) (ret := (some .int)) (lv0 := [(0, .ref a0), (1, .int p1), (2, .int p2)]) (by decide) rfl (Nat.le_of_ble_eq_true rfl) rfl rfl ?_
  intro x C
  unfold fn_Pm_may
  refine vj_aload_n (j := 0) C dPm_may_0 rfl rfl ?_
  refine vj_gi C dPm_may_1 lf_Pm_20 rfl (fun v1 => ?_)
  refine vj_if_eq (tgt := 21) C dPm_may_4 rfl ?_ ?_
  · skip
    refine vj_iconst (v := (-1)) C dPm_may_21 (by decide) ?_
    exact vj_ret C dPm_may_22 rfl rfl (Nat.le_of_ble_eq_true rfl) (Nat.le_of_ble_eq_true rfl)
  · skip
    refine vj_iload_n (j := 1) C dPm_may_7 rfl rfl ?_
    refine vj_cS (As := [.int p1]) (st := []) (a1 := 1) C dPm_may_8 (cm_Pm_isParty _ _ _) gs_Pm_106 rfl rfl rfl hs_Pm_isParty ⟨Nat.le_of_ble_eq_true rfl, Nat.le_of_ble_eq_true rfl⟩ rfl rfl (Nat.le_of_ble_eq_true rfl) ⟨Nat.le_of_ble_eq_true rfl, Nat.le_of_ble_eq_true rfl⟩ (fun v8 M8 => ?_)
    show Vj x 0 0 11 [(0, .ref a0), (1, .int p1), (2, .int p2)] [.int v8] M8 _
    refine vj_if_eq (tgt := 21) C dPm_may_11 rfl ?_ ?_
    · skip
      refine vj_iconst (v := (-1)) C dPm_may_21 (by decide) ?_
      exact vj_ret C dPm_may_22 rfl rfl (Nat.le_of_ble_eq_true rfl) (Nat.le_of_ble_eq_true rfl)
    · skip
      refine vj_iload_n (j := 2) C dPm_may_14 rfl rfl ?_
      refine vj_cS (As := [.int p2]) (st := []) (a1 := 1) C dPm_may_15 (cm_Pm_isKind _ _ _) gs_Pm_110 rfl rfl rfl hs_Pm_isKind ⟨Nat.le_of_ble_eq_true rfl, Nat.le_of_ble_eq_true rfl⟩ rfl rfl (Nat.le_of_ble_eq_true rfl) ⟨Nat.le_of_ble_eq_true rfl, Nat.le_of_ble_eq_true rfl⟩ (fun v15 M15 => ?_)
      show Vj x 0 0 18 [(0, .ref a0), (1, .int p1), (2, .int p2)] [.int v15] M15 _
      refine vj_if_ne (tgt := 23) C dPm_may_18 rfl ?_ ?_
      · skip
        refine vj_aload_n (j := 0) C dPm_may_23 rfl rfl ?_
        refine vj_gr C dPm_may_24 lf_Pm_27 rfl (fun a24 => ?_)
        refine vj_aload_n (j := 0) C dPm_may_27 rfl rfl ?_
        refine vj_gr C dPm_may_28 lf_Pm_37 rfl (fun a28 => ?_)
        refine vj_gr C dPm_may_31 lf_Pm_142 rfl (fun a31 => ?_)
        refine vj_iload_n (j := 1) C dPm_may_34 rfl rfl ?_
        refine vj_iload_n (j := 2) C dPm_may_35 rfl rfl ?_
        refine vj_cV (ci := 0) (As := [.ref a31, .int p1, .int p2]) (st := []) (b := a24) (a1 := 3) C dPm_may_36 (cm_Ag_find _ _ _ _ _ _) rfl gv_Pm_151 rfl rfl rfl hv_Ag_find ⟨Nat.le_of_ble_eq_true rfl, Nat.le_of_ble_eq_true rfl⟩ rfl rfl (Nat.le_of_ble_eq_true rfl) ⟨Nat.le_of_ble_eq_true rfl, Nat.le_of_ble_eq_true rfl⟩ (fun v36 M36 => ?_)
        show Vj x 0 0 39 [(0, .ref a0), (1, .int p1), (2, .int p2)] [.int v36] M36 _
        refine vj_iconst (v := (-1)) C dPm_may_39 (by decide) ?_
        refine vj_icmp_ne (tgt := 45) C dPm_may_40 rfl ?_ ?_
        · skip
          refine vj_aload_n (j := 0) C dPm_may_45 rfl rfl ?_
          refine vj_gr C dPm_may_46 lf_Pm_27 rfl (fun a46 => ?_)
          refine vj_aload_n (j := 0) C dPm_may_49 rfl rfl ?_
          refine vj_gr C dPm_may_50 lf_Pm_37 rfl (fun a50 => ?_)
          refine vj_gr C dPm_may_53 lf_Pm_145 rfl (fun a53 => ?_)
          refine vj_iload_n (j := 1) C dPm_may_56 rfl rfl ?_
          refine vj_iload_n (j := 2) C dPm_may_57 rfl rfl ?_
          refine vj_cV (ci := 0) (As := [.ref a53, .int p1, .int p2]) (st := []) (b := a46) (a1 := 3) C dPm_may_58 (cm_Ag_find _ _ _ _ _ _) rfl gv_Pm_151 rfl rfl rfl hv_Ag_find ⟨Nat.le_of_ble_eq_true rfl, Nat.le_of_ble_eq_true rfl⟩ rfl rfl (Nat.le_of_ble_eq_true rfl) ⟨Nat.le_of_ble_eq_true rfl, Nat.le_of_ble_eq_true rfl⟩ (fun v58 M58 => ?_)
          show Vj x 0 0 61 [(0, .ref a0), (1, .int p1), (2, .int p2)] [.int v58] M58 _
          refine vj_iconst (v := (-1)) C dPm_may_61 (by decide) ?_
          refine vj_icmp_ne (tgt := 69) C dPm_may_62 rfl ?_ ?_
          · skip
            refine vj_iconst (v := 1) C dPm_may_69 (by decide) ?_
            exact vj_ret C dPm_may_70 rfl rfl (Nat.le_of_ble_eq_true rfl) (Nat.le_of_ble_eq_true rfl)
          · skip
            refine vj_iconst (v := 2) C dPm_may_65 (by decide) ?_
            refine vj_goto (tgt := 70) C dPm_may_66 rfl ?_
            exact vj_ret C dPm_may_70 rfl rfl (Nat.le_of_ble_eq_true rfl) (Nat.le_of_ble_eq_true rfl)
        · skip
          refine vj_iconst (v := 0) C dPm_may_43 (by decide) ?_
          exact vj_ret C dPm_may_44 rfl rfl (Nat.le_of_ble_eq_true rfl) (Nat.le_of_ble_eq_true rfl)
      · skip
        refine vj_iconst (v := (-1)) C dPm_may_21 (by decide) ?_
        exact vj_ret C dPm_may_22 rfl rfl (Nat.le_of_ble_eq_true rfl) (Nat.le_of_ble_eq_true rfl)
def fn_Pm_owed (M : Mm) (a0 : Nat) (p1 : Int32) (p2 : Int32) : Rr := fo_gi M 8 a0 2 fun v1 => if v1 = 0 then some (0, M) else fo_cl (fn_Pm_isParty M p1) fun v8 M8 => if v8 = 0 then some (0, M8) else fo_cl (fn_Pm_isParty M8 p2) fun v15 M15 => if v15 = 0 then some (0, M15) else fo_gr M15 8 a0 5 fun a24 => fo_cv M15 5 a24 (fn_St_debtOf M15 a24 p1 p2) fun v29 M29 => some (v29, M29)
set_option maxHeartbeats 4000000 in
set_option maxRecDepth 100000 in
theorem cm_Pm_owed (l : Launch) (M : Mm) (a0 : Nat) (p1 : Int32) (p2 : Int32) : ct l zyPm_owed ws_Pm_owed { frames := 1, cells := 0, slots := 0, locals := 22 } 0 0 (fun w => some (.int w)) [.ref a0, .int p1, .int p2] M (fn_Pm_owed M a0 p1 p2) := by
  refine ct_of (cc := zbPm_owed) (maxL := 3) (ret := (some .int)) (lv0 := [(0, .ref a0), (1, .int p1), (2, .int p2)]) (by decide) rfl (Nat.le_of_ble_eq_true rfl) rfl rfl ?_
  intro x C
  unfold fn_Pm_owed
  refine vj_aload_n (j := 0) C dPm_owed_0 rfl rfl ?_
  refine vj_gi C dPm_owed_1 lf_Pm_20 rfl (fun v1 => ?_)
  refine vj_if_eq (tgt := 21) C dPm_owed_4 rfl ?_ ?_
  · skip
    refine vj_iconst (v := 0) C dPm_owed_21 (by decide) ?_
    exact vj_ret C dPm_owed_22 rfl rfl (Nat.le_of_ble_eq_true rfl) (Nat.le_of_ble_eq_true rfl)
  · skip
    refine vj_iload_n (j := 1) C dPm_owed_7 rfl rfl ?_
    refine vj_cS (As := [.int p1]) (st := []) (a1 := 1) C dPm_owed_8 (cm_Pm_isParty _ _ _) gs_Pm_106 rfl rfl rfl hs_Pm_isParty ⟨Nat.le_of_ble_eq_true rfl, Nat.le_of_ble_eq_true rfl⟩ rfl rfl (Nat.le_of_ble_eq_true rfl) ⟨Nat.le_of_ble_eq_true rfl, Nat.le_of_ble_eq_true rfl⟩ (fun v8 M8 => ?_)
    show Vj x 0 0 11 [(0, .ref a0), (1, .int p1), (2, .int p2)] [.int v8] M8 _
    refine vj_if_eq (tgt := 21) C dPm_owed_11 rfl ?_ ?_
    · skip
      refine vj_iconst (v := 0) C dPm_owed_21 (by decide) ?_
      exact vj_ret C dPm_owed_22 rfl rfl (Nat.le_of_ble_eq_true rfl) (Nat.le_of_ble_eq_true rfl)
    · skip
      refine vj_iload_n (j := 2) C dPm_owed_14 rfl rfl ?_
      refine vj_cS (As := [.int p2]) (st := []) (a1 := 1) C dPm_owed_15 (cm_Pm_isParty _ _ _) gs_Pm_106 rfl rfl rfl hs_Pm_isParty ⟨Nat.le_of_ble_eq_true rfl, Nat.le_of_ble_eq_true rfl⟩ rfl rfl (Nat.le_of_ble_eq_true rfl) ⟨Nat.le_of_ble_eq_true rfl, Nat.le_of_ble_eq_true rfl⟩ (fun v15 M15 => ?_)
      show Vj x 0 0 18 [(0, .ref a0), (1, .int p1), (2, .int p2)] [.int v15] M15 _
      refine vj_if_ne (tgt := 23) C dPm_owed_18 rfl ?_ ?_
      · skip
        refine vj_aload_n (j := 0) C dPm_owed_23 rfl rfl ?_
        refine vj_gr C dPm_owed_24 lf_Pm_37 rfl (fun a24 => ?_)
        refine vj_iload_n (j := 1) C dPm_owed_27 rfl rfl ?_
        refine vj_iload_n (j := 2) C dPm_owed_28 rfl rfl ?_
        refine vj_cV (ci := 5) (As := [.int p1, .int p2]) (st := []) (b := a24) (a1 := 2) C dPm_owed_29 (cm_St_debtOf _ _ _ _ _) rfl gv_Pm_155 rfl rfl rfl hv_St_debtOf ⟨Nat.le_of_ble_eq_true rfl, Nat.le_of_ble_eq_true rfl⟩ rfl rfl (Nat.le_of_ble_eq_true rfl) ⟨Nat.le_of_ble_eq_true rfl, Nat.le_of_ble_eq_true rfl⟩ (fun v29 M29 => ?_)
        show Vj x 0 0 32 [(0, .ref a0), (1, .int p1), (2, .int p2)] [.int v29] M29 _
        exact vj_ret C dPm_owed_32 rfl rfl (Nat.le_of_ble_eq_true rfl) (Nat.le_of_ble_eq_true rfl)
      · skip
        refine vj_iconst (v := 0) C dPm_owed_21 (by decide) ?_
        exact vj_ret C dPm_owed_22 rfl rfl (Nat.le_of_ble_eq_true rfl) (Nat.le_of_ble_eq_true rfl)
def fn_Pm_canSearch (M : Mm) (a0 : Nat) (p1 : Int32) (p2 : Int32) : Rr := fo_cl (fn_Pm_isParty M p1) fun v1 M1 => if v1 = 0 then fo_rz 0 M1 else if p2 < 1 then fo_rz 0 M1 else if 2 < p2 then fo_rz 0 M1 else fo_gr M1 8 a0 5 fun a18 => fo_gi M1 5 a18 0 fun v21 => if 58 < v21 then fo_rz 0 M1 else fo_rz 1 M1
set_option maxHeartbeats 4000000 in
set_option maxRecDepth 100000 in
theorem cm_Pm_canSearch (l : Launch) (M : Mm) (a0 : Nat) (p1 : Int32) (p2 : Int32) : ct l zyPm_canSearch ws_Pm_canSearch { frames := 1, cells := 0, slots := 0, locals := 20 } 0 0 (fun w => some (.int w)) [.ref a0, .int p1, .int p2] M (fn_Pm_canSearch M a0 p1 p2) := by
  refine ct_of (cc := zbPm_canSearch) (maxL := 3) (ret := (some .boolean)) (lv0 := [(0, .ref a0), (1, .int p1), (2, .int p2)]) (by decide) rfl (Nat.le_of_ble_eq_true rfl) rfl rfl ?_
  intro x C
  unfold fn_Pm_canSearch
  refine vj_iload_n (j := 1) C dPm_canSearch_0 rfl rfl ?_
  refine vj_cS (As := [.int p1]) (st := []) (a1 := 1) C dPm_canSearch_1 (cm_Pm_isParty _ _ _) gs_Pm_106 rfl rfl rfl hs_Pm_isParty ⟨Nat.le_of_ble_eq_true rfl, Nat.le_of_ble_eq_true rfl⟩ rfl rfl (Nat.le_of_ble_eq_true rfl) ⟨Nat.le_of_ble_eq_true rfl, Nat.le_of_ble_eq_true rfl⟩ (fun v1 M1 => ?_)
  show Vj x 0 0 4 [(0, .ref a0), (1, .int p1), (2, .int p2)] [.int v1] M1 _
  refine vj_if_eq (tgt := 33) C dPm_canSearch_4 rfl ?_ ?_
  · skip
    refine vj_iconst (v := 0) C dPm_canSearch_33 (by decide) ?_
    exact vj_retz C dPm_canSearch_34 rfl rfl (Nat.le_of_ble_eq_true rfl) (Nat.le_of_ble_eq_true rfl)
  · skip
    refine vj_iload_n (j := 2) C dPm_canSearch_7 rfl rfl ?_
    refine vj_iconst (v := 1) C dPm_canSearch_8 (by decide) ?_
    refine vj_icmp_lt (tgt := 33) C dPm_canSearch_9 rfl ?_ ?_
    · skip
      refine vj_iconst (v := 0) C dPm_canSearch_33 (by decide) ?_
      exact vj_retz C dPm_canSearch_34 rfl rfl (Nat.le_of_ble_eq_true rfl) (Nat.le_of_ble_eq_true rfl)
    · skip
      refine vj_iload_n (j := 2) C dPm_canSearch_12 rfl rfl ?_
      refine vj_iconst (v := 2) C dPm_canSearch_13 (by decide) ?_
      refine vj_icmp_gt (tgt := 33) C dPm_canSearch_14 rfl ?_ ?_
      · skip
        refine vj_iconst (v := 0) C dPm_canSearch_33 (by decide) ?_
        exact vj_retz C dPm_canSearch_34 rfl rfl (Nat.le_of_ble_eq_true rfl) (Nat.le_of_ble_eq_true rfl)
      · skip
        refine vj_aload_n (j := 0) C dPm_canSearch_17 rfl rfl ?_
        refine vj_gr C dPm_canSearch_18 lf_Pm_37 rfl (fun a18 => ?_)
        refine vj_gi C dPm_canSearch_21 lf_Pm_120 rfl (fun v21 => ?_)
        refine vj_bipush (v := 58) C dPm_canSearch_24 (by decide) ?_
        refine vj_icmp_gt (tgt := 33) C dPm_canSearch_26 rfl ?_ ?_
        · skip
          refine vj_iconst (v := 0) C dPm_canSearch_33 (by decide) ?_
          exact vj_retz C dPm_canSearch_34 rfl rfl (Nat.le_of_ble_eq_true rfl) (Nat.le_of_ble_eq_true rfl)
        · skip
          refine vj_iconst (v := 1) C dPm_canSearch_29 (by decide) ?_
          refine vj_goto (tgt := 34) C dPm_canSearch_30 rfl ?_
          exact vj_retz C dPm_canSearch_34 rfl rfl (Nat.le_of_ble_eq_true rfl) (Nat.le_of_ble_eq_true rfl)
def lp_Ag_hasDutyDue_2 (a0 : Nat) (p1 : Nat) (p2 : Int32) (g2 : Mm → Int32 → Rr) (Mh2 : Mm) (w2_3 : Int32) : Rr := fo_gr Mh2 5 p1 1 fun a4 => fo_gi Mh2 6 a4 1 fun v7 => if v7 ≤ w2_3 then fo_rz 0 Mh2 else fo_gr Mh2 5 p1 1 fun a14 => fo_cv Mh2 6 a14 (fn_Te_dayAt Mh2 a14 w2_3) fun v18 M18 => fo_gi M18 5 p1 0 fun v22 => fo_jp (fun (Mj50 : Mm) => g2 Mj50 (w2_3 + 1)) (fun j50 => if v22 < v18 then j50 M18 else fo_gr M18 0 a0 0 fun a29 => fo_gr M18 5 p1 1 fun a33 => fo_cv M18 6 a33 (fn_Te_clauseAt M18 a33 w2_3) fun v37 M37 => fo_ar M37 4 a29 v37 fun a40 => fo_gi M37 1 a40 9 fun v41 => if v41 = p2 then fo_rz 1 M37 else j50 M37)
def fn_Ag_hasDutyDue (M : Mm) (a0 : Nat) (p1 : Nat) (p2 : Int32) : Rr := fo_fx (fun _ _ => none) (lp_Ag_hasDutyDue_2 a0 p1 p2) fo_N M 0
set_option maxHeartbeats 4000000 in
set_option maxRecDepth 100000 in
theorem cm_Ag_hasDutyDue (l : Launch) (M : Mm) (a0 : Nat) (p1 : Nat) (p2 : Int32) : ct l zyAg_hasDutyDue ws_Ag_hasDutyDue { frames := 1, cells := 0, slots := 0, locals := 21 } 0 0 (fun w => some (.int w)) [.ref a0, .ref p1, .int p2] M (fn_Ag_hasDutyDue M a0 p1 p2) := by
  refine ct_of (cc := zbAg_hasDutyDue) (maxL := 4) (ret := (some .boolean)) (lv0 := [(0, .ref a0), (1, .ref p1), (2, .int p2)]) (by decide) rfl (Nat.le_of_ble_eq_true rfl) rfl rfl ?_
  intro x C
  unfold fn_Ag_hasDutyDue
  refine vj_iconst (v := 0) C dAg_hasDutyDue_0 (by decide) ?_
  refine vj_istore_n (lv' := [(0, .ref a0), (1, .ref p1), (2, .int p2), (3, .int 0)]) C dAg_hasDutyDue_1 rfl (by decide) [1, 2, 3, 0] rfl ?_
  have hg2x : ∀ nf Mh2 w2_3, Vj x 0 0 2 [(0, .ref a0), (1, .ref p1), (2, .int p2), (3, .int w2_3)] [] Mh2 (fo_fx (fun _ _ => none) (lp_Ag_hasDutyDue_2 a0 p1 p2) nf Mh2 w2_3) := by
    intro nf
    refine fo_fx_P (fun (j : Mm → Int32 → Rr) => ∀ Mh2 w2_3, Vj x 0 0 2 [(0, .ref a0), (1, .ref p1), (2, .int p2), (3, .int w2_3)] [] Mh2 (j Mh2 w2_3)) (fun _ _ => Vj_none) ?_ nf
    intro g2 hg2 Mh2 w2_3
    unfold lp_Ag_hasDutyDue_2
    refine vj_iload_n (j := 3) C dAg_hasDutyDue_2 rfl rfl ?_
    refine vj_aload_n (j := 1) C dAg_hasDutyDue_3 rfl rfl ?_
    refine vj_gr C dAg_hasDutyDue_4 lf_Ag_46 rfl (fun a4 => ?_)
    refine vj_gi C dAg_hasDutyDue_7 lf_Ag_22 rfl (fun v7 => ?_)
    refine vj_icmp_ge (tgt := 56) C dAg_hasDutyDue_10 rfl ?_ ?_
    · skip
      refine vj_iconst (v := 0) C dAg_hasDutyDue_56 (by decide) ?_
      exact vj_retz C dAg_hasDutyDue_57 rfl rfl (Nat.le_of_ble_eq_true rfl) (Nat.le_of_ble_eq_true rfl)
    · skip
      refine vj_aload_n (j := 1) C dAg_hasDutyDue_13 rfl rfl ?_
      refine vj_gr C dAg_hasDutyDue_14 lf_Ag_46 rfl (fun a14 => ?_)
      refine vj_iload_n (j := 3) C dAg_hasDutyDue_17 rfl rfl ?_
      refine vj_cV (ci := 6) (As := [.int w2_3]) (st := []) (b := a14) (a1 := 1) C dAg_hasDutyDue_18 (cm_Te_dayAt _ _ _ _) rfl gv_Ag_49 rfl rfl rfl hv_Te_dayAt ⟨Nat.le_of_ble_eq_true rfl, Nat.le_of_ble_eq_true rfl⟩ rfl rfl (Nat.le_of_ble_eq_true rfl) ⟨Nat.le_of_ble_eq_true rfl, Nat.le_of_ble_eq_true rfl⟩ (fun v18 M18 => ?_)
      show Vj x 0 0 21 [(0, .ref a0), (1, .ref p1), (2, .int p2), (3, .int w2_3)] [.int v18] M18 _
      refine vj_aload_n (j := 1) C dAg_hasDutyDue_21 rfl rfl ?_
      refine vj_gi C dAg_hasDutyDue_22 lf_Ag_52 rfl (fun v22 => ?_)
      refine vj_jp (fun (j : Mm → Rr) => ∀ Mj50, Vj x 0 0 50 [(0, .ref a0), (1, .ref p1), (2, .int p2), (3, .int w2_3)] [] Mj50 (j Mj50)) ?_ ?_
      · intro Mj50
        refine vj_iinc (j := 3) (b := 1) (lv' := [(0, .ref a0), (1, .ref p1), (2, .int p2), (3, .int (w2_3 + 1))]) C dAg_hasDutyDue_50 rfl (by decide) (by decide) [1, 2, 3, 0] rfl ?_
        refine vj_goto (tgt := 2) C dAg_hasDutyDue_53 rfl ?_
        exact hg2 _ _
      · intro j50 hj50
        refine vj_icmp_gt (tgt := 50) C dAg_hasDutyDue_25 rfl ?_ ?_
        · skip
          exact hj50 _
        · skip
          refine vj_aload_n (j := 0) C dAg_hasDutyDue_28 rfl rfl ?_
          refine vj_gr C dAg_hasDutyDue_29 lf_Ag_11 rfl (fun a29 => ?_)
          refine vj_aload_n (j := 1) C dAg_hasDutyDue_32 rfl rfl ?_
          refine vj_gr C dAg_hasDutyDue_33 lf_Ag_46 rfl (fun a33 => ?_)
          refine vj_iload_n (j := 3) C dAg_hasDutyDue_36 rfl rfl ?_
          refine vj_cV (ci := 6) (As := [.int w2_3]) (st := [.ref a29]) (b := a33) (a1 := 1) C dAg_hasDutyDue_37 (cm_Te_clauseAt _ _ _ _) rfl gv_Ag_25 rfl rfl rfl hv_Te_clauseAt ⟨Nat.le_of_ble_eq_true rfl, Nat.le_of_ble_eq_true rfl⟩ rfl rfl (Nat.le_of_ble_eq_true rfl) ⟨Nat.le_of_ble_eq_true rfl, Nat.le_of_ble_eq_true rfl⟩ (fun v37 M37 => ?_)
          show Vj x 0 0 40 [(0, .ref a0), (1, .ref p1), (2, .int p2), (3, .int w2_3)] [.int v37, .ref a29] M37 _
          refine vj_aald C dAg_hasDutyDue_40 (by decide) (fun a40 => ?_)
          refine vj_gi C dAg_hasDutyDue_41 lf_Ag_55 rfl (fun v41 => ?_)
          refine vj_iload_n (j := 2) C dAg_hasDutyDue_44 rfl rfl ?_
          refine vj_icmp_ne (tgt := 50) C dAg_hasDutyDue_45 rfl ?_ ?_
          · skip
            exact hj50 _
          · skip
            refine vj_iconst (v := 1) C dAg_hasDutyDue_48 (by decide) ?_
            exact vj_retz C dAg_hasDutyDue_49 rfl rfl (Nat.le_of_ble_eq_true rfl) (Nat.le_of_ble_eq_true rfl)
  exact hg2x _ _ _
def lp_Ag_isTouchedBy_3 (a0 : Nat) (p1 : Nat) (p2 : Int32) (p3 : Int32) (g3 : Mm → Int32 → Rr) (Mh3 : Mm) (w3_4 : Int32) : Rr := fo_gi Mh3 0 a0 1 fun v6 => if v6 ≤ w3_4 then fo_gr Mh3 5 p1 2 fun a37 => fo_cv Mh3 0 a0 (fn_Ag_find Mh3 a0 a37 p2 p3) fun v42 M42 => if v42 = (-1) then fo_gr M42 5 p1 1 fun a51 => fo_cv M42 0 a0 (fn_Ag_find M42 a0 a51 p2 p3) fun v56 M56 => if v56 = (-1) then fo_rz 0 M56 else fo_rz 1 M56 else fo_rz 1 M42 else fo_gr Mh3 0 a0 0 fun a13 => fo_ar Mh3 4 a13 w3_4 fun a18 => fo_cv Mh3 1 a18 (fn_Cl_isOnEvent Mh3 a18 p2 p3) fun v21 M21 => if v21 = 0 then g3 M21 (w3_4 + 1) else fo_rz 1 M21
def fn_Ag_isTouchedBy (M : Mm) (a0 : Nat) (p1 : Nat) (p2 : Int32) (p3 : Int32) : Rr := fo_fx (fun _ _ => none) (lp_Ag_isTouchedBy_3 a0 p1 p2 p3) fo_N M 0
set_option maxHeartbeats 4000000 in
set_option maxRecDepth 100000 in
theorem cm_Ag_isTouchedBy (l : Launch) (M : Mm) (a0 : Nat) (p1 : Nat) (p2 : Int32) (p3 : Int32) : ct l zyAg_isTouchedBy ws_Ag_isTouchedBy { frames := 2, cells := 0, slots := 0, locals := 46 } 0 0 (fun w => some (.int w)) [.ref a0, .ref p1, .int p2, .int p3] M (fn_Ag_isTouchedBy M a0 p1 p2 p3) := by
  refine ct_of (cc := zbAg_isTouchedBy) (maxL := 5) (ret := (some .boolean)) (lv0 := [(0, .ref a0), (1, .ref p1), (2, .int p2), (3, .int p3)]) (by decide) rfl (Nat.le_of_ble_eq_true rfl) rfl rfl ?_
  intro x C
  unfold fn_Ag_isTouchedBy
  refine vj_iconst (v := 0) C dAg_isTouchedBy_0 (by decide) ?_
  refine vj_istore (lv' := [(0, .ref a0), (1, .ref p1), (2, .int p2), (3, .int p3), (4, .int 0)]) C dAg_isTouchedBy_1 (by decide) [1, 2, 3, 4, 0] rfl ?_
  have hg3x : ∀ nf Mh3 w3_4, Vj x 0 0 3 [(0, .ref a0), (1, .ref p1), (2, .int p2), (3, .int p3), (4, .int w3_4)] [] Mh3 (fo_fx (fun _ _ => none) (lp_Ag_isTouchedBy_3 a0 p1 p2 p3) nf Mh3 w3_4) := by
    intro nf
    refine fo_fx_P (fun (j : Mm → Int32 → Rr) => ∀ Mh3 w3_4, Vj x 0 0 3 [(0, .ref a0), (1, .ref p1), (2, .int p2), (3, .int p3), (4, .int w3_4)] [] Mh3 (j Mh3 w3_4)) (fun _ _ => Vj_none) ?_ nf
    intro g3 hg3 Mh3 w3_4
    unfold lp_Ag_isTouchedBy_3
    refine vj_iload (j := 4) C dAg_isTouchedBy_3 rfl ?_
    refine vj_aload_n (j := 0) C dAg_isTouchedBy_5 rfl rfl ?_
    refine vj_gi C dAg_isTouchedBy_6 lf_Ag_17 rfl (fun v6 => ?_)
    refine vj_icmp_ge (tgt := 35) C dAg_isTouchedBy_9 rfl ?_ ?_
    · skip
      refine vj_aload_n (j := 0) C dAg_isTouchedBy_35 rfl rfl ?_
      refine vj_aload_n (j := 1) C dAg_isTouchedBy_36 rfl rfl ?_
      refine vj_gr C dAg_isTouchedBy_37 lf_Ag_36 rfl (fun a37 => ?_)
      refine vj_iload_n (j := 2) C dAg_isTouchedBy_40 rfl rfl ?_
      refine vj_iload_n (j := 3) C dAg_isTouchedBy_41 rfl rfl ?_
      refine vj_cV (ci := 0) (As := [.ref a37, .int p2, .int p3]) (st := []) (b := a0) (a1 := 3) C dAg_isTouchedBy_42 (cm_Ag_find _ _ _ _ _ _) rfl gv_Ag_42 rfl rfl rfl hv_Ag_find ⟨Nat.le_of_ble_eq_true rfl, Nat.le_of_ble_eq_true rfl⟩ rfl rfl (Nat.le_of_ble_eq_true rfl) ⟨Nat.le_of_ble_eq_true rfl, Nat.le_of_ble_eq_true rfl⟩ (fun v42 M42 => ?_)
      show Vj x 0 0 45 [(0, .ref a0), (1, .ref p1), (2, .int p2), (3, .int p3), (4, .int w3_4)] [.int v42] M42 _
      refine vj_iconst (v := (-1)) C dAg_isTouchedBy_45 (by decide) ?_
      refine vj_icmp_ne (tgt := 63) C dAg_isTouchedBy_46 rfl ?_ ?_
      · skip
        refine vj_iconst (v := 1) C dAg_isTouchedBy_63 (by decide) ?_
        refine vj_goto (tgt := 68) C dAg_isTouchedBy_64 rfl ?_
        exact vj_retz C dAg_isTouchedBy_68 rfl rfl (Nat.le_of_ble_eq_true rfl) (Nat.le_of_ble_eq_true rfl)
      · skip
        refine vj_aload_n (j := 0) C dAg_isTouchedBy_49 rfl rfl ?_
        refine vj_aload_n (j := 1) C dAg_isTouchedBy_50 rfl rfl ?_
        refine vj_gr C dAg_isTouchedBy_51 lf_Ag_46 rfl (fun a51 => ?_)
        refine vj_iload_n (j := 2) C dAg_isTouchedBy_54 rfl rfl ?_
        refine vj_iload_n (j := 3) C dAg_isTouchedBy_55 rfl rfl ?_
        refine vj_cV (ci := 0) (As := [.ref a51, .int p2, .int p3]) (st := []) (b := a0) (a1 := 3) C dAg_isTouchedBy_56 (cm_Ag_find _ _ _ _ _ _) rfl gv_Ag_42 rfl rfl rfl hv_Ag_find ⟨Nat.le_of_ble_eq_true rfl, Nat.le_of_ble_eq_true rfl⟩ rfl rfl (Nat.le_of_ble_eq_true rfl) ⟨Nat.le_of_ble_eq_true rfl, Nat.le_of_ble_eq_true rfl⟩ (fun v56 M56 => ?_)
        show Vj x 0 0 59 [(0, .ref a0), (1, .ref p1), (2, .int p2), (3, .int p3), (4, .int w3_4)] [.int v56] M56 _
        refine vj_iconst (v := (-1)) C dAg_isTouchedBy_59 (by decide) ?_
        refine vj_icmp_eq (tgt := 67) C dAg_isTouchedBy_60 rfl ?_ ?_
        · skip
          refine vj_iconst (v := 0) C dAg_isTouchedBy_67 (by decide) ?_
          exact vj_retz C dAg_isTouchedBy_68 rfl rfl (Nat.le_of_ble_eq_true rfl) (Nat.le_of_ble_eq_true rfl)
        · skip
          refine vj_iconst (v := 1) C dAg_isTouchedBy_63 (by decide) ?_
          refine vj_goto (tgt := 68) C dAg_isTouchedBy_64 rfl ?_
          exact vj_retz C dAg_isTouchedBy_68 rfl rfl (Nat.le_of_ble_eq_true rfl) (Nat.le_of_ble_eq_true rfl)
    · skip
      refine vj_aload_n (j := 0) C dAg_isTouchedBy_12 rfl rfl ?_
      refine vj_gr C dAg_isTouchedBy_13 lf_Ag_11 rfl (fun a13 => ?_)
      refine vj_iload (j := 4) C dAg_isTouchedBy_16 rfl ?_
      refine vj_aald C dAg_isTouchedBy_18 (by decide) (fun a18 => ?_)
      refine vj_iload_n (j := 2) C dAg_isTouchedBy_19 rfl rfl ?_
      refine vj_iload_n (j := 3) C dAg_isTouchedBy_20 rfl rfl ?_
      refine vj_cV (ci := 1) (As := [.int p2, .int p3]) (st := []) (b := a18) (a1 := 2) C dAg_isTouchedBy_21 (cm_Cl_isOnEvent _ _ _ _ _) rfl gv_Ag_33 rfl rfl rfl hv_Cl_isOnEvent ⟨Nat.le_of_ble_eq_true rfl, Nat.le_of_ble_eq_true rfl⟩ rfl rfl (Nat.le_of_ble_eq_true rfl) ⟨Nat.le_of_ble_eq_true rfl, Nat.le_of_ble_eq_true rfl⟩ (fun v21 M21 => ?_)
      show Vj x 0 0 24 [(0, .ref a0), (1, .ref p1), (2, .int p2), (3, .int p3), (4, .int w3_4)] [.int v21] M21 _
      refine vj_if_eq (tgt := 29) C dAg_isTouchedBy_24 rfl ?_ ?_
      · skip
        refine vj_iinc (j := 4) (b := 1) (lv' := [(0, .ref a0), (1, .ref p1), (2, .int p2), (3, .int p3), (4, .int (w3_4 + 1))]) C dAg_isTouchedBy_29 rfl (by decide) (by decide) [1, 2, 3, 4, 0] rfl ?_
        refine vj_goto (tgt := 3) C dAg_isTouchedBy_32 rfl ?_
        exact hg3 _ _
      · skip
        refine vj_iconst (v := 1) C dAg_isTouchedBy_27 (by decide) ?_
        exact vj_retz C dAg_isTouchedBy_28 rfl rfl (Nat.le_of_ble_eq_true rfl) (Nat.le_of_ble_eq_true rfl)
  exact hg3x _ _ _
def fn_Se_changes (M : Mm) (a0 : Nat) (p1 : Nat) (p2 : Nat) (p3 : Nat) (p4 : Int32) (p5 : Int32) : Rr := fo_cv M 0 p1 (fn_Ag_isTouchedBy M p1 p2 p4 p5) fun v6 M6 => if v6 = 0 then fo_rz 0 M6 else fo_cv M6 5 p3 (fn_St_copyFrom M6 p3 p2) fun _ M16 => fo_gr M16 4 a0 0 fun a20 => fo_cv M16 3 a20 (fn_Ru_happen M16 a20 p1 p3 p4 p5) fun v29 M29 => if v29 = 0 then fo_rz 1 M29 else fo_rz 0 M29
set_option maxHeartbeats 4000000 in
set_option maxRecDepth 100000 in
theorem cm_Se_changes (l : Launch) (M : Mm) (a0 : Nat) (p1 : Nat) (p2 : Nat) (p3 : Nat) (p4 : Int32) (p5 : Int32) : ct l zySe_changes ws_Se_changes { frames := 4, cells := 0, slots := 0, locals := 242 } 0 0 (fun w => some (.int w)) [.ref a0, .ref p1, .ref p2, .ref p3, .int p4, .int p5] M (fn_Se_changes M a0 p1 p2 p3 p4 p5) := by
  refine ct_of (cc := zbSe_changes) (maxL := 6) (ret := (some .boolean)) (lv0 := [(0, .ref a0), (1, .ref p1), (2, .ref p2), (3, .ref p3), (4, .int p4), (5, .int p5)]) (by decide) rfl (Nat.le_of_ble_eq_true rfl) rfl rfl ?_
  intro x C
  unfold fn_Se_changes
  refine vj_aload_n (j := 1) C dSe_changes_0 rfl rfl ?_
  refine vj_aload_n (j := 2) C dSe_changes_1 rfl rfl ?_
  refine vj_iload (j := 4) C dSe_changes_2 rfl ?_
  refine vj_iload (j := 5) C dSe_changes_4 rfl ?_
  refine vj_cV (ci := 0) (As := [.ref p2, .int p4, .int p5]) (st := []) (b := p1) (a1 := 3) C dSe_changes_6 (cm_Ag_isTouchedBy _ _ _ _ _ _) rfl gv_Se_57 rfl rfl rfl hv_Ag_isTouchedBy ⟨Nat.le_of_ble_eq_true rfl, Nat.le_of_ble_eq_true rfl⟩ rfl rfl (Nat.le_of_ble_eq_true rfl) ⟨Nat.le_of_ble_eq_true rfl, Nat.le_of_ble_eq_true rfl⟩ (fun v6 M6 => ?_)
  show Vj x 0 0 9 [(0, .ref a0), (1, .ref p1), (2, .ref p2), (3, .ref p3), (4, .int p4), (5, .int p5)] [.int v6] M6 _
  refine vj_if_ne (tgt := 14) C dSe_changes_9 rfl ?_ ?_
  · skip
    refine vj_aload_n (j := 3) C dSe_changes_14 rfl rfl ?_
    refine vj_aload_n (j := 2) C dSe_changes_15 rfl rfl ?_
    refine vj_cV (ci := 5) (As := [.ref p2]) (st := []) (b := p3) (a1 := 1) C dSe_changes_16 (cm_St_copyFrom _ _ _ _) rfl gv_Se_45 rfl rfl rfl hv_St_copyFrom ⟨Nat.le_of_ble_eq_true rfl, Nat.le_of_ble_eq_true rfl⟩ rfl rfl (Nat.le_of_ble_eq_true rfl) ⟨Nat.le_of_ble_eq_true rfl, Nat.le_of_ble_eq_true rfl⟩ (fun _ M16 => ?_)
    show Vj x 0 0 19 [(0, .ref a0), (1, .ref p1), (2, .ref p2), (3, .ref p3), (4, .int p4), (5, .int p5)] [] M16 _
    refine vj_aload_n (j := 0) C dSe_changes_19 rfl rfl ?_
    refine vj_gr C dSe_changes_20 lf_Se_12 rfl (fun a20 => ?_)
    refine vj_aload_n (j := 1) C dSe_changes_23 rfl rfl ?_
    refine vj_aload_n (j := 3) C dSe_changes_24 rfl rfl ?_
    refine vj_iload (j := 4) C dSe_changes_25 rfl ?_
    refine vj_iload (j := 5) C dSe_changes_27 rfl ?_
    refine vj_cV (ci := 3) (As := [.ref p1, .ref p3, .int p4, .int p5]) (st := []) (b := a20) (a1 := 4) C dSe_changes_29 (cm_Ru_happen _ _ _ _ _ _ _) rfl gv_Se_61 rfl rfl rfl hv_Ru_happen ⟨Nat.le_of_ble_eq_true rfl, Nat.le_of_ble_eq_true rfl⟩ rfl rfl (Nat.le_of_ble_eq_true rfl) ⟨Nat.le_of_ble_eq_true rfl, Nat.le_of_ble_eq_true rfl⟩ (fun v29 M29 => ?_)
    show Vj x 0 0 32 [(0, .ref a0), (1, .ref p1), (2, .ref p2), (3, .ref p3), (4, .int p4), (5, .int p5)] [.int v29] M29 _
    refine vj_if_ne (tgt := 39) C dSe_changes_32 rfl ?_ ?_
    · skip
      refine vj_iconst (v := 0) C dSe_changes_39 (by decide) ?_
      exact vj_retz C dSe_changes_40 rfl rfl (Nat.le_of_ble_eq_true rfl) (Nat.le_of_ble_eq_true rfl)
    · skip
      refine vj_iconst (v := 1) C dSe_changes_35 (by decide) ?_
      refine vj_goto (tgt := 40) C dSe_changes_36 rfl ?_
      exact vj_retz C dSe_changes_40 rfl rfl (Nat.le_of_ble_eq_true rfl) (Nat.le_of_ble_eq_true rfl)
  · skip
    refine vj_iconst (v := 0) C dSe_changes_12 (by decide) ?_
    exact vj_retz C dSe_changes_13 rfl rfl (Nat.le_of_ble_eq_true rfl) (Nat.le_of_ble_eq_true rfl)
