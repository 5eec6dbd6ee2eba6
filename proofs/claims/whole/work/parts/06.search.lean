/-- no deeper -/
def fn_Se_firstCourse_0 (M : Mm) (a0 p1 p2 : Nat) (p3 p4 : Int32) : Rr := none
theorem cm_Se_firstCourse_0 (l : Launch) (M : Mm) (a0 p1 p2 : Nat) (p3 p4 : Int32) : ct l zySe_firstCourse ws_Se_firstCourse { frames := 0, cells := 0, slots := 0, locals := 0 } 0 0 (fun w => some (.int w)) [.ref a0, .ref p1, .ref p2, .int p3, .int p4] M (fn_Se_firstCourse_0 M a0 p1 p2 p3 p4) := fun _ _ h => nomatch h
def fn_Se_isKeptByEndOfDay_0 (M : Mm) (a0 : Nat) (p1 : Nat) (p2 : Nat) (p3 : Int32) (p4 : Int32) : Rr := fo_cv M 0 p1 (fn_Ag_hasDutyDue M p1 p2 p3) fun v3 M3 => if v3 = 0 then fo_gr M3 4 a0 3 fun a12 => fo_ar M3 5 a12 (p4 - 1) fun a19 => fo_cv M3 5 a19 (fn_St_copyFrom M3 a19 p2) fun _ M25 => fo_gr M25 4 a0 0 fun a29 => fo_cv M25 3 a29 (fn_Ru_endDay M25 a29 p1 a19) fun v35 M35 => if v35 = (-2) then fo_rz 0 M35 else if p4 = 1 then fo_rz 1 M35 else fo_cv M35 4 a0 (fn_Se_firstCourse_0 M35 a0 p1 a19 p3 (p4 - 1)) fun v60 M60 => if v60 = (-1) then fo_rz 0 M60 else fo_rz 1 M60 else fo_rz 0 M3
set_option maxHeartbeats 4000000 in
set_option maxRecDepth 100000 in
theorem cm_Se_isKeptByEndOfDay_0 (l : Launch) (M : Mm) (a0 : Nat) (p1 : Nat) (p2 : Nat) (p3 : Int32) (p4 : Int32) : ct l zySe_isKeptByEndOfDay ws_Se_isKeptByEndOfDay { frames := 4, cells := 0, slots := 0, locals := 242 } 0 0 (fun w => some (.int w)) [.ref a0, .ref p1, .ref p2, .int p3, .int p4] M (fn_Se_isKeptByEndOfDay_0 M a0 p1 p2 p3 p4) := by
  refine ct_of (cc := zbSe_isKeptByEndOfDay) (maxL := 6) (ret := (some .boolean)) (lv0 := [(0, .ref a0), (1, .ref p1), (2, .ref p2), (3, .int p3), (4, .int p4)]) (by decide) rfl (Nat.le_of_ble_eq_true rfl) rfl rfl ?_
  intro x C
  unfold fn_Se_isKeptByEndOfDay_0
  refine vj_aload_n (j := 1) C dSe_isKeptByEndOfDay_0 rfl rfl ?_
  refine vj_aload_n (j := 2) C dSe_isKeptByEndOfDay_1 rfl rfl ?_
  refine vj_iload_n (j := 3) C dSe_isKeptByEndOfDay_2 rfl rfl ?_
  refine vj_cV (ci := 0) (As := [.ref p2, .int p3]) (st := []) (b := p1) (a1 := 2) C dSe_isKeptByEndOfDay_3 (cm_Ag_hasDutyDue _ _ _ _ _) rfl gv_Se_39 rfl rfl rfl hv_Ag_hasDutyDue ⟨Nat.le_of_ble_eq_true rfl, Nat.le_of_ble_eq_true rfl⟩ rfl rfl (Nat.le_of_ble_eq_true rfl) ⟨Nat.le_of_ble_eq_true rfl, Nat.le_of_ble_eq_true rfl⟩ (fun v3 M3 => ?_)
  show Vj x 0 0 6 [(0, .ref a0), (1, .ref p1), (2, .ref p2), (3, .int p3), (4, .int p4)] [.int v3] M3 _
  refine vj_if_eq (tgt := 11) C dSe_isKeptByEndOfDay_6 rfl ?_ ?_
  · skip
    refine vj_aload_n (j := 0) C dSe_isKeptByEndOfDay_11 rfl rfl ?_
    refine vj_gr C dSe_isKeptByEndOfDay_12 lf_Se_27 rfl (fun a12 => ?_)
    refine vj_iload (j := 4) C dSe_isKeptByEndOfDay_15 rfl ?_
    refine vj_iconst (v := 1) C dSe_isKeptByEndOfDay_17 (by decide) ?_
    refine vj_isub C dSe_isKeptByEndOfDay_18 ?_
    refine vj_aald C dSe_isKeptByEndOfDay_19 (by decide) (fun a19 => ?_)
    refine vj_astore (lv' := [(0, .ref a0), (1, .ref p1), (2, .ref p2), (3, .int p3), (4, .int p4), (5, .ref a19)]) C dSe_isKeptByEndOfDay_20 (by decide) [1, 2, 3, 4, 5, 0] rfl ?_
    refine vj_aload (j := 5) C dSe_isKeptByEndOfDay_22 rfl ?_
    refine vj_aload_n (j := 2) C dSe_isKeptByEndOfDay_24 rfl rfl ?_
    refine vj_cV (ci := 5) (As := [.ref p2]) (st := []) (b := a19) (a1 := 1) C dSe_isKeptByEndOfDay_25 (cm_St_copyFrom _ _ _ _) rfl gv_Se_45 rfl rfl rfl hv_St_copyFrom ⟨Nat.le_of_ble_eq_true rfl, Nat.le_of_ble_eq_true rfl⟩ rfl rfl (Nat.le_of_ble_eq_true rfl) ⟨Nat.le_of_ble_eq_true rfl, Nat.le_of_ble_eq_true rfl⟩ (fun _ M25 => ?_)
    show Vj x 0 0 28 [(0, .ref a0), (1, .ref p1), (2, .ref p2), (3, .int p3), (4, .int p4), (5, .ref a19)] [] M25 _
    refine vj_aload_n (j := 0) C dSe_isKeptByEndOfDay_28 rfl rfl ?_
    refine vj_gr C dSe_isKeptByEndOfDay_29 lf_Se_12 rfl (fun a29 => ?_)
    refine vj_aload_n (j := 1) C dSe_isKeptByEndOfDay_32 rfl rfl ?_
    refine vj_aload (j := 5) C dSe_isKeptByEndOfDay_33 rfl ?_
    refine vj_cV (ci := 3) (As := [.ref p1, .ref a19]) (st := []) (b := a29) (a1 := 2) C dSe_isKeptByEndOfDay_35 (cm_Ru_endDay _ _ _ _ _) rfl gv_Se_49 rfl rfl rfl hv_Ru_endDay ⟨Nat.le_of_ble_eq_true rfl, Nat.le_of_ble_eq_true rfl⟩ rfl rfl (Nat.le_of_ble_eq_true rfl) ⟨Nat.le_of_ble_eq_true rfl, Nat.le_of_ble_eq_true rfl⟩ (fun v35 M35 => ?_)
    show Vj x 0 0 38 [(0, .ref a0), (1, .ref p1), (2, .ref p2), (3, .int p3), (4, .int p4), (5, .ref a19)] [.int v35] M35 _
    refine vj_bipush (v := (-2)) C dSe_isKeptByEndOfDay_38 (by decide) ?_
    refine vj_icmp_ne (tgt := 45) C dSe_isKeptByEndOfDay_40 rfl ?_ ?_
    · skip
      refine vj_iload (j := 4) C dSe_isKeptByEndOfDay_45 rfl ?_
      refine vj_iconst (v := 1) C dSe_isKeptByEndOfDay_47 (by decide) ?_
      refine vj_icmp_eq (tgt := 67) C dSe_isKeptByEndOfDay_48 rfl ?_ ?_
      · skip
        refine vj_iconst (v := 1) C dSe_isKeptByEndOfDay_67 (by decide) ?_
        refine vj_goto (tgt := 72) C dSe_isKeptByEndOfDay_68 rfl ?_
        exact vj_retz C dSe_isKeptByEndOfDay_72 rfl rfl (Nat.le_of_ble_eq_true rfl) (Nat.le_of_ble_eq_true rfl)
      · skip
        refine vj_aload_n (j := 0) C dSe_isKeptByEndOfDay_51 rfl rfl ?_
        refine vj_aload_n (j := 1) C dSe_isKeptByEndOfDay_52 rfl rfl ?_
        refine vj_aload (j := 5) C dSe_isKeptByEndOfDay_53 rfl ?_
        refine vj_iload_n (j := 3) C dSe_isKeptByEndOfDay_55 rfl rfl ?_
        refine vj_iload (j := 4) C dSe_isKeptByEndOfDay_56 rfl ?_
        refine vj_iconst (v := 1) C dSe_isKeptByEndOfDay_58 (by decide) ?_
        refine vj_isub C dSe_isKeptByEndOfDay_59 ?_
        refine vj_cV (ci := 4) (As := [.ref p1, .ref a19, .int p3, .int (p4 - 1)]) (st := []) (b := a0) (a1 := 4) C dSe_isKeptByEndOfDay_60 (cm_Se_firstCourse_0 _ _ _ _ _ _ _) rfl gv_Se_53 rfl rfl rfl hv_Se_firstCourse ⟨Nat.le_of_ble_eq_true rfl, Nat.le_of_ble_eq_true rfl⟩ rfl rfl (Nat.le_of_ble_eq_true rfl) ⟨Nat.le_of_ble_eq_true rfl, Nat.le_of_ble_eq_true rfl⟩ (fun v60 M60 => ?_)
        show Vj x 0 0 63 [(0, .ref a0), (1, .ref p1), (2, .ref p2), (3, .int p3), (4, .int p4), (5, .ref a19)] [.int v60] M60 _
        refine vj_iconst (v := (-1)) C dSe_isKeptByEndOfDay_63 (by decide) ?_
        refine vj_icmp_eq (tgt := 71) C dSe_isKeptByEndOfDay_64 rfl ?_ ?_
        · skip
          refine vj_iconst (v := 0) C dSe_isKeptByEndOfDay_71 (by decide) ?_
          exact vj_retz C dSe_isKeptByEndOfDay_72 rfl rfl (Nat.le_of_ble_eq_true rfl) (Nat.le_of_ble_eq_true rfl)
        · skip
          refine vj_iconst (v := 1) C dSe_isKeptByEndOfDay_67 (by decide) ?_
          refine vj_goto (tgt := 72) C dSe_isKeptByEndOfDay_68 rfl ?_
          exact vj_retz C dSe_isKeptByEndOfDay_72 rfl rfl (Nat.le_of_ble_eq_true rfl) (Nat.le_of_ble_eq_true rfl)
    · skip
      refine vj_iconst (v := 0) C dSe_isKeptByEndOfDay_43 (by decide) ?_
      exact vj_retz C dSe_isKeptByEndOfDay_44 rfl rfl (Nat.le_of_ble_eq_true rfl) (Nat.le_of_ble_eq_true rfl)
  · skip
    refine vj_iconst (v := 0) C dSe_isKeptByEndOfDay_9 (by decide) ?_
    exact vj_retz C dSe_isKeptByEndOfDay_10 rfl rfl (Nat.le_of_ble_eq_true rfl) (Nat.le_of_ble_eq_true rfl)
def lp_Se_firstCourse_1_127 (a0 : Nat) (p1 : Nat) (p3 : Int32) (p4 : Int32) (a36 : Nat) (a95 : Nat) (w101_7 : Int32) (j179 : Mm → Rr) (g127 : Mm → Int32 → Rr) (Mh127 : Mm) (w127_8 : Int32) : Rr := if 5 ≤ w127_8 then j179 Mh127 else fo_cv Mh127 4 a0 (fn_Se_changes Mh127 a0 p1 a36 a95 p3 w127_8) fun v142 M142 => fo_jp (fun (Mj173 : Mm) => g127 Mj173 (w127_8 + 1)) (fun j173 => if v142 = 0 then j173 M142 else fo_cv M142 4 a0 (fn_Se_isKeptByEndOfDay_0 M142 a0 p1 a95 p3 p4) fun v155 M155 => if v155 = 0 then j173 M155 else some (((100 + (10 * w101_7)) + w127_8), M155))
def lp_Se_firstCourse_1_101 (a0 : Nat) (p1 : Nat) (p2 : Nat) (p3 : Int32) (p4 : Int32) (a36 : Nat) (a95 : Nat) (g101 : Mm → Int32 → Rr) (Mh101 : Mm) (w101_7 : Int32) : Rr := if 5 ≤ w101_7 then some ((-1), Mh101) else fo_cv Mh101 4 a0 (fn_Se_changes Mh101 a0 p1 p2 a36 p3 w101_7) fun v115 M115 => fo_jp (fun (Mj179 : Mm) => g101 Mj179 (w101_7 + 1)) (fun j179 => if v115 = 0 then j179 M115 else fo_fx (fun _ _ => none) (lp_Se_firstCourse_1_127 a0 p1 p3 p4 a36 a95 w101_7 j179) fo_N M115 0)
def lp_Se_firstCourse_1_42 (a0 : Nat) (p1 : Nat) (p2 : Nat) (p3 : Int32) (p4 : Int32) (a36 : Nat) (g42 : Mm → Int32 → Rr) (Mh42 : Mm) (w42_6 : Int32) : Rr := if 5 ≤ w42_6 then fo_gr Mh42 4 a0 2 fun a88 => fo_ar Mh42 5 a88 (p4 - 1) fun a95 => fo_fx (fun _ _ => none) (lp_Se_firstCourse_1_101 a0 p1 p2 p3 p4 a36 a95) fo_N Mh42 0 else fo_cv Mh42 4 a0 (fn_Se_changes Mh42 a0 p1 p2 a36 p3 w42_6) fun v56 M56 => fo_jp (fun (Mj81 : Mm) => g42 Mj81 (w42_6 + 1)) (fun j81 => if v56 = 0 then j81 M56 else fo_cv M56 4 a0 (fn_Se_isKeptByEndOfDay_0 M56 a0 p1 a36 p3 p4) fun v69 M69 => if v69 = 0 then j81 M69 else some ((10 + w42_6), M69))
def fn_Se_firstCourse_1 (M : Mm) (a0 : Nat) (p1 : Nat) (p2 : Nat) (p3 : Int32) (p4 : Int32) : Rr := if p4 < 1 then some ((-1), M) else if p4 ≤ 2 then fo_cv M 4 a0 (fn_Se_isKeptByEndOfDay_0 M a0 p1 p2 p3 p4) fun v20 M20 => if v20 = 0 then fo_gr M20 4 a0 1 fun a29 => fo_ar M20 5 a29 (p4 - 1) fun a36 => fo_fx (fun _ _ => none) (lp_Se_firstCourse_1_42 a0 p1 p2 p3 p4 a36) fo_N M20 0 else some (0, M20) else some ((-1), M)
set_option maxHeartbeats 4000000 in
set_option maxRecDepth 100000 in
theorem cm_Se_firstCourse_1 (l : Launch) (M : Mm) (a0 : Nat) (p1 : Nat) (p2 : Nat) (p3 : Int32) (p4 : Int32) : ct l zySe_firstCourse ws_Se_firstCourse { frames := 5, cells := 0, slots := 0, locals := 267 } 0 0 (fun w => some (.int w)) [.ref a0, .ref p1, .ref p2, .int p3, .int p4] M (fn_Se_firstCourse_1 M a0 p1 p2 p3 p4) := by
  refine ct_of (cc := zbSe_firstCourse) (maxL := 9) (ret := (some .int)) (lv0 := [(0, .ref a0), (1, .ref p1), (2, .ref p2), (3, .int p3), (4, .int p4)]) (by decide) rfl (Nat.le_of_ble_eq_true rfl) rfl rfl ?_
  intro x C
  unfold fn_Se_firstCourse_1
  refine vj_iload (j := 4) C dSe_firstCourse_0 rfl ?_
  refine vj_iconst (v := 1) C dSe_firstCourse_2 (by decide) ?_
  refine vj_icmp_lt (tgt := 12) C dSe_firstCourse_3 rfl ?_ ?_
  · skip
    refine vj_iconst (v := (-1)) C dSe_firstCourse_12 (by decide) ?_
    exact vj_ret C dSe_firstCourse_13 rfl rfl (Nat.le_of_ble_eq_true rfl) (Nat.le_of_ble_eq_true rfl)
  · skip
    refine vj_iload (j := 4) C dSe_firstCourse_6 rfl ?_
    refine vj_iconst (v := 2) C dSe_firstCourse_8 (by decide) ?_
    refine vj_icmp_le (tgt := 14) C dSe_firstCourse_9 rfl ?_ ?_
    · skip
      refine vj_aload_n (j := 0) C dSe_firstCourse_14 rfl rfl ?_
      refine vj_aload_n (j := 1) C dSe_firstCourse_15 rfl rfl ?_
      refine vj_aload_n (j := 2) C dSe_firstCourse_16 rfl rfl ?_
      refine vj_iload_n (j := 3) C dSe_firstCourse_17 rfl rfl ?_
      refine vj_iload (j := 4) C dSe_firstCourse_18 rfl ?_
      refine vj_cV (ci := 4) (As := [.ref p1, .ref p2, .int p3, .int p4]) (st := []) (b := a0) (a1 := 4) C dSe_firstCourse_20 (cm_Se_isKeptByEndOfDay_0 _ _ _ _ _ _ _) rfl gv_Se_31 rfl rfl rfl hv_Se_isKeptByEndOfDay ⟨Nat.le_of_ble_eq_true rfl, Nat.le_of_ble_eq_true rfl⟩ rfl rfl (Nat.le_of_ble_eq_true rfl) ⟨Nat.le_of_ble_eq_true rfl, Nat.le_of_ble_eq_true rfl⟩ (fun v20 M20 => ?_)
      show Vj x 0 0 23 [(0, .ref a0), (1, .ref p1), (2, .ref p2), (3, .int p3), (4, .int p4)] [.int v20] M20 _
      refine vj_if_eq (tgt := 28) C dSe_firstCourse_23 rfl ?_ ?_
      · skip
        refine vj_aload_n (j := 0) C dSe_firstCourse_28 rfl rfl ?_
        refine vj_gr C dSe_firstCourse_29 lf_Se_20 rfl (fun a29 => ?_)
        refine vj_iload (j := 4) C dSe_firstCourse_32 rfl ?_
        refine vj_iconst (v := 1) C dSe_firstCourse_34 (by decide) ?_
        refine vj_isub C dSe_firstCourse_35 ?_
        refine vj_aald C dSe_firstCourse_36 (by decide) (fun a36 => ?_)
        refine vj_astore (lv' := [(0, .ref a0), (1, .ref p1), (2, .ref p2), (3, .int p3), (4, .int p4), (5, .ref a36)]) C dSe_firstCourse_37 (by decide) [1, 2, 3, 4, 5, 0] rfl ?_
        refine vj_iconst (v := 0) C dSe_firstCourse_39 (by decide) ?_
        refine vj_istore (lv' := [(0, .ref a0), (1, .ref p1), (2, .ref p2), (3, .int p3), (4, .int p4), (5, .ref a36), (6, .int 0)]) C dSe_firstCourse_40 (by decide) [1, 2, 3, 4, 5, 6, 0] rfl ?_
        have hg42x : ∀ nf Mh42 w42_6, Vj x 0 0 42 [(0, .ref a0), (1, .ref p1), (2, .ref p2), (3, .int p3), (4, .int p4), (5, .ref a36), (6, .int w42_6)] [] Mh42 (fo_fx (fun _ _ => none) (lp_Se_firstCourse_1_42 a0 p1 p2 p3 p4 a36) nf Mh42 w42_6) := by
          intro nf
          refine fo_fx_P (fun (j : Mm → Int32 → Rr) => ∀ Mh42 w42_6, Vj x 0 0 42 [(0, .ref a0), (1, .ref p1), (2, .ref p2), (3, .int p3), (4, .int p4), (5, .ref a36), (6, .int w42_6)] [] Mh42 (j Mh42 w42_6)) (fun _ _ => Vj_none) ?_ nf
          intro g42 hg42 Mh42 w42_6
          unfold lp_Se_firstCourse_1_42
          refine vj_iload (j := 6) C dSe_firstCourse_42 rfl ?_
          refine vj_iconst (v := 5) C dSe_firstCourse_44 (by decide) ?_
          refine vj_icmp_ge (tgt := 87) C dSe_firstCourse_45 rfl ?_ ?_
          · skip
            refine vj_aload_n (j := 0) C dSe_firstCourse_87 rfl rfl ?_
            refine vj_gr C dSe_firstCourse_88 lf_Se_24 rfl (fun a88 => ?_)
            refine vj_iload (j := 4) C dSe_firstCourse_91 rfl ?_
            refine vj_iconst (v := 1) C dSe_firstCourse_93 (by decide) ?_
            refine vj_isub C dSe_firstCourse_94 ?_
            refine vj_aald C dSe_firstCourse_95 (by decide) (fun a95 => ?_)
            refine vj_astore (lv' := [(0, .ref a0), (1, .ref p1), (2, .ref p2), (3, .int p3), (4, .int p4), (5, .ref a36), (6, .ref a95)]) C dSe_firstCourse_96 (by decide) [1, 2, 3, 4, 5, 6, 0] rfl ?_
            refine vj_iconst (v := 0) C dSe_firstCourse_98 (by decide) ?_
            refine vj_istore (lv' := [(0, .ref a0), (1, .ref p1), (2, .ref p2), (3, .int p3), (4, .int p4), (5, .ref a36), (6, .ref a95), (7, .int 0)]) C dSe_firstCourse_99 (by decide) [1, 2, 3, 4, 5, 6, 7, 0] rfl ?_
            have hg101x : ∀ nf Mh101 w101_7, Vj x 0 0 101 [(0, .ref a0), (1, .ref p1), (2, .ref p2), (3, .int p3), (4, .int p4), (5, .ref a36), (6, .ref a95), (7, .int w101_7)] [] Mh101 (fo_fx (fun _ _ => none) (lp_Se_firstCourse_1_101 a0 p1 p2 p3 p4 a36 a95) nf Mh101 w101_7) := by
              intro nf
              refine fo_fx_P (fun (j : Mm → Int32 → Rr) => ∀ Mh101 w101_7, Vj x 0 0 101 [(0, .ref a0), (1, .ref p1), (2, .ref p2), (3, .int p3), (4, .int p4), (5, .ref a36), (6, .ref a95), (7, .int w101_7)] [] Mh101 (j Mh101 w101_7)) (fun _ _ => Vj_none) ?_ nf
              intro g101 hg101 Mh101 w101_7
              unfold lp_Se_firstCourse_1_101
              refine vj_iload (j := 7) C dSe_firstCourse_101 rfl ?_
              refine vj_iconst (v := 5) C dSe_firstCourse_103 (by decide) ?_
              refine vj_icmp_ge (tgt := 185) C dSe_firstCourse_104 rfl ?_ ?_
              · skip
                refine vj_iconst (v := (-1)) C dSe_firstCourse_185 (by decide) ?_
                exact vj_ret C dSe_firstCourse_186 rfl rfl (Nat.le_of_ble_eq_true rfl) (Nat.le_of_ble_eq_true rfl)
              · skip
                refine vj_aload_n (j := 0) C dSe_firstCourse_107 rfl rfl ?_
                refine vj_aload_n (j := 1) C dSe_firstCourse_108 rfl rfl ?_
                refine vj_aload_n (j := 2) C dSe_firstCourse_109 rfl rfl ?_
                refine vj_aload (j := 5) C dSe_firstCourse_110 rfl ?_
                refine vj_iload_n (j := 3) C dSe_firstCourse_112 rfl rfl ?_
                refine vj_iload (j := 7) C dSe_firstCourse_113 rfl ?_
                refine vj_cV (ci := 4) (As := [.ref p1, .ref p2, .ref a36, .int p3, .int w101_7]) (st := []) (b := a0) (a1 := 5) C dSe_firstCourse_115 (cm_Se_changes _ _ _ _ _ _ _ _) rfl gv_Se_35 rfl rfl rfl hv_Se_changes ⟨Nat.le_of_ble_eq_true rfl, Nat.le_of_ble_eq_true rfl⟩ rfl rfl (Nat.le_of_ble_eq_true rfl) ⟨Nat.le_of_ble_eq_true rfl, Nat.le_of_ble_eq_true rfl⟩ (fun v115 M115 => ?_)
                show Vj x 0 0 118 [(0, .ref a0), (1, .ref p1), (2, .ref p2), (3, .int p3), (4, .int p4), (5, .ref a36), (6, .ref a95), (7, .int w101_7)] [.int v115] M115 _
                refine vj_jp (fun (j : Mm → Rr) => ∀ Mj179, Vj x 0 0 179 [(0, .ref a0), (1, .ref p1), (2, .ref p2), (3, .int p3), (4, .int p4), (5, .ref a36), (6, .ref a95), (7, .int w101_7)] [] Mj179 (j Mj179)) ?_ ?_
                · intro Mj179
                  refine vj_iinc (j := 7) (b := 1) (lv' := [(0, .ref a0), (1, .ref p1), (2, .ref p2), (3, .int p3), (4, .int p4), (5, .ref a36), (6, .ref a95), (7, .int (w101_7 + 1))]) C dSe_firstCourse_179 rfl (by decide) (by decide) [1, 2, 3, 4, 5, 6, 7, 0] rfl ?_
                  refine vj_goto (tgt := 101) C dSe_firstCourse_182 rfl ?_
                  exact hg101 _ _
                · intro j179 hj179
                  refine vj_if_ne (tgt := 124) C dSe_firstCourse_118 rfl ?_ ?_
                  · skip
                    refine vj_iconst (v := 0) C dSe_firstCourse_124 (by decide) ?_
                    refine vj_istore (lv' := [(0, .ref a0), (1, .ref p1), (2, .ref p2), (3, .int p3), (4, .int p4), (5, .ref a36), (6, .ref a95), (7, .int w101_7), (8, .int 0)]) C dSe_firstCourse_125 (by decide) [1, 2, 3, 4, 5, 6, 7, 8, 0] rfl ?_
                    have hg127x : ∀ nf Mh127 w127_8, Vj x 0 0 127 [(0, .ref a0), (1, .ref p1), (2, .ref p2), (3, .int p3), (4, .int p4), (5, .ref a36), (6, .ref a95), (7, .int w101_7), (8, .int w127_8)] [] Mh127 (fo_fx (fun _ _ => none) (lp_Se_firstCourse_1_127 a0 p1 p3 p4 a36 a95 w101_7 j179) nf Mh127 w127_8) := by
                      intro nf
                      refine fo_fx_P (fun (j : Mm → Int32 → Rr) => ∀ Mh127 w127_8, Vj x 0 0 127 [(0, .ref a0), (1, .ref p1), (2, .ref p2), (3, .int p3), (4, .int p4), (5, .ref a36), (6, .ref a95), (7, .int w101_7), (8, .int w127_8)] [] Mh127 (j Mh127 w127_8)) (fun _ _ => Vj_none) ?_ nf
                      intro g127 hg127 Mh127 w127_8
                      unfold lp_Se_firstCourse_1_127
                      refine vj_iload (j := 8) C dSe_firstCourse_127 rfl ?_
                      refine vj_iconst (v := 5) C dSe_firstCourse_129 (by decide) ?_
                      refine vj_icmp_ge (tgt := 179) C dSe_firstCourse_130 rfl ?_ ?_
                      · skip
                        refine vj_lk (lv' := [(0, .ref a0), (1, .ref p1), (2, .ref p2), (3, .int p3), (4, .int p4), (5, .ref a36), (6, .ref a95), (7, .int w101_7)]) [0, 1, 2, 3, 4, 5, 6, 7] rfl ?_
                        exact hj179 _
                      · skip
                        refine vj_aload_n (j := 0) C dSe_firstCourse_133 rfl rfl ?_
                        refine vj_aload_n (j := 1) C dSe_firstCourse_134 rfl rfl ?_
                        refine vj_aload (j := 5) C dSe_firstCourse_135 rfl ?_
                        refine vj_aload (j := 6) C dSe_firstCourse_137 rfl ?_
                        refine vj_iload_n (j := 3) C dSe_firstCourse_139 rfl rfl ?_
                        refine vj_iload (j := 8) C dSe_firstCourse_140 rfl ?_
                        refine vj_cV (ci := 4) (As := [.ref p1, .ref a36, .ref a95, .int p3, .int w127_8]) (st := []) (b := a0) (a1 := 5) C dSe_firstCourse_142 (cm_Se_changes _ _ _ _ _ _ _ _) rfl gv_Se_35 rfl rfl rfl hv_Se_changes ⟨Nat.le_of_ble_eq_true rfl, Nat.le_of_ble_eq_true rfl⟩ rfl rfl (Nat.le_of_ble_eq_true rfl) ⟨Nat.le_of_ble_eq_true rfl, Nat.le_of_ble_eq_true rfl⟩ (fun v142 M142 => ?_)
                        show Vj x 0 0 145 [(0, .ref a0), (1, .ref p1), (2, .ref p2), (3, .int p3), (4, .int p4), (5, .ref a36), (6, .ref a95), (7, .int w101_7), (8, .int w127_8)] [.int v142] M142 _
                        refine vj_jp (fun (j : Mm → Rr) => ∀ Mj173, Vj x 0 0 173 [(0, .ref a0), (1, .ref p1), (2, .ref p2), (3, .int p3), (4, .int p4), (5, .ref a36), (6, .ref a95), (7, .int w101_7), (8, .int w127_8)] [] Mj173 (j Mj173)) ?_ ?_
                        · intro Mj173
                          refine vj_iinc (j := 8) (b := 1) (lv' := [(0, .ref a0), (1, .ref p1), (2, .ref p2), (3, .int p3), (4, .int p4), (5, .ref a36), (6, .ref a95), (7, .int w101_7), (8, .int (w127_8 + 1))]) C dSe_firstCourse_173 rfl (by decide) (by decide) [1, 2, 3, 4, 5, 6, 7, 8, 0] rfl ?_
                          refine vj_goto (tgt := 127) C dSe_firstCourse_176 rfl ?_
                          exact hg127 _ _
                        · intro j173 hj173
                          refine vj_if_eq (tgt := 173) C dSe_firstCourse_145 rfl ?_ ?_
                          · skip
                            exact hj173 _
                          · skip
                            refine vj_aload_n (j := 0) C dSe_firstCourse_148 rfl rfl ?_
                            refine vj_aload_n (j := 1) C dSe_firstCourse_149 rfl rfl ?_
                            refine vj_aload (j := 6) C dSe_firstCourse_150 rfl ?_
                            refine vj_iload_n (j := 3) C dSe_firstCourse_152 rfl rfl ?_
                            refine vj_iload (j := 4) C dSe_firstCourse_153 rfl ?_
                            refine vj_cV (ci := 4) (As := [.ref p1, .ref a95, .int p3, .int p4]) (st := []) (b := a0) (a1 := 4) C dSe_firstCourse_155 (cm_Se_isKeptByEndOfDay_0 _ _ _ _ _ _ _) rfl gv_Se_31 rfl rfl rfl hv_Se_isKeptByEndOfDay ⟨Nat.le_of_ble_eq_true rfl, Nat.le_of_ble_eq_true rfl⟩ rfl rfl (Nat.le_of_ble_eq_true rfl) ⟨Nat.le_of_ble_eq_true rfl, Nat.le_of_ble_eq_true rfl⟩ (fun v155 M155 => ?_)
                            show Vj x 0 0 158 [(0, .ref a0), (1, .ref p1), (2, .ref p2), (3, .int p3), (4, .int p4), (5, .ref a36), (6, .ref a95), (7, .int w101_7), (8, .int w127_8)] [.int v155] M155 _
                            refine vj_if_eq (tgt := 173) C dSe_firstCourse_158 rfl ?_ ?_
                            · skip
                              exact hj173 _
                            · skip
                              refine vj_bipush (v := 100) C dSe_firstCourse_161 (by decide) ?_
                              refine vj_bipush (v := 10) C dSe_firstCourse_163 (by decide) ?_
                              refine vj_iload (j := 7) C dSe_firstCourse_165 rfl ?_
                              refine vj_imul C dSe_firstCourse_167 ?_
                              refine vj_iadd C dSe_firstCourse_168 ?_
                              refine vj_iload (j := 8) C dSe_firstCourse_169 rfl ?_
                              refine vj_iadd C dSe_firstCourse_171 ?_
                              exact vj_ret C dSe_firstCourse_172 rfl rfl (Nat.le_of_ble_eq_true rfl) (Nat.le_of_ble_eq_true rfl)
                    exact hg127x _ _ _
                  · skip
                    refine vj_goto (tgt := 179) C dSe_firstCourse_121 rfl ?_
                    exact hj179 _
            exact hg101x _ _ _
          · skip
            refine vj_aload_n (j := 0) C dSe_firstCourse_48 rfl rfl ?_
            refine vj_aload_n (j := 1) C dSe_firstCourse_49 rfl rfl ?_
            refine vj_aload_n (j := 2) C dSe_firstCourse_50 rfl rfl ?_
            refine vj_aload (j := 5) C dSe_firstCourse_51 rfl ?_
            refine vj_iload_n (j := 3) C dSe_firstCourse_53 rfl rfl ?_
            refine vj_iload (j := 6) C dSe_firstCourse_54 rfl ?_
            refine vj_cV (ci := 4) (As := [.ref p1, .ref p2, .ref a36, .int p3, .int w42_6]) (st := []) (b := a0) (a1 := 5) C dSe_firstCourse_56 (cm_Se_changes _ _ _ _ _ _ _ _) rfl gv_Se_35 rfl rfl rfl hv_Se_changes ⟨Nat.le_of_ble_eq_true rfl, Nat.le_of_ble_eq_true rfl⟩ rfl rfl (Nat.le_of_ble_eq_true rfl) ⟨Nat.le_of_ble_eq_true rfl, Nat.le_of_ble_eq_true rfl⟩ (fun v56 M56 => ?_)
            show Vj x 0 0 59 [(0, .ref a0), (1, .ref p1), (2, .ref p2), (3, .int p3), (4, .int p4), (5, .ref a36), (6, .int w42_6)] [.int v56] M56 _
            refine vj_jp (fun (j : Mm → Rr) => ∀ Mj81, Vj x 0 0 81 [(0, .ref a0), (1, .ref p1), (2, .ref p2), (3, .int p3), (4, .int p4), (5, .ref a36), (6, .int w42_6)] [] Mj81 (j Mj81)) ?_ ?_
            · intro Mj81
              refine vj_iinc (j := 6) (b := 1) (lv' := [(0, .ref a0), (1, .ref p1), (2, .ref p2), (3, .int p3), (4, .int p4), (5, .ref a36), (6, .int (w42_6 + 1))]) C dSe_firstCourse_81 rfl (by decide) (by decide) [1, 2, 3, 4, 5, 6, 0] rfl ?_
              refine vj_goto (tgt := 42) C dSe_firstCourse_84 rfl ?_
              exact hg42 _ _
            · intro j81 hj81
              refine vj_if_eq (tgt := 81) C dSe_firstCourse_59 rfl ?_ ?_
              · skip
                exact hj81 _
              · skip
                refine vj_aload_n (j := 0) C dSe_firstCourse_62 rfl rfl ?_
                refine vj_aload_n (j := 1) C dSe_firstCourse_63 rfl rfl ?_
                refine vj_aload (j := 5) C dSe_firstCourse_64 rfl ?_
                refine vj_iload_n (j := 3) C dSe_firstCourse_66 rfl rfl ?_
                refine vj_iload (j := 4) C dSe_firstCourse_67 rfl ?_
                refine vj_cV (ci := 4) (As := [.ref p1, .ref a36, .int p3, .int p4]) (st := []) (b := a0) (a1 := 4) C dSe_firstCourse_69 (cm_Se_isKeptByEndOfDay_0 _ _ _ _ _ _ _) rfl gv_Se_31 rfl rfl rfl hv_Se_isKeptByEndOfDay ⟨Nat.le_of_ble_eq_true rfl, Nat.le_of_ble_eq_true rfl⟩ rfl rfl (Nat.le_of_ble_eq_true rfl) ⟨Nat.le_of_ble_eq_true rfl, Nat.le_of_ble_eq_true rfl⟩ (fun v69 M69 => ?_)
                show Vj x 0 0 72 [(0, .ref a0), (1, .ref p1), (2, .ref p2), (3, .int p3), (4, .int p4), (5, .ref a36), (6, .int w42_6)] [.int v69] M69 _
                refine vj_if_eq (tgt := 81) C dSe_firstCourse_72 rfl ?_ ?_
                · skip
                  exact hj81 _
                · skip
                  refine vj_bipush (v := 10) C dSe_firstCourse_75 (by decide) ?_
                  refine vj_iload (j := 6) C dSe_firstCourse_77 rfl ?_
                  refine vj_iadd C dSe_firstCourse_79 ?_
                  exact vj_ret C dSe_firstCourse_80 rfl rfl (Nat.le_of_ble_eq_true rfl) (Nat.le_of_ble_eq_true rfl)
        exact hg42x _ _ _
      · skip
        refine vj_iconst (v := 0) C dSe_firstCourse_26 (by decide) ?_
        exact vj_ret C dSe_firstCourse_27 rfl rfl (Nat.le_of_ble_eq_true rfl) (Nat.le_of_ble_eq_true rfl)
    · skip
      refine vj_iconst (v := (-1)) C dSe_firstCourse_12 (by decide) ?_
      exact vj_ret C dSe_firstCourse_13 rfl rfl (Nat.le_of_ble_eq_true rfl) (Nat.le_of_ble_eq_true rfl)
def fn_Se_isKeptByEndOfDay_1 (M : Mm) (a0 : Nat) (p1 : Nat) (p2 : Nat) (p3 : Int32) (p4 : Int32) : Rr := fo_cv M 0 p1 (fn_Ag_hasDutyDue M p1 p2 p3) fun v3 M3 => if v3 = 0 then fo_gr M3 4 a0 3 fun a12 => fo_ar M3 5 a12 (p4 - 1) fun a19 => fo_cv M3 5 a19 (fn_St_copyFrom M3 a19 p2) fun _ M25 => fo_gr M25 4 a0 0 fun a29 => fo_cv M25 3 a29 (fn_Ru_endDay M25 a29 p1 a19) fun v35 M35 => if v35 = (-2) then fo_rz 0 M35 else if p4 = 1 then fo_rz 1 M35 else fo_cv M35 4 a0 (fn_Se_firstCourse_1 M35 a0 p1 a19 p3 (p4 - 1)) fun v60 M60 => if v60 = (-1) then fo_rz 0 M60 else fo_rz 1 M60 else fo_rz 0 M3
set_option maxHeartbeats 4000000 in
set_option maxRecDepth 100000 in
theorem cm_Se_isKeptByEndOfDay_1 (l : Launch) (M : Mm) (a0 : Nat) (p1 : Nat) (p2 : Nat) (p3 : Int32) (p4 : Int32) : ct l zySe_isKeptByEndOfDay ws_Se_isKeptByEndOfDay { frames := 6, cells := 0, slots := 0, locals := 295 } 0 0 (fun w => some (.int w)) [.ref a0, .ref p1, .ref p2, .int p3, .int p4] M (fn_Se_isKeptByEndOfDay_1 M a0 p1 p2 p3 p4) := by
  refine ct_of (cc := zbSe_isKeptByEndOfDay) (maxL := 6) (ret := (some .boolean)) (lv0 := [(0, .ref a0), (1, .ref p1), (2, .ref p2), (3, .int p3), (4, .int p4)]) (by decide) rfl (Nat.le_of_ble_eq_true rfl) rfl rfl ?_
  intro x C
  unfold fn_Se_isKeptByEndOfDay_1
  refine vj_aload_n (j := 1) C dSe_isKeptByEndOfDay_0 rfl rfl ?_
  refine vj_aload_n (j := 2) C dSe_isKeptByEndOfDay_1 rfl rfl ?_
  refine vj_iload_n (j := 3) C dSe_isKeptByEndOfDay_2 rfl rfl ?_
  refine vj_cV (ci := 0) (As := [.ref p2, .int p3]) (st := []) (b := p1) (a1 := 2) C dSe_isKeptByEndOfDay_3 (cm_Ag_hasDutyDue _ _ _ _ _) rfl gv_Se_39 rfl rfl rfl hv_Ag_hasDutyDue ⟨Nat.le_of_ble_eq_true rfl, Nat.le_of_ble_eq_true rfl⟩ rfl rfl (Nat.le_of_ble_eq_true rfl) ⟨Nat.le_of_ble_eq_true rfl, Nat.le_of_ble_eq_true rfl⟩ (fun v3 M3 => ?_)
  show Vj x 0 0 6 [(0, .ref a0), (1, .ref p1), (2, .ref p2), (3, .int p3), (4, .int p4)] [.int v3] M3 _
  refine vj_if_eq (tgt := 11) C dSe_isKeptByEndOfDay_6 rfl ?_ ?_
  · skip
    refine vj_aload_n (j := 0) C dSe_isKeptByEndOfDay_11 rfl rfl ?_
    refine vj_gr C dSe_isKeptByEndOfDay_12 lf_Se_27 rfl (fun a12 => ?_)
    refine vj_iload (j := 4) C dSe_isKeptByEndOfDay_15 rfl ?_
    refine vj_iconst (v := 1) C dSe_isKeptByEndOfDay_17 (by decide) ?_
    refine vj_isub C dSe_isKeptByEndOfDay_18 ?_
    refine vj_aald C dSe_isKeptByEndOfDay_19 (by decide) (fun a19 => ?_)
    refine vj_astore (lv' := [(0, .ref a0), (1, .ref p1), (2, .ref p2), (3, .int p3), (4, .int p4), (5, .ref a19)]) C dSe_isKeptByEndOfDay_20 (by decide) [1, 2, 3, 4, 5, 0] rfl ?_
    refine vj_aload (j := 5) C dSe_isKeptByEndOfDay_22 rfl ?_
    refine vj_aload_n (j := 2) C dSe_isKeptByEndOfDay_24 rfl rfl ?_
    refine vj_cV (ci := 5) (As := [.ref p2]) (st := []) (b := a19) (a1 := 1) C dSe_isKeptByEndOfDay_25 (cm_St_copyFrom _ _ _ _) rfl gv_Se_45 rfl rfl rfl hv_St_copyFrom ⟨Nat.le_of_ble_eq_true rfl, Nat.le_of_ble_eq_true rfl⟩ rfl rfl (Nat.le_of_ble_eq_true rfl) ⟨Nat.le_of_ble_eq_true rfl, Nat.le_of_ble_eq_true rfl⟩ (fun _ M25 => ?_)
    show Vj x 0 0 28 [(0, .ref a0), (1, .ref p1), (2, .ref p2), (3, .int p3), (4, .int p4), (5, .ref a19)] [] M25 _
    refine vj_aload_n (j := 0) C dSe_isKeptByEndOfDay_28 rfl rfl ?_
    refine vj_gr C dSe_isKeptByEndOfDay_29 lf_Se_12 rfl (fun a29 => ?_)
    refine vj_aload_n (j := 1) C dSe_isKeptByEndOfDay_32 rfl rfl ?_
    refine vj_aload (j := 5) C dSe_isKeptByEndOfDay_33 rfl ?_
    refine vj_cV (ci := 3) (As := [.ref p1, .ref a19]) (st := []) (b := a29) (a1 := 2) C dSe_isKeptByEndOfDay_35 (cm_Ru_endDay _ _ _ _ _) rfl gv_Se_49 rfl rfl rfl hv_Ru_endDay ⟨Nat.le_of_ble_eq_true rfl, Nat.le_of_ble_eq_true rfl⟩ rfl rfl (Nat.le_of_ble_eq_true rfl) ⟨Nat.le_of_ble_eq_true rfl, Nat.le_of_ble_eq_true rfl⟩ (fun v35 M35 => ?_)
    show Vj x 0 0 38 [(0, .ref a0), (1, .ref p1), (2, .ref p2), (3, .int p3), (4, .int p4), (5, .ref a19)] [.int v35] M35 _
    refine vj_bipush (v := (-2)) C dSe_isKeptByEndOfDay_38 (by decide) ?_
    refine vj_icmp_ne (tgt := 45) C dSe_isKeptByEndOfDay_40 rfl ?_ ?_
    · skip
      refine vj_iload (j := 4) C dSe_isKeptByEndOfDay_45 rfl ?_
      refine vj_iconst (v := 1) C dSe_isKeptByEndOfDay_47 (by decide) ?_
      refine vj_icmp_eq (tgt := 67) C dSe_isKeptByEndOfDay_48 rfl ?_ ?_
      · skip
        refine vj_iconst (v := 1) C dSe_isKeptByEndOfDay_67 (by decide) ?_
        refine vj_goto (tgt := 72) C dSe_isKeptByEndOfDay_68 rfl ?_
        exact vj_retz C dSe_isKeptByEndOfDay_72 rfl rfl (Nat.le_of_ble_eq_true rfl) (Nat.le_of_ble_eq_true rfl)
      · skip
        refine vj_aload_n (j := 0) C dSe_isKeptByEndOfDay_51 rfl rfl ?_
        refine vj_aload_n (j := 1) C dSe_isKeptByEndOfDay_52 rfl rfl ?_
        refine vj_aload (j := 5) C dSe_isKeptByEndOfDay_53 rfl ?_
        refine vj_iload_n (j := 3) C dSe_isKeptByEndOfDay_55 rfl rfl ?_
        refine vj_iload (j := 4) C dSe_isKeptByEndOfDay_56 rfl ?_
        refine vj_iconst (v := 1) C dSe_isKeptByEndOfDay_58 (by decide) ?_
        refine vj_isub C dSe_isKeptByEndOfDay_59 ?_
        refine vj_cV (ci := 4) (As := [.ref p1, .ref a19, .int p3, .int (p4 - 1)]) (st := []) (b := a0) (a1 := 4) C dSe_isKeptByEndOfDay_60 (cm_Se_firstCourse_1 _ _ _ _ _ _ _) rfl gv_Se_53 rfl rfl rfl hv_Se_firstCourse ⟨Nat.le_of_ble_eq_true rfl, Nat.le_of_ble_eq_true rfl⟩ rfl rfl (Nat.le_of_ble_eq_true rfl) ⟨Nat.le_of_ble_eq_true rfl, Nat.le_of_ble_eq_true rfl⟩ (fun v60 M60 => ?_)
        show Vj x 0 0 63 [(0, .ref a0), (1, .ref p1), (2, .ref p2), (3, .int p3), (4, .int p4), (5, .ref a19)] [.int v60] M60 _
        refine vj_iconst (v := (-1)) C dSe_isKeptByEndOfDay_63 (by decide) ?_
        refine vj_icmp_eq (tgt := 71) C dSe_isKeptByEndOfDay_64 rfl ?_ ?_
        · skip
          refine vj_iconst (v := 0) C dSe_isKeptByEndOfDay_71 (by decide) ?_
          exact vj_retz C dSe_isKeptByEndOfDay_72 rfl rfl (Nat.le_of_ble_eq_true rfl) (Nat.le_of_ble_eq_true rfl)
        · skip
          refine vj_iconst (v := 1) C dSe_isKeptByEndOfDay_67 (by decide) ?_
          refine vj_goto (tgt := 72) C dSe_isKeptByEndOfDay_68 rfl ?_
          exact vj_retz C dSe_isKeptByEndOfDay_72 rfl rfl (Nat.le_of_ble_eq_true rfl) (Nat.le_of_ble_eq_true rfl)
    · skip
      refine vj_iconst (v := 0) C dSe_isKeptByEndOfDay_43 (by decide) ?_
      exact vj_retz C dSe_isKeptByEndOfDay_44 rfl rfl (Nat.le_of_ble_eq_true rfl) (Nat.le_of_ble_eq_true rfl)
  · skip
    refine vj_iconst (v := 0) C dSe_isKeptByEndOfDay_9 (by decide) ?_
    exact vj_retz C dSe_isKeptByEndOfDay_10 rfl rfl (Nat.le_of_ble_eq_true rfl) (Nat.le_of_ble_eq_true rfl)
def lp_Se_firstCourse_2_127 (a0 : Nat) (p1 : Nat) (p3 : Int32) (p4 : Int32) (a36 : Nat) (a95 : Nat) (w101_7 : Int32) (j179 : Mm → Rr) (g127 : Mm → Int32 → Rr) (Mh127 : Mm) (w127_8 : Int32) : Rr := if 5 ≤ w127_8 then j179 Mh127 else fo_cv Mh127 4 a0 (fn_Se_changes Mh127 a0 p1 a36 a95 p3 w127_8) fun v142 M142 => fo_jp (fun (Mj173 : Mm) => g127 Mj173 (w127_8 + 1)) (fun j173 => if v142 = 0 then j173 M142 else fo_cv M142 4 a0 (fn_Se_isKeptByEndOfDay_1 M142 a0 p1 a95 p3 p4) fun v155 M155 => if v155 = 0 then j173 M155 else some (((100 + (10 * w101_7)) + w127_8), M155))
def lp_Se_firstCourse_2_101 (a0 : Nat) (p1 : Nat) (p2 : Nat) (p3 : Int32) (p4 : Int32) (a36 : Nat) (a95 : Nat) (g101 : Mm → Int32 → Rr) (Mh101 : Mm) (w101_7 : Int32) : Rr := if 5 ≤ w101_7 then some ((-1), Mh101) else fo_cv Mh101 4 a0 (fn_Se_changes Mh101 a0 p1 p2 a36 p3 w101_7) fun v115 M115 => fo_jp (fun (Mj179 : Mm) => g101 Mj179 (w101_7 + 1)) (fun j179 => if v115 = 0 then j179 M115 else fo_fx (fun _ _ => none) (lp_Se_firstCourse_2_127 a0 p1 p3 p4 a36 a95 w101_7 j179) fo_N M115 0)
def lp_Se_firstCourse_2_42 (a0 : Nat) (p1 : Nat) (p2 : Nat) (p3 : Int32) (p4 : Int32) (a36 : Nat) (g42 : Mm → Int32 → Rr) (Mh42 : Mm) (w42_6 : Int32) : Rr := if 5 ≤ w42_6 then fo_gr Mh42 4 a0 2 fun a88 => fo_ar Mh42 5 a88 (p4 - 1) fun a95 => fo_fx (fun _ _ => none) (lp_Se_firstCourse_2_101 a0 p1 p2 p3 p4 a36 a95) fo_N Mh42 0 else fo_cv Mh42 4 a0 (fn_Se_changes Mh42 a0 p1 p2 a36 p3 w42_6) fun v56 M56 => fo_jp (fun (Mj81 : Mm) => g42 Mj81 (w42_6 + 1)) (fun j81 => if v56 = 0 then j81 M56 else fo_cv M56 4 a0 (fn_Se_isKeptByEndOfDay_1 M56 a0 p1 a36 p3 p4) fun v69 M69 => if v69 = 0 then j81 M69 else some ((10 + w42_6), M69))
def fn_Se_firstCourse_2 (M : Mm) (a0 : Nat) (p1 : Nat) (p2 : Nat) (p3 : Int32) (p4 : Int32) : Rr := if p4 < 1 then some ((-1), M) else if p4 ≤ 2 then fo_cv M 4 a0 (fn_Se_isKeptByEndOfDay_1 M a0 p1 p2 p3 p4) fun v20 M20 => if v20 = 0 then fo_gr M20 4 a0 1 fun a29 => fo_ar M20 5 a29 (p4 - 1) fun a36 => fo_fx (fun _ _ => none) (lp_Se_firstCourse_2_42 a0 p1 p2 p3 p4 a36) fo_N M20 0 else some (0, M20) else some ((-1), M)
set_option maxHeartbeats 4000000 in
set_option maxRecDepth 100000 in
theorem cm_Se_firstCourse_2 (l : Launch) (M : Mm) (a0 : Nat) (p1 : Nat) (p2 : Nat) (p3 : Int32) (p4 : Int32) : ct l zySe_firstCourse ws_Se_firstCourse { frames := 7, cells := 0, slots := 0, locals := 320 } 0 0 (fun w => some (.int w)) [.ref a0, .ref p1, .ref p2, .int p3, .int p4] M (fn_Se_firstCourse_2 M a0 p1 p2 p3 p4) := by
  refine ct_of (cc := zbSe_firstCourse) (maxL := 9) (ret := (some .int)) (lv0 := [(0, .ref a0), (1, .ref p1), (2, .ref p2), (3, .int p3), (4, .int p4)]) (by decide) rfl (Nat.le_of_ble_eq_true rfl) rfl rfl ?_
  intro x C
  unfold fn_Se_firstCourse_2
  refine vj_iload (j := 4) C dSe_firstCourse_0 rfl ?_
  refine vj_iconst (v := 1) C dSe_firstCourse_2 (by decide) ?_
  refine vj_icmp_lt (tgt := 12) C dSe_firstCourse_3 rfl ?_ ?_
  · skip
    refine vj_iconst (v := (-1)) C dSe_firstCourse_12 (by decide) ?_
    exact vj_ret C dSe_firstCourse_13 rfl rfl (Nat.le_of_ble_eq_true rfl) (Nat.le_of_ble_eq_true rfl)
  · skip
    refine vj_iload (j := 4) C dSe_firstCourse_6 rfl ?_
    refine vj_iconst (v := 2) C dSe_firstCourse_8 (by decide) ?_
    refine vj_icmp_le (tgt := 14) C dSe_firstCourse_9 rfl ?_ ?_
    · skip
      refine vj_aload_n (j := 0) C dSe_firstCourse_14 rfl rfl ?_
      refine vj_aload_n (j := 1) C dSe_firstCourse_15 rfl rfl ?_
      refine vj_aload_n (j := 2) C dSe_firstCourse_16 rfl rfl ?_
      refine vj_iload_n (j := 3) C dSe_firstCourse_17 rfl rfl ?_
      refine vj_iload (j := 4) C dSe_firstCourse_18 rfl ?_
      refine vj_cV (ci := 4) (As := [.ref p1, .ref p2, .int p3, .int p4]) (st := []) (b := a0) (a1 := 4) C dSe_firstCourse_20 (cm_Se_isKeptByEndOfDay_1 _ _ _ _ _ _ _) rfl gv_Se_31 rfl rfl rfl hv_Se_isKeptByEndOfDay ⟨Nat.le_of_ble_eq_true rfl, Nat.le_of_ble_eq_true rfl⟩ rfl rfl (Nat.le_of_ble_eq_true rfl) ⟨Nat.le_of_ble_eq_true rfl, Nat.le_of_ble_eq_true rfl⟩ (fun v20 M20 => ?_)
      show Vj x 0 0 23 [(0, .ref a0), (1, .ref p1), (2, .ref p2), (3, .int p3), (4, .int p4)] [.int v20] M20 _
      refine vj_if_eq (tgt := 28) C dSe_firstCourse_23 rfl ?_ ?_
      · skip
        refine vj_aload_n (j := 0) C dSe_firstCourse_28 rfl rfl ?_
        refine vj_gr C dSe_firstCourse_29 lf_Se_20 rfl (fun a29 => ?_)
        refine vj_iload (j := 4) C dSe_firstCourse_32 rfl ?_
        refine vj_iconst (v := 1) C dSe_firstCourse_34 (by decide) ?_
        refine vj_isub C dSe_firstCourse_35 ?_
        refine vj_aald C dSe_firstCourse_36 (by decide) (fun a36 => ?_)
        refine vj_astore (lv' := [(0, .ref a0), (1, .ref p1), (2, .ref p2), (3, .int p3), (4, .int p4), (5, .ref a36)]) C dSe_firstCourse_37 (by decide) [1, 2, 3, 4, 5, 0] rfl ?_
        refine vj_iconst (v := 0) C dSe_firstCourse_39 (by decide) ?_
        refine vj_istore (lv' := [(0, .ref a0), (1, .ref p1), (2, .ref p2), (3, .int p3), (4, .int p4), (5, .ref a36), (6, .int 0)]) C dSe_firstCourse_40 (by decide) [1, 2, 3, 4, 5, 6, 0] rfl ?_
        have hg42x : ∀ nf Mh42 w42_6, Vj x 0 0 42 [(0, .ref a0), (1, .ref p1), (2, .ref p2), (3, .int p3), (4, .int p4), (5, .ref a36), (6, .int w42_6)] [] Mh42 (fo_fx (fun _ _ => none) (lp_Se_firstCourse_2_42 a0 p1 p2 p3 p4 a36) nf Mh42 w42_6) := by
          intro nf
          refine fo_fx_P (fun (j : Mm → Int32 → Rr) => ∀ Mh42 w42_6, Vj x 0 0 42 [(0, .ref a0), (1, .ref p1), (2, .ref p2), (3, .int p3), (4, .int p4), (5, .ref a36), (6, .int w42_6)] [] Mh42 (j Mh42 w42_6)) (fun _ _ => Vj_none) ?_ nf
          intro g42 hg42 Mh42 w42_6
          unfold lp_Se_firstCourse_2_42
          refine vj_iload (j := 6) C dSe_firstCourse_42 rfl ?_
          refine vj_iconst (v := 5) C dSe_firstCourse_44 (by decide) ?_
          refine vj_icmp_ge (tgt := 87) C dSe_firstCourse_45 rfl ?_ ?_
          · skip
            refine vj_aload_n (j := 0) C dSe_firstCourse_87 rfl rfl ?_
            refine vj_gr C dSe_firstCourse_88 lf_Se_24 rfl (fun a88 => ?_)
            refine vj_iload (j := 4) C dSe_firstCourse_91 rfl ?_
            refine vj_iconst (v := 1) C dSe_firstCourse_93 (by decide) ?_
            refine vj_isub C dSe_firstCourse_94 ?_
            refine vj_aald C dSe_firstCourse_95 (by decide) (fun a95 => ?_)
            refine vj_astore (lv' := [(0, .ref a0), (1, .ref p1), (2, .ref p2), (3, .int p3), (4, .int p4), (5, .ref a36), (6, .ref a95)]) C dSe_firstCourse_96 (by decide) [1, 2, 3, 4, 5, 6, 0] rfl ?_
            refine vj_iconst (v := 0) C dSe_firstCourse_98 (by decide) ?_
            refine vj_istore (lv' := [(0, .ref a0), (1, .ref p1), (2, .ref p2), (3, .int p3), (4, .int p4), (5, .ref a36), (6, .ref a95), (7, .int 0)]) C dSe_firstCourse_99 (by decide) [1, 2, 3, 4, 5, 6, 7, 0] rfl ?_
            have hg101x : ∀ nf Mh101 w101_7, Vj x 0 0 101 [(0, .ref a0), (1, .ref p1), (2, .ref p2), (3, .int p3), (4, .int p4), (5, .ref a36), (6, .ref a95), (7, .int w101_7)] [] Mh101 (fo_fx (fun _ _ => none) (lp_Se_firstCourse_2_101 a0 p1 p2 p3 p4 a36 a95) nf Mh101 w101_7) := by
              intro nf
              refine fo_fx_P (fun (j : Mm → Int32 → Rr) => ∀ Mh101 w101_7, Vj x 0 0 101 [(0, .ref a0), (1, .ref p1), (2, .ref p2), (3, .int p3), (4, .int p4), (5, .ref a36), (6, .ref a95), (7, .int w101_7)] [] Mh101 (j Mh101 w101_7)) (fun _ _ => Vj_none) ?_ nf
              intro g101 hg101 Mh101 w101_7
              unfold lp_Se_firstCourse_2_101
              refine vj_iload (j := 7) C dSe_firstCourse_101 rfl ?_
              refine vj_iconst (v := 5) C dSe_firstCourse_103 (by decide) ?_
              refine vj_icmp_ge (tgt := 185) C dSe_firstCourse_104 rfl ?_ ?_
              · skip
                refine vj_iconst (v := (-1)) C dSe_firstCourse_185 (by decide) ?_
                exact vj_ret C dSe_firstCourse_186 rfl rfl (Nat.le_of_ble_eq_true rfl) (Nat.le_of_ble_eq_true rfl)
              · skip
                refine vj_aload_n (j := 0) C dSe_firstCourse_107 rfl rfl ?_
                refine vj_aload_n (j := 1) C dSe_firstCourse_108 rfl rfl ?_
                refine vj_aload_n (j := 2) C dSe_firstCourse_109 rfl rfl ?_
                refine vj_aload (j := 5) C dSe_firstCourse_110 rfl ?_
                refine vj_iload_n (j := 3) C dSe_firstCourse_112 rfl rfl ?_
                refine vj_iload (j := 7) C dSe_firstCourse_113 rfl ?_
                refine vj_cV (ci := 4) (As := [.ref p1, .ref p2, .ref a36, .int p3, .int w101_7]) (st := []) (b := a0) (a1 := 5) C dSe_firstCourse_115 (cm_Se_changes _ _ _ _ _ _ _ _) rfl gv_Se_35 rfl rfl rfl hv_Se_changes ⟨Nat.le_of_ble_eq_true rfl, Nat.le_of_ble_eq_true rfl⟩ rfl rfl (Nat.le_of_ble_eq_true rfl) ⟨Nat.le_of_ble_eq_true rfl, Nat.le_of_ble_eq_true rfl⟩ (fun v115 M115 => ?_)
                show Vj x 0 0 118 [(0, .ref a0), (1, .ref p1), (2, .ref p2), (3, .int p3), (4, .int p4), (5, .ref a36), (6, .ref a95), (7, .int w101_7)] [.int v115] M115 _
                refine vj_jp (fun (j : Mm → Rr) => ∀ Mj179, Vj x 0 0 179 [(0, .ref a0), (1, .ref p1), (2, .ref p2), (3, .int p3), (4, .int p4), (5, .ref a36), (6, .ref a95), (7, .int w101_7)] [] Mj179 (j Mj179)) ?_ ?_
                · intro Mj179
                  refine vj_iinc (j := 7) (b := 1) (lv' := [(0, .ref a0), (1, .ref p1), (2, .ref p2), (3, .int p3), (4, .int p4), (5, .ref a36), (6, .ref a95), (7, .int (w101_7 + 1))]) C dSe_firstCourse_179 rfl (by decide) (by decide) [1, 2, 3, 4, 5, 6, 7, 0] rfl ?_
                  refine vj_goto (tgt := 101) C dSe_firstCourse_182 rfl ?_
                  exact hg101 _ _
                · intro j179 hj179
                  refine vj_if_ne (tgt := 124) C dSe_firstCourse_118 rfl ?_ ?_
                  · skip
                    refine vj_iconst (v := 0) C dSe_firstCourse_124 (by decide) ?_
                    refine vj_istore (lv' := [(0, .ref a0), (1, .ref p1), (2, .ref p2), (3, .int p3), (4, .int p4), (5, .ref a36), (6, .ref a95), (7, .int w101_7), (8, .int 0)]) C dSe_firstCourse_125 (by decide) [1, 2, 3, 4, 5, 6, 7, 8, 0] rfl ?_
                    have hg127x : ∀ nf Mh127 w127_8, Vj x 0 0 127 [(0, .ref a0), (1, .ref p1), (2, .ref p2), (3, .int p3), (4, .int p4), (5, .ref a36), (6, .ref a95), (7, .int w101_7), (8, .int w127_8)] [] Mh127 (fo_fx (fun _ _ => none) (lp_Se_firstCourse_2_127 a0 p1 p3 p4 a36 a95 w101_7 j179) nf Mh127 w127_8) := by
                      intro nf
                      refine fo_fx_P (fun (j : Mm → Int32 → Rr) => ∀ Mh127 w127_8, Vj x 0 0 127 [(0, .ref a0), (1, .ref p1), (2, .ref p2), (3, .int p3), (4, .int p4), (5, .ref a36), (6, .ref a95), (7, .int w101_7), (8, .int w127_8)] [] Mh127 (j Mh127 w127_8)) (fun _ _ => Vj_none) ?_ nf
                      intro g127 hg127 Mh127 w127_8
                      unfold lp_Se_firstCourse_2_127
                      refine vj_iload (j := 8) C dSe_firstCourse_127 rfl ?_
                      refine vj_iconst (v := 5) C dSe_firstCourse_129 (by decide) ?_
                      refine vj_icmp_ge (tgt := 179) C dSe_firstCourse_130 rfl ?_ ?_
                      · skip
                        refine vj_lk (lv' := [(0, .ref a0), (1, .ref p1), (2, .ref p2), (3, .int p3), (4, .int p4), (5, .ref a36), (6, .ref a95), (7, .int w101_7)]) [0, 1, 2, 3, 4, 5, 6, 7] rfl ?_
                        exact hj179 _
                      · skip
                        refine vj_aload_n (j := 0) C dSe_firstCourse_133 rfl rfl ?_
                        refine vj_aload_n (j := 1) C dSe_firstCourse_134 rfl rfl ?_
                        refine vj_aload (j := 5) C dSe_firstCourse_135 rfl ?_
                        refine vj_aload (j := 6) C dSe_firstCourse_137 rfl ?_
                        refine vj_iload_n (j := 3) C dSe_firstCourse_139 rfl rfl ?_
                        refine vj_iload (j := 8) C dSe_firstCourse_140 rfl ?_
                        refine vj_cV (ci := 4) (As := [.ref p1, .ref a36, .ref a95, .int p3, .int w127_8]) (st := []) (b := a0) (a1 := 5) C dSe_firstCourse_142 (cm_Se_changes _ _ _ _ _ _ _ _) rfl gv_Se_35 rfl rfl rfl hv_Se_changes ⟨Nat.le_of_ble_eq_true rfl, Nat.le_of_ble_eq_true rfl⟩ rfl rfl (Nat.le_of_ble_eq_true rfl) ⟨Nat.le_of_ble_eq_true rfl, Nat.le_of_ble_eq_true rfl⟩ (fun v142 M142 => ?_)
                        show Vj x 0 0 145 [(0, .ref a0), (1, .ref p1), (2, .ref p2), (3, .int p3), (4, .int p4), (5, .ref a36), (6, .ref a95), (7, .int w101_7), (8, .int w127_8)] [.int v142] M142 _
                        refine vj_jp (fun (j : Mm → Rr) => ∀ Mj173, Vj x 0 0 173 [(0, .ref a0), (1, .ref p1), (2, .ref p2), (3, .int p3), (4, .int p4), (5, .ref a36), (6, .ref a95), (7, .int w101_7), (8, .int w127_8)] [] Mj173 (j Mj173)) ?_ ?_
                        · intro Mj173
                          refine vj_iinc (j := 8) (b := 1) (lv' := [(0, .ref a0), (1, .ref p1), (2, .ref p2), (3, .int p3), (4, .int p4), (5, .ref a36), (6, .ref a95), (7, .int w101_7), (8, .int (w127_8 + 1))]) C dSe_firstCourse_173 rfl (by decide) (by decide) [1, 2, 3, 4, 5, 6, 7, 8, 0] rfl ?_
                          refine vj_goto (tgt := 127) C dSe_firstCourse_176 rfl ?_
                          exact hg127 _ _
                        · intro j173 hj173
                          refine vj_if_eq (tgt := 173) C dSe_firstCourse_145 rfl ?_ ?_
                          · skip
                            exact hj173 _
                          · skip
                            refine vj_aload_n (j := 0) C dSe_firstCourse_148 rfl rfl ?_
                            refine vj_aload_n (j := 1) C dSe_firstCourse_149 rfl rfl ?_
                            refine vj_aload (j := 6) C dSe_firstCourse_150 rfl ?_
                            refine vj_iload_n (j := 3) C dSe_firstCourse_152 rfl rfl ?_
                            refine vj_iload (j := 4) C dSe_firstCourse_153 rfl ?_
                            refine vj_cV (ci := 4) (As := [.ref p1, .ref a95, .int p3, .int p4]) (st := []) (b := a0) (a1 := 4) C dSe_firstCourse_155 (cm_Se_isKeptByEndOfDay_1 _ _ _ _ _ _ _) rfl gv_Se_31 rfl rfl rfl hv_Se_isKeptByEndOfDay ⟨Nat.le_of_ble_eq_true rfl, Nat.le_of_ble_eq_true rfl⟩ rfl rfl (Nat.le_of_ble_eq_true rfl) ⟨Nat.le_of_ble_eq_true rfl, Nat.le_of_ble_eq_true rfl⟩ (fun v155 M155 => ?_)
                            show Vj x 0 0 158 [(0, .ref a0), (1, .ref p1), (2, .ref p2), (3, .int p3), (4, .int p4), (5, .ref a36), (6, .ref a95), (7, .int w101_7), (8, .int w127_8)] [.int v155] M155 _
                            refine vj_if_eq (tgt := 173) C dSe_firstCourse_158 rfl ?_ ?_
                            · skip
                              exact hj173 _
                            · skip
                              refine vj_bipush (v := 100) C dSe_firstCourse_161 (by decide) ?_
                              refine vj_bipush (v := 10) C dSe_firstCourse_163 (by decide) ?_
                              refine vj_iload (j := 7) C dSe_firstCourse_165 rfl ?_
                              refine vj_imul C dSe_firstCourse_167 ?_
                              refine vj_iadd C dSe_firstCourse_168 ?_
                              refine vj_iload (j := 8) C dSe_firstCourse_169 rfl ?_
                              refine vj_iadd C dSe_firstCourse_171 ?_
                              exact vj_ret C dSe_firstCourse_172 rfl rfl (Nat.le_of_ble_eq_true rfl) (Nat.le_of_ble_eq_true rfl)
                    exact hg127x _ _ _
                  · skip
                    refine vj_goto (tgt := 179) C dSe_firstCourse_121 rfl ?_
                    exact hj179 _
            exact hg101x _ _ _
          · skip
            refine vj_aload_n (j := 0) C dSe_firstCourse_48 rfl rfl ?_
            refine vj_aload_n (j := 1) C dSe_firstCourse_49 rfl rfl ?_
            refine vj_aload_n (j := 2) C dSe_firstCourse_50 rfl rfl ?_
            refine vj_aload (j := 5) C dSe_firstCourse_51 rfl ?_
            refine vj_iload_n (j := 3) C dSe_firstCourse_53 rfl rfl ?_
            refine vj_iload (j := 6) C dSe_firstCourse_54 rfl ?_
            refine vj_cV (ci := 4) (As := [.ref p1, .ref p2, .ref a36, .int p3, .int w42_6]) (st := []) (b := a0) (a1 := 5) C dSe_firstCourse_56 (cm_Se_changes _ _ _ _ _ _ _ _) rfl gv_Se_35 rfl rfl rfl hv_Se_changes ⟨Nat.le_of_ble_eq_true rfl, Nat.le_of_ble_eq_true rfl⟩ rfl rfl (Nat.le_of_ble_eq_true rfl) ⟨Nat.le_of_ble_eq_true rfl, Nat.le_of_ble_eq_true rfl⟩ (fun v56 M56 => ?_)
            show Vj x 0 0 59 [(0, .ref a0), (1, .ref p1), (2, .ref p2), (3, .int p3), (4, .int p4), (5, .ref a36), (6, .int w42_6)] [.int v56] M56 _
            refine vj_jp (fun (j : Mm → Rr) => ∀ Mj81, Vj x 0 0 81 [(0, .ref a0), (1, .ref p1), (2, .ref p2), (3, .int p3), (4, .int p4), (5, .ref a36), (6, .int w42_6)] [] Mj81 (j Mj81)) ?_ ?_
            · intro Mj81
              refine vj_iinc (j := 6) (b := 1) (lv' := [(0, .ref a0), (1, .ref p1), (2, .ref p2), (3, .int p3), (4, .int p4), (5, .ref a36), (6, .int (w42_6 + 1))]) C dSe_firstCourse_81 rfl (by decide) (by decide) [1, 2, 3, 4, 5, 6, 0] rfl ?_
              refine vj_goto (tgt := 42) C dSe_firstCourse_84 rfl ?_
              exact hg42 _ _
            · intro j81 hj81
              refine vj_if_eq (tgt := 81) C dSe_firstCourse_59 rfl ?_ ?_
              · skip
                exact hj81 _
              · skip
                refine vj_aload_n (j := 0) C dSe_firstCourse_62 rfl rfl ?_
                refine vj_aload_n (j := 1) C dSe_firstCourse_63 rfl rfl ?_
                refine vj_aload (j := 5) C dSe_firstCourse_64 rfl ?_
                refine vj_iload_n (j := 3) C dSe_firstCourse_66 rfl rfl ?_
                refine vj_iload (j := 4) C dSe_firstCourse_67 rfl ?_
                refine vj_cV (ci := 4) (As := [.ref p1, .ref a36, .int p3, .int p4]) (st := []) (b := a0) (a1 := 4) C dSe_firstCourse_69 (cm_Se_isKeptByEndOfDay_1 _ _ _ _ _ _ _) rfl gv_Se_31 rfl rfl rfl hv_Se_isKeptByEndOfDay ⟨Nat.le_of_ble_eq_true rfl, Nat.le_of_ble_eq_true rfl⟩ rfl rfl (Nat.le_of_ble_eq_true rfl) ⟨Nat.le_of_ble_eq_true rfl, Nat.le_of_ble_eq_true rfl⟩ (fun v69 M69 => ?_)
                show Vj x 0 0 72 [(0, .ref a0), (1, .ref p1), (2, .ref p2), (3, .int p3), (4, .int p4), (5, .ref a36), (6, .int w42_6)] [.int v69] M69 _
                refine vj_if_eq (tgt := 81) C dSe_firstCourse_72 rfl ?_ ?_
                · skip
                  exact hj81 _
                · skip
                  refine vj_bipush (v := 10) C dSe_firstCourse_75 (by decide) ?_
                  refine vj_iload (j := 6) C dSe_firstCourse_77 rfl ?_
                  refine vj_iadd C dSe_firstCourse_79 ?_
                  exact vj_ret C dSe_firstCourse_80 rfl rfl (Nat.le_of_ble_eq_true rfl) (Nat.le_of_ble_eq_true rfl)
        exact hg42x _ _ _
      · skip
        refine vj_iconst (v := 0) C dSe_firstCourse_26 (by decide) ?_
        exact vj_ret C dSe_firstCourse_27 rfl rfl (Nat.le_of_ble_eq_true rfl) (Nat.le_of_ble_eq_true rfl)
    · skip
      refine vj_iconst (v := (-1)) C dSe_firstCourse_12 (by decide) ?_
      exact vj_ret C dSe_firstCourse_13 rfl rfl (Nat.le_of_ble_eq_true rfl) (Nat.le_of_ble_eq_true rfl)
