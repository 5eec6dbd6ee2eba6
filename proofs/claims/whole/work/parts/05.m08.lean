def fn_Mo_course (M : Mm) (a0 : Nat) (p1 : Int32) (p2 : Int32) : Rr := fo_cv M 9 a0 (fn_Mo_askCode M a0 p1 p2) fun v4 M4 => fo_pi M4 9 a0 0 v4 fun M7 => fo_gi M7 9 a0 0 fun v11 => if v11 ≤ 0 then fo_cv M7 9 a0 (fn_Mo_firstCourse M7 a0 0 p1 p2) fun v23 M23 => if 1 ≤ v23 then if 6 ≤ v23 then some (((100 + (10 * ((v23 - 6) / 5))) + ((v23 - 6) - (v23 - 6) / 5 * 5)), M23) else some ((9 + v23), M23) else some (v23, M23) else some (0, M7)
set_option maxHeartbeats 4000000 in
set_option maxRecDepth 100000 in
theorem cm_Mo_course (l : Launch) (M : Mm) (a0 : Nat) (p1 : Int32) (p2 : Int32) : ct l zyMo_course ws_Mo_course { frames := 7, cells := 0, slots := 0, locals := 177 } 0 0 (fun w => some (.int w)) [.ref a0, .int p1, .int p2] M (fn_Mo_course M a0 p1 p2) := by
  refine ct_of (cc := zbMo_course) (maxL := 4) (ret := (some .int)) (lv0 := [(0, .ref a0), (1, .int p1), (2, .int p2)]) (by decide) rfl (Nat.le_of_ble_eq_true rfl) rfl rfl ?_
  intro x C
  unfold fn_Mo_course
  refine vj_aload_n (j := 0) C dMo_course_0 rfl rfl ?_
  refine vj_aload_n (j := 0) C dMo_course_1 rfl rfl ?_
  refine vj_iload_n (j := 1) C dMo_course_2 rfl rfl ?_
  refine vj_iload_n (j := 2) C dMo_course_3 rfl rfl ?_
  refine vj_cV (ci := 9) (As := [.int p1, .int p2]) (st := [.ref a0]) (b := a0) (a1 := 2) C dMo_course_4 (cm_Mo_askCode _ _ _ _ _) rfl gv_Mo_208 rfl rfl rfl hv_Mo_askCode ⟨Nat.le_of_ble_eq_true rfl, Nat.le_of_ble_eq_true rfl⟩ rfl rfl (Nat.le_of_ble_eq_true rfl) ⟨Nat.le_of_ble_eq_true rfl, Nat.le_of_ble_eq_true rfl⟩ (fun v4 M4 => ?_)
  show Vj x 0 0 7 [(0, .ref a0), (1, .int p1), (2, .int p2)] [.int v4, .ref a0] M4 _
  refine vj_pi C dMo_course_7 lf_Mo_60 lq_9_0 rfl (fun M7 => ?_)
  refine vj_aload_n (j := 0) C dMo_course_10 rfl rfl ?_
  refine vj_gi C dMo_course_11 lf_Mo_60 rfl (fun v11 => ?_)
  refine vj_if_le (tgt := 19) C dMo_course_14 rfl ?_ ?_
  · skip
    refine vj_aload_n (j := 0) C dMo_course_19 rfl rfl ?_
    refine vj_iconst (v := 0) C dMo_course_20 (by decide) ?_
    refine vj_iload_n (j := 1) C dMo_course_21 rfl rfl ?_
    refine vj_iload_n (j := 2) C dMo_course_22 rfl rfl ?_
    refine vj_cV (ci := 9) (As := [.int 0, .int p1, .int p2]) (st := []) (b := a0) (a1 := 3) C dMo_course_23 (cm_Mo_firstCourse _ _ _ _ _ _) rfl gv_Mo_211 rfl rfl rfl hv_Mo_firstCourse ⟨Nat.le_of_ble_eq_true rfl, Nat.le_of_ble_eq_true rfl⟩ rfl rfl (Nat.le_of_ble_eq_true rfl) ⟨Nat.le_of_ble_eq_true rfl, Nat.le_of_ble_eq_true rfl⟩ (fun v23 M23 => ?_)
    show Vj x 0 0 26 [(0, .ref a0), (1, .int p1), (2, .int p2)] [.int v23] M23 _
    refine vj_istore_n (lv' := [(3, .int v23)]) C dMo_course_26 rfl (by decide) [0] rfl ?_
    refine vj_iload_n (j := 0) C dMo_course_27 rfl rfl ?_
    refine vj_iconst (v := 1) C dMo_course_28 (by decide) ?_
    refine vj_icmp_ge (tgt := 36) C dMo_course_29 rfl ?_ ?_
    · skip
      refine vj_iload_n (j := 0) C dMo_course_36 rfl rfl ?_
      refine vj_bipush (v := 6) C dMo_course_37 (by decide) ?_
      refine vj_icmp_ge (tgt := 49) C dMo_course_39 rfl ?_ ?_
      · skip
        refine vj_bipush (v := 100) C dMo_course_49 (by decide) ?_
        refine vj_bipush (v := 10) C dMo_course_51 (by decide) ?_
        refine vj_iload_n (j := 0) C dMo_course_53 rfl rfl ?_
        refine vj_bipush (v := 6) C dMo_course_54 (by decide) ?_
        refine vj_isub C dMo_course_56 ?_
        refine vj_iconst (v := 5) C dMo_course_57 (by decide) ?_
        refine vj_idiv C dMo_course_58 (by decide) ?_
        refine vj_imul C dMo_course_59 ?_
        refine vj_iadd C dMo_course_60 ?_
        refine vj_iload_n (j := 0) C dMo_course_61 rfl rfl ?_
        refine vj_bipush (v := 6) C dMo_course_62 (by decide) ?_
        refine vj_isub C dMo_course_64 ?_
        refine vj_iconst (v := 5) C dMo_course_65 (by decide) ?_
        refine vj_irem C dMo_course_66 (by decide) ?_
        refine vj_iadd C dMo_course_67 ?_
        exact vj_ret C dMo_course_68 rfl rfl (Nat.le_of_ble_eq_true rfl) (Nat.le_of_ble_eq_true rfl)
      · skip
        refine vj_bipush (v := 9) C dMo_course_42 (by decide) ?_
        refine vj_iload_n (j := 0) C dMo_course_44 rfl rfl ?_
        refine vj_iadd C dMo_course_45 ?_
        refine vj_goto (tgt := 68) C dMo_course_46 rfl ?_
        exact vj_ret C dMo_course_68 rfl rfl (Nat.le_of_ble_eq_true rfl) (Nat.le_of_ble_eq_true rfl)
    · skip
      refine vj_iload_n (j := 0) C dMo_course_32 rfl rfl ?_
      refine vj_goto (tgt := 68) C dMo_course_33 rfl ?_
      exact vj_ret C dMo_course_68 rfl rfl (Nat.le_of_ble_eq_true rfl) (Nat.le_of_ble_eq_true rfl)
  · skip
    refine vj_iconst (v := 0) C dMo_course_17 (by decide) ?_
    exact vj_ret C dMo_course_18 rfl rfl (Nat.le_of_ble_eq_true rfl) (Nat.le_of_ble_eq_true rfl)
def lp_Mo_threat_42 (a0 : Nat) (p1 : Int32) (p2 : Int32) (g42 : Mm → Int32 → Rr) (Mh42 : Mm) (w42_3 : Int32) : Rr := if 15 ≤ w42_3 then some ((-1), Mh42) else fo_jp (fun (Mj113 : Mm) => g42 Mj113 (w42_3 + 1)) (fun j113 => if (w42_3 / 5) = p1 then j113 Mh42 else fo_cv Mh42 9 a0 (fn_Mo_copy Mh42 a0 0 14) fun _ M59 => fo_cv M59 9 a0 (fn_Mo_eventIn M59 a0 14 (w42_3 / 5) (w42_3 - w42_3 / 5 * 5)) fun _ M71 => fo_gi M71 9 a0 23 fun v75 => fo_jp (fun (s93_0 : Int32) => if s93_0 = 0 then j113 M71 else fo_cv M71 9 a0 (fn_Mo_firstCourse M71 a0 14 p1 p2) fun v105 M105 => if 0 ≤ v105 then j113 M105 else some (w42_3, M105)) (fun j93 => fo_jp (j93 0) (fun j92 => if v75 = 0 then fo_gi M71 9 a0 24 fun v82 => if v82 = 0 then j93 1 else j92 else j92)))
def fn_Mo_threat (M : Mm) (a0 : Nat) (p1 : Int32) (p2 : Int32) : Rr := fo_cv M 9 a0 (fn_Mo_askCode M a0 p1 p2) fun v4 M4 => fo_pi M4 9 a0 0 v4 fun M7 => fo_gi M7 9 a0 0 fun v11 => fo_jp (fun (Mj27 : Mm) => fo_gi Mj27 9 a0 0 fun v28 => if v28 ≤ 0 then some ((-1), Mj27) else some (0, Mj27)) (fun j27 => if 0 < v11 then j27 M7 else fo_cv M7 9 a0 (fn_Mo_firstCourse M7 a0 0 p1 p2) fun v21 M21 => if 0 ≤ v21 then fo_fx (fun _ _ => none) (lp_Mo_threat_42 a0 p1 p2) fo_N M21 0 else j27 M21)
set_option maxHeartbeats 4000000 in
set_option maxRecDepth 100000 in
theorem cm_Mo_threat (l : Launch) (M : Mm) (a0 : Nat) (p1 : Int32) (p2 : Int32) : ct l zyMo_threat ws_Mo_threat { frames := 7, cells := 0, slots := 0, locals := 177 } 0 0 (fun w => some (.int w)) [.ref a0, .int p1, .int p2] M (fn_Mo_threat M a0 p1 p2) := by
  refine ct_of (cc := zbMo_threat) (maxL := 5) (ret := (some .int)) (lv0 := [(0, .ref a0), (1, .int p1), (2, .int p2)]) (by decide) rfl (Nat.le_of_ble_eq_true rfl) rfl rfl ?_
  intro x C
  unfold fn_Mo_threat
  refine vj_aload_n (j := 0) C dMo_threat_0 rfl rfl ?_
  refine vj_aload_n (j := 0) C dMo_threat_1 rfl rfl ?_
  refine vj_iload_n (j := 1) C dMo_threat_2 rfl rfl ?_
  refine vj_iload_n (j := 2) C dMo_threat_3 rfl rfl ?_
  refine vj_cV (ci := 9) (As := [.int p1, .int p2]) (st := [.ref a0]) (b := a0) (a1 := 2) C dMo_threat_4 (cm_Mo_askCode _ _ _ _ _) rfl gv_Mo_208 rfl rfl rfl hv_Mo_askCode ⟨Nat.le_of_ble_eq_true rfl, Nat.le_of_ble_eq_true rfl⟩ rfl rfl (Nat.le_of_ble_eq_true rfl) ⟨Nat.le_of_ble_eq_true rfl, Nat.le_of_ble_eq_true rfl⟩ (fun v4 M4 => ?_)
  show Vj x 0 0 7 [(0, .ref a0), (1, .int p1), (2, .int p2)] [.int v4, .ref a0] M4 _
  refine vj_pi C dMo_threat_7 lf_Mo_60 lq_9_0 rfl (fun M7 => ?_)
  refine vj_aload_n (j := 0) C dMo_threat_10 rfl rfl ?_
  refine vj_gi C dMo_threat_11 lf_Mo_60 rfl (fun v11 => ?_)
  refine vj_jp (fun (j : Mm → Rr) => ∀ Mj27, Vj x 0 0 27 [(0, .ref a0)] [] Mj27 (j Mj27)) ?_ ?_
  · intro Mj27
    refine vj_aload_n (j := 0) C dMo_threat_27 rfl rfl ?_
    refine vj_gi C dMo_threat_28 lf_Mo_60 rfl (fun v28 => ?_)
    refine vj_if_le (tgt := 38) C dMo_threat_31 rfl ?_ ?_
    · skip
      refine vj_iconst (v := (-1)) C dMo_threat_38 (by decide) ?_
      exact vj_ret C dMo_threat_39 rfl rfl (Nat.le_of_ble_eq_true rfl) (Nat.le_of_ble_eq_true rfl)
    · skip
      refine vj_iconst (v := 0) C dMo_threat_34 (by decide) ?_
      refine vj_goto (tgt := 39) C dMo_threat_35 rfl ?_
      exact vj_ret C dMo_threat_39 rfl rfl (Nat.le_of_ble_eq_true rfl) (Nat.le_of_ble_eq_true rfl)
  · intro j27 hj27
    refine vj_if_gt (tgt := 27) C dMo_threat_14 rfl ?_ ?_
    · skip
      refine vj_lk (lv' := [(0, .ref a0)]) [0] rfl ?_
      exact hj27 _
    · skip
      refine vj_aload_n (j := 0) C dMo_threat_17 rfl rfl ?_
      refine vj_iconst (v := 0) C dMo_threat_18 (by decide) ?_
      refine vj_iload_n (j := 1) C dMo_threat_19 rfl rfl ?_
      refine vj_iload_n (j := 2) C dMo_threat_20 rfl rfl ?_
      refine vj_cV (ci := 9) (As := [.int 0, .int p1, .int p2]) (st := []) (b := a0) (a1 := 3) C dMo_threat_21 (cm_Mo_firstCourse _ _ _ _ _ _) rfl gv_Mo_211 rfl rfl rfl hv_Mo_firstCourse ⟨Nat.le_of_ble_eq_true rfl, Nat.le_of_ble_eq_true rfl⟩ rfl rfl (Nat.le_of_ble_eq_true rfl) ⟨Nat.le_of_ble_eq_true rfl, Nat.le_of_ble_eq_true rfl⟩ (fun v21 M21 => ?_)
      show Vj x 0 0 24 [(0, .ref a0), (1, .int p1), (2, .int p2)] [.int v21] M21 _
      refine vj_if_ge (tgt := 40) C dMo_threat_24 rfl ?_ ?_
      · skip
        refine vj_iconst (v := 0) C dMo_threat_40 (by decide) ?_
        refine vj_istore_n (lv' := [(0, .ref a0), (1, .int p1), (2, .int p2), (3, .int 0)]) C dMo_threat_41 rfl (by decide) [1, 2, 3, 0] rfl ?_
        have hg42x : ∀ nf Mh42 w42_3, Vj x 0 0 42 [(0, .ref a0), (1, .int p1), (2, .int p2), (3, .int w42_3)] [] Mh42 (fo_fx (fun _ _ => none) (lp_Mo_threat_42 a0 p1 p2) nf Mh42 w42_3) := by
          intro nf
          refine fo_fx_P (fun (j : Mm → Int32 → Rr) => ∀ Mh42 w42_3, Vj x 0 0 42 [(0, .ref a0), (1, .int p1), (2, .int p2), (3, .int w42_3)] [] Mh42 (j Mh42 w42_3)) (fun _ _ => Vj_none) ?_ nf
          intro g42 hg42 Mh42 w42_3
          unfold lp_Mo_threat_42
          refine vj_iload_n (j := 3) C dMo_threat_42 rfl rfl ?_
          refine vj_bipush (v := 15) C dMo_threat_43 (by decide) ?_
          refine vj_icmp_ge (tgt := 119) C dMo_threat_45 rfl ?_ ?_
          · skip
            refine vj_iconst (v := (-1)) C dMo_threat_119 (by decide) ?_
            exact vj_ret C dMo_threat_120 rfl rfl (Nat.le_of_ble_eq_true rfl) (Nat.le_of_ble_eq_true rfl)
          · skip
            refine vj_iload_n (j := 3) C dMo_threat_48 rfl rfl ?_
            refine vj_iconst (v := 5) C dMo_threat_49 (by decide) ?_
            refine vj_idiv C dMo_threat_50 (by decide) ?_
            refine vj_iload_n (j := 1) C dMo_threat_51 rfl rfl ?_
            refine vj_jp (fun (j : Mm → Rr) => ∀ Mj113, Vj x 0 0 113 [(0, .ref a0), (1, .int p1), (2, .int p2), (3, .int w42_3)] [] Mj113 (j Mj113)) ?_ ?_
            · intro Mj113
              refine vj_iinc (j := 3) (b := 1) (lv' := [(0, .ref a0), (1, .int p1), (2, .int p2), (3, .int (w42_3 + 1))]) C dMo_threat_113 rfl (by decide) (by decide) [1, 2, 3, 0] rfl ?_
              refine vj_goto (tgt := 42) C dMo_threat_116 rfl ?_
              exact hg42 _ _
            · intro j113 hj113
              refine vj_icmp_eq (tgt := 113) C dMo_threat_52 rfl ?_ ?_
              · skip
                exact hj113 _
              · skip
                refine vj_aload_n (j := 0) C dMo_threat_55 rfl rfl ?_
                refine vj_iconst (v := 0) C dMo_threat_56 (by decide) ?_
                refine vj_bipush (v := 14) C dMo_threat_57 (by decide) ?_
                refine vj_cV (ci := 9) (As := [.int 0, .int 14]) (st := []) (b := a0) (a1 := 2) C dMo_threat_59 (cm_Mo_copy _ _ _ _ _) rfl gv_Mo_178 rfl rfl rfl hv_Mo_copy ⟨Nat.le_of_ble_eq_true rfl, Nat.le_of_ble_eq_true rfl⟩ rfl rfl (Nat.le_of_ble_eq_true rfl) ⟨Nat.le_of_ble_eq_true rfl, Nat.le_of_ble_eq_true rfl⟩ (fun _ M59 => ?_)
                show Vj x 0 0 62 [(0, .ref a0), (1, .int p1), (2, .int p2), (3, .int w42_3)] [] M59 _
                refine vj_aload_n (j := 0) C dMo_threat_62 rfl rfl ?_
                refine vj_bipush (v := 14) C dMo_threat_63 (by decide) ?_
                refine vj_iload_n (j := 3) C dMo_threat_65 rfl rfl ?_
                refine vj_iconst (v := 5) C dMo_threat_66 (by decide) ?_
                refine vj_idiv C dMo_threat_67 (by decide) ?_
                refine vj_iload_n (j := 3) C dMo_threat_68 rfl rfl ?_
                refine vj_iconst (v := 5) C dMo_threat_69 (by decide) ?_
                refine vj_irem C dMo_threat_70 (by decide) ?_
                refine vj_cV (ci := 9) (As := [.int 14, .int (w42_3 / 5), .int (w42_3 - w42_3 / 5 * 5)]) (st := []) (b := a0) (a1 := 3) C dMo_threat_71 (cm_Mo_eventIn _ _ _ _ _ _) rfl gv_Mo_191 rfl rfl rfl hv_Mo_eventIn ⟨Nat.le_of_ble_eq_true rfl, Nat.le_of_ble_eq_true rfl⟩ rfl rfl (Nat.le_of_ble_eq_true rfl) ⟨Nat.le_of_ble_eq_true rfl, Nat.le_of_ble_eq_true rfl⟩ (fun _ M71 => ?_)
                show Vj x 0 0 74 [(0, .ref a0), (1, .int p1), (2, .int p2), (3, .int w42_3)] [] M71 _
                refine vj_aload_n (j := 0) C dMo_threat_74 rfl rfl ?_
                refine vj_gi C dMo_threat_75 lf_Mo_109 rfl (fun v75 => ?_)
                refine vj_jp (fun (j : Int32 → Rr) => ∀ s93_0, Vj x 0 0 93 [(0, .ref a0), (1, .int p1), (2, .int p2), (3, .int w42_3)] [.int s93_0] M71 (j s93_0)) ?_ ?_
                · intro s93_0
                  refine vj_istore (lv' := [(0, .ref a0), (1, .int p1), (2, .int p2), (3, .int w42_3), (4, .int s93_0)]) C dMo_threat_93 (by decide) [1, 2, 3, 4, 0] rfl ?_
                  refine vj_iload (j := 4) C dMo_threat_95 rfl ?_
                  refine vj_if_eq (tgt := 113) C dMo_threat_97 rfl ?_ ?_
                  · skip
                    refine vj_lk (lv' := [(0, .ref a0), (1, .int p1), (2, .int p2), (3, .int w42_3)]) [0, 1, 2, 3] rfl ?_
                    exact hj113 _
                  · skip
                    refine vj_aload_n (j := 0) C dMo_threat_100 rfl rfl ?_
                    refine vj_bipush (v := 14) C dMo_threat_101 (by decide) ?_
                    refine vj_iload_n (j := 1) C dMo_threat_103 rfl rfl ?_
                    refine vj_iload_n (j := 2) C dMo_threat_104 rfl rfl ?_
                    refine vj_cV (ci := 9) (As := [.int 14, .int p1, .int p2]) (st := []) (b := a0) (a1 := 3) C dMo_threat_105 (cm_Mo_firstCourse _ _ _ _ _ _) rfl gv_Mo_211 rfl rfl rfl hv_Mo_firstCourse ⟨Nat.le_of_ble_eq_true rfl, Nat.le_of_ble_eq_true rfl⟩ rfl rfl (Nat.le_of_ble_eq_true rfl) ⟨Nat.le_of_ble_eq_true rfl, Nat.le_of_ble_eq_true rfl⟩ (fun v105 M105 => ?_)
                    show Vj x 0 0 108 [(0, .ref a0), (1, .int p1), (2, .int p2), (3, .int w42_3), (4, .int s93_0)] [.int v105] M105 _
                    refine vj_if_ge (tgt := 113) C dMo_threat_108 rfl ?_ ?_
                    · skip
                      refine vj_lk (lv' := [(0, .ref a0), (1, .int p1), (2, .int p2), (3, .int w42_3)]) [0, 1, 2, 3] rfl ?_
                      exact hj113 _
                    · skip
                      refine vj_iload_n (j := 3) C dMo_threat_111 rfl rfl ?_
                      exact vj_ret C dMo_threat_112 rfl rfl (Nat.le_of_ble_eq_true rfl) (Nat.le_of_ble_eq_true rfl)
                · intro j93 hj93
                  refine vj_jp (fun (j : Rr) => Vj x 0 0 92 [(0, .ref a0), (1, .int p1), (2, .int p2), (3, .int w42_3)] [] M71 j) ?_ ?_
                  · skip
                    refine vj_iconst (v := 0) C dMo_threat_92 (by decide) ?_
                    exact hj93 _
                  · intro j92 hj92
                    refine vj_if_ne (tgt := 92) C dMo_threat_78 rfl ?_ ?_
                    · skip
                      exact hj92
                    · skip
                      refine vj_aload_n (j := 0) C dMo_threat_81 rfl rfl ?_
                      refine vj_gi C dMo_threat_82 lf_Mo_131 rfl (fun v82 => ?_)
                      refine vj_if_ne (tgt := 92) C dMo_threat_85 rfl ?_ ?_
                      · skip
                        exact hj92
                      · skip
                        refine vj_iconst (v := 1) C dMo_threat_88 (by decide) ?_
                        refine vj_goto (tgt := 93) C dMo_threat_89 rfl ?_
                        exact hj93 _
        exact hg42x _ _ _
      · skip
        refine vj_lk (lv' := [(0, .ref a0)]) [0] rfl ?_
        exact hj27 _
