def fn_Mo_breach (M : Mm) (a0 : Nat) (p1 : Int32) (p2 : Int32) : Rr := fo_nm (((71 * p1) + 61) + p2) fun v9 => fo_gr M 9 a0 19 fun a11 => fo_gr M 9 a0 19 fun a16 => fo_ai M 0 a16 v9 fun v20 => fo_si M a11 v9 (v20 + 1) fun M23 => fo_gi M23 9 a0 24 fun v26 => fo_pi M23 9 a0 24 (v26 + 1) fun M31 => fo_gi M31 9 a0 25 fun v36 => fo_gr M31 9 a0 16 fun a41 => fo_gi M31 9 a0 5 fun v47 => fo_ai M31 0 a41 ((10 * v47) + p2) fun v53 => fo_pi M31 9 a0 25 (v36 ||| (1 <<< (v53 &&& 31))) fun M56 => fo_cv M56 9 a0 (fn_Mo_await M56 a0 2 p2 0) fun _ M63 => some (0, M63)
set_option maxHeartbeats 4000000 in
set_option maxRecDepth 100000 in
theorem cm_Mo_breach (l : Launch) (M : Mm) (a0 : Nat) (p1 : Int32) (p2 : Int32) : ct l zyMo_breach ws_Mo_breach { frames := 1, cells := 0, slots := 0, locals := 26 } 0 0 (fun _ => none) [.ref a0, .int p1, .int p2] M (fn_Mo_breach M a0 p1 p2) := by
  refine ct_of (cc := zbMo_breach) (maxL := 4) (ret := none) (lv0 := [(0, .ref a0), (1, .int p1), (2, .int p2)]) (by decide) rfl (Nat.le_of_ble_eq_true rfl) rfl rfl ?_
  intro x C
  unfold fn_Mo_breach
  refine vj_bipush (v := 71) C dMo_breach_0 (by decide) ?_
  refine vj_iload_n (j := 1) C dMo_breach_2 rfl rfl ?_
  refine vj_imul C dMo_breach_3 ?_
  refine vj_bipush (v := 61) C dMo_breach_4 (by decide) ?_
  refine vj_iadd C dMo_breach_6 ?_
  refine vj_iload_n (j := 2) C dMo_breach_7 rfl rfl ?_
  refine vj_iadd C dMo_breach_8 ?_
  refine vj_nm (fun v9 => ?_)
  refine vj_istore_n (lv' := [(0, .ref a0), (2, .int p2), (3, .int v9)]) C dMo_breach_9 rfl (by decide) [1, 3, 0] rfl ?_
  refine vj_aload_n (j := 0) C dMo_breach_10 rfl rfl ?_
  refine vj_gr C dMo_breach_11 lf_Mo_54 rfl (fun a11 => ?_)
  refine vj_iload_n (j := 2) C dMo_breach_14 rfl rfl ?_
  refine vj_aload_n (j := 0) C dMo_breach_15 rfl rfl ?_
  refine vj_gr C dMo_breach_16 lf_Mo_54 rfl (fun a16 => ?_)
  refine vj_iload_n (j := 2) C dMo_breach_19 rfl rfl ?_
  refine vj_iald C dMo_breach_20 (by decide) (fun v20 => ?_)
  refine vj_iconst (v := 1) C dMo_breach_21 (by decide) ?_
  refine vj_iadd C dMo_breach_22 ?_
  refine vj_iast C dMo_breach_23 (fun M23 => ?_)
  refine vj_aload_n (j := 0) C dMo_breach_24 rfl rfl ?_
  refine vj_aload_n (j := 0) C dMo_breach_25 rfl rfl ?_
  refine vj_gi C dMo_breach_26 lf_Mo_131 rfl (fun v26 => ?_)
  refine vj_iconst (v := 1) C dMo_breach_29 (by decide) ?_
  refine vj_iadd C dMo_breach_30 ?_
  refine vj_pi C dMo_breach_31 lf_Mo_131 lq_9_24 rfl (fun M31 => ?_)
  refine vj_aload_n (j := 0) C dMo_breach_34 rfl rfl ?_
  refine vj_aload_n (j := 0) C dMo_breach_35 rfl rfl ?_
  refine vj_gi C dMo_breach_36 lf_Mo_134 rfl (fun v36 => ?_)
  refine vj_iconst (v := 1) C dMo_breach_39 (by decide) ?_
  refine vj_aload_n (j := 0) C dMo_breach_40 rfl rfl ?_
  refine vj_gr C dMo_breach_41 lf_Mo_45 rfl (fun a41 => ?_)
  refine vj_bipush (v := 10) C dMo_breach_44 (by decide) ?_
  refine vj_aload_n (j := 0) C dMo_breach_46 rfl rfl ?_
  refine vj_gi C dMo_breach_47 lf_Mo_112 rfl (fun v47 => ?_)
  refine vj_imul C dMo_breach_50 ?_
  refine vj_iload_n (j := 1) C dMo_breach_51 rfl rfl ?_
  refine vj_iadd C dMo_breach_52 ?_
  refine vj_iald C dMo_breach_53 (by decide) (fun v53 => ?_)
  refine vj_ishl C dMo_breach_54 ?_
  refine vj_ior C dMo_breach_55 ?_
  refine vj_pi C dMo_breach_56 lf_Mo_134 lq_9_25 rfl (fun M56 => ?_)
  refine vj_aload_n (j := 0) C dMo_breach_59 rfl rfl ?_
  refine vj_iconst (v := 2) C dMo_breach_60 (by decide) ?_
  refine vj_iload_n (j := 1) C dMo_breach_61 rfl rfl ?_
  refine vj_iconst (v := 0) C dMo_breach_62 (by decide) ?_
  refine vj_cV (ci := 9) (As := [.int 2, .int p2, .int 0]) (st := []) (b := a0) (a1 := 3) C dMo_breach_63 (cm_Mo_await _ _ _ _ _ _) rfl gv_Mo_137 rfl rfl rfl hv_Mo_await ⟨Nat.le_of_ble_eq_true rfl, Nat.le_of_ble_eq_true rfl⟩ rfl rfl (Nat.le_of_ble_eq_true rfl) ⟨Nat.le_of_ble_eq_true rfl, Nat.le_of_ble_eq_true rfl⟩ (fun _ M63 => ?_)
  show Vj x 0 0 66 [(0, .ref a0), (2, .int p2), (3, .int v9)] [] M63 _
  exact vj_retv C dMo_breach_66 rfl rfl (Nat.le_of_ble_eq_true rfl) (Nat.le_of_ble_eq_true rfl)
def fn_Mo_act (M : Mm) (a0 : Nat) (p1 : Int32) (p2 : Int32) : Rr := fo_gi M 9 a0 5 fun v3 => fo_nm ((10 * v3) + p2) fun v9 => fo_gr M 9 a0 19 fun a11 => fo_ai M 0 a11 (71 * p1) fun v18 => fo_gr M 9 a0 15 fun a22 => fo_ai M 0 a22 v9 fun v26 => if v26 = 0 then fo_gr M 9 a0 18 fun a42 => fo_ai M 0 a42 v9 fun v46 => fo_cv M 9 a0 (fn_Mo_dayAfter M a0 v18 v46) fun v47 M47 => fo_cv M47 9 a0 (fn_Mo_put M47 a0 p1 1 p2 v47) fun _ M50 => some (0, M50) else if 3 ≤ v26 then if v26 = 3 then fo_gr M 9 a0 16 fun a108 => fo_ai M 0 a108 v9 fun v112 => fo_gr M 9 a0 17 fun a116 => fo_ai M 0 a116 v9 fun v120 => fo_nm ((((71 * p1) + 52) + (3 * v112)) + v120) fun v122 => fo_gi M 9 a0 23 fun v126 => fo_jp (fun (s157_1 : Int32) => fo_pz M 9 a0 23 s157_1 fun M157 => fo_gr M157 9 a0 19 fun a161 => fo_gr M157 9 a0 19 fun a167 => fo_ai M157 0 a167 v122 fun v172 => fo_gr M157 9 a0 18 fun a174 => fo_ai M157 0 a174 v9 fun v178 => fo_si M157 a161 v122 (v172 + v178) fun M180 => some (0, M180)) (fun j157 => fo_jp (j157 1) (fun j152 => if v126 = 0 then fo_gr M 9 a0 19 fun a133 => fo_ai M 0 a133 v122 fun v138 => fo_gr M 9 a0 18 fun a140 => fo_ai M 0 a140 v9 fun v144 => if (v138 + v144) ≤ 999 then j157 0 else j152 else j152)) else fo_gr M 9 a0 22 fun a185 => fo_gi M 9 a0 21 fun v189 => fo_gr M 9 a0 16 fun a193 => fo_ai M 0 a193 v9 fun v197 => fo_si M a185 v189 v197 fun M198 => fo_gi M198 9 a0 21 fun v201 => fo_pi M198 9 a0 21 (v201 + 1) fun M206 => some (0, M206) else fo_jp (fun (s77_2 : Int32) => fo_gr M 9 a0 18 fun a81 => fo_ai M 0 a81 v9 fun v85 => fo_cv M 9 a0 (fn_Mo_put M a0 p1 s77_2 p2 (v18 + v85)) fun _ M87 => some (0, M87)) (fun j77 => if v26 = 1 then j77 18 else j77 35)
set_option maxHeartbeats 4000000 in
set_option maxRecDepth 100000 in
theorem cm_Mo_act (l : Launch) (M : Mm) (a0 : Nat) (p1 : Int32) (p2 : Int32) : ct l zyMo_act ws_Mo_act { frames := 1, cells := 0, slots := 0, locals := 25 } 0 0 (fun _ => none) [.ref a0, .int p1, .int p2] M (fn_Mo_act M a0 p1 p2) := by
  refine ct_of (cc := zbMo_act) (maxL := 7) (ret := none) (lv0 := [(0, .ref a0), (1, .int p1), (2, .int p2)]) (by decide) rfl (Nat.le_of_ble_eq_true rfl) rfl rfl ?_
  intro x C
  unfold fn_Mo_act
  refine vj_bipush (v := 10) C dMo_act_0 (by decide) ?_
  refine vj_aload_n (j := 0) C dMo_act_2 rfl rfl ?_
  refine vj_gi C dMo_act_3 lf_Mo_112 rfl (fun v3 => ?_)
  refine vj_imul C dMo_act_6 ?_
  refine vj_iload_n (j := 2) C dMo_act_7 rfl rfl ?_
  refine vj_iadd C dMo_act_8 ?_
  refine vj_nm (fun v9 => ?_)
  refine vj_istore_n (lv' := [(0, .ref a0), (1, .int p1), (2, .int p2), (3, .int v9)]) C dMo_act_9 rfl (by decide) [1, 2, 3, 0] rfl ?_
  refine vj_aload_n (j := 0) C dMo_act_10 rfl rfl ?_
  refine vj_gr C dMo_act_11 lf_Mo_54 rfl (fun a11 => ?_)
  refine vj_bipush (v := 71) C dMo_act_14 (by decide) ?_
  refine vj_iload_n (j := 1) C dMo_act_16 rfl rfl ?_
  refine vj_imul C dMo_act_17 ?_
  refine vj_iald C dMo_act_18 (by decide) (fun v18 => ?_)
  refine vj_istore (lv' := [(0, .ref a0), (1, .int p1), (2, .int p2), (3, .int v9), (4, .int v18)]) C dMo_act_19 (by decide) [1, 2, 3, 4, 0] rfl ?_
  refine vj_aload_n (j := 0) C dMo_act_21 rfl rfl ?_
  refine vj_gr C dMo_act_22 lf_Mo_42 rfl (fun a22 => ?_)
  refine vj_iload_n (j := 3) C dMo_act_25 rfl rfl ?_
  refine vj_iald C dMo_act_26 (by decide) (fun v26 => ?_)
  refine vj_istore (lv' := [(0, .ref a0), (1, .int p1), (2, .int p2), (3, .int v9), (4, .int v18), (5, .int v26)]) C dMo_act_27 (by decide) [1, 2, 3, 4, 5, 0] rfl ?_
  refine vj_iload (j := 5) C dMo_act_29 rfl ?_
  refine vj_if_ne (tgt := 56) C dMo_act_31 rfl ?_ ?_
  · skip
    refine vj_iload (j := 5) C dMo_act_56 rfl ?_
    refine vj_iconst (v := 3) C dMo_act_58 (by decide) ?_
    refine vj_icmp_ge (tgt := 93) C dMo_act_59 rfl ?_ ?_
    · skip
      refine vj_iload (j := 5) C dMo_act_93 rfl ?_
      refine vj_iconst (v := 3) C dMo_act_95 (by decide) ?_
      refine vj_icmp_ne (tgt := 184) C dMo_act_96 rfl ?_ ?_
      · skip
        refine vj_aload_n (j := 0) C dMo_act_184 rfl rfl ?_
        refine vj_gr C dMo_act_185 lf_Mo_57 rfl (fun a185 => ?_)
        refine vj_aload_n (j := 0) C dMo_act_188 rfl rfl ?_
        refine vj_gi C dMo_act_189 lf_Mo_128 rfl (fun v189 => ?_)
        refine vj_aload_n (j := 0) C dMo_act_192 rfl rfl ?_
        refine vj_gr C dMo_act_193 lf_Mo_45 rfl (fun a193 => ?_)
        refine vj_iload_n (j := 3) C dMo_act_196 rfl rfl ?_
        refine vj_iald C dMo_act_197 (by decide) (fun v197 => ?_)
        refine vj_iast C dMo_act_198 (fun M198 => ?_)
        refine vj_aload_n (j := 0) C dMo_act_199 rfl rfl ?_
        refine vj_aload_n (j := 0) C dMo_act_200 rfl rfl ?_
        refine vj_gi C dMo_act_201 lf_Mo_128 rfl (fun v201 => ?_)
        refine vj_iconst (v := 1) C dMo_act_204 (by decide) ?_
        refine vj_iadd C dMo_act_205 ?_
        refine vj_pi C dMo_act_206 lf_Mo_128 lq_9_21 rfl (fun M206 => ?_)
        exact vj_retv C dMo_act_209 rfl rfl (Nat.le_of_ble_eq_true rfl) (Nat.le_of_ble_eq_true rfl)
      · skip
        refine vj_bipush (v := 71) C dMo_act_99 (by decide) ?_
        refine vj_iload_n (j := 1) C dMo_act_101 rfl rfl ?_
        refine vj_imul C dMo_act_102 ?_
        refine vj_bipush (v := 52) C dMo_act_103 (by decide) ?_
        refine vj_iadd C dMo_act_105 ?_
        refine vj_iconst (v := 3) C dMo_act_106 (by decide) ?_
        refine vj_aload_n (j := 0) C dMo_act_107 rfl rfl ?_
        refine vj_gr C dMo_act_108 lf_Mo_45 rfl (fun a108 => ?_)
        refine vj_iload_n (j := 3) C dMo_act_111 rfl rfl ?_
        refine vj_iald C dMo_act_112 (by decide) (fun v112 => ?_)
        refine vj_imul C dMo_act_113 ?_
        refine vj_iadd C dMo_act_114 ?_
        refine vj_aload_n (j := 0) C dMo_act_115 rfl rfl ?_
        refine vj_gr C dMo_act_116 lf_Mo_48 rfl (fun a116 => ?_)
        refine vj_iload_n (j := 3) C dMo_act_119 rfl rfl ?_
        refine vj_iald C dMo_act_120 (by decide) (fun v120 => ?_)
        refine vj_iadd C dMo_act_121 ?_
        refine vj_nm (fun v122 => ?_)
        refine vj_istore (lv' := [(0, .ref a0), (3, .int v9), (6, .int v122)]) C dMo_act_122 (by decide) [1, 4, 0] rfl ?_
        refine vj_aload_n (j := 0) C dMo_act_124 rfl rfl ?_
        refine vj_aload_n (j := 0) C dMo_act_125 rfl rfl ?_
        refine vj_gi C dMo_act_126 lf_Mo_109 rfl (fun v126 => ?_)
        refine vj_jp (fun (j : Int32 → Rr) => ∀ s157_1, Vj x 0 0 157 [(0, .ref a0), (3, .int v9), (6, .int v122)] [.int s157_1, .ref a0] M (j s157_1)) ?_ ?_
        · intro s157_1
          refine vj_pz C dMo_act_157 lf_Mo_109 lq_9_23 rfl (fun M157 => ?_)
          refine vj_aload_n (j := 0) C dMo_act_160 rfl rfl ?_
          refine vj_gr C dMo_act_161 lf_Mo_54 rfl (fun a161 => ?_)
          refine vj_iload (j := 2) C dMo_act_164 rfl ?_
          refine vj_aload_n (j := 0) C dMo_act_166 rfl rfl ?_
          refine vj_gr C dMo_act_167 lf_Mo_54 rfl (fun a167 => ?_)
          refine vj_iload (j := 2) C dMo_act_170 rfl ?_
          refine vj_iald C dMo_act_172 (by decide) (fun v172 => ?_)
          refine vj_aload_n (j := 0) C dMo_act_173 rfl rfl ?_
          refine vj_gr C dMo_act_174 lf_Mo_51 rfl (fun a174 => ?_)
          refine vj_iload_n (j := 1) C dMo_act_177 rfl rfl ?_
          refine vj_iald C dMo_act_178 (by decide) (fun v178 => ?_)
          refine vj_iadd C dMo_act_179 ?_
          refine vj_iast C dMo_act_180 (fun M180 => ?_)
          refine vj_goto (tgt := 209) C dMo_act_181 rfl ?_
          exact vj_retv C dMo_act_209 rfl rfl (Nat.le_of_ble_eq_true rfl) (Nat.le_of_ble_eq_true rfl)
        · intro j157 hj157
          refine vj_jp (fun (j : Rr) => Vj x 0 0 152 [(0, .ref a0), (3, .int v9), (6, .int v122)] [.ref a0] M j) ?_ ?_
          · skip
            refine vj_iconst (v := 1) C dMo_act_152 (by decide) ?_
            refine vj_goto (tgt := 157) C dMo_act_153 rfl ?_
            exact hj157 _
          · intro j152 hj152
            refine vj_if_ne (tgt := 152) C dMo_act_129 rfl ?_ ?_
            · skip
              exact hj152
            · skip
              refine vj_aload_n (j := 0) C dMo_act_132 rfl rfl ?_
              refine vj_gr C dMo_act_133 lf_Mo_54 rfl (fun a133 => ?_)
              refine vj_iload (j := 2) C dMo_act_136 rfl ?_
              refine vj_iald C dMo_act_138 (by decide) (fun v138 => ?_)
              refine vj_aload_n (j := 0) C dMo_act_139 rfl rfl ?_
              refine vj_gr C dMo_act_140 lf_Mo_51 rfl (fun a140 => ?_)
              refine vj_iload_n (j := 1) C dMo_act_143 rfl rfl ?_
              refine vj_iald C dMo_act_144 (by decide) (fun v144 => ?_)
              refine vj_iadd C dMo_act_145 ?_
              refine vj_sipush (v := 999) C dMo_act_146 (by decide) ?_
              refine vj_icmp_le (tgt := 156) C dMo_act_149 rfl ?_ ?_
              · skip
                refine vj_iconst (v := 0) C dMo_act_156 (by decide) ?_
                exact hj157 _
              · skip
                exact hj152
    · skip
      refine vj_aload_n (j := 0) C dMo_act_62 rfl rfl ?_
      refine vj_iload_n (j := 1) C dMo_act_63 rfl rfl ?_
      refine vj_iload (j := 5) C dMo_act_64 rfl ?_
      refine vj_iconst (v := 1) C dMo_act_66 (by decide) ?_
      refine vj_jp (fun (j : Int32 → Rr) => ∀ s77_2, Vj x 0 0 77 [(0, .ref a0), (2, .int p2), (3, .int v9), (4, .int v18)] [.int s77_2, .int p1, .ref a0] M (j s77_2)) ?_ ?_
      · intro s77_2
        refine vj_iload_n (j := 1) C dMo_act_77 rfl rfl ?_
        refine vj_iload (j := 3) C dMo_act_78 rfl ?_
        refine vj_aload_n (j := 0) C dMo_act_80 rfl rfl ?_
        refine vj_gr C dMo_act_81 lf_Mo_51 rfl (fun a81 => ?_)
        refine vj_iload_n (j := 2) C dMo_act_84 rfl rfl ?_
        refine vj_iald C dMo_act_85 (by decide) (fun v85 => ?_)
        refine vj_iadd C dMo_act_86 ?_
        refine vj_cV (ci := 9) (As := [.int p1, .int s77_2, .int p2, .int (v18 + v85)]) (st := []) (b := a0) (a1 := 4) C dMo_act_87 (cm_Mo_put _ _ _ _ _ _ _) rfl gv_Mo_144 rfl rfl rfl hv_Mo_put ⟨Nat.le_of_ble_eq_true rfl, Nat.le_of_ble_eq_true rfl⟩ rfl rfl (Nat.le_of_ble_eq_true rfl) ⟨Nat.le_of_ble_eq_true rfl, Nat.le_of_ble_eq_true rfl⟩ (fun _ M87 => ?_)
        show Vj x 0 0 90 [(0, .ref a0), (2, .int p2), (3, .int v9), (4, .int v18)] [] M87 _
        refine vj_goto (tgt := 209) C dMo_act_90 rfl ?_
        exact vj_retv C dMo_act_209 rfl rfl (Nat.le_of_ble_eq_true rfl) (Nat.le_of_ble_eq_true rfl)
      · intro j77 hj77
        refine vj_icmp_ne (tgt := 75) C dMo_act_67 rfl ?_ ?_
        · skip
          refine vj_bipush (v := 35) C dMo_act_75 (by decide) ?_
          refine vj_lk (lv' := [(0, .ref a0), (2, .int p2), (3, .int v9), (4, .int v18)]) [0, 2, 3, 4] rfl ?_
          exact hj77 _
        · skip
          refine vj_bipush (v := 18) C dMo_act_70 (by decide) ?_
          refine vj_goto (tgt := 77) C dMo_act_72 rfl ?_
          refine vj_lk (lv' := [(0, .ref a0), (2, .int p2), (3, .int v9), (4, .int v18)]) [0, 2, 3, 4] rfl ?_
          exact hj77 _
  · skip
    refine vj_aload_n (j := 0) C dMo_act_34 rfl rfl ?_
    refine vj_iload_n (j := 1) C dMo_act_35 rfl rfl ?_
    refine vj_iconst (v := 1) C dMo_act_36 (by decide) ?_
    refine vj_iload_n (j := 2) C dMo_act_37 rfl rfl ?_
    refine vj_aload_n (j := 0) C dMo_act_38 rfl rfl ?_
    refine vj_iload (j := 4) C dMo_act_39 rfl ?_
    refine vj_aload_n (j := 0) C dMo_act_41 rfl rfl ?_
    refine vj_gr C dMo_act_42 lf_Mo_51 rfl (fun a42 => ?_)
    refine vj_iload_n (j := 3) C dMo_act_45 rfl rfl ?_
    refine vj_iald C dMo_act_46 (by decide) (fun v46 => ?_)
    refine vj_cV (ci := 9) (As := [.int v18, .int v46]) (st := [.int p2, .int 1, .int p1, .ref a0]) (b := a0) (a1 := 2) C dMo_act_47 (cm_Mo_dayAfter _ _ _ _ _) rfl gv_Mo_141 rfl rfl rfl hv_Mo_dayAfter ⟨Nat.le_of_ble_eq_true rfl, Nat.le_of_ble_eq_true rfl⟩ rfl rfl (Nat.le_of_ble_eq_true rfl) ⟨Nat.le_of_ble_eq_true rfl, Nat.le_of_ble_eq_true rfl⟩ (fun v47 M47 => ?_)
    show Vj x 0 0 50 [(0, .ref a0), (1, .int p1), (2, .int p2), (3, .int v9), (4, .int v18), (5, .int v26)] [.int v47, .int p2, .int 1, .int p1, .ref a0] M47 _
    refine vj_cV (ci := 9) (As := [.int p1, .int 1, .int p2, .int v47]) (st := []) (b := a0) (a1 := 4) C dMo_act_50 (cm_Mo_put _ _ _ _ _ _ _) rfl gv_Mo_144 rfl rfl rfl hv_Mo_put ⟨Nat.le_of_ble_eq_true rfl, Nat.le_of_ble_eq_true rfl⟩ rfl rfl (Nat.le_of_ble_eq_true rfl) ⟨Nat.le_of_ble_eq_true rfl, Nat.le_of_ble_eq_true rfl⟩ (fun _ M50 => ?_)
    show Vj x 0 0 53 [(0, .ref a0), (1, .int p1), (2, .int p2), (3, .int v9), (4, .int v18), (5, .int v26)] [] M50 _
    refine vj_goto (tgt := 209) C dMo_act_53 rfl ?_
    exact vj_retv C dMo_act_209 rfl rfl (Nat.le_of_ble_eq_true rfl) (Nat.le_of_ble_eq_true rfl)
def lp_Mo_run_2 (a0 : Nat) (p1 : Int32) (g2 : Mm → Int32 → Rr) (Mh2 : Mm) (w2_2 : Int32) : Rr := fo_gi Mh2 9 a0 21 fun v4 => if v4 ≤ w2_2 then some (0, Mh2) else fo_gi Mh2 9 a0 23 fun v11 => if v11 = 0 then fo_gi Mh2 9 a0 5 fun v20 => fo_gr Mh2 9 a0 22 fun a25 => fo_ai Mh2 0 a25 w2_2 fun v29 => fo_nm ((10 * v20) + v29) fun v31 => fo_gr Mh2 9 a0 11 fun a33 => fo_ai Mh2 1 a33 v31 fun v37 => fo_jp (fun (s83_0 : Int32) => fo_jp (fun (Mj101 : Mm) => g2 Mj101 (w2_2 + 1)) (fun j101 => if s83_0 = 0 then j101 Mh2 else fo_gr Mh2 9 a0 22 fun a93 => fo_ai Mh2 0 a93 w2_2 fun v97 => fo_cv Mh2 9 a0 (fn_Mo_act Mh2 a0 p1 v97) fun _ M98 => j101 M98)) (fun j83 => fo_jp (j83 1) (fun j78 => if v37 = 0 then j78 else fo_gr Mh2 9 a0 19 fun a42 => fo_gr Mh2 9 a0 12 fun a54 => fo_ai Mh2 0 a54 v31 fun v58 => fo_gr Mh2 9 a0 13 fun a62 => fo_ai Mh2 0 a62 v31 fun v66 => fo_ai Mh2 0 a42 ((((71 * p1) + 52) + (3 * v58)) + v66) fun v68 => fo_gr Mh2 9 a0 14 fun a70 => fo_ai Mh2 0 a70 v31 fun v74 => if v68 ≤ v74 then j83 0 else j78)) else some (0, Mh2)
def fn_Mo_run (M : Mm) (a0 : Nat) (p1 : Int32) : Rr := fo_fx (fun _ _ => none) (lp_Mo_run_2 a0 p1) fo_N M 0
set_option maxHeartbeats 4000000 in
set_option maxRecDepth 100000 in
theorem cm_Mo_run (l : Launch) (M : Mm) (a0 : Nat) (p1 : Int32) : ct l zyMo_run ws_Mo_run { frames := 2, cells := 0, slots := 0, locals := 51 } 0 0 (fun _ => none) [.ref a0, .int p1] M (fn_Mo_run M a0 p1) := by
  refine ct_of (cc := zbMo_run) (maxL := 5) (ret := none) (lv0 := [(0, .ref a0), (1, .int p1)]) (by decide) rfl (Nat.le_of_ble_eq_true rfl) rfl rfl ?_
  intro x C
  unfold fn_Mo_run
  refine vj_iconst (v := 0) C dMo_run_0 (by decide) ?_
  refine vj_istore_n (lv' := [(0, .ref a0), (1, .int p1), (2, .int 0)]) C dMo_run_1 rfl (by decide) [1, 2, 0] rfl ?_
  have hg2x : ∀ nf Mh2 w2_2, Vj x 0 0 2 [(0, .ref a0), (1, .int p1), (2, .int w2_2)] [] Mh2 (fo_fx (fun _ _ => none) (lp_Mo_run_2 a0 p1) nf Mh2 w2_2) := by
    intro nf
    refine fo_fx_P (fun (j : Mm → Int32 → Rr) => ∀ Mh2 w2_2, Vj x 0 0 2 [(0, .ref a0), (1, .int p1), (2, .int w2_2)] [] Mh2 (j Mh2 w2_2)) (fun _ _ => Vj_none) ?_ nf
    intro g2 hg2 Mh2 w2_2
    unfold lp_Mo_run_2
    refine vj_iload_n (j := 2) C dMo_run_2 rfl rfl ?_
    refine vj_aload_n (j := 0) C dMo_run_3 rfl rfl ?_
    refine vj_gi C dMo_run_4 lf_Mo_128 rfl (fun v4 => ?_)
    refine vj_icmp_ge (tgt := 107) C dMo_run_7 rfl ?_ ?_
    · skip
      exact vj_retv C dMo_run_107 rfl rfl (Nat.le_of_ble_eq_true rfl) (Nat.le_of_ble_eq_true rfl)
    · skip
      refine vj_aload_n (j := 0) C dMo_run_10 rfl rfl ?_
      refine vj_gi C dMo_run_11 lf_Mo_109 rfl (fun v11 => ?_)
      refine vj_if_ne (tgt := 107) C dMo_run_14 rfl ?_ ?_
      · skip
        exact vj_retv C dMo_run_107 rfl rfl (Nat.le_of_ble_eq_true rfl) (Nat.le_of_ble_eq_true rfl)
      · skip
        refine vj_bipush (v := 10) C dMo_run_17 (by decide) ?_
        refine vj_aload_n (j := 0) C dMo_run_19 rfl rfl ?_
        refine vj_gi C dMo_run_20 lf_Mo_112 rfl (fun v20 => ?_)
        refine vj_imul C dMo_run_23 ?_
        refine vj_aload_n (j := 0) C dMo_run_24 rfl rfl ?_
        refine vj_gr C dMo_run_25 lf_Mo_57 rfl (fun a25 => ?_)
        refine vj_iload_n (j := 2) C dMo_run_28 rfl rfl ?_
        refine vj_iald C dMo_run_29 (by decide) (fun v29 => ?_)
        refine vj_iadd C dMo_run_30 ?_
        refine vj_nm (fun v31 => ?_)
        refine vj_istore_n (lv' := [(0, .ref a0), (1, .int p1), (2, .int w2_2), (3, .int v31)]) C dMo_run_31 rfl (by decide) [1, 2, 3, 0] rfl ?_
        refine vj_aload_n (j := 0) C dMo_run_32 rfl rfl ?_
        refine vj_gr C dMo_run_33 lf_Mo_30 rfl (fun a33 => ?_)
        refine vj_iload_n (j := 3) C dMo_run_36 rfl rfl ?_
        refine vj_zald C dMo_run_37 (by decide) (fun v37 => ?_)
        refine vj_jp (fun (j : Int32 → Rr) => ∀ s83_0, Vj x 0 0 83 [(0, .ref a0), (1, .int p1), (2, .int w2_2)] [.int s83_0] Mh2 (j s83_0)) ?_ ?_
        · intro s83_0
          refine vj_istore (lv' := [(0, .ref a0), (1, .int p1), (2, .int w2_2), (4, .int s83_0)]) C dMo_run_83 (by decide) [1, 2, 3, 0] rfl ?_
          refine vj_iload (j := 3) C dMo_run_85 rfl ?_
          refine vj_jp (fun (j : Mm → Rr) => ∀ Mj101, Vj x 0 0 101 [(0, .ref a0), (1, .int p1), (2, .int w2_2)] [] Mj101 (j Mj101)) ?_ ?_
          · intro Mj101
            refine vj_iinc (j := 2) (b := 1) (lv' := [(0, .ref a0), (1, .int p1), (2, .int (w2_2 + 1))]) C dMo_run_101 rfl (by decide) (by decide) [1, 2, 0] rfl ?_
            refine vj_goto (tgt := 2) C dMo_run_104 rfl ?_
            exact hg2 _ _
          · intro j101 hj101
            refine vj_if_eq (tgt := 101) C dMo_run_87 rfl ?_ ?_
            · skip
              refine vj_lk (lv' := [(0, .ref a0), (1, .int p1), (2, .int w2_2)]) [0, 1, 2] rfl ?_
              exact hj101 _
            · skip
              refine vj_aload_n (j := 0) C dMo_run_90 rfl rfl ?_
              refine vj_iload_n (j := 1) C dMo_run_91 rfl rfl ?_
              refine vj_aload_n (j := 0) C dMo_run_92 rfl rfl ?_
              refine vj_gr C dMo_run_93 lf_Mo_57 rfl (fun a93 => ?_)
              refine vj_iload_n (j := 2) C dMo_run_96 rfl rfl ?_
              refine vj_iald C dMo_run_97 (by decide) (fun v97 => ?_)
              refine vj_cV (ci := 9) (As := [.int p1, .int v97]) (st := []) (b := a0) (a1 := 2) C dMo_run_98 (cm_Mo_act _ _ _ _ _) rfl gv_Mo_148 rfl rfl rfl hv_Mo_act ⟨Nat.le_of_ble_eq_true rfl, Nat.le_of_ble_eq_true rfl⟩ rfl rfl (Nat.le_of_ble_eq_true rfl) ⟨Nat.le_of_ble_eq_true rfl, Nat.le_of_ble_eq_true rfl⟩ (fun _ M98 => ?_)
              show Vj x 0 0 101 [(0, .ref a0), (1, .int p1), (2, .int w2_2), (4, .int s83_0)] [] M98 _
              refine vj_lk (lv' := [(0, .ref a0), (1, .int p1), (2, .int w2_2)]) [0, 1, 2] rfl ?_
              exact hj101 _
        · intro j83 hj83
          refine vj_jp (fun (j : Rr) => Vj x 0 0 78 [(0, .ref a0), (1, .int p1), (2, .int w2_2)] [] Mh2 j) ?_ ?_
          · skip
            refine vj_iconst (v := 1) C dMo_run_78 (by decide) ?_
            refine vj_goto (tgt := 83) C dMo_run_79 rfl ?_
            exact hj83 _
          · intro j78 hj78
            refine vj_if_eq (tgt := 78) C dMo_run_38 rfl ?_ ?_
            · skip
              refine vj_lk (lv' := [(0, .ref a0), (1, .int p1), (2, .int w2_2)]) [0, 1, 2] rfl ?_
              exact hj78
            · skip
              refine vj_aload_n (j := 0) C dMo_run_41 rfl rfl ?_
              refine vj_gr C dMo_run_42 lf_Mo_54 rfl (fun a42 => ?_)
              refine vj_bipush (v := 71) C dMo_run_45 (by decide) ?_
              refine vj_iload_n (j := 1) C dMo_run_47 rfl rfl ?_
              refine vj_imul C dMo_run_48 ?_
              refine vj_bipush (v := 52) C dMo_run_49 (by decide) ?_
              refine vj_iadd C dMo_run_51 ?_
              refine vj_iconst (v := 3) C dMo_run_52 (by decide) ?_
              refine vj_aload_n (j := 0) C dMo_run_53 rfl rfl ?_
              refine vj_gr C dMo_run_54 lf_Mo_33 rfl (fun a54 => ?_)
              refine vj_iload_n (j := 3) C dMo_run_57 rfl rfl ?_
              refine vj_iald C dMo_run_58 (by decide) (fun v58 => ?_)
              refine vj_imul C dMo_run_59 ?_
              refine vj_iadd C dMo_run_60 ?_
              refine vj_aload_n (j := 0) C dMo_run_61 rfl rfl ?_
              refine vj_gr C dMo_run_62 lf_Mo_36 rfl (fun a62 => ?_)
              refine vj_iload_n (j := 3) C dMo_run_65 rfl rfl ?_
              refine vj_iald C dMo_run_66 (by decide) (fun v66 => ?_)
              refine vj_iadd C dMo_run_67 ?_
              refine vj_iald C dMo_run_68 (by decide) (fun v68 => ?_)
              refine vj_aload_n (j := 0) C dMo_run_69 rfl rfl ?_
              refine vj_gr C dMo_run_70 lf_Mo_39 rfl (fun a70 => ?_)
              refine vj_iload_n (j := 3) C dMo_run_73 rfl rfl ?_
              refine vj_iald C dMo_run_74 (by decide) (fun v74 => ?_)
              refine vj_icmp_le (tgt := 82) C dMo_run_75 rfl ?_ ?_
              · skip
                refine vj_iconst (v := 0) C dMo_run_82 (by decide) ?_
                refine vj_lk (lv' := [(0, .ref a0), (1, .int p1), (2, .int w2_2)]) [0, 1, 2] rfl ?_
                exact hj83 _
              · skip
                refine vj_lk (lv' := [(0, .ref a0), (1, .int p1), (2, .int w2_2)]) [0, 1, 2] rfl ?_
                exact hj78
  exact hg2x _ _ _
def fn_Mo_start (M : Mm) (a0 : Nat) : Rr := fo_pi M 9 a0 21 0 fun M2 => fo_pz M2 9 a0 23 0 fun M7 => fo_pi M7 9 a0 24 0 fun M12 => fo_pi M12 9 a0 25 0 fun M17 => some (0, M17)
set_option maxHeartbeats 4000000 in
set_option maxRecDepth 100000 in
theorem cm_Mo_start (l : Launch) (M : Mm) (a0 : Nat) : ct l zyMo_start ws_Mo_start { frames := 0, cells := 0, slots := 0, locals := 0 } 0 0 (fun _ => none) [.ref a0] M (fn_Mo_start M a0) := by
  refine ct_of (cc := zbMo_start) (maxL := 1) (ret := none) (lv0 := [(0, .ref a0)]) (by decide) rfl (Nat.le_of_ble_eq_true rfl) rfl rfl ?_
  intro x C
  unfold fn_Mo_start
  refine vj_aload_n (j := 0) C dMo_start_0 rfl rfl ?_
  refine vj_iconst (v := 0) C dMo_start_1 (by decide) ?_
  refine vj_pi C dMo_start_2 lf_Mo_128 lq_9_21 rfl (fun M2 => ?_)
  refine vj_aload_n (j := 0) C dMo_start_5 rfl rfl ?_
  refine vj_iconst (v := 0) C dMo_start_6 (by decide) ?_
  refine vj_pz C dMo_start_7 lf_Mo_109 lq_9_23 rfl (fun M7 => ?_)
  refine vj_aload_n (j := 0) C dMo_start_10 rfl rfl ?_
  refine vj_iconst (v := 0) C dMo_start_11 (by decide) ?_
  refine vj_pi C dMo_start_12 lf_Mo_131 lq_9_24 rfl (fun M12 => ?_)
  refine vj_aload_n (j := 0) C dMo_start_15 rfl rfl ?_
  refine vj_iconst (v := 0) C dMo_start_16 (by decide) ?_
  refine vj_pi C dMo_start_17 lf_Mo_134 lq_9_25 rfl (fun M17 => ?_)
  exact vj_retv C dMo_start_20 rfl rfl (Nat.le_of_ble_eq_true rfl) (Nat.le_of_ble_eq_true rfl)
def lp_Mo_eventIn_68 (a0 : Nat) (p1 : Int32) (p2 : Int32) (p3 : Int32) (g51 : Mm → Int32 → Rr) (w51_5 : Int32) (g68 : Mm → Int32 → Rr) (Mh68 : Mm) (w68_6 : Int32) : Rr := fo_gr Mh68 9 a0 19 fun a71 => fo_ai Mh68 0 a71 ((71 * p1) + 18) fun v81 => if v81 ≤ w68_6 then g51 Mh68 (w51_5 + 1) else fo_cv Mh68 9 a0 (fn_Mo_clauseAt Mh68 a0 p1 18 w68_6) fun v91 M91 => fo_jp (fun (Mj117 : Mm) => g68 Mj117 (w68_6 + 1)) (fun j117 => if v91 = w51_5 then fo_cv M91 9 a0 (fn_Mo_isOf M91 a0 w51_5 p2 p3) fun v104 M104 => if v104 = 0 then j117 M104 else fo_cv M104 9 a0 (fn_Mo_breach M104 a0 p1 w51_5) fun _ M114 => j117 M114 else j117 M91)
def lp_Mo_eventIn_51 (a0 : Nat) (p1 : Int32) (p2 : Int32) (p3 : Int32) (j129 : Mm → Rr) (v29 : Int32) (g51 : Mm → Int32 → Rr) (Mh51 : Mm) (w51_5 : Int32) : Rr := fo_gi Mh51 9 a0 7 fun v54 => if v54 ≤ w51_5 then j129 Mh51 else if 0 ≤ v29 then j129 Mh51 else fo_fx (fun _ _ => none) (lp_Mo_eventIn_68 a0 p1 p2 p3 g51 w51_5) fo_N Mh51 0
def fn_Mo_eventIn (M : Mm) (a0 : Nat) (p1 : Int32) (p2 : Int32) (p3 : Int32) : Rr := fo_cv M 9 a0 (fn_Mo_start M a0) fun _ M1 => fo_cv M1 9 a0 (fn_Mo_await M1 a0 1 p2 p3) fun _ M8 => fo_cv M8 9 a0 (fn_Mo_first M8 a0 p1 18 p2 p3) fun v17 M17 => fo_jp (fun (Mj129 : Mm) => fo_cv Mj129 9 a0 (fn_Mo_first Mj129 a0 p1 1 p2 p3) fun v134 M134 => fo_jp (fun (Mj170 : Mm) => fo_cv Mj170 9 a0 (fn_Mo_run Mj170 a0 p1) fun _ M172 => some (0, M172)) (fun j170 => if v134 < 0 then j170 M134 else fo_cv M134 9 a0 (fn_Mo_clauseAt M134 a0 p1 1 v134) fun v149 M149 => fo_cv M149 9 a0 (fn_Mo_takeOut M149 a0 p1 1 v134) fun _ M159 => fo_cv M159 9 a0 (fn_Mo_await M159 a0 3 v149 0) fun _ M167 => j170 M167)) (fun j129 => if v17 < 0 then j129 M17 else fo_cv M17 9 a0 (fn_Mo_first M17 a0 p1 35 p2 p3) fun v29 M29 => fo_jp (fun (Mj48 : Mm) => fo_fx (fun _ _ => none) (lp_Mo_eventIn_51 a0 p1 p2 p3 j129 v29) fo_N Mj48 0) (fun j48 => if v29 < 0 then j48 M29 else fo_cv M29 9 a0 (fn_Mo_takeOut M29 a0 p1 35 v29) fun _ M45 => j48 M45))
set_option maxHeartbeats 4000000 in
set_option maxRecDepth 100000 in
theorem cm_Mo_eventIn (l : Launch) (M : Mm) (a0 : Nat) (p1 : Int32) (p2 : Int32) (p3 : Int32) : ct l zyMo_eventIn ws_Mo_eventIn { frames := 3, cells := 0, slots := 0, locals := 75 } 0 0 (fun _ => none) [.ref a0, .int p1, .int p2, .int p3] M (fn_Mo_eventIn M a0 p1 p2 p3) := by
  refine ct_of (cc := zbMo_eventIn) (maxL := 7) (ret := none) (lv0 := [(0, .ref a0), (1, .int p1), (2, .int p2), (3, .int p3)]) (by decide) rfl (Nat.le_of_ble_eq_true rfl) rfl rfl ?_
  intro x C
  unfold fn_Mo_eventIn
  refine vj_aload_n (j := 0) C dMo_eventIn_0 rfl rfl ?_
  refine vj_cV (ci := 9) (As := []) (st := []) (b := a0) (a1 := 0) C dMo_eventIn_1 (cm_Mo_start _ _ _) rfl gv_Mo_152 rfl rfl rfl hv_Mo_start ⟨Nat.le_of_ble_eq_true rfl, Nat.le_of_ble_eq_true rfl⟩ rfl rfl (Nat.le_of_ble_eq_true rfl) ⟨Nat.le_of_ble_eq_true rfl, Nat.le_of_ble_eq_true rfl⟩ (fun _ M1 => ?_)
  show Vj x 0 0 4 [(0, .ref a0), (1, .int p1), (2, .int p2), (3, .int p3)] [] M1 _
  refine vj_aload_n (j := 0) C dMo_eventIn_4 rfl rfl ?_
  refine vj_iconst (v := 1) C dMo_eventIn_5 (by decide) ?_
  refine vj_iload_n (j := 2) C dMo_eventIn_6 rfl rfl ?_
  refine vj_iload_n (j := 3) C dMo_eventIn_7 rfl rfl ?_
  refine vj_cV (ci := 9) (As := [.int 1, .int p2, .int p3]) (st := []) (b := a0) (a1 := 3) C dMo_eventIn_8 (cm_Mo_await _ _ _ _ _ _) rfl gv_Mo_137 rfl rfl rfl hv_Mo_await ⟨Nat.le_of_ble_eq_true rfl, Nat.le_of_ble_eq_true rfl⟩ rfl rfl (Nat.le_of_ble_eq_true rfl) ⟨Nat.le_of_ble_eq_true rfl, Nat.le_of_ble_eq_true rfl⟩ (fun _ M8 => ?_)
  show Vj x 0 0 11 [(0, .ref a0), (1, .int p1), (2, .int p2), (3, .int p3)] [] M8 _
  refine vj_aload_n (j := 0) C dMo_eventIn_11 rfl rfl ?_
  refine vj_iload_n (j := 1) C dMo_eventIn_12 rfl rfl ?_
  refine vj_bipush (v := 18) C dMo_eventIn_13 (by decide) ?_
  refine vj_iload_n (j := 2) C dMo_eventIn_15 rfl rfl ?_
  refine vj_iload_n (j := 3) C dMo_eventIn_16 rfl rfl ?_
  refine vj_cV (ci := 9) (As := [.int p1, .int 18, .int p2, .int p3]) (st := []) (b := a0) (a1 := 4) C dMo_eventIn_17 (cm_Mo_first _ _ _ _ _ _ _) rfl gv_Mo_155 rfl rfl rfl hv_Mo_first ⟨Nat.le_of_ble_eq_true rfl, Nat.le_of_ble_eq_true rfl⟩ rfl rfl (Nat.le_of_ble_eq_true rfl) ⟨Nat.le_of_ble_eq_true rfl, Nat.le_of_ble_eq_true rfl⟩ (fun v17 M17 => ?_)
  show Vj x 0 0 20 [(0, .ref a0), (1, .int p1), (2, .int p2), (3, .int p3)] [.int v17] M17 _
  refine vj_jp (fun (j : Mm → Rr) => ∀ Mj129, Vj x 0 0 129 [(0, .ref a0), (1, .int p1), (2, .int p2), (3, .int p3)] [] Mj129 (j Mj129)) ?_ ?_
  · intro Mj129
    refine vj_aload_n (j := 0) C dMo_eventIn_129 rfl rfl ?_
    refine vj_iload_n (j := 1) C dMo_eventIn_130 rfl rfl ?_
    refine vj_iconst (v := 1) C dMo_eventIn_131 (by decide) ?_
    refine vj_iload_n (j := 2) C dMo_eventIn_132 rfl rfl ?_
    refine vj_iload_n (j := 3) C dMo_eventIn_133 rfl rfl ?_
    refine vj_cV (ci := 9) (As := [.int p1, .int 1, .int p2, .int p3]) (st := []) (b := a0) (a1 := 4) C dMo_eventIn_134 (cm_Mo_first _ _ _ _ _ _ _) rfl gv_Mo_155 rfl rfl rfl hv_Mo_first ⟨Nat.le_of_ble_eq_true rfl, Nat.le_of_ble_eq_true rfl⟩ rfl rfl (Nat.le_of_ble_eq_true rfl) ⟨Nat.le_of_ble_eq_true rfl, Nat.le_of_ble_eq_true rfl⟩ (fun v134 M134 => ?_)
    show Vj x 0 0 137 [(0, .ref a0), (1, .int p1), (2, .int p2), (3, .int p3)] [.int v134] M134 _
    refine vj_istore (lv' := [(0, .ref a0), (1, .int p1), (4, .int v134)]) C dMo_eventIn_137 (by decide) [1, 2, 0] rfl ?_
    refine vj_iload (j := 2) C dMo_eventIn_139 rfl ?_
    refine vj_jp (fun (j : Mm → Rr) => ∀ Mj170, Vj x 0 0 170 [(0, .ref a0), (1, .int p1)] [] Mj170 (j Mj170)) ?_ ?_
    · intro Mj170
      refine vj_aload_n (j := 0) C dMo_eventIn_170 rfl rfl ?_
      refine vj_iload_n (j := 1) C dMo_eventIn_171 rfl rfl ?_
      refine vj_cV (ci := 9) (As := [.int p1]) (st := []) (b := a0) (a1 := 1) C dMo_eventIn_172 (cm_Mo_run _ _ _ _) rfl gv_Mo_165 rfl rfl rfl hv_Mo_run ⟨Nat.le_of_ble_eq_true rfl, Nat.le_of_ble_eq_true rfl⟩ rfl rfl (Nat.le_of_ble_eq_true rfl) ⟨Nat.le_of_ble_eq_true rfl, Nat.le_of_ble_eq_true rfl⟩ (fun _ M172 => ?_)
      show Vj x 0 0 175 [(0, .ref a0), (1, .int p1)] [] M172 _
      exact vj_retv C dMo_eventIn_175 rfl rfl (Nat.le_of_ble_eq_true rfl) (Nat.le_of_ble_eq_true rfl)
    · intro j170 hj170
      refine vj_if_lt (tgt := 170) C dMo_eventIn_141 rfl ?_ ?_
      · skip
        refine vj_lk (lv' := [(0, .ref a0), (1, .int p1)]) [0, 1] rfl ?_
        exact hj170 _
      · skip
        refine vj_aload_n (j := 0) C dMo_eventIn_144 rfl rfl ?_
        refine vj_iload_n (j := 1) C dMo_eventIn_145 rfl rfl ?_
        refine vj_iconst (v := 1) C dMo_eventIn_146 (by decide) ?_
        refine vj_iload (j := 2) C dMo_eventIn_147 rfl ?_
        refine vj_cV (ci := 9) (As := [.int p1, .int 1, .int v134]) (st := []) (b := a0) (a1 := 3) C dMo_eventIn_149 (cm_Mo_clauseAt _ _ _ _ _ _) rfl gv_Mo_115 rfl rfl rfl hv_Mo_clauseAt ⟨Nat.le_of_ble_eq_true rfl, Nat.le_of_ble_eq_true rfl⟩ rfl rfl (Nat.le_of_ble_eq_true rfl) ⟨Nat.le_of_ble_eq_true rfl, Nat.le_of_ble_eq_true rfl⟩ (fun v149 M149 => ?_)
        show Vj x 0 0 152 [(0, .ref a0), (1, .int p1), (4, .int v134)] [.int v149] M149 _
        refine vj_istore (lv' := [(0, .ref a0), (1, .int p1), (4, .int v134), (5, .int v149)]) C dMo_eventIn_152 (by decide) [1, 2, 3, 0] rfl ?_
        refine vj_aload_n (j := 0) C dMo_eventIn_154 rfl rfl ?_
        refine vj_iload_n (j := 1) C dMo_eventIn_155 rfl rfl ?_
        refine vj_iconst (v := 1) C dMo_eventIn_156 (by decide) ?_
        refine vj_iload (j := 2) C dMo_eventIn_157 rfl ?_
        refine vj_cV (ci := 9) (As := [.int p1, .int 1, .int v134]) (st := []) (b := a0) (a1 := 3) C dMo_eventIn_159 (cm_Mo_takeOut _ _ _ _ _ _) rfl gv_Mo_159 rfl rfl rfl hv_Mo_takeOut ⟨Nat.le_of_ble_eq_true rfl, Nat.le_of_ble_eq_true rfl⟩ rfl rfl (Nat.le_of_ble_eq_true rfl) ⟨Nat.le_of_ble_eq_true rfl, Nat.le_of_ble_eq_true rfl⟩ (fun _ M159 => ?_)
        show Vj x 0 0 162 [(0, .ref a0), (1, .int p1), (4, .int v134), (5, .int v149)] [] M159 _
        refine vj_aload_n (j := 0) C dMo_eventIn_162 rfl rfl ?_
        refine vj_iconst (v := 3) C dMo_eventIn_163 (by decide) ?_
        refine vj_iload (j := 3) C dMo_eventIn_164 rfl ?_
        refine vj_iconst (v := 0) C dMo_eventIn_166 (by decide) ?_
        refine vj_cV (ci := 9) (As := [.int 3, .int v149, .int 0]) (st := []) (b := a0) (a1 := 3) C dMo_eventIn_167 (cm_Mo_await _ _ _ _ _ _) rfl gv_Mo_137 rfl rfl rfl hv_Mo_await ⟨Nat.le_of_ble_eq_true rfl, Nat.le_of_ble_eq_true rfl⟩ rfl rfl (Nat.le_of_ble_eq_true rfl) ⟨Nat.le_of_ble_eq_true rfl, Nat.le_of_ble_eq_true rfl⟩ (fun _ M167 => ?_)
        show Vj x 0 0 170 [(0, .ref a0), (1, .int p1), (4, .int v134), (5, .int v149)] [] M167 _
        refine vj_lk (lv' := [(0, .ref a0), (1, .int p1)]) [0, 1] rfl ?_
        exact hj170 _
  · intro j129 hj129
    refine vj_if_lt (tgt := 129) C dMo_eventIn_20 rfl ?_ ?_
    · skip
      exact hj129 _
    · skip
      refine vj_aload_n (j := 0) C dMo_eventIn_23 rfl rfl ?_
      refine vj_iload_n (j := 1) C dMo_eventIn_24 rfl rfl ?_
      refine vj_bipush (v := 35) C dMo_eventIn_25 (by decide) ?_
      refine vj_iload_n (j := 2) C dMo_eventIn_27 rfl rfl ?_
      refine vj_iload_n (j := 3) C dMo_eventIn_28 rfl rfl ?_
      refine vj_cV (ci := 9) (As := [.int p1, .int 35, .int p2, .int p3]) (st := []) (b := a0) (a1 := 4) C dMo_eventIn_29 (cm_Mo_first _ _ _ _ _ _ _) rfl gv_Mo_155 rfl rfl rfl hv_Mo_first ⟨Nat.le_of_ble_eq_true rfl, Nat.le_of_ble_eq_true rfl⟩ rfl rfl (Nat.le_of_ble_eq_true rfl) ⟨Nat.le_of_ble_eq_true rfl, Nat.le_of_ble_eq_true rfl⟩ (fun v29 M29 => ?_)
      show Vj x 0 0 32 [(0, .ref a0), (1, .int p1), (2, .int p2), (3, .int p3)] [.int v29] M29 _
      refine vj_istore (lv' := [(0, .ref a0), (1, .int p1), (2, .int p2), (3, .int p3), (4, .int v29)]) C dMo_eventIn_32 (by decide) [1, 2, 3, 4, 0] rfl ?_
      refine vj_iload (j := 4) C dMo_eventIn_34 rfl ?_
      refine vj_jp (fun (j : Mm → Rr) => ∀ Mj48, Vj x 0 0 48 [(0, .ref a0), (1, .int p1), (2, .int p2), (3, .int p3), (4, .int v29)] [] Mj48 (j Mj48)) ?_ ?_
      · intro Mj48
        refine vj_iconst (v := 0) C dMo_eventIn_48 (by decide) ?_
        refine vj_istore (lv' := [(0, .ref a0), (1, .int p1), (2, .int p2), (3, .int p3), (4, .int v29), (5, .int 0)]) C dMo_eventIn_49 (by decide) [1, 2, 3, 4, 5, 0] rfl ?_
        have hg51x : ∀ nf Mh51 w51_5, Vj x 0 0 51 [(0, .ref a0), (1, .int p1), (2, .int p2), (3, .int p3), (4, .int v29), (5, .int w51_5)] [] Mh51 (fo_fx (fun _ _ => none) (lp_Mo_eventIn_51 a0 p1 p2 p3 j129 v29) nf Mh51 w51_5) := by
          intro nf
          refine fo_fx_P (fun (j : Mm → Int32 → Rr) => ∀ Mh51 w51_5, Vj x 0 0 51 [(0, .ref a0), (1, .int p1), (2, .int p2), (3, .int p3), (4, .int v29), (5, .int w51_5)] [] Mh51 (j Mh51 w51_5)) (fun _ _ => Vj_none) ?_ nf
          intro g51 hg51 Mh51 w51_5
          unfold lp_Mo_eventIn_51
          refine vj_iload (j := 5) C dMo_eventIn_51 rfl ?_
          refine vj_aload_n (j := 0) C dMo_eventIn_53 rfl rfl ?_
          refine vj_gi C dMo_eventIn_54 lf_Mo_125 rfl (fun v54 => ?_)
          refine vj_icmp_ge (tgt := 129) C dMo_eventIn_57 rfl ?_ ?_
          · skip
            refine vj_lk (lv' := [(0, .ref a0), (1, .int p1), (2, .int p2), (3, .int p3)]) [0, 1, 2, 3] rfl ?_
            exact hj129 _
          · skip
            refine vj_iload (j := 4) C dMo_eventIn_60 rfl ?_
            refine vj_if_ge (tgt := 129) C dMo_eventIn_62 rfl ?_ ?_
            · skip
              refine vj_lk (lv' := [(0, .ref a0), (1, .int p1), (2, .int p2), (3, .int p3)]) [0, 1, 2, 3] rfl ?_
              exact hj129 _
            · skip
              refine vj_iconst (v := 0) C dMo_eventIn_65 (by decide) ?_
              refine vj_istore (lv' := [(0, .ref a0), (1, .int p1), (2, .int p2), (3, .int p3), (4, .int v29), (5, .int w51_5), (6, .int 0)]) C dMo_eventIn_66 (by decide) [1, 2, 3, 4, 5, 6, 0] rfl ?_
              have hg68x : ∀ nf Mh68 w68_6, Vj x 0 0 68 [(0, .ref a0), (1, .int p1), (2, .int p2), (3, .int p3), (4, .int v29), (5, .int w51_5), (6, .int w68_6)] [] Mh68 (fo_fx (fun _ _ => none) (lp_Mo_eventIn_68 a0 p1 p2 p3 g51 w51_5) nf Mh68 w68_6) := by
                intro nf
                refine fo_fx_P (fun (j : Mm → Int32 → Rr) => ∀ Mh68 w68_6, Vj x 0 0 68 [(0, .ref a0), (1, .int p1), (2, .int p2), (3, .int p3), (4, .int v29), (5, .int w51_5), (6, .int w68_6)] [] Mh68 (j Mh68 w68_6)) (fun _ _ => Vj_none) ?_ nf
                intro g68 hg68 Mh68 w68_6
                unfold lp_Mo_eventIn_68
                refine vj_iload (j := 6) C dMo_eventIn_68 rfl ?_
                refine vj_aload_n (j := 0) C dMo_eventIn_70 rfl rfl ?_
                refine vj_gr C dMo_eventIn_71 lf_Mo_54 rfl (fun a71 => ?_)
                refine vj_bipush (v := 71) C dMo_eventIn_74 (by decide) ?_
                refine vj_iload_n (j := 1) C dMo_eventIn_76 rfl rfl ?_
                refine vj_imul C dMo_eventIn_77 ?_
                refine vj_bipush (v := 18) C dMo_eventIn_78 (by decide) ?_
                refine vj_iadd C dMo_eventIn_80 ?_
                refine vj_iald C dMo_eventIn_81 (by decide) (fun v81 => ?_)
                refine vj_icmp_ge (tgt := 123) C dMo_eventIn_82 rfl ?_ ?_
                · skip
                  refine vj_iinc (j := 5) (b := 1) (lv' := [(0, .ref a0), (1, .int p1), (2, .int p2), (3, .int p3), (4, .int v29), (5, .int (w51_5 + 1))]) C dMo_eventIn_123 rfl (by decide) (by decide) [1, 2, 3, 4, 5, 0] rfl ?_
                  refine vj_goto (tgt := 51) C dMo_eventIn_126 rfl ?_
                  exact hg51 _ _
                · skip
                  refine vj_aload_n (j := 0) C dMo_eventIn_85 rfl rfl ?_
                  refine vj_iload_n (j := 1) C dMo_eventIn_86 rfl rfl ?_
                  refine vj_bipush (v := 18) C dMo_eventIn_87 (by decide) ?_
                  refine vj_iload (j := 6) C dMo_eventIn_89 rfl ?_
                  refine vj_cV (ci := 9) (As := [.int p1, .int 18, .int w68_6]) (st := []) (b := a0) (a1 := 3) C dMo_eventIn_91 (cm_Mo_clauseAt _ _ _ _ _ _) rfl gv_Mo_115 rfl rfl rfl hv_Mo_clauseAt ⟨Nat.le_of_ble_eq_true rfl, Nat.le_of_ble_eq_true rfl⟩ rfl rfl (Nat.le_of_ble_eq_true rfl) ⟨Nat.le_of_ble_eq_true rfl, Nat.le_of_ble_eq_true rfl⟩ (fun v91 M91 => ?_)
                  show Vj x 0 0 94 [(0, .ref a0), (1, .int p1), (2, .int p2), (3, .int p3), (4, .int v29), (5, .int w51_5), (6, .int w68_6)] [.int v91] M91 _
                  refine vj_iload (j := 5) C dMo_eventIn_94 rfl ?_
                  refine vj_jp (fun (j : Mm → Rr) => ∀ Mj117, Vj x 0 0 117 [(0, .ref a0), (1, .int p1), (2, .int p2), (3, .int p3), (4, .int v29), (5, .int w51_5), (6, .int w68_6)] [] Mj117 (j Mj117)) ?_ ?_
                  · intro Mj117
                    refine vj_iinc (j := 6) (b := 1) (lv' := [(0, .ref a0), (1, .int p1), (2, .int p2), (3, .int p3), (4, .int v29), (5, .int w51_5), (6, .int (w68_6 + 1))]) C dMo_eventIn_117 rfl (by decide) (by decide) [1, 2, 3, 4, 5, 6, 0] rfl ?_
                    refine vj_goto (tgt := 68) C dMo_eventIn_120 rfl ?_
                    exact hg68 _ _
                  · intro j117 hj117
                    refine vj_icmp_ne (tgt := 117) C dMo_eventIn_96 rfl ?_ ?_
                    · skip
                      exact hj117 _
                    · skip
                      refine vj_aload_n (j := 0) C dMo_eventIn_99 rfl rfl ?_
                      refine vj_iload (j := 5) C dMo_eventIn_100 rfl ?_
                      refine vj_iload_n (j := 2) C dMo_eventIn_102 rfl rfl ?_
                      refine vj_iload_n (j := 3) C dMo_eventIn_103 rfl rfl ?_
                      refine vj_cV (ci := 9) (As := [.int w51_5, .int p2, .int p3]) (st := []) (b := a0) (a1 := 3) C dMo_eventIn_104 (cm_Mo_isOf _ _ _ _ _ _) rfl gv_Mo_119 rfl rfl rfl hv_Mo_isOf ⟨Nat.le_of_ble_eq_true rfl, Nat.le_of_ble_eq_true rfl⟩ rfl rfl (Nat.le_of_ble_eq_true rfl) ⟨Nat.le_of_ble_eq_true rfl, Nat.le_of_ble_eq_true rfl⟩ (fun v104 M104 => ?_)
                      show Vj x 0 0 107 [(0, .ref a0), (1, .int p1), (2, .int p2), (3, .int p3), (4, .int v29), (5, .int w51_5), (6, .int w68_6)] [.int v104] M104 _
                      refine vj_if_eq (tgt := 117) C dMo_eventIn_107 rfl ?_ ?_
                      · skip
                        exact hj117 _
                      · skip
                        refine vj_aload_n (j := 0) C dMo_eventIn_110 rfl rfl ?_
                        refine vj_iload_n (j := 1) C dMo_eventIn_111 rfl rfl ?_
                        refine vj_iload (j := 5) C dMo_eventIn_112 rfl ?_
                        refine vj_cV (ci := 9) (As := [.int p1, .int w51_5]) (st := []) (b := a0) (a1 := 2) C dMo_eventIn_114 (cm_Mo_breach _ _ _ _ _) rfl gv_Mo_162 rfl rfl rfl hv_Mo_breach ⟨Nat.le_of_ble_eq_true rfl, Nat.le_of_ble_eq_true rfl⟩ rfl rfl (Nat.le_of_ble_eq_true rfl) ⟨Nat.le_of_ble_eq_true rfl, Nat.le_of_ble_eq_true rfl⟩ (fun _ M114 => ?_)
                        show Vj x 0 0 117 [(0, .ref a0), (1, .int p1), (2, .int p2), (3, .int p3), (4, .int v29), (5, .int w51_5), (6, .int w68_6)] [] M114 _
                        exact hj117 _
              exact hg68x _ _ _
        exact hg51x _ _ _
      · intro j48 hj48
        refine vj_if_lt (tgt := 48) C dMo_eventIn_36 rfl ?_ ?_
        · skip
          exact hj48 _
        · skip
          refine vj_aload_n (j := 0) C dMo_eventIn_39 rfl rfl ?_
          refine vj_iload_n (j := 1) C dMo_eventIn_40 rfl rfl ?_
          refine vj_bipush (v := 35) C dMo_eventIn_41 (by decide) ?_
          refine vj_iload (j := 4) C dMo_eventIn_43 rfl ?_
          refine vj_cV (ci := 9) (As := [.int p1, .int 35, .int v29]) (st := []) (b := a0) (a1 := 3) C dMo_eventIn_45 (cm_Mo_takeOut _ _ _ _ _ _) rfl gv_Mo_159 rfl rfl rfl hv_Mo_takeOut ⟨Nat.le_of_ble_eq_true rfl, Nat.le_of_ble_eq_true rfl⟩ rfl rfl (Nat.le_of_ble_eq_true rfl) ⟨Nat.le_of_ble_eq_true rfl, Nat.le_of_ble_eq_true rfl⟩ (fun _ M45 => ?_)
          show Vj x 0 0 48 [(0, .ref a0), (1, .int p1), (2, .int p2), (3, .int p3), (4, .int v29)] [] M45 _
          exact hj48 _
def lp_Mo_passOver_2 (a0 : Nat) (p1 : Int32) (p2 : Int32) (g2 : Mm → Int32 → Rr) (Mh2 : Mm) (w2_3 : Int32) : Rr := fo_gr Mh2 9 a0 19 fun a4 => fo_ai Mh2 0 a4 ((71 * p1) + p2) fun v13 => if v13 ≤ w2_3 then some (0, Mh2) else fo_cv Mh2 9 a0 (fn_Mo_dayAt Mh2 a0 p1 p2 w2_3) fun v21 M21 => fo_gr M21 9 a0 19 fun a25 => fo_ai M21 0 a25 (71 * p1) fun v32 => if v32 ≤ v21 then fo_nm (w2_3 + 1) fun v49 => g2 M21 v49 else fo_cv M21 9 a0 (fn_Mo_takeOut M21 a0 p1 p2 w2_3) fun _ M40 => g2 M40 w2_3
def fn_Mo_passOver (M : Mm) (a0 : Nat) (p1 : Int32) (p2 : Int32) : Rr := fo_fx (fun _ _ => none) (lp_Mo_passOver_2 a0 p1 p2) fo_N M 0
set_option maxHeartbeats 4000000 in
set_option maxRecDepth 100000 in
theorem cm_Mo_passOver (l : Launch) (M : Mm) (a0 : Nat) (p1 : Int32) (p2 : Int32) : ct l zyMo_passOver ws_Mo_passOver { frames := 1, cells := 0, slots := 0, locals := 25 } 0 0 (fun _ => none) [.ref a0, .int p1, .int p2] M (fn_Mo_passOver M a0 p1 p2) := by
  refine ct_of (cc := zbMo_passOver) (maxL := 4) (ret := none) (lv0 := [(0, .ref a0), (1, .int p1), (2, .int p2)]) (by decide) rfl (Nat.le_of_ble_eq_true rfl) rfl rfl ?_
  intro x C
  unfold fn_Mo_passOver
  refine vj_iconst (v := 0) C dMo_passOver_0 (by decide) ?_
  refine vj_istore_n (lv' := [(0, .ref a0), (1, .int p1), (2, .int p2), (3, .int 0)]) C dMo_passOver_1 rfl (by decide) [1, 2, 3, 0] rfl ?_
  have hg2x : ∀ nf Mh2 w2_3, Vj x 0 0 2 [(0, .ref a0), (1, .int p1), (2, .int p2), (3, .int w2_3)] [] Mh2 (fo_fx (fun _ _ => none) (lp_Mo_passOver_2 a0 p1 p2) nf Mh2 w2_3) := by
    intro nf
    refine fo_fx_P (fun (j : Mm → Int32 → Rr) => ∀ Mh2 w2_3, Vj x 0 0 2 [(0, .ref a0), (1, .int p1), (2, .int p2), (3, .int w2_3)] [] Mh2 (j Mh2 w2_3)) (fun _ _ => Vj_none) ?_ nf
    intro g2 hg2 Mh2 w2_3
    unfold lp_Mo_passOver_2
    refine vj_iload_n (j := 3) C dMo_passOver_2 rfl rfl ?_
    refine vj_aload_n (j := 0) C dMo_passOver_3 rfl rfl ?_
    refine vj_gr C dMo_passOver_4 lf_Mo_54 rfl (fun a4 => ?_)
    refine vj_bipush (v := 71) C dMo_passOver_7 (by decide) ?_
    refine vj_iload_n (j := 1) C dMo_passOver_9 rfl rfl ?_
    refine vj_imul C dMo_passOver_10 ?_
    refine vj_iload_n (j := 2) C dMo_passOver_11 rfl rfl ?_
    refine vj_iadd C dMo_passOver_12 ?_
    refine vj_iald C dMo_passOver_13 (by decide) (fun v13 => ?_)
    refine vj_icmp_ge (tgt := 53) C dMo_passOver_14 rfl ?_ ?_
    · skip
      exact vj_retv C dMo_passOver_53 rfl rfl (Nat.le_of_ble_eq_true rfl) (Nat.le_of_ble_eq_true rfl)
    · skip
      refine vj_aload_n (j := 0) C dMo_passOver_17 rfl rfl ?_
      refine vj_iload_n (j := 1) C dMo_passOver_18 rfl rfl ?_
      refine vj_iload_n (j := 2) C dMo_passOver_19 rfl rfl ?_
      refine vj_iload_n (j := 3) C dMo_passOver_20 rfl rfl ?_
      refine vj_cV (ci := 9) (As := [.int p1, .int p2, .int w2_3]) (st := []) (b := a0) (a1 := 3) C dMo_passOver_21 (cm_Mo_dayAt _ _ _ _ _ _) rfl gv_Mo_122 rfl rfl rfl hv_Mo_dayAt ⟨Nat.le_of_ble_eq_true rfl, Nat.le_of_ble_eq_true rfl⟩ rfl rfl (Nat.le_of_ble_eq_true rfl) ⟨Nat.le_of_ble_eq_true rfl, Nat.le_of_ble_eq_true rfl⟩ (fun v21 M21 => ?_)
      show Vj x 0 0 24 [(0, .ref a0), (1, .int p1), (2, .int p2), (3, .int w2_3)] [.int v21] M21 _
      refine vj_aload_n (j := 0) C dMo_passOver_24 rfl rfl ?_
      refine vj_gr C dMo_passOver_25 lf_Mo_54 rfl (fun a25 => ?_)
      refine vj_bipush (v := 71) C dMo_passOver_28 (by decide) ?_
      refine vj_iload_n (j := 1) C dMo_passOver_30 rfl rfl ?_
      refine vj_imul C dMo_passOver_31 ?_
      refine vj_iald C dMo_passOver_32 (by decide) (fun v32 => ?_)
      refine vj_icmp_ge (tgt := 46) C dMo_passOver_33 rfl ?_ ?_
      · skip
        refine vj_iload_n (j := 3) C dMo_passOver_46 rfl rfl ?_
        refine vj_iconst (v := 1) C dMo_passOver_47 (by decide) ?_
        refine vj_iadd C dMo_passOver_48 ?_
        refine vj_nm (fun v49 => ?_)
        refine vj_istore_n (lv' := [(0, .ref a0), (1, .int p1), (2, .int p2), (3, .int v49)]) C dMo_passOver_49 rfl (by decide) [1, 2, 3, 0] rfl ?_
        refine vj_goto (tgt := 2) C dMo_passOver_50 rfl ?_
        exact hg2 _ _
      · skip
        refine vj_aload_n (j := 0) C dMo_passOver_36 rfl rfl ?_
        refine vj_iload_n (j := 1) C dMo_passOver_37 rfl rfl ?_
        refine vj_iload_n (j := 2) C dMo_passOver_38 rfl rfl ?_
        refine vj_iload_n (j := 3) C dMo_passOver_39 rfl rfl ?_
        refine vj_cV (ci := 9) (As := [.int p1, .int p2, .int w2_3]) (st := []) (b := a0) (a1 := 3) C dMo_passOver_40 (cm_Mo_takeOut _ _ _ _ _ _) rfl gv_Mo_159 rfl rfl rfl hv_Mo_takeOut ⟨Nat.le_of_ble_eq_true rfl, Nat.le_of_ble_eq_true rfl⟩ rfl rfl (Nat.le_of_ble_eq_true rfl) ⟨Nat.le_of_ble_eq_true rfl, Nat.le_of_ble_eq_true rfl⟩ (fun _ M40 => ?_)
        show Vj x 0 0 43 [(0, .ref a0), (1, .int p1), (2, .int p2), (3, .int w2_3)] [] M40 _
        refine vj_goto (tgt := 2) C dMo_passOver_43 rfl ?_
        exact hg2 _ _
  exact hg2x _ _ _
def lp_Mo_endIn_16 (a0 : Nat) (p1 : Int32) (g6 : Mm → Int32 → Rr) (w6_2 : Int32) (g16 : Mm → Int32 → Rr) (Mh16 : Mm) (w16_3 : Int32) : Rr := fo_gr Mh16 9 a0 19 fun a18 => fo_ai Mh16 0 a18 ((71 * p1) + 1) fun v27 => if v27 ≤ w16_3 then g6 Mh16 (w6_2 + 1) else fo_cv Mh16 9 a0 (fn_Mo_clauseAt Mh16 a0 p1 1 w16_3) fun v35 M35 => fo_jp (fun (Mj77 : Mm) => fo_nm (w16_3 + 1) fun v80 => g16 Mj77 v80) (fun j77 => if v35 = w6_2 then fo_cv M35 9 a0 (fn_Mo_dayAt M35 a0 p1 1 w16_3) fun v46 M46 => fo_gr M46 9 a0 19 fun a50 => fo_ai M46 0 a50 (71 * p1) fun v57 => if v57 < v46 then j77 M46 else fo_cv M46 9 a0 (fn_Mo_takeOut M46 a0 p1 1 w16_3) fun _ M65 => fo_cv M65 9 a0 (fn_Mo_breach M65 a0 p1 w6_2) fun _ M71 => g16 M71 w16_3 else j77 M35)
def lp_Mo_endIn_6 (a0 : Nat) (p1 : Int32) (g6 : Mm → Int32 → Rr) (Mh6 : Mm) (w6_2 : Int32) : Rr := fo_gi Mh6 9 a0 7 fun v8 => if v8 ≤ w6_2 then fo_cv Mh6 9 a0 (fn_Mo_run Mh6 a0 p1) fun _ M92 => fo_gr M92 9 a0 19 fun a96 => fo_gr M92 9 a0 19 fun a104 => fo_ai M92 0 a104 (71 * p1) fun v111 => fo_si M92 a96 (71 * p1) (v111 + 1) fun M114 => fo_cv M114 9 a0 (fn_Mo_passOver M114 a0 p1 18) fun _ M119 => fo_cv M119 9 a0 (fn_Mo_passOver M119 a0 p1 35) fun _ M126 => some (0, M126) else fo_fx (fun _ _ => none) (lp_Mo_endIn_16 a0 p1 g6 w6_2) fo_N Mh6 0
def fn_Mo_endIn (M : Mm) (a0 : Nat) (p1 : Int32) : Rr := fo_cv M 9 a0 (fn_Mo_start M a0) fun _ M1 => fo_fx (fun _ _ => none) (lp_Mo_endIn_6 a0 p1) fo_N M1 0
set_option maxHeartbeats 4000000 in
set_option maxRecDepth 100000 in
theorem cm_Mo_endIn (l : Launch) (M : Mm) (a0 : Nat) (p1 : Int32) : ct l zyMo_endIn ws_Mo_endIn { frames := 3, cells := 0, slots := 0, locals := 75 } 0 0 (fun _ => none) [.ref a0, .int p1] M (fn_Mo_endIn M a0 p1) := by
  refine ct_of (cc := zbMo_endIn) (maxL := 4) (ret := none) (lv0 := [(0, .ref a0), (1, .int p1)]) (by decide) rfl (Nat.le_of_ble_eq_true rfl) rfl rfl ?_
  intro x C
  unfold fn_Mo_endIn
  refine vj_aload_n (j := 0) C dMo_endIn_0 rfl rfl ?_
  refine vj_cV (ci := 9) (As := []) (st := []) (b := a0) (a1 := 0) C dMo_endIn_1 (cm_Mo_start _ _ _) rfl gv_Mo_152 rfl rfl rfl hv_Mo_start ⟨Nat.le_of_ble_eq_true rfl, Nat.le_of_ble_eq_true rfl⟩ rfl rfl (Nat.le_of_ble_eq_true rfl) ⟨Nat.le_of_ble_eq_true rfl, Nat.le_of_ble_eq_true rfl⟩ (fun _ M1 => ?_)
  show Vj x 0 0 4 [(0, .ref a0), (1, .int p1)] [] M1 _
  refine vj_iconst (v := 0) C dMo_endIn_4 (by decide) ?_
  refine vj_istore_n (lv' := [(0, .ref a0), (1, .int p1), (2, .int 0)]) C dMo_endIn_5 rfl (by decide) [1, 2, 0] rfl ?_
  have hg6x : ∀ nf Mh6 w6_2, Vj x 0 0 6 [(0, .ref a0), (1, .int p1), (2, .int w6_2)] [] Mh6 (fo_fx (fun _ _ => none) (lp_Mo_endIn_6 a0 p1) nf Mh6 w6_2) := by
    intro nf
    refine fo_fx_P (fun (j : Mm → Int32 → Rr) => ∀ Mh6 w6_2, Vj x 0 0 6 [(0, .ref a0), (1, .int p1), (2, .int w6_2)] [] Mh6 (j Mh6 w6_2)) (fun _ _ => Vj_none) ?_ nf
    intro g6 hg6 Mh6 w6_2
    unfold lp_Mo_endIn_6
    refine vj_iload_n (j := 2) C dMo_endIn_6 rfl rfl ?_
    refine vj_aload_n (j := 0) C dMo_endIn_7 rfl rfl ?_
    refine vj_gi C dMo_endIn_8 lf_Mo_125 rfl (fun v8 => ?_)
    refine vj_icmp_ge (tgt := 90) C dMo_endIn_11 rfl ?_ ?_
    · skip
      refine vj_aload_n (j := 0) C dMo_endIn_90 rfl rfl ?_
      refine vj_iload_n (j := 1) C dMo_endIn_91 rfl rfl ?_
      refine vj_cV (ci := 9) (As := [.int p1]) (st := []) (b := a0) (a1 := 1) C dMo_endIn_92 (cm_Mo_run _ _ _ _) rfl gv_Mo_165 rfl rfl rfl hv_Mo_run ⟨Nat.le_of_ble_eq_true rfl, Nat.le_of_ble_eq_true rfl⟩ rfl rfl (Nat.le_of_ble_eq_true rfl) ⟨Nat.le_of_ble_eq_true rfl, Nat.le_of_ble_eq_true rfl⟩ (fun _ M92 => ?_)
      show Vj x 0 0 95 [(0, .ref a0), (1, .int p1), (2, .int w6_2)] [] M92 _
      refine vj_aload_n (j := 0) C dMo_endIn_95 rfl rfl ?_
      refine vj_gr C dMo_endIn_96 lf_Mo_54 rfl (fun a96 => ?_)
      refine vj_bipush (v := 71) C dMo_endIn_99 (by decide) ?_
      refine vj_iload_n (j := 1) C dMo_endIn_101 rfl rfl ?_
      refine vj_imul C dMo_endIn_102 ?_
      refine vj_aload_n (j := 0) C dMo_endIn_103 rfl rfl ?_
      refine vj_gr C dMo_endIn_104 lf_Mo_54 rfl (fun a104 => ?_)
      refine vj_bipush (v := 71) C dMo_endIn_107 (by decide) ?_
      refine vj_iload_n (j := 1) C dMo_endIn_109 rfl rfl ?_
      refine vj_imul C dMo_endIn_110 ?_
      refine vj_iald C dMo_endIn_111 (by decide) (fun v111 => ?_)
      refine vj_iconst (v := 1) C dMo_endIn_112 (by decide) ?_
      refine vj_iadd C dMo_endIn_113 ?_
      refine vj_iast C dMo_endIn_114 (fun M114 => ?_)
      refine vj_aload_n (j := 0) C dMo_endIn_115 rfl rfl ?_
      refine vj_iload_n (j := 1) C dMo_endIn_116 rfl rfl ?_
      refine vj_bipush (v := 18) C dMo_endIn_117 (by decide) ?_
      refine vj_cV (ci := 9) (As := [.int p1, .int 18]) (st := []) (b := a0) (a1 := 2) C dMo_endIn_119 (cm_Mo_passOver _ _ _ _ _) rfl gv_Mo_169 rfl rfl rfl hv_Mo_passOver ⟨Nat.le_of_ble_eq_true rfl, Nat.le_of_ble_eq_true rfl⟩ rfl rfl (Nat.le_of_ble_eq_true rfl) ⟨Nat.le_of_ble_eq_true rfl, Nat.le_of_ble_eq_true rfl⟩ (fun _ M119 => ?_)
      show Vj x 0 0 122 [(0, .ref a0), (1, .int p1), (2, .int w6_2)] [] M119 _
      refine vj_aload_n (j := 0) C dMo_endIn_122 rfl rfl ?_
      refine vj_iload_n (j := 1) C dMo_endIn_123 rfl rfl ?_
      refine vj_bipush (v := 35) C dMo_endIn_124 (by decide) ?_
      refine vj_cV (ci := 9) (As := [.int p1, .int 35]) (st := []) (b := a0) (a1 := 2) C dMo_endIn_126 (cm_Mo_passOver _ _ _ _ _) rfl gv_Mo_169 rfl rfl rfl hv_Mo_passOver ⟨Nat.le_of_ble_eq_true rfl, Nat.le_of_ble_eq_true rfl⟩ rfl rfl (Nat.le_of_ble_eq_true rfl) ⟨Nat.le_of_ble_eq_true rfl, Nat.le_of_ble_eq_true rfl⟩ (fun _ M126 => ?_)
      show Vj x 0 0 129 [(0, .ref a0), (1, .int p1), (2, .int w6_2)] [] M126 _
      exact vj_retv C dMo_endIn_129 rfl rfl (Nat.le_of_ble_eq_true rfl) (Nat.le_of_ble_eq_true rfl)
    · skip
      refine vj_iconst (v := 0) C dMo_endIn_14 (by decide) ?_
      refine vj_istore_n (lv' := [(0, .ref a0), (1, .int p1), (2, .int w6_2), (3, .int 0)]) C dMo_endIn_15 rfl (by decide) [1, 2, 3, 0] rfl ?_
      have hg16x : ∀ nf Mh16 w16_3, Vj x 0 0 16 [(0, .ref a0), (1, .int p1), (2, .int w6_2), (3, .int w16_3)] [] Mh16 (fo_fx (fun _ _ => none) (lp_Mo_endIn_16 a0 p1 g6 w6_2) nf Mh16 w16_3) := by
        intro nf
        refine fo_fx_P (fun (j : Mm → Int32 → Rr) => ∀ Mh16 w16_3, Vj x 0 0 16 [(0, .ref a0), (1, .int p1), (2, .int w6_2), (3, .int w16_3)] [] Mh16 (j Mh16 w16_3)) (fun _ _ => Vj_none) ?_ nf
        intro g16 hg16 Mh16 w16_3
        unfold lp_Mo_endIn_16
        refine vj_iload_n (j := 3) C dMo_endIn_16 rfl rfl ?_
        refine vj_aload_n (j := 0) C dMo_endIn_17 rfl rfl ?_
        refine vj_gr C dMo_endIn_18 lf_Mo_54 rfl (fun a18 => ?_)
        refine vj_bipush (v := 71) C dMo_endIn_21 (by decide) ?_
        refine vj_iload_n (j := 1) C dMo_endIn_23 rfl rfl ?_
        refine vj_imul C dMo_endIn_24 ?_
        refine vj_iconst (v := 1) C dMo_endIn_25 (by decide) ?_
        refine vj_iadd C dMo_endIn_26 ?_
        refine vj_iald C dMo_endIn_27 (by decide) (fun v27 => ?_)
        refine vj_icmp_ge (tgt := 84) C dMo_endIn_28 rfl ?_ ?_
        · skip
          refine vj_iinc (j := 2) (b := 1) (lv' := [(0, .ref a0), (1, .int p1), (2, .int (w6_2 + 1))]) C dMo_endIn_84 rfl (by decide) (by decide) [1, 2, 0] rfl ?_
          refine vj_goto (tgt := 6) C dMo_endIn_87 rfl ?_
          exact hg6 _ _
        · skip
          refine vj_aload_n (j := 0) C dMo_endIn_31 rfl rfl ?_
          refine vj_iload_n (j := 1) C dMo_endIn_32 rfl rfl ?_
          refine vj_iconst (v := 1) C dMo_endIn_33 (by decide) ?_
          refine vj_iload_n (j := 3) C dMo_endIn_34 rfl rfl ?_
          refine vj_cV (ci := 9) (As := [.int p1, .int 1, .int w16_3]) (st := []) (b := a0) (a1 := 3) C dMo_endIn_35 (cm_Mo_clauseAt _ _ _ _ _ _) rfl gv_Mo_115 rfl rfl rfl hv_Mo_clauseAt ⟨Nat.le_of_ble_eq_true rfl, Nat.le_of_ble_eq_true rfl⟩ rfl rfl (Nat.le_of_ble_eq_true rfl) ⟨Nat.le_of_ble_eq_true rfl, Nat.le_of_ble_eq_true rfl⟩ (fun v35 M35 => ?_)
          show Vj x 0 0 38 [(0, .ref a0), (1, .int p1), (2, .int w6_2), (3, .int w16_3)] [.int v35] M35 _
          refine vj_iload_n (j := 2) C dMo_endIn_38 rfl rfl ?_
          refine vj_jp (fun (j : Mm → Rr) => ∀ Mj77, Vj x 0 0 77 [(0, .ref a0), (1, .int p1), (2, .int w6_2), (3, .int w16_3)] [] Mj77 (j Mj77)) ?_ ?_
          · intro Mj77
            refine vj_iload_n (j := 3) C dMo_endIn_77 rfl rfl ?_
            refine vj_iconst (v := 1) C dMo_endIn_78 (by decide) ?_
            refine vj_iadd C dMo_endIn_79 ?_
            refine vj_nm (fun v80 => ?_)
            refine vj_istore_n (lv' := [(0, .ref a0), (1, .int p1), (2, .int w6_2), (3, .int v80)]) C dMo_endIn_80 rfl (by decide) [1, 2, 3, 0] rfl ?_
            refine vj_goto (tgt := 16) C dMo_endIn_81 rfl ?_
            exact hg16 _ _
          · intro j77 hj77
            refine vj_icmp_ne (tgt := 77) C dMo_endIn_39 rfl ?_ ?_
            · skip
              exact hj77 _
            · skip
              refine vj_aload_n (j := 0) C dMo_endIn_42 rfl rfl ?_
              refine vj_iload_n (j := 1) C dMo_endIn_43 rfl rfl ?_
              refine vj_iconst (v := 1) C dMo_endIn_44 (by decide) ?_
              refine vj_iload_n (j := 3) C dMo_endIn_45 rfl rfl ?_
              refine vj_cV (ci := 9) (As := [.int p1, .int 1, .int w16_3]) (st := []) (b := a0) (a1 := 3) C dMo_endIn_46 (cm_Mo_dayAt _ _ _ _ _ _) rfl gv_Mo_122 rfl rfl rfl hv_Mo_dayAt ⟨Nat.le_of_ble_eq_true rfl, Nat.le_of_ble_eq_true rfl⟩ rfl rfl (Nat.le_of_ble_eq_true rfl) ⟨Nat.le_of_ble_eq_true rfl, Nat.le_of_ble_eq_true rfl⟩ (fun v46 M46 => ?_)
              show Vj x 0 0 49 [(0, .ref a0), (1, .int p1), (2, .int w6_2), (3, .int w16_3)] [.int v46] M46 _
              refine vj_aload_n (j := 0) C dMo_endIn_49 rfl rfl ?_
              refine vj_gr C dMo_endIn_50 lf_Mo_54 rfl (fun a50 => ?_)
              refine vj_bipush (v := 71) C dMo_endIn_53 (by decide) ?_
              refine vj_iload_n (j := 1) C dMo_endIn_55 rfl rfl ?_
              refine vj_imul C dMo_endIn_56 ?_
              refine vj_iald C dMo_endIn_57 (by decide) (fun v57 => ?_)
              refine vj_icmp_gt (tgt := 77) C dMo_endIn_58 rfl ?_ ?_
              · skip
                exact hj77 _
              · skip
                refine vj_aload_n (j := 0) C dMo_endIn_61 rfl rfl ?_
                refine vj_iload_n (j := 1) C dMo_endIn_62 rfl rfl ?_
                refine vj_iconst (v := 1) C dMo_endIn_63 (by decide) ?_
                refine vj_iload_n (j := 3) C dMo_endIn_64 rfl rfl ?_
                refine vj_cV (ci := 9) (As := [.int p1, .int 1, .int w16_3]) (st := []) (b := a0) (a1 := 3) C dMo_endIn_65 (cm_Mo_takeOut _ _ _ _ _ _) rfl gv_Mo_159 rfl rfl rfl hv_Mo_takeOut ⟨Nat.le_of_ble_eq_true rfl, Nat.le_of_ble_eq_true rfl⟩ rfl rfl (Nat.le_of_ble_eq_true rfl) ⟨Nat.le_of_ble_eq_true rfl, Nat.le_of_ble_eq_true rfl⟩ (fun _ M65 => ?_)
                show Vj x 0 0 68 [(0, .ref a0), (1, .int p1), (2, .int w6_2), (3, .int w16_3)] [] M65 _
                refine vj_aload_n (j := 0) C dMo_endIn_68 rfl rfl ?_
                refine vj_iload_n (j := 1) C dMo_endIn_69 rfl rfl ?_
                refine vj_iload_n (j := 2) C dMo_endIn_70 rfl rfl ?_
                refine vj_cV (ci := 9) (As := [.int p1, .int w6_2]) (st := []) (b := a0) (a1 := 2) C dMo_endIn_71 (cm_Mo_breach _ _ _ _ _) rfl gv_Mo_162 rfl rfl rfl hv_Mo_breach ⟨Nat.le_of_ble_eq_true rfl, Nat.le_of_ble_eq_true rfl⟩ rfl rfl (Nat.le_of_ble_eq_true rfl) ⟨Nat.le_of_ble_eq_true rfl, Nat.le_of_ble_eq_true rfl⟩ (fun _ M71 => ?_)
                show Vj x 0 0 74 [(0, .ref a0), (1, .int p1), (2, .int w6_2), (3, .int w16_3)] [] M71 _
                refine vj_goto (tgt := 16) C dMo_endIn_74 rfl ?_
                exact hg16 _ _
      exact hg16x _ _ _
  exact hg6x _ _ _
def lp_Mo_begin_72 (a0 : Nat) (v12 : Int32) (v55 : Int32) (g72 : Mm → Int32 → Rr) (Mh72 : Mm) (w72_4 : Int32) : Rr := if 71 ≤ w72_4 then fo_cv Mh72 9 a0 (fn_Mo_start Mh72 a0) fun _ M98 => fo_cv M98 9 a0 (fn_Mo_await M98 a0 0 0 0) fun _ M105 => fo_cv M105 9 a0 (fn_Mo_run M105 a0 13) fun _ M111 => fo_gi M111 9 a0 23 fun v115 => if v115 = 0 then fo_cv M111 9 a0 (fn_Mo_copy M111 a0 13 0) fun _ M147 => fo_pz M147 9 a0 6 1 fun M152 => fo_pi M152 9 a0 20 0 fun M157 => fo_pi M157 9 a0 1 0 fun M162 => some (v12, M162) else fo_gi M111 9 a0 5 fun v124 => fo_pi M111 9 a0 5 (1 - v124) fun M128 => fo_pi M128 9 a0 7 v55 fun M133 => fo_pi M133 9 a0 0 2 fun M138 => some (0, M138) else fo_gr Mh72 9 a0 19 fun a80 => fo_si Mh72 a80 (923 + w72_4) 0 fun M90 => g72 M90 (w72_4 + 1)
def fn_Mo_begin (M : Mm) (a0 : Nat) : Rr := fo_gi M 9 a0 5 fun v2 => fo_nm (1 - v2) fun v6 => fo_cv M 9 a0 (fn_Mo_readAll M a0 (10 * v6)) fun v12 M12 => fo_cv M12 9 a0 (fn_Mo_faultOf M12 a0 (10 * v6) v12) fun v23 M23 => fo_pi M23 9 a0 3 v23 fun M26 => fo_gi M26 9 a0 3 fun v31 => fo_jp (fun (s42_1 : Int32) => fo_pi M26 9 a0 0 s42_1 fun M42 => fo_gi M42 9 a0 0 fun v46 => if v46 ≤ 0 then fo_gi M42 9 a0 7 fun v55 => fo_pi M42 9 a0 5 v6 fun M61 => fo_pi M61 9 a0 7 v12 fun M66 => fo_fx (fun _ _ => none) (lp_Mo_begin_72 a0 v12 v55) fo_N M66 0 else some (0, M42)) (fun j42 => if v31 < 0 then j42 0 else j42 1)
set_option maxHeartbeats 4000000 in
set_option maxRecDepth 100000 in
theorem cm_Mo_begin (l : Launch) (M : Mm) (a0 : Nat) : ct l zyMo_begin ws_Mo_begin { frames := 6, cells := 0, slots := 0, locals := 134 } 0 0 (fun w => some (.int w)) [.ref a0] M (fn_Mo_begin M a0) := by
  refine ct_of (cc := zbMo_begin) (maxL := 5) (ret := (some .int)) (lv0 := [(0, .ref a0)]) (by decide) rfl (Nat.le_of_ble_eq_true rfl) rfl rfl ?_
  intro x C
  unfold fn_Mo_begin
  refine vj_iconst (v := 1) C dMo_begin_0 (by decide) ?_
  refine vj_aload_n (j := 0) C dMo_begin_1 rfl rfl ?_
  refine vj_gi C dMo_begin_2 lf_Mo_112 rfl (fun v2 => ?_)
  refine vj_isub C dMo_begin_5 ?_
  refine vj_nm (fun v6 => ?_)
  refine vj_istore_n (lv' := [(0, .ref a0), (1, .int v6)]) C dMo_begin_6 rfl (by decide) [1, 0] rfl ?_
  refine vj_aload_n (j := 0) C dMo_begin_7 rfl rfl ?_
  refine vj_bipush (v := 10) C dMo_begin_8 (by decide) ?_
  refine vj_iload_n (j := 1) C dMo_begin_10 rfl rfl ?_
  refine vj_imul C dMo_begin_11 ?_
  refine vj_cV (ci := 9) (As := [.int (10 * v6)]) (st := []) (b := a0) (a1 := 1) C dMo_begin_12 (cm_Mo_readAll _ _ _ _) rfl gv_Mo_172 rfl rfl rfl hv_Mo_readAll ⟨Nat.le_of_ble_eq_true rfl, Nat.le_of_ble_eq_true rfl⟩ rfl rfl (Nat.le_of_ble_eq_true rfl) ⟨Nat.le_of_ble_eq_true rfl, Nat.le_of_ble_eq_true rfl⟩ (fun v12 M12 => ?_)
  show Vj x 0 0 15 [(0, .ref a0), (1, .int v6)] [.int v12] M12 _
  refine vj_istore_n (lv' := [(0, .ref a0), (1, .int v6), (2, .int v12)]) C dMo_begin_15 rfl (by decide) [1, 2, 0] rfl ?_
  refine vj_aload_n (j := 0) C dMo_begin_16 rfl rfl ?_
  refine vj_aload_n (j := 0) C dMo_begin_17 rfl rfl ?_
  refine vj_bipush (v := 10) C dMo_begin_18 (by decide) ?_
  refine vj_iload_n (j := 1) C dMo_begin_20 rfl rfl ?_
  refine vj_imul C dMo_begin_21 ?_
  refine vj_iload_n (j := 2) C dMo_begin_22 rfl rfl ?_
  refine vj_cV (ci := 9) (As := [.int (10 * v6), .int v12]) (st := [.ref a0]) (b := a0) (a1 := 2) C dMo_begin_23 (cm_Mo_faultOf _ _ _ _ _) rfl gv_Mo_175 rfl rfl rfl hv_Mo_faultOf ⟨Nat.le_of_ble_eq_true rfl, Nat.le_of_ble_eq_true rfl⟩ rfl rfl (Nat.le_of_ble_eq_true rfl) ⟨Nat.le_of_ble_eq_true rfl, Nat.le_of_ble_eq_true rfl⟩ (fun v23 M23 => ?_)
  show Vj x 0 0 26 [(0, .ref a0), (1, .int v6), (2, .int v12)] [.int v23, .ref a0] M23 _
  refine vj_pi C dMo_begin_26 lf_Mo_13 lq_9_3 rfl (fun M26 => ?_)
  refine vj_aload_n (j := 0) C dMo_begin_29 rfl rfl ?_
  refine vj_aload_n (j := 0) C dMo_begin_30 rfl rfl ?_
  refine vj_gi C dMo_begin_31 lf_Mo_13 rfl (fun v31 => ?_)
  refine vj_jp (fun (j : Int32 → Rr) => ∀ s42_1, Vj x 0 0 42 [(0, .ref a0), (1, .int v6), (2, .int v12)] [.int s42_1, .ref a0] M26 (j s42_1)) ?_ ?_
  · intro s42_1
    refine vj_pi C dMo_begin_42 lf_Mo_60 lq_9_0 rfl (fun M42 => ?_)
    refine vj_aload_n (j := 0) C dMo_begin_45 rfl rfl ?_
    refine vj_gi C dMo_begin_46 lf_Mo_60 rfl (fun v46 => ?_)
    refine vj_if_le (tgt := 54) C dMo_begin_49 rfl ?_ ?_
    · skip
      refine vj_aload_n (j := 0) C dMo_begin_54 rfl rfl ?_
      refine vj_gi C dMo_begin_55 lf_Mo_125 rfl (fun v55 => ?_)
      refine vj_istore_n (lv' := [(0, .ref a0), (1, .int v6), (2, .int v12), (3, .int v55)]) C dMo_begin_58 rfl (by decide) [1, 2, 3, 0] rfl ?_
      refine vj_aload_n (j := 0) C dMo_begin_59 rfl rfl ?_
      refine vj_iload_n (j := 1) C dMo_begin_60 rfl rfl ?_
      refine vj_pi C dMo_begin_61 lf_Mo_112 lq_9_5 rfl (fun M61 => ?_)
      refine vj_aload_n (j := 0) C dMo_begin_64 rfl rfl ?_
      refine vj_iload_n (j := 2) C dMo_begin_65 rfl rfl ?_
      refine vj_pi C dMo_begin_66 lf_Mo_125 lq_9_7 rfl (fun M66 => ?_)
      refine vj_iconst (v := 0) C dMo_begin_69 (by decide) ?_
      refine vj_istore (lv' := [(0, .ref a0), (2, .int v12), (3, .int v55), (4, .int 0)]) C dMo_begin_70 (by decide) [1, 3, 4, 0] rfl ?_
      have hg72x : ∀ nf Mh72 w72_4, Vj x 0 0 72 [(0, .ref a0), (2, .int v12), (3, .int v55), (4, .int w72_4)] [] Mh72 (fo_fx (fun _ _ => none) (lp_Mo_begin_72 a0 v12 v55) nf Mh72 w72_4) := by
        intro nf
        refine fo_fx_P (fun (j : Mm → Int32 → Rr) => ∀ Mh72 w72_4, Vj x 0 0 72 [(0, .ref a0), (2, .int v12), (3, .int v55), (4, .int w72_4)] [] Mh72 (j Mh72 w72_4)) (fun _ _ => Vj_none) ?_ nf
        intro g72 hg72 Mh72 w72_4
        unfold lp_Mo_begin_72
        refine vj_iload (j := 3) C dMo_begin_72 rfl ?_
        refine vj_bipush (v := 71) C dMo_begin_74 (by decide) ?_
        refine vj_icmp_ge (tgt := 97) C dMo_begin_76 rfl ?_ ?_
        · skip
          refine vj_aload_n (j := 0) C dMo_begin_97 rfl rfl ?_
          refine vj_cV (ci := 9) (As := []) (st := []) (b := a0) (a1 := 0) C dMo_begin_98 (cm_Mo_start _ _ _) rfl gv_Mo_152 rfl rfl rfl hv_Mo_start ⟨Nat.le_of_ble_eq_true rfl, Nat.le_of_ble_eq_true rfl⟩ rfl rfl (Nat.le_of_ble_eq_true rfl) ⟨Nat.le_of_ble_eq_true rfl, Nat.le_of_ble_eq_true rfl⟩ (fun _ M98 => ?_)
          show Vj x 0 0 101 [(0, .ref a0), (2, .int v12), (3, .int v55), (4, .int w72_4)] [] M98 _
          refine vj_aload_n (j := 0) C dMo_begin_101 rfl rfl ?_
          refine vj_iconst (v := 0) C dMo_begin_102 (by decide) ?_
          refine vj_iconst (v := 0) C dMo_begin_103 (by decide) ?_
          refine vj_iconst (v := 0) C dMo_begin_104 (by decide) ?_
          refine vj_cV (ci := 9) (As := [.int 0, .int 0, .int 0]) (st := []) (b := a0) (a1 := 3) C dMo_begin_105 (cm_Mo_await _ _ _ _ _ _) rfl gv_Mo_137 rfl rfl rfl hv_Mo_await ⟨Nat.le_of_ble_eq_true rfl, Nat.le_of_ble_eq_true rfl⟩ rfl rfl (Nat.le_of_ble_eq_true rfl) ⟨Nat.le_of_ble_eq_true rfl, Nat.le_of_ble_eq_true rfl⟩ (fun _ M105 => ?_)
          show Vj x 0 0 108 [(0, .ref a0), (2, .int v12), (3, .int v55), (4, .int w72_4)] [] M105 _
          refine vj_aload_n (j := 0) C dMo_begin_108 rfl rfl ?_
          refine vj_bipush (v := 13) C dMo_begin_109 (by decide) ?_
          refine vj_cV (ci := 9) (As := [.int 13]) (st := []) (b := a0) (a1 := 1) C dMo_begin_111 (cm_Mo_run _ _ _ _) rfl gv_Mo_165 rfl rfl rfl hv_Mo_run ⟨Nat.le_of_ble_eq_true rfl, Nat.le_of_ble_eq_true rfl⟩ rfl rfl (Nat.le_of_ble_eq_true rfl) ⟨Nat.le_of_ble_eq_true rfl, Nat.le_of_ble_eq_true rfl⟩ (fun _ M111 => ?_)
          show Vj x 0 0 114 [(0, .ref a0), (2, .int v12), (3, .int v55), (4, .int w72_4)] [] M111 _
          refine vj_aload_n (j := 0) C dMo_begin_114 rfl rfl ?_
          refine vj_gi C dMo_begin_115 lf_Mo_109 rfl (fun v115 => ?_)
          refine vj_if_eq (tgt := 143) C dMo_begin_118 rfl ?_ ?_
          · skip
            refine vj_aload_n (j := 0) C dMo_begin_143 rfl rfl ?_
            refine vj_bipush (v := 13) C dMo_begin_144 (by decide) ?_
            refine vj_iconst (v := 0) C dMo_begin_146 (by decide) ?_
            refine vj_cV (ci := 9) (As := [.int 13, .int 0]) (st := []) (b := a0) (a1 := 2) C dMo_begin_147 (cm_Mo_copy _ _ _ _ _) rfl gv_Mo_178 rfl rfl rfl hv_Mo_copy ⟨Nat.le_of_ble_eq_true rfl, Nat.le_of_ble_eq_true rfl⟩ rfl rfl (Nat.le_of_ble_eq_true rfl) ⟨Nat.le_of_ble_eq_true rfl, Nat.le_of_ble_eq_true rfl⟩ (fun _ M147 => ?_)
            show Vj x 0 0 150 [(0, .ref a0), (2, .int v12), (3, .int v55), (4, .int w72_4)] [] M147 _
            refine vj_aload_n (j := 0) C dMo_begin_150 rfl rfl ?_
            refine vj_iconst (v := 1) C dMo_begin_151 (by decide) ?_
            refine vj_pz C dMo_begin_152 lf_Mo_68 lq_9_6 rfl (fun M152 => ?_)
            refine vj_aload_n (j := 0) C dMo_begin_155 rfl rfl ?_
            refine vj_iconst (v := 0) C dMo_begin_156 (by decide) ?_
            refine vj_pi C dMo_begin_157 lf_Mo_181 lq_9_20 rfl (fun M157 => ?_)
            refine vj_aload_n (j := 0) C dMo_begin_160 rfl rfl ?_
            refine vj_iconst (v := 0) C dMo_begin_161 (by decide) ?_
            refine vj_pi C dMo_begin_162 lf_Mo_65 lq_9_1 rfl (fun M162 => ?_)
            refine vj_iload_n (j := 1) C dMo_begin_165 rfl rfl ?_
            exact vj_ret C dMo_begin_166 rfl rfl (Nat.le_of_ble_eq_true rfl) (Nat.le_of_ble_eq_true rfl)
          · skip
            refine vj_aload_n (j := 0) C dMo_begin_121 rfl rfl ?_
            refine vj_iconst (v := 1) C dMo_begin_122 (by decide) ?_
            refine vj_aload_n (j := 0) C dMo_begin_123 rfl rfl ?_
            refine vj_gi C dMo_begin_124 lf_Mo_112 rfl (fun v124 => ?_)
            refine vj_isub C dMo_begin_127 ?_
            refine vj_pi C dMo_begin_128 lf_Mo_112 lq_9_5 rfl (fun M128 => ?_)
            refine vj_aload_n (j := 0) C dMo_begin_131 rfl rfl ?_
            refine vj_iload_n (j := 2) C dMo_begin_132 rfl rfl ?_
            refine vj_pi C dMo_begin_133 lf_Mo_125 lq_9_7 rfl (fun M133 => ?_)
            refine vj_aload_n (j := 0) C dMo_begin_136 rfl rfl ?_
            refine vj_iconst (v := 2) C dMo_begin_137 (by decide) ?_
            refine vj_pi C dMo_begin_138 lf_Mo_60 lq_9_0 rfl (fun M138 => ?_)
            refine vj_iconst (v := 0) C dMo_begin_141 (by decide) ?_
            exact vj_ret C dMo_begin_142 rfl rfl (Nat.le_of_ble_eq_true rfl) (Nat.le_of_ble_eq_true rfl)
        · skip
          refine vj_aload_n (j := 0) C dMo_begin_79 rfl rfl ?_
          refine vj_gr C dMo_begin_80 lf_Mo_54 rfl (fun a80 => ?_)
          refine vj_sipush (v := 923) C dMo_begin_83 (by decide) ?_
          refine vj_iload (j := 3) C dMo_begin_86 rfl ?_
          refine vj_iadd C dMo_begin_88 ?_
          refine vj_iconst (v := 0) C dMo_begin_89 (by decide) ?_
          refine vj_iast C dMo_begin_90 (fun M90 => ?_)
          refine vj_iinc (j := 3) (b := 1) (lv' := [(0, .ref a0), (2, .int v12), (3, .int v55), (4, .int (w72_4 + 1))]) C dMo_begin_91 rfl (by decide) (by decide) [1, 2, 3, 0] rfl ?_
          refine vj_goto (tgt := 72) C dMo_begin_94 rfl ?_
          exact hg72 _ _
      exact hg72x _ _ _
    · skip
      refine vj_iconst (v := 0) C dMo_begin_52 (by decide) ?_
      exact vj_ret C dMo_begin_53 rfl rfl (Nat.le_of_ble_eq_true rfl) (Nat.le_of_ble_eq_true rfl)
  · intro j42 hj42
    refine vj_if_lt (tgt := 41) C dMo_begin_34 rfl ?_ ?_
    · skip
      refine vj_iconst (v := 0) C dMo_begin_41 (by decide) ?_
      exact hj42 _
    · skip
      refine vj_iconst (v := 1) C dMo_begin_37 (by decide) ?_
      refine vj_goto (tgt := 42) C dMo_begin_38 rfl ?_
      exact hj42 _
def fn_Mo_stop (M : Mm) (a0 : Nat) : Rr := fo_pi M 9 a0 0 0 fun M2 => fo_gi M2 9 a0 6 fun v6 => fo_pz M2 9 a0 6 0 fun M12 => fo_pi M12 9 a0 20 0 fun M17 => fo_rz v6 M17
set_option maxHeartbeats 4000000 in
set_option maxRecDepth 100000 in
theorem cm_Mo_stop (l : Launch) (M : Mm) (a0 : Nat) : ct l zyMo_stop ws_Mo_stop { frames := 0, cells := 0, slots := 0, locals := 0 } 0 0 (fun w => some (.int w)) [.ref a0] M (fn_Mo_stop M a0) := by
  refine ct_of (cc := zbMo_stop) (maxL := 2) (ret := (some .boolean)) (lv0 := [(0, .ref a0)]) (by decide) rfl (Nat.le_of_ble_eq_true rfl) rfl rfl ?_
  intro x C
  unfold fn_Mo_stop
  refine vj_aload_n (j := 0) C dMo_stop_0 rfl rfl ?_
  refine vj_iconst (v := 0) C dMo_stop_1 (by decide) ?_
  refine vj_pi C dMo_stop_2 lf_Mo_60 lq_9_0 rfl (fun M2 => ?_)
  refine vj_aload_n (j := 0) C dMo_stop_5 rfl rfl ?_
  refine vj_gi C dMo_stop_6 lf_Mo_68 rfl (fun v6 => ?_)
  refine vj_istore_n (lv' := [(0, .ref a0), (1, .int v6)]) C dMo_stop_9 rfl (by decide) [1, 0] rfl ?_
  refine vj_aload_n (j := 0) C dMo_stop_10 rfl rfl ?_
  refine vj_iconst (v := 0) C dMo_stop_11 (by decide) ?_
  refine vj_pz C dMo_stop_12 lf_Mo_68 lq_9_6 rfl (fun M12 => ?_)
  refine vj_aload_n (j := 0) C dMo_stop_15 rfl rfl ?_
  refine vj_iconst (v := 0) C dMo_stop_16 (by decide) ?_
  refine vj_pi C dMo_stop_17 lf_Mo_181 lq_9_20 rfl (fun M17 => ?_)
  refine vj_iload_n (j := 1) C dMo_stop_20 rfl rfl ?_
  exact vj_retz C dMo_stop_21 rfl rfl (Nat.le_of_ble_eq_true rfl) (Nat.le_of_ble_eq_true rfl)
def fn_Mo_fault (M : Mm) (a0 : Nat) : Rr := fo_pi M 9 a0 0 0 fun M2 => fo_gi M2 9 a0 3 fun v6 => some (v6, M2)
set_option maxHeartbeats 4000000 in
set_option maxRecDepth 100000 in
theorem cm_Mo_fault (l : Launch) (M : Mm) (a0 : Nat) : ct l zyMo_fault ws_Mo_fault { frames := 0, cells := 0, slots := 0, locals := 0 } 0 0 (fun w => some (.int w)) [.ref a0] M (fn_Mo_fault M a0) := by
  refine ct_of (cc := zbMo_fault) (maxL := 1) (ret := (some .int)) (lv0 := [(0, .ref a0)]) (by decide) rfl (Nat.le_of_ble_eq_true rfl) rfl rfl ?_
  intro x C
  unfold fn_Mo_fault
  refine vj_aload_n (j := 0) C dMo_fault_0 rfl rfl ?_
  refine vj_iconst (v := 0) C dMo_fault_1 (by decide) ?_
  refine vj_pi C dMo_fault_2 lf_Mo_60 lq_9_0 rfl (fun M2 => ?_)
  refine vj_aload_n (j := 0) C dMo_fault_5 rfl rfl ?_
  refine vj_gi C dMo_fault_6 lf_Mo_13 rfl (fun v6 => ?_)
  exact vj_ret C dMo_fault_9 rfl rfl (Nat.le_of_ble_eq_true rfl) (Nat.le_of_ble_eq_true rfl)
def lp_Mo_settle_33 (a0 : Nat) (g33 : Mm → Int32 → Rr) (Mh33 : Mm) (w33_1 : Int32) : Rr := if w33_1 ≤ 0 then fo_gi Mh33 9 a0 20 fun v53 => fo_jp (fun (s72_1 : Int32) => fo_pi Mh33 9 a0 20 s72_1 fun M72 => fo_cv M72 9 a0 (fn_Mo_copy M72 a0 0 1) fun _ M78 => fo_cv M78 9 a0 (fn_Mo_copy M78 a0 13 0) fun _ M85 => fo_gi M85 9 a0 24 fun v89 => some (v89, M85)) (fun j72 => if 12 ≤ v53 then j72 12 else fo_gi Mh33 9 a0 20 fun v62 => j72 (v62 + 1)) else fo_cv Mh33 9 a0 (fn_Mo_copy Mh33 a0 w33_1 (w33_1 + 1)) fun _ M42 => g33 M42 (w33_1 + (-1))
def fn_Mo_settle (M : Mm) (a0 : Nat) : Rr := fo_gi M 9 a0 23 fun v1 => if v1 = 0 then fo_gi M 9 a0 20 fun v15 => fo_jp (fun (s32_0 : Int32) => fo_fx (fun _ _ => none) (lp_Mo_settle_33 a0) fo_N M s32_0) (fun j32 => if 12 ≤ v15 then j32 11 else fo_gi M 9 a0 20 fun v24 => j32 v24) else fo_pi M 9 a0 0 3 fun M9 => some (0, M9)
set_option maxHeartbeats 4000000 in
set_option maxRecDepth 100000 in
theorem cm_Mo_settle (l : Launch) (M : Mm) (a0 : Nat) : ct l zyMo_settle ws_Mo_settle { frames := 1, cells := 0, slots := 0, locals := 23 } 0 0 (fun w => some (.int w)) [.ref a0] M (fn_Mo_settle M a0) := by
  refine ct_of (cc := zbMo_settle) (maxL := 2) (ret := (some .int)) (lv0 := [(0, .ref a0)]) (by decide) rfl (Nat.le_of_ble_eq_true rfl) rfl rfl ?_
  intro x C
  unfold fn_Mo_settle
  refine vj_aload_n (j := 0) C dMo_settle_0 rfl rfl ?_
  refine vj_gi C dMo_settle_1 lf_Mo_109 rfl (fun v1 => ?_)
  refine vj_if_eq (tgt := 14) C dMo_settle_4 rfl ?_ ?_
  · skip
    refine vj_aload_n (j := 0) C dMo_settle_14 rfl rfl ?_
    refine vj_gi C dMo_settle_15 lf_Mo_181 rfl (fun v15 => ?_)
    refine vj_bipush (v := 12) C dMo_settle_18 (by decide) ?_
    refine vj_jp (fun (j : Int32 → Rr) => ∀ s32_0, Vj x 0 0 32 [(0, .ref a0)] [.int s32_0] M (j s32_0)) ?_ ?_
    · intro s32_0
      refine vj_istore_n (lv' := [(0, .ref a0), (1, .int s32_0)]) C dMo_settle_32 rfl (by decide) [1, 0] rfl ?_
      have hg33x : ∀ nf Mh33 w33_1, Vj x 0 0 33 [(0, .ref a0), (1, .int w33_1)] [] Mh33 (fo_fx (fun _ _ => none) (lp_Mo_settle_33 a0) nf Mh33 w33_1) := by
        intro nf
        refine fo_fx_P (fun (j : Mm → Int32 → Rr) => ∀ Mh33 w33_1, Vj x 0 0 33 [(0, .ref a0), (1, .int w33_1)] [] Mh33 (j Mh33 w33_1)) (fun _ _ => Vj_none) ?_ nf
        intro g33 hg33 Mh33 w33_1
        unfold lp_Mo_settle_33
        refine vj_iload_n (j := 1) C dMo_settle_33 rfl rfl ?_
        refine vj_if_le (tgt := 51) C dMo_settle_34 rfl ?_ ?_
        · skip
          refine vj_aload_n (j := 0) C dMo_settle_51 rfl rfl ?_
          refine vj_aload_n (j := 0) C dMo_settle_52 rfl rfl ?_
          refine vj_gi C dMo_settle_53 lf_Mo_181 rfl (fun v53 => ?_)
          refine vj_bipush (v := 12) C dMo_settle_56 (by decide) ?_
          refine vj_jp (fun (j : Int32 → Rr) => ∀ s72_1, Vj x 0 0 72 [(0, .ref a0)] [.int s72_1, .ref a0] Mh33 (j s72_1)) ?_ ?_
          · intro s72_1
            refine vj_pi C dMo_settle_72 lf_Mo_181 lq_9_20 rfl (fun M72 => ?_)
            refine vj_aload_n (j := 0) C dMo_settle_75 rfl rfl ?_
            refine vj_iconst (v := 0) C dMo_settle_76 (by decide) ?_
            refine vj_iconst (v := 1) C dMo_settle_77 (by decide) ?_
            refine vj_cV (ci := 9) (As := [.int 0, .int 1]) (st := []) (b := a0) (a1 := 2) C dMo_settle_78 (cm_Mo_copy _ _ _ _ _) rfl gv_Mo_178 rfl rfl rfl hv_Mo_copy ⟨Nat.le_of_ble_eq_true rfl, Nat.le_of_ble_eq_true rfl⟩ rfl rfl (Nat.le_of_ble_eq_true rfl) ⟨Nat.le_of_ble_eq_true rfl, Nat.le_of_ble_eq_true rfl⟩ (fun _ M78 => ?_)
            show Vj x 0 0 81 [(0, .ref a0)] [] M78 _
            refine vj_aload_n (j := 0) C dMo_settle_81 rfl rfl ?_
            refine vj_bipush (v := 13) C dMo_settle_82 (by decide) ?_
            refine vj_iconst (v := 0) C dMo_settle_84 (by decide) ?_
            refine vj_cV (ci := 9) (As := [.int 13, .int 0]) (st := []) (b := a0) (a1 := 2) C dMo_settle_85 (cm_Mo_copy _ _ _ _ _) rfl gv_Mo_178 rfl rfl rfl hv_Mo_copy ⟨Nat.le_of_ble_eq_true rfl, Nat.le_of_ble_eq_true rfl⟩ rfl rfl (Nat.le_of_ble_eq_true rfl) ⟨Nat.le_of_ble_eq_true rfl, Nat.le_of_ble_eq_true rfl⟩ (fun _ M85 => ?_)
            show Vj x 0 0 88 [(0, .ref a0)] [] M85 _
            refine vj_aload_n (j := 0) C dMo_settle_88 rfl rfl ?_
            refine vj_gi C dMo_settle_89 lf_Mo_131 rfl (fun v89 => ?_)
            exact vj_ret C dMo_settle_92 rfl rfl (Nat.le_of_ble_eq_true rfl) (Nat.le_of_ble_eq_true rfl)
          · intro j72 hj72
            refine vj_icmp_ge (tgt := 70) C dMo_settle_58 rfl ?_ ?_
            · skip
              refine vj_bipush (v := 12) C dMo_settle_70 (by decide) ?_
              refine vj_lk (lv' := [(0, .ref a0)]) [0] rfl ?_
              exact hj72 _
            · skip
              refine vj_aload_n (j := 0) C dMo_settle_61 rfl rfl ?_
              refine vj_gi C dMo_settle_62 lf_Mo_181 rfl (fun v62 => ?_)
              refine vj_iconst (v := 1) C dMo_settle_65 (by decide) ?_
              refine vj_iadd C dMo_settle_66 ?_
              refine vj_goto (tgt := 72) C dMo_settle_67 rfl ?_
              refine vj_lk (lv' := [(0, .ref a0)]) [0] rfl ?_
              exact hj72 _
        · skip
          refine vj_aload_n (j := 0) C dMo_settle_37 rfl rfl ?_
          refine vj_iload_n (j := 1) C dMo_settle_38 rfl rfl ?_
          refine vj_iload_n (j := 1) C dMo_settle_39 rfl rfl ?_
          refine vj_iconst (v := 1) C dMo_settle_40 (by decide) ?_
          refine vj_iadd C dMo_settle_41 ?_
          refine vj_cV (ci := 9) (As := [.int w33_1, .int (w33_1 + 1)]) (st := []) (b := a0) (a1 := 2) C dMo_settle_42 (cm_Mo_copy _ _ _ _ _) rfl gv_Mo_178 rfl rfl rfl hv_Mo_copy ⟨Nat.le_of_ble_eq_true rfl, Nat.le_of_ble_eq_true rfl⟩ rfl rfl (Nat.le_of_ble_eq_true rfl) ⟨Nat.le_of_ble_eq_true rfl, Nat.le_of_ble_eq_true rfl⟩ (fun _ M42 => ?_)
          show Vj x 0 0 45 [(0, .ref a0), (1, .int w33_1)] [] M42 _
          refine vj_iinc (j := 1) (b := (-1)) (lv' := [(0, .ref a0), (1, .int (w33_1 + (-1)))]) C dMo_settle_45 rfl (by decide) (by decide) [1, 0] rfl ?_
          refine vj_goto (tgt := 33) C dMo_settle_48 rfl ?_
          exact hg33 _ _
      exact hg33x _ _ _
    · intro j32 hj32
      refine vj_icmp_ge (tgt := 30) C dMo_settle_20 rfl ?_ ?_
      · skip
        refine vj_bipush (v := 11) C dMo_settle_30 (by decide) ?_
        exact hj32 _
      · skip
        refine vj_aload_n (j := 0) C dMo_settle_23 rfl rfl ?_
        refine vj_gi C dMo_settle_24 lf_Mo_181 rfl (fun v24 => ?_)
        refine vj_goto (tgt := 32) C dMo_settle_27 rfl ?_
        exact hj32 _
  · skip
    refine vj_aload_n (j := 0) C dMo_settle_7 rfl rfl ?_
    refine vj_iconst (v := 3) C dMo_settle_8 (by decide) ?_
    refine vj_pi C dMo_settle_9 lf_Mo_60 lq_9_0 rfl (fun M9 => ?_)
    refine vj_iconst (v := 0) C dMo_settle_12 (by decide) ?_
    exact vj_ret C dMo_settle_13 rfl rfl (Nat.le_of_ble_eq_true rfl) (Nat.le_of_ble_eq_true rfl)
