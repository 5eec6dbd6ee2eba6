def fn_Mo_init (M : Mm) (a0 : Nat) : Rr := fo_nw M (2, 121) fun a7_0 M7_0 => fo_pr M7_0 9 a0 2 a7_0 fun M9 => fo_pi M9 9 a0 3 (-1) fun M14 => fo_nw M14 (3, 61) fun a20_0 M20_0 => fo_pr M20_0 9 a0 4 a20_0 fun M22 => fo_nw M22 (2, 20) fun a28_0 M28_0 => fo_pr M28_0 9 a0 8 a28_0 fun M30 => fo_nw M30 (2, 20) fun a36_0 M36_0 => fo_pr M36_0 9 a0 9 a36_0 fun M38 => fo_nw M38 (2, 20) fun a44_0 M44_0 => fo_pr M44_0 9 a0 10 a44_0 fun M46 => fo_nw M46 (3, 20) fun a52_0 M52_0 => fo_pr M52_0 9 a0 11 a52_0 fun M54 => fo_nw M54 (2, 20) fun a60_0 M60_0 => fo_pr M60_0 9 a0 12 a60_0 fun M62 => fo_nw M62 (2, 20) fun a68_0 M68_0 => fo_pr M68_0 9 a0 13 a68_0 fun M70 => fo_nw M70 (2, 20) fun a76_0 M76_0 => fo_pr M76_0 9 a0 14 a76_0 fun M78 => fo_nw M78 (2, 20) fun a84_0 M84_0 => fo_pr M84_0 9 a0 15 a84_0 fun M86 => fo_nw M86 (2, 20) fun a92_0 M92_0 => fo_pr M92_0 9 a0 16 a92_0 fun M94 => fo_nw M94 (2, 20) fun a100_0 M100_0 => fo_pr M100_0 9 a0 17 a100_0 fun M102 => fo_nw M102 (2, 20) fun a108_0 M108_0 => fo_pr M108_0 9 a0 18 a108_0 fun M110 => fo_nw M110 (2, 1207) fun a117_0 M117_0 => fo_pr M117_0 9 a0 19 a117_0 fun M119 => fo_nw M119 (2, 1200) fun a126_0 M126_0 => fo_pr M126_0 9 a0 22 a126_0 fun M128 => some (0, M128)
set_option maxHeartbeats 4000000 in
set_option maxRecDepth 100000 in
theorem cm_Mo_init (l : Launch) (M : Mm) (a0 : Nat) : ct l zyMo_init ws_Mo_init { frames := 1, cells := 15, slots := 2809, locals := 24 } 15 2809 (fun _ => none) [.ref a0] M (fn_Mo_init M a0) := by
  refine ct_of (cc := zbMo_init) (maxL := 1) (ret := none) (lv0 := [(0, .ref a0)]) (by decide) rfl (Nat.le_of_ble_eq_true rfl) rfl rfl ?_
  intro x C
  unfold fn_Mo_init
  refine vj_aload_n (j := 0) C dMo_init_0 rfl rfl ?_
  refine vj_oi C dMo_init_1 k_370 k_1 k_2 (Nat.le_of_ble_eq_true rfl) (Nat.le_of_ble_eq_true rfl) ?_
  refine vj_aload_n (j := 0) C dMo_init_4 rfl rfl ?_
  refine vj_bipush (v := 121) C dMo_init_5 (by decide) ?_
  refine vj_newa (t := 0) (N := 121) C dMo_init_7 ⟨by decide, rfl⟩ k_33 (by decide) (by decide) (by decide) (Nat.le_of_ble_eq_true rfl) (Nat.le_of_ble_eq_true rfl) (fun a7_0 M7_0 => ?_)
  refine vj_pr C dMo_init_9 lf_Mo_7 lq_9_2 rfl rfl rfl (fun M9 => ?_)
  refine vj_aload_n (j := 0) C dMo_init_12 rfl rfl ?_
  refine vj_iconst (v := (-1)) C dMo_init_13 (by decide) ?_
  refine vj_pi C dMo_init_14 lf_Mo_13 lq_9_3 rfl (fun M14 => ?_)
  refine vj_aload_n (j := 0) C dMo_init_17 rfl rfl ?_
  refine vj_bipush (v := 61) C dMo_init_18 (by decide) ?_
  refine vj_newa (t := 1) (N := 61) C dMo_init_20 ⟨by decide, rfl⟩ k_58 (by decide) (by decide) (by decide) (Nat.le_of_ble_eq_true rfl) (Nat.le_of_ble_eq_true rfl) (fun a20_0 M20_0 => ?_)
  refine vj_pr C dMo_init_22 lf_Mo_17 lq_9_4 rfl rfl rfl (fun M22 => ?_)
  refine vj_aload_n (j := 0) C dMo_init_25 rfl rfl ?_
  refine vj_bipush (v := 20) C dMo_init_26 (by decide) ?_
  refine vj_newa (t := 0) (N := 20) C dMo_init_28 ⟨by decide, rfl⟩ k_33 (by decide) (by decide) (by decide) (Nat.le_of_ble_eq_true rfl) (Nat.le_of_ble_eq_true rfl) (fun a28_0 M28_0 => ?_)
  refine vj_pr C dMo_init_30 lf_Mo_21 lq_9_8 rfl rfl rfl (fun M30 => ?_)
  refine vj_aload_n (j := 0) C dMo_init_33 rfl rfl ?_
  refine vj_bipush (v := 20) C dMo_init_34 (by decide) ?_
  refine vj_newa (t := 0) (N := 20) C dMo_init_36 ⟨by decide, rfl⟩ k_33 (by decide) (by decide) (by decide) (Nat.le_of_ble_eq_true rfl) (Nat.le_of_ble_eq_true rfl) (fun a36_0 M36_0 => ?_)
  refine vj_pr C dMo_init_38 lf_Mo_24 lq_9_9 rfl rfl rfl (fun M38 => ?_)
  refine vj_aload_n (j := 0) C dMo_init_41 rfl rfl ?_
  refine vj_bipush (v := 20) C dMo_init_42 (by decide) ?_
  refine vj_newa (t := 0) (N := 20) C dMo_init_44 ⟨by decide, rfl⟩ k_33 (by decide) (by decide) (by decide) (Nat.le_of_ble_eq_true rfl) (Nat.le_of_ble_eq_true rfl) (fun a44_0 M44_0 => ?_)
  refine vj_pr C dMo_init_46 lf_Mo_27 lq_9_10 rfl rfl rfl (fun M46 => ?_)
  refine vj_aload_n (j := 0) C dMo_init_49 rfl rfl ?_
  refine vj_bipush (v := 20) C dMo_init_50 (by decide) ?_
  refine vj_newa (t := 1) (N := 20) C dMo_init_52 ⟨by decide, rfl⟩ k_58 (by decide) (by decide) (by decide) (Nat.le_of_ble_eq_true rfl) (Nat.le_of_ble_eq_true rfl) (fun a52_0 M52_0 => ?_)
  refine vj_pr C dMo_init_54 lf_Mo_30 lq_9_11 rfl rfl rfl (fun M54 => ?_)
  refine vj_aload_n (j := 0) C dMo_init_57 rfl rfl ?_
  refine vj_bipush (v := 20) C dMo_init_58 (by decide) ?_
  refine vj_newa (t := 0) (N := 20) C dMo_init_60 ⟨by decide, rfl⟩ k_33 (by decide) (by decide) (by decide) (Nat.le_of_ble_eq_true rfl) (Nat.le_of_ble_eq_true rfl) (fun a60_0 M60_0 => ?_)
  refine vj_pr C dMo_init_62 lf_Mo_33 lq_9_12 rfl rfl rfl (fun M62 => ?_)
  refine vj_aload_n (j := 0) C dMo_init_65 rfl rfl ?_
  refine vj_bipush (v := 20) C dMo_init_66 (by decide) ?_
  refine vj_newa (t := 0) (N := 20) C dMo_init_68 ⟨by decide, rfl⟩ k_33 (by decide) (by decide) (by decide) (Nat.le_of_ble_eq_true rfl) (Nat.le_of_ble_eq_true rfl) (fun a68_0 M68_0 => ?_)
  refine vj_pr C dMo_init_70 lf_Mo_36 lq_9_13 rfl rfl rfl (fun M70 => ?_)
  refine vj_aload_n (j := 0) C dMo_init_73 rfl rfl ?_
  refine vj_bipush (v := 20) C dMo_init_74 (by decide) ?_
  refine vj_newa (t := 0) (N := 20) C dMo_init_76 ⟨by decide, rfl⟩ k_33 (by decide) (by decide) (by decide) (Nat.le_of_ble_eq_true rfl) (Nat.le_of_ble_eq_true rfl) (fun a76_0 M76_0 => ?_)
  refine vj_pr C dMo_init_78 lf_Mo_39 lq_9_14 rfl rfl rfl (fun M78 => ?_)
  refine vj_aload_n (j := 0) C dMo_init_81 rfl rfl ?_
  refine vj_bipush (v := 20) C dMo_init_82 (by decide) ?_
  refine vj_newa (t := 0) (N := 20) C dMo_init_84 ⟨by decide, rfl⟩ k_33 (by decide) (by decide) (by decide) (Nat.le_of_ble_eq_true rfl) (Nat.le_of_ble_eq_true rfl) (fun a84_0 M84_0 => ?_)
  refine vj_pr C dMo_init_86 lf_Mo_42 lq_9_15 rfl rfl rfl (fun M86 => ?_)
  refine vj_aload_n (j := 0) C dMo_init_89 rfl rfl ?_
  refine vj_bipush (v := 20) C dMo_init_90 (by decide) ?_
  refine vj_newa (t := 0) (N := 20) C dMo_init_92 ⟨by decide, rfl⟩ k_33 (by decide) (by decide) (by decide) (Nat.le_of_ble_eq_true rfl) (Nat.le_of_ble_eq_true rfl) (fun a92_0 M92_0 => ?_)
  refine vj_pr C dMo_init_94 lf_Mo_45 lq_9_16 rfl rfl rfl (fun M94 => ?_)
  refine vj_aload_n (j := 0) C dMo_init_97 rfl rfl ?_
  refine vj_bipush (v := 20) C dMo_init_98 (by decide) ?_
  refine vj_newa (t := 0) (N := 20) C dMo_init_100 ⟨by decide, rfl⟩ k_33 (by decide) (by decide) (by decide) (Nat.le_of_ble_eq_true rfl) (Nat.le_of_ble_eq_true rfl) (fun a100_0 M100_0 => ?_)
  refine vj_pr C dMo_init_102 lf_Mo_48 lq_9_17 rfl rfl rfl (fun M102 => ?_)
  refine vj_aload_n (j := 0) C dMo_init_105 rfl rfl ?_
  refine vj_bipush (v := 20) C dMo_init_106 (by decide) ?_
  refine vj_newa (t := 0) (N := 20) C dMo_init_108 ⟨by decide, rfl⟩ k_33 (by decide) (by decide) (by decide) (Nat.le_of_ble_eq_true rfl) (Nat.le_of_ble_eq_true rfl) (fun a108_0 M108_0 => ?_)
  refine vj_pr C dMo_init_110 lf_Mo_51 lq_9_18 rfl rfl rfl (fun M110 => ?_)
  refine vj_aload_n (j := 0) C dMo_init_113 rfl rfl ?_
  refine vj_sipush (v := 1207) C dMo_init_114 (by decide) ?_
  refine vj_newa (t := 0) (N := 1207) C dMo_init_117 ⟨by decide, rfl⟩ k_33 (by decide) (by decide) (by decide) (Nat.le_of_ble_eq_true rfl) (Nat.le_of_ble_eq_true rfl) (fun a117_0 M117_0 => ?_)
  refine vj_pr C dMo_init_119 lf_Mo_54 lq_9_19 rfl rfl rfl (fun M119 => ?_)
  refine vj_aload_n (j := 0) C dMo_init_122 rfl rfl ?_
  refine vj_sipush (v := 1200) C dMo_init_123 (by decide) ?_
  refine vj_newa (t := 0) (N := 1200) C dMo_init_126 ⟨by decide, rfl⟩ k_33 (by decide) (by decide) (by decide) (Nat.le_of_ble_eq_true rfl) (Nat.le_of_ble_eq_true rfl) (fun a126_0 M126_0 => ?_)
  refine vj_pr C dMo_init_128 lf_Mo_57 lq_9_22 rfl rfl rfl (fun M128 => ?_)
  exact vj_retv C dMo_init_131 rfl rfl (Nat.le_of_ble_eq_true rfl) (Nat.le_of_ble_eq_true rfl)
def fn_Mo_thrown (M : Mm) (a0 : Nat) : Rr := fo_gi M 9 a0 0 fun v1 => some (v1, M)
set_option maxHeartbeats 4000000 in
set_option maxRecDepth 100000 in
theorem cm_Mo_thrown (l : Launch) (M : Mm) (a0 : Nat) : ct l zyMo_thrown ws_Mo_thrown { frames := 0, cells := 0, slots := 0, locals := 0 } 0 0 (fun w => some (.int w)) [.ref a0] M (fn_Mo_thrown M a0) := by
  refine ct_of (cc := zbMo_thrown) (maxL := 1) (ret := (some .int)) (lv0 := [(0, .ref a0)]) (by decide) rfl (Nat.le_of_ble_eq_true rfl) rfl rfl ?_
  intro x C
  unfold fn_Mo_thrown
  refine vj_aload_n (j := 0) C dMo_thrown_0 rfl rfl ?_
  refine vj_gi C dMo_thrown_1 lf_Mo_60 rfl (fun v1 => ?_)
  exact vj_ret C dMo_thrown_4 rfl rfl (Nat.le_of_ble_eq_true rfl) (Nat.le_of_ble_eq_true rfl)
def lp_Mo_type_98 (a0 : Nat) (p1 : Int64) (w10_3 : Int32) (g98 : Mm → Int32 → Rr) (Mh98 : Mm) (w98_5 : Int32) : Rr := if w10_3 ≤ w98_5 then fo_gi Mh98 9 a0 1 fun v136 => fo_pi Mh98 9 a0 1 (v136 + w10_3) fun M141 => fo_rz 1 M141 else fo_gr Mh98 9 a0 2 fun a105 => fo_gi Mh98 9 a0 1 fun v109 => fo_si Mh98 a105 (v109 + w98_5) (((p1 >>> ((8 * w98_5).toInt64 &&& 63)) &&& 255).toInt32) fun M127 => g98 M127 (w98_5 + 1)
def lp_Mo_type_10 (a0 : Nat) (p1 : Int64) (M2 : Mm) (g10 : Int32 → Int32 → Rr) (w10_3 : Int32) (w10_4 : Int32) : Rr := fo_jp (if w10_4 = 0 then fo_rz 0 M2 else fo_gi M2 9 a0 1 fun v83 => if (v83 + w10_3) ≤ 120 then fo_fx (fun _ _ => none) (lp_Mo_type_98 a0 p1 w10_3) fo_N M2 0 else fo_rz 0 M2) (fun j77 => if 8 ≤ w10_3 then j77 else if (lg_cmp ((p1 >>> ((8 * w10_3).toInt64 &&& 63)) &&& 255) 0) = 0 then j77 else fo_nm (((p1 >>> ((8 * w10_3).toInt64 &&& 63)) &&& 255).toInt32) fun v42 => fo_jp (fun (s68_0 : Int32) => fo_nm (w10_3 + 1) fun v73 => g10 v73 s68_0) (fun j68 => fo_jp (j68 0) (fun j67 => if w10_4 = 0 then j67 else if v42 ≤ 32 then j67 else if 127 ≤ v42 then j67 else j68 1)))
def fn_Mo_type (M : Mm) (a0 : Nat) (p1 : Int64) : Rr := fo_pi M 9 a0 0 0 fun M2 => fo_fx (fun _ _ => none) (lp_Mo_type_10 a0 p1 M2) fo_N 0 1
set_option maxHeartbeats 4000000 in
set_option maxRecDepth 100000 in
theorem cm_Mo_type (l : Launch) (M : Mm) (a0 : Nat) (p1 : Int64) : ct l zyMo_type ws_Mo_type { frames := 0, cells := 0, slots := 0, locals := 0 } 0 0 (fun w => some (.int w)) [.ref a0, .long p1] M (fn_Mo_type M a0 p1) := by
  refine ct_of (cc := zbMo_type) (maxL := 6) (ret := (some .boolean)) (lv0 := [(0, .ref a0), (1, .long p1)]) (by decide) rfl (Nat.le_of_ble_eq_true rfl) rfl rfl ?_
  intro x C
  unfold fn_Mo_type
  refine vj_aload_n (j := 0) C dMo_type_0 rfl rfl ?_
  refine vj_iconst (v := 0) C dMo_type_1 (by decide) ?_
  refine vj_pi C dMo_type_2 lf_Mo_60 lq_9_0 rfl (fun M2 => ?_)
  refine vj_iconst (v := 0) C dMo_type_5 (by decide) ?_
  refine vj_istore_n (lv' := [(0, .ref a0), (1, .long p1), (3, .int 0)]) C dMo_type_6 rfl (by decide) [1, 2, 0] rfl ?_
  refine vj_iconst (v := 1) C dMo_type_7 (by decide) ?_
  refine vj_istore (lv' := [(0, .ref a0), (1, .long p1), (3, .int 0), (4, .int 1)]) C dMo_type_8 (by decide) [1, 2, 3, 0] rfl ?_
  have hg10x : ∀ nf w10_3 w10_4, Vj x 0 0 10 [(0, .ref a0), (1, .long p1), (3, .int w10_3), (4, .int w10_4)] [] M2 (fo_fx (fun _ _ => none) (lp_Mo_type_10 a0 p1 M2) nf w10_3 w10_4) := by
    intro nf
    refine fo_fx_P (fun (j : Int32 → Int32 → Rr) => ∀ w10_3 w10_4, Vj x 0 0 10 [(0, .ref a0), (1, .long p1), (3, .int w10_3), (4, .int w10_4)] [] M2 (j w10_3 w10_4)) (fun _ _ => Vj_none) ?_ nf
    intro g10 hg10 w10_3 w10_4
    unfold lp_Mo_type_10
    refine vj_iload_n (j := 2) C dMo_type_10 rfl rfl ?_
    refine vj_bipush (v := 8) C dMo_type_11 (by decide) ?_
    refine vj_jp (fun (j : Rr) => Vj x 0 0 77 [(0, .ref a0), (1, .long p1), (3, .int w10_3), (4, .int w10_4)] [] M2 j) ?_ ?_
    · skip
      refine vj_iload (j := 3) C dMo_type_77 rfl ?_
      refine vj_if_eq (tgt := 93) C dMo_type_79 rfl ?_ ?_
      · skip
        refine vj_iconst (v := 0) C dMo_type_93 (by decide) ?_
        exact vj_retz C dMo_type_94 rfl rfl (Nat.le_of_ble_eq_true rfl) (Nat.le_of_ble_eq_true rfl)
      · skip
        refine vj_aload_n (j := 0) C dMo_type_82 rfl rfl ?_
        refine vj_gi C dMo_type_83 lf_Mo_65 rfl (fun v83 => ?_)
        refine vj_iload_n (j := 2) C dMo_type_86 rfl rfl ?_
        refine vj_iadd C dMo_type_87 ?_
        refine vj_bipush (v := 120) C dMo_type_88 (by decide) ?_
        refine vj_icmp_le (tgt := 95) C dMo_type_90 rfl ?_ ?_
        · skip
          refine vj_iconst (v := 0) C dMo_type_95 (by decide) ?_
          refine vj_istore (lv' := [(0, .ref a0), (1, .long p1), (3, .int w10_3), (5, .int 0)]) C dMo_type_96 (by decide) [1, 2, 3, 0] rfl ?_
          have hg98x : ∀ nf Mh98 w98_5, Vj x 0 0 98 [(0, .ref a0), (1, .long p1), (3, .int w10_3), (5, .int w98_5)] [] Mh98 (fo_fx (fun _ _ => none) (lp_Mo_type_98 a0 p1 w10_3) nf Mh98 w98_5) := by
            intro nf
            refine fo_fx_P (fun (j : Mm → Int32 → Rr) => ∀ Mh98 w98_5, Vj x 0 0 98 [(0, .ref a0), (1, .long p1), (3, .int w10_3), (5, .int w98_5)] [] Mh98 (j Mh98 w98_5)) (fun _ _ => Vj_none) ?_ nf
            intro g98 hg98 Mh98 w98_5
            unfold lp_Mo_type_98
            refine vj_iload (j := 3) C dMo_type_98 rfl ?_
            refine vj_iload_n (j := 2) C dMo_type_100 rfl rfl ?_
            refine vj_icmp_ge (tgt := 134) C dMo_type_101 rfl ?_ ?_
            · skip
              refine vj_aload_n (j := 0) C dMo_type_134 rfl rfl ?_
              refine vj_aload_n (j := 0) C dMo_type_135 rfl rfl ?_
              refine vj_gi C dMo_type_136 lf_Mo_65 rfl (fun v136 => ?_)
              refine vj_iload_n (j := 2) C dMo_type_139 rfl rfl ?_
              refine vj_iadd C dMo_type_140 ?_
              refine vj_pi C dMo_type_141 lf_Mo_65 lq_9_1 rfl (fun M141 => ?_)
              refine vj_iconst (v := 1) C dMo_type_144 (by decide) ?_
              exact vj_retz C dMo_type_145 rfl rfl (Nat.le_of_ble_eq_true rfl) (Nat.le_of_ble_eq_true rfl)
            · skip
              refine vj_aload_n (j := 0) C dMo_type_104 rfl rfl ?_
              refine vj_gr C dMo_type_105 lf_Mo_7 rfl (fun a105 => ?_)
              refine vj_aload_n (j := 0) C dMo_type_108 rfl rfl ?_
              refine vj_gi C dMo_type_109 lf_Mo_65 rfl (fun v109 => ?_)
              refine vj_iload (j := 3) C dMo_type_112 rfl ?_
              refine vj_iadd C dMo_type_114 ?_
              refine vj_lload_n (j := 1) C dMo_type_115 rfl rfl ?_
              refine vj_bipush (v := 8) C dMo_type_116 (by decide) ?_
              refine vj_iload (j := 3) C dMo_type_118 rfl ?_
              refine vj_imul C dMo_type_120 ?_
              refine vj_lshr C dMo_type_121 ?_
              refine vj_ldc2 (v := 255) C dMo_type_122 k_389 ?_
              refine vj_land C dMo_type_125 ?_
              refine vj_l2i C dMo_type_126 ?_
              refine vj_iast C dMo_type_127 (fun M127 => ?_)
              refine vj_iinc (j := 3) (b := 1) (lv' := [(0, .ref a0), (1, .long p1), (3, .int w10_3), (5, .int (w98_5 + 1))]) C dMo_type_128 rfl (by decide) (by decide) [1, 2, 3, 0] rfl ?_
              refine vj_goto (tgt := 98) C dMo_type_131 rfl ?_
              exact hg98 _ _
          exact hg98x _ _ _
        · skip
          refine vj_iconst (v := 0) C dMo_type_93 (by decide) ?_
          exact vj_retz C dMo_type_94 rfl rfl (Nat.le_of_ble_eq_true rfl) (Nat.le_of_ble_eq_true rfl)
    · intro j77 hj77
      refine vj_icmp_ge (tgt := 77) C dMo_type_13 rfl ?_ ?_
      · skip
        exact hj77
      · skip
        refine vj_lload_n (j := 1) C dMo_type_16 rfl rfl ?_
        refine vj_bipush (v := 8) C dMo_type_17 (by decide) ?_
        refine vj_iload_n (j := 2) C dMo_type_19 rfl rfl ?_
        refine vj_imul C dMo_type_20 ?_
        refine vj_lshr C dMo_type_21 ?_
        refine vj_ldc2 (v := 255) C dMo_type_22 k_389 ?_
        refine vj_land C dMo_type_25 ?_
        refine vj_lconst (v := 0) C dMo_type_26 (by decide) ?_
        refine vj_lcmp C dMo_type_27 ?_
        refine vj_if_eq (tgt := 77) C dMo_type_28 rfl ?_ ?_
        · skip
          exact hj77
        · skip
          refine vj_lload_n (j := 1) C dMo_type_31 rfl rfl ?_
          refine vj_bipush (v := 8) C dMo_type_32 (by decide) ?_
          refine vj_iload_n (j := 2) C dMo_type_34 rfl rfl ?_
          refine vj_imul C dMo_type_35 ?_
          refine vj_lshr C dMo_type_36 ?_
          refine vj_ldc2 (v := 255) C dMo_type_37 k_389 ?_
          refine vj_land C dMo_type_40 ?_
          refine vj_l2i C dMo_type_41 ?_
          refine vj_nm (fun v42 => ?_)
          refine vj_istore (lv' := [(0, .ref a0), (1, .long p1), (3, .int w10_3), (4, .int w10_4), (5, .int v42)]) C dMo_type_42 (by decide) [1, 2, 3, 4, 0] rfl ?_
          refine vj_iload (j := 3) C dMo_type_44 rfl ?_
          refine vj_jp (fun (j : Int32 → Rr) => ∀ s68_0, Vj x 0 0 68 [(0, .ref a0), (1, .long p1), (3, .int w10_3)] [.int s68_0] M2 (j s68_0)) ?_ ?_
          · intro s68_0
            refine vj_istore (lv' := [(0, .ref a0), (1, .long p1), (3, .int w10_3), (4, .int s68_0)]) C dMo_type_68 (by decide) [1, 2, 3, 0] rfl ?_
            refine vj_iload_n (j := 2) C dMo_type_70 rfl rfl ?_
            refine vj_iconst (v := 1) C dMo_type_71 (by decide) ?_
            refine vj_iadd C dMo_type_72 ?_
            refine vj_nm (fun v73 => ?_)
            refine vj_istore_n (lv' := [(0, .ref a0), (1, .long p1), (3, .int v73), (4, .int s68_0)]) C dMo_type_73 rfl (by decide) [1, 2, 0, 3] rfl ?_
            refine vj_goto (tgt := 10) C dMo_type_74 rfl ?_
            exact hg10 _ _
          · intro j68 hj68
            refine vj_jp (fun (j : Rr) => Vj x 0 0 67 [(0, .ref a0), (1, .long p1), (3, .int w10_3)] [] M2 j) ?_ ?_
            · skip
              refine vj_iconst (v := 0) C dMo_type_67 (by decide) ?_
              exact hj68 _
            · intro j67 hj67
              refine vj_if_eq (tgt := 67) C dMo_type_46 rfl ?_ ?_
              · skip
                refine vj_lk (lv' := [(0, .ref a0), (1, .long p1), (3, .int w10_3)]) [0, 1, 2] rfl ?_
                exact hj67
              · skip
                refine vj_iload (j := 4) C dMo_type_49 rfl ?_
                refine vj_bipush (v := 32) C dMo_type_51 (by decide) ?_
                refine vj_icmp_le (tgt := 67) C dMo_type_53 rfl ?_ ?_
                · skip
                  refine vj_lk (lv' := [(0, .ref a0), (1, .long p1), (3, .int w10_3)]) [0, 1, 2] rfl ?_
                  exact hj67
                · skip
                  refine vj_iload (j := 4) C dMo_type_56 rfl ?_
                  refine vj_bipush (v := 127) C dMo_type_58 (by decide) ?_
                  refine vj_icmp_ge (tgt := 67) C dMo_type_60 rfl ?_ ?_
                  · skip
                    refine vj_lk (lv' := [(0, .ref a0), (1, .long p1), (3, .int w10_3)]) [0, 1, 2] rfl ?_
                    exact hj67
                  · skip
                    refine vj_iconst (v := 1) C dMo_type_63 (by decide) ?_
                    refine vj_goto (tgt := 68) C dMo_type_64 rfl ?_
                    refine vj_lk (lv' := [(0, .ref a0), (1, .long p1), (3, .int w10_3)]) [0, 1, 2] rfl ?_
                    exact hj68 _
  exact hg10x _ _ _
def fn_Mo_erase (M : Mm) (a0 : Nat) : Rr := fo_pi M 9 a0 0 0 fun M2 => fo_gi M2 9 a0 1 fun v6 => fo_pi M2 9 a0 1 0 fun M12 => some (v6, M12)
set_option maxHeartbeats 4000000 in
set_option maxRecDepth 100000 in
theorem cm_Mo_erase (l : Launch) (M : Mm) (a0 : Nat) : ct l zyMo_erase ws_Mo_erase { frames := 0, cells := 0, slots := 0, locals := 0 } 0 0 (fun w => some (.int w)) [.ref a0] M (fn_Mo_erase M a0) := by
  refine ct_of (cc := zbMo_erase) (maxL := 2) (ret := (some .int)) (lv0 := [(0, .ref a0)]) (by decide) rfl (Nat.le_of_ble_eq_true rfl) rfl rfl ?_
  intro x C
  unfold fn_Mo_erase
  refine vj_aload_n (j := 0) C dMo_erase_0 rfl rfl ?_
  refine vj_iconst (v := 0) C dMo_erase_1 (by decide) ?_
  refine vj_pi C dMo_erase_2 lf_Mo_60 lq_9_0 rfl (fun M2 => ?_)
  refine vj_aload_n (j := 0) C dMo_erase_5 rfl rfl ?_
  refine vj_gi C dMo_erase_6 lf_Mo_65 rfl (fun v6 => ?_)
  refine vj_istore_n (lv' := [(0, .ref a0), (1, .int v6)]) C dMo_erase_9 rfl (by decide) [1, 0] rfl ?_
  refine vj_aload_n (j := 0) C dMo_erase_10 rfl rfl ?_
  refine vj_iconst (v := 0) C dMo_erase_11 (by decide) ?_
  refine vj_pi C dMo_erase_12 lf_Mo_65 lq_9_1 rfl (fun M12 => ?_)
  refine vj_iload_n (j := 1) C dMo_erase_15 rfl rfl ?_
  exact vj_ret C dMo_erase_16 rfl rfl (Nat.le_of_ble_eq_true rfl) (Nat.le_of_ble_eq_true rfl)
def fn_Mo_free (M : Mm) (a0 : Nat) (p1 : Int32) : Rr := fo_pi M 9 a0 0 0 fun M2 => if p1 < 0 then fo_rz 0 M2 else if 60 < p1 then fo_rz 0 M2 else fo_gi M2 9 a0 6 fun v16 => if v16 = 0 then fo_gr M2 9 a0 4 fun a25 => fo_gr M2 9 a0 4 fun a30 => fo_ai M2 1 a30 p1 fun v34 => fo_jp (fun (s43_2 : Int32) => fo_sz M2 a25 p1 s43_2 fun M43 => fo_gr M43 9 a0 4 fun a45 => fo_ai M43 1 a45 p1 fun v49 => fo_rz v49 M43) (fun j43 => if v34 = 0 then j43 1 else j43 0) else fo_rz 0 M2
set_option maxHeartbeats 4000000 in
set_option maxRecDepth 100000 in
theorem cm_Mo_free (l : Launch) (M : Mm) (a0 : Nat) (p1 : Int32) : ct l zyMo_free ws_Mo_free { frames := 0, cells := 0, slots := 0, locals := 0 } 0 0 (fun w => some (.int w)) [.ref a0, .int p1] M (fn_Mo_free M a0 p1) := by
  refine ct_of (cc := zbMo_free) (maxL := 2) (ret := (some .boolean)) (lv0 := [(0, .ref a0), (1, .int p1)]) (by decide) rfl (Nat.le_of_ble_eq_true rfl) rfl rfl ?_
  intro x C
  unfold fn_Mo_free
  refine vj_aload_n (j := 0) C dMo_free_0 rfl rfl ?_
  refine vj_iconst (v := 0) C dMo_free_1 (by decide) ?_
  refine vj_pi C dMo_free_2 lf_Mo_60 lq_9_0 rfl (fun M2 => ?_)
  refine vj_iload_n (j := 1) C dMo_free_5 rfl rfl ?_
  refine vj_if_lt (tgt := 22) C dMo_free_6 rfl ?_ ?_
  · skip
    refine vj_iconst (v := 0) C dMo_free_22 (by decide) ?_
    exact vj_retz C dMo_free_23 rfl rfl (Nat.le_of_ble_eq_true rfl) (Nat.le_of_ble_eq_true rfl)
  · skip
    refine vj_iload_n (j := 1) C dMo_free_9 rfl rfl ?_
    refine vj_bipush (v := 60) C dMo_free_10 (by decide) ?_
    refine vj_icmp_gt (tgt := 22) C dMo_free_12 rfl ?_ ?_
    · skip
      refine vj_iconst (v := 0) C dMo_free_22 (by decide) ?_
      exact vj_retz C dMo_free_23 rfl rfl (Nat.le_of_ble_eq_true rfl) (Nat.le_of_ble_eq_true rfl)
    · skip
      refine vj_aload_n (j := 0) C dMo_free_15 rfl rfl ?_
      refine vj_gi C dMo_free_16 lf_Mo_68 rfl (fun v16 => ?_)
      refine vj_if_eq (tgt := 24) C dMo_free_19 rfl ?_ ?_
      · skip
        refine vj_aload_n (j := 0) C dMo_free_24 rfl rfl ?_
        refine vj_gr C dMo_free_25 lf_Mo_17 rfl (fun a25 => ?_)
        refine vj_iload_n (j := 1) C dMo_free_28 rfl rfl ?_
        refine vj_aload_n (j := 0) C dMo_free_29 rfl rfl ?_
        refine vj_gr C dMo_free_30 lf_Mo_17 rfl (fun a30 => ?_)
        refine vj_iload_n (j := 1) C dMo_free_33 rfl rfl ?_
        refine vj_zald C dMo_free_34 (by decide) (fun v34 => ?_)
        refine vj_jp (fun (j : Int32 → Rr) => ∀ s43_2, Vj x 0 0 43 [(0, .ref a0), (1, .int p1)] [.int s43_2, .int p1, .ref a25] M2 (j s43_2)) ?_ ?_
        · intro s43_2
          refine vj_zast C dMo_free_43 (fun M43 => ?_)
          refine vj_aload_n (j := 0) C dMo_free_44 rfl rfl ?_
          refine vj_gr C dMo_free_45 lf_Mo_17 rfl (fun a45 => ?_)
          refine vj_iload_n (j := 1) C dMo_free_48 rfl rfl ?_
          refine vj_zald C dMo_free_49 (by decide) (fun v49 => ?_)
          exact vj_retz C dMo_free_50 rfl rfl (Nat.le_of_ble_eq_true rfl) (Nat.le_of_ble_eq_true rfl)
        · intro j43 hj43
          refine vj_if_ne (tgt := 42) C dMo_free_35 rfl ?_ ?_
          · skip
            refine vj_iconst (v := 0) C dMo_free_42 (by decide) ?_
            exact hj43 _
          · skip
            refine vj_iconst (v := 1) C dMo_free_38 (by decide) ?_
            refine vj_goto (tgt := 43) C dMo_free_39 rfl ?_
            exact hj43 _
      · skip
        refine vj_iconst (v := 0) C dMo_free_22 (by decide) ?_
        exact vj_retz C dMo_free_23 rfl rfl (Nat.le_of_ble_eq_true rfl) (Nat.le_of_ble_eq_true rfl)
def fn_Mo_charAt (M : Mm) (a0 : Nat) (p1 : Int32) : Rr := fo_gi M 9 a0 1 fun v2 => if v2 ≤ p1 then some (0, M) else fo_gr M 9 a0 2 fun a9 => fo_ai M 0 a9 p1 fun v13 => some (v13, M)
set_option maxHeartbeats 4000000 in
set_option maxRecDepth 100000 in
theorem cm_Mo_charAt (l : Launch) (M : Mm) (a0 : Nat) (p1 : Int32) : ct l zyMo_charAt ws_Mo_charAt { frames := 0, cells := 0, slots := 0, locals := 0 } 0 0 (fun w => some (.int w)) [.ref a0, .int p1] M (fn_Mo_charAt M a0 p1) := by
  refine ct_of (cc := zbMo_charAt) (maxL := 2) (ret := (some .int)) (lv0 := [(0, .ref a0), (1, .int p1)]) (by decide) rfl (Nat.le_of_ble_eq_true rfl) rfl rfl ?_
  intro x C
  unfold fn_Mo_charAt
  refine vj_iload_n (j := 1) C dMo_charAt_0 rfl rfl ?_
  refine vj_aload_n (j := 0) C dMo_charAt_1 rfl rfl ?_
  refine vj_gi C dMo_charAt_2 lf_Mo_65 rfl (fun v2 => ?_)
  refine vj_icmp_ge (tgt := 17) C dMo_charAt_5 rfl ?_ ?_
  · skip
    refine vj_iconst (v := 0) C dMo_charAt_17 (by decide) ?_
    exact vj_ret C dMo_charAt_18 rfl rfl (Nat.le_of_ble_eq_true rfl) (Nat.le_of_ble_eq_true rfl)
  · skip
    refine vj_aload_n (j := 0) C dMo_charAt_8 rfl rfl ?_
    refine vj_gr C dMo_charAt_9 lf_Mo_7 rfl (fun a9 => ?_)
    refine vj_iload_n (j := 1) C dMo_charAt_12 rfl rfl ?_
    refine vj_iald C dMo_charAt_13 (by decide) (fun v13 => ?_)
    refine vj_goto (tgt := 18) C dMo_charAt_14 rfl ?_
    exact vj_ret C dMo_charAt_18 rfl rfl (Nat.le_of_ble_eq_true rfl) (Nat.le_of_ble_eq_true rfl)
def fn_Mo_party (M : Mm) (a0 : Nat) (p1 : Int32) : Rr := fo_cv M 9 a0 (fn_Mo_charAt M a0 p1) fun v2 M2 => fo_nm (v2 - 65) fun v8 => if v8 < 0 then some ((-1), M2) else if 3 ≤ v8 then some ((-1), M2) else some (v8, M2)
set_option maxHeartbeats 4000000 in
set_option maxRecDepth 100000 in
theorem cm_Mo_party (l : Launch) (M : Mm) (a0 : Nat) (p1 : Int32) : ct l zyMo_party ws_Mo_party { frames := 1, cells := 0, slots := 0, locals := 21 } 0 0 (fun w => some (.int w)) [.ref a0, .int p1] M (fn_Mo_party M a0 p1) := by
  refine ct_of (cc := zbMo_party) (maxL := 3) (ret := (some .int)) (lv0 := [(0, .ref a0), (1, .int p1)]) (by decide) rfl (Nat.le_of_ble_eq_true rfl) rfl rfl ?_
  intro x C
  unfold fn_Mo_party
  refine vj_aload_n (j := 0) C dMo_party_0 rfl rfl ?_
  refine vj_iload_n (j := 1) C dMo_party_1 rfl rfl ?_
  refine vj_cV (ci := 9) (As := [.int p1]) (st := []) (b := a0) (a1 := 1) C dMo_party_2 (cm_Mo_charAt _ _ _ _) rfl gv_Mo_72 rfl rfl rfl hv_Mo_charAt ⟨Nat.le_of_ble_eq_true rfl, Nat.le_of_ble_eq_true rfl⟩ rfl rfl (Nat.le_of_ble_eq_true rfl) ⟨Nat.le_of_ble_eq_true rfl, Nat.le_of_ble_eq_true rfl⟩ (fun v2 M2 => ?_)
  show Vj x 0 0 5 [(0, .ref a0), (1, .int p1)] [.int v2] M2 _
  refine vj_bipush (v := 65) C dMo_party_5 (by decide) ?_
  refine vj_isub C dMo_party_7 ?_
  refine vj_nm (fun v8 => ?_)
  refine vj_istore_n (lv' := [(2, .int v8)]) C dMo_party_8 rfl (by decide) [0] rfl ?_
  refine vj_iload_n (j := 0) C dMo_party_9 rfl rfl ?_
  refine vj_if_lt (tgt := 22) C dMo_party_10 rfl ?_ ?_
  · skip
    refine vj_iconst (v := (-1)) C dMo_party_22 (by decide) ?_
    exact vj_ret C dMo_party_23 rfl rfl (Nat.le_of_ble_eq_true rfl) (Nat.le_of_ble_eq_true rfl)
  · skip
    refine vj_iload_n (j := 0) C dMo_party_13 rfl rfl ?_
    refine vj_iconst (v := 3) C dMo_party_14 (by decide) ?_
    refine vj_icmp_ge (tgt := 22) C dMo_party_15 rfl ?_ ?_
    · skip
      refine vj_iconst (v := (-1)) C dMo_party_22 (by decide) ?_
      exact vj_ret C dMo_party_23 rfl rfl (Nat.le_of_ble_eq_true rfl) (Nat.le_of_ble_eq_true rfl)
    · skip
      refine vj_iload_n (j := 0) C dMo_party_18 rfl rfl ?_
      refine vj_goto (tgt := 23) C dMo_party_19 rfl ?_
      exact vj_ret C dMo_party_23 rfl rfl (Nat.le_of_ble_eq_true rfl) (Nat.le_of_ble_eq_true rfl)
def fn_Mo_kind (M : Mm) (a0 : Nat) (p1 : Int32) : Rr := fo_cv M 9 a0 (fn_Mo_charAt M a0 p1) fun v2 M2 => fo_nm (v2 - 97) fun v8 => if v8 < 0 then some ((-1), M2) else if 5 ≤ v8 then some ((-1), M2) else some (v8, M2)
set_option maxHeartbeats 4000000 in
set_option maxRecDepth 100000 in
theorem cm_Mo_kind (l : Launch) (M : Mm) (a0 : Nat) (p1 : Int32) : ct l zyMo_kind ws_Mo_kind { frames := 1, cells := 0, slots := 0, locals := 21 } 0 0 (fun w => some (.int w)) [.ref a0, .int p1] M (fn_Mo_kind M a0 p1) := by
  refine ct_of (cc := zbMo_kind) (maxL := 3) (ret := (some .int)) (lv0 := [(0, .ref a0), (1, .int p1)]) (by decide) rfl (Nat.le_of_ble_eq_true rfl) rfl rfl ?_
  intro x C
  unfold fn_Mo_kind
  refine vj_aload_n (j := 0) C dMo_kind_0 rfl rfl ?_
  refine vj_iload_n (j := 1) C dMo_kind_1 rfl rfl ?_
  refine vj_cV (ci := 9) (As := [.int p1]) (st := []) (b := a0) (a1 := 1) C dMo_kind_2 (cm_Mo_charAt _ _ _ _) rfl gv_Mo_72 rfl rfl rfl hv_Mo_charAt ⟨Nat.le_of_ble_eq_true rfl, Nat.le_of_ble_eq_true rfl⟩ rfl rfl (Nat.le_of_ble_eq_true rfl) ⟨Nat.le_of_ble_eq_true rfl, Nat.le_of_ble_eq_true rfl⟩ (fun v2 M2 => ?_)
  show Vj x 0 0 5 [(0, .ref a0), (1, .int p1)] [.int v2] M2 _
  refine vj_bipush (v := 97) C dMo_kind_5 (by decide) ?_
  refine vj_isub C dMo_kind_7 ?_
  refine vj_nm (fun v8 => ?_)
  refine vj_istore_n (lv' := [(2, .int v8)]) C dMo_kind_8 rfl (by decide) [0] rfl ?_
  refine vj_iload_n (j := 0) C dMo_kind_9 rfl rfl ?_
  refine vj_if_lt (tgt := 22) C dMo_kind_10 rfl ?_ ?_
  · skip
    refine vj_iconst (v := (-1)) C dMo_kind_22 (by decide) ?_
    exact vj_ret C dMo_kind_23 rfl rfl (Nat.le_of_ble_eq_true rfl) (Nat.le_of_ble_eq_true rfl)
  · skip
    refine vj_iload_n (j := 0) C dMo_kind_13 rfl rfl ?_
    refine vj_iconst (v := 5) C dMo_kind_14 (by decide) ?_
    refine vj_icmp_ge (tgt := 22) C dMo_kind_15 rfl ?_ ?_
    · skip
      refine vj_iconst (v := (-1)) C dMo_kind_22 (by decide) ?_
      exact vj_ret C dMo_kind_23 rfl rfl (Nat.le_of_ble_eq_true rfl) (Nat.le_of_ble_eq_true rfl)
    · skip
      refine vj_iload_n (j := 0) C dMo_kind_18 rfl rfl ?_
      refine vj_goto (tgt := 23) C dMo_kind_19 rfl ?_
      exact vj_ret C dMo_kind_23 rfl rfl (Nat.le_of_ble_eq_true rfl) (Nat.le_of_ble_eq_true rfl)
def fn_Mo_digit (M : Mm) (a0 : Nat) (p1 : Int32) : Rr := fo_cv M 9 a0 (fn_Mo_charAt M a0 p1) fun v2 M2 => fo_nm (v2 - 48) fun v8 => if v8 < 0 then some ((-1), M2) else if 10 ≤ v8 then some ((-1), M2) else some (v8, M2)
set_option maxHeartbeats 4000000 in
set_option maxRecDepth 100000 in
theorem cm_Mo_digit (l : Launch) (M : Mm) (a0 : Nat) (p1 : Int32) : ct l zyMo_digit ws_Mo_digit { frames := 1, cells := 0, slots := 0, locals := 21 } 0 0 (fun w => some (.int w)) [.ref a0, .int p1] M (fn_Mo_digit M a0 p1) := by
  refine ct_of (cc := zbMo_digit) (maxL := 3) (ret := (some .int)) (lv0 := [(0, .ref a0), (1, .int p1)]) (by decide) rfl (Nat.le_of_ble_eq_true rfl) rfl rfl ?_
  intro x C
  unfold fn_Mo_digit
  refine vj_aload_n (j := 0) C dMo_digit_0 rfl rfl ?_
  refine vj_iload_n (j := 1) C dMo_digit_1 rfl rfl ?_
  refine vj_cV (ci := 9) (As := [.int p1]) (st := []) (b := a0) (a1 := 1) C dMo_digit_2 (cm_Mo_charAt _ _ _ _) rfl gv_Mo_72 rfl rfl rfl hv_Mo_charAt ⟨Nat.le_of_ble_eq_true rfl, Nat.le_of_ble_eq_true rfl⟩ rfl rfl (Nat.le_of_ble_eq_true rfl) ⟨Nat.le_of_ble_eq_true rfl, Nat.le_of_ble_eq_true rfl⟩ (fun v2 M2 => ?_)
  show Vj x 0 0 5 [(0, .ref a0), (1, .int p1)] [.int v2] M2 _
  refine vj_bipush (v := 48) C dMo_digit_5 (by decide) ?_
  refine vj_isub C dMo_digit_7 ?_
  refine vj_nm (fun v8 => ?_)
  refine vj_istore_n (lv' := [(2, .int v8)]) C dMo_digit_8 rfl (by decide) [0] rfl ?_
  refine vj_iload_n (j := 0) C dMo_digit_9 rfl rfl ?_
  refine vj_if_lt (tgt := 23) C dMo_digit_10 rfl ?_ ?_
  · skip
    refine vj_iconst (v := (-1)) C dMo_digit_23 (by decide) ?_
    exact vj_ret C dMo_digit_24 rfl rfl (Nat.le_of_ble_eq_true rfl) (Nat.le_of_ble_eq_true rfl)
  · skip
    refine vj_iload_n (j := 0) C dMo_digit_13 rfl rfl ?_
    refine vj_bipush (v := 10) C dMo_digit_14 (by decide) ?_
    refine vj_icmp_ge (tgt := 23) C dMo_digit_16 rfl ?_ ?_
    · skip
      refine vj_iconst (v := (-1)) C dMo_digit_23 (by decide) ?_
      exact vj_ret C dMo_digit_24 rfl rfl (Nat.le_of_ble_eq_true rfl) (Nat.le_of_ble_eq_true rfl)
    · skip
      refine vj_iload_n (j := 0) C dMo_digit_19 rfl rfl ?_
      refine vj_goto (tgt := 24) C dMo_digit_20 rfl ?_
      exact vj_ret C dMo_digit_24 rfl rfl (Nat.le_of_ble_eq_true rfl) (Nat.le_of_ble_eq_true rfl)
def fn_Mo_readTrigger (M : Mm) (a0 : Nat) (p1 : Int32) (p2 : Int32) : Rr := fo_cv M 9 a0 (fn_Mo_charAt M a0 p2) fun v2 M2 => fo_cv M2 9 a0 (fn_Mo_party M2 a0 p2) fun v8 M8 => fo_gr M8 9 a0 8 fun a14 => fo_jp (fun (s58_2 : Int32) => fo_si M8 a14 p1 s58_2 fun M58 => fo_jp (some ((p2 + 1), M58)) (fun j71 => if v2 = 115 then j71 else if v2 = 61 then j71 else fo_jp (fo_gr M58 9 a0 9 fun a97 => fo_jp (fun (Mj118 : Mm) (s118_2 : Int32) => fo_si Mj118 a97 p1 s118_2 fun M118 => fo_gr M118 9 a0 10 fun a120 => fo_cv M118 9 a0 (fn_Mo_kind M118 a0 (p2 + 1)) fun v128 M128 => fo_si M128 a120 p1 v128 fun M131 => fo_jp (fun (Mj154 : Mm) (s154_0 : Int32) => if 0 ≤ s154_0 then some ((p2 + 2), Mj154) else some (((-2) - p2), Mj154)) (fun j154 => if v8 < 0 then fo_cv M131 9 a0 (fn_Mo_digit M131 a0 (p2 + 1)) fun v151 M151 => j154 M151 v151 else fo_cv M131 9 a0 (fn_Mo_kind M131 a0 (p2 + 1)) fun v141 M141 => j154 M141 v141)) (fun j118 => if v8 < 0 then fo_cv M58 9 a0 (fn_Mo_digit M58 a0 (p2 + 1)) fun v115 M115 => j118 M115 v115 else j118 M58 v8)) (fun j96 => if 0 ≤ v8 then j96 else if v2 = 120 then j96 else if v2 = 102 then j96 else some (((-1) - p2), M58)))) (fun j58 => if v2 = 115 then j58 0 else if v8 < 0 then if v2 = 120 then j58 2 else if v2 = 102 then j58 3 else j58 4 else j58 1)
set_option maxHeartbeats 4000000 in
set_option maxRecDepth 100000 in
theorem cm_Mo_readTrigger (l : Launch) (M : Mm) (a0 : Nat) (p1 : Int32) (p2 : Int32) : ct l zyMo_readTrigger ws_Mo_readTrigger { frames := 2, cells := 0, slots := 0, locals := 43 } 0 0 (fun w => some (.int w)) [.ref a0, .int p1, .int p2] M (fn_Mo_readTrigger M a0 p1 p2) := by
  refine ct_of (cc := zbMo_readTrigger) (maxL := 5) (ret := (some .int)) (lv0 := [(0, .ref a0), (1, .int p1), (2, .int p2)]) (by decide) rfl (Nat.le_of_ble_eq_true rfl) rfl rfl ?_
  intro x C
  unfold fn_Mo_readTrigger
  refine vj_aload_n (j := 0) C dMo_readTrigger_0 rfl rfl ?_
  refine vj_iload_n (j := 2) C dMo_readTrigger_1 rfl rfl ?_
  refine vj_cV (ci := 9) (As := [.int p2]) (st := []) (b := a0) (a1 := 1) C dMo_readTrigger_2 (cm_Mo_charAt _ _ _ _) rfl gv_Mo_72 rfl rfl rfl hv_Mo_charAt ⟨Nat.le_of_ble_eq_true rfl, Nat.le_of_ble_eq_true rfl⟩ rfl rfl (Nat.le_of_ble_eq_true rfl) ⟨Nat.le_of_ble_eq_true rfl, Nat.le_of_ble_eq_true rfl⟩ (fun v2 M2 => ?_)
  show Vj x 0 0 5 [(0, .ref a0), (1, .int p1), (2, .int p2)] [.int v2] M2 _
  refine vj_istore_n (lv' := [(0, .ref a0), (1, .int p1), (2, .int p2), (3, .int v2)]) C dMo_readTrigger_5 rfl (by decide) [1, 2, 3, 0] rfl ?_
  refine vj_aload_n (j := 0) C dMo_readTrigger_6 rfl rfl ?_
  refine vj_iload_n (j := 2) C dMo_readTrigger_7 rfl rfl ?_
  refine vj_cV (ci := 9) (As := [.int p2]) (st := []) (b := a0) (a1 := 1) C dMo_readTrigger_8 (cm_Mo_party _ _ _ _) rfl gv_Mo_76 rfl rfl rfl hv_Mo_party ⟨Nat.le_of_ble_eq_true rfl, Nat.le_of_ble_eq_true rfl⟩ rfl rfl (Nat.le_of_ble_eq_true rfl) ⟨Nat.le_of_ble_eq_true rfl, Nat.le_of_ble_eq_true rfl⟩ (fun v8 M8 => ?_)
  show Vj x 0 0 11 [(0, .ref a0), (1, .int p1), (2, .int p2), (3, .int v2)] [.int v8] M8 _
  refine vj_istore (lv' := [(0, .ref a0), (1, .int p1), (2, .int p2), (3, .int v2), (4, .int v8)]) C dMo_readTrigger_11 (by decide) [1, 2, 3, 4, 0] rfl ?_
  refine vj_aload_n (j := 0) C dMo_readTrigger_13 rfl rfl ?_
  refine vj_gr C dMo_readTrigger_14 lf_Mo_21 rfl (fun a14 => ?_)
  refine vj_iload_n (j := 1) C dMo_readTrigger_17 rfl rfl ?_
  refine vj_iload_n (j := 3) C dMo_readTrigger_18 rfl rfl ?_
  refine vj_bipush (v := 115) C dMo_readTrigger_19 (by decide) ?_
  refine vj_jp (fun (j : Int32 → Rr) => ∀ s58_2, Vj x 0 0 58 [(0, .ref a0), (1, .int p1), (2, .int p2), (3, .int v2), (4, .int v8)] [.int s58_2, .int p1, .ref a14] M8 (j s58_2)) ?_ ?_
  · intro s58_2
    refine vj_iast C dMo_readTrigger_58 (fun M58 => ?_)
    refine vj_iload_n (j := 3) C dMo_readTrigger_59 rfl rfl ?_
    refine vj_bipush (v := 115) C dMo_readTrigger_60 (by decide) ?_
    refine vj_jp (fun (j : Rr) => Vj x 0 0 71 [(2, .int p2)] [] M58 j) ?_ ?_
    · skip
      refine vj_iload_n (j := 0) C dMo_readTrigger_71 rfl rfl ?_
      refine vj_iconst (v := 1) C dMo_readTrigger_72 (by decide) ?_
      refine vj_iadd C dMo_readTrigger_73 ?_
      exact vj_ret C dMo_readTrigger_74 rfl rfl (Nat.le_of_ble_eq_true rfl) (Nat.le_of_ble_eq_true rfl)
    · intro j71 hj71
      refine vj_icmp_eq (tgt := 71) C dMo_readTrigger_62 rfl ?_ ?_
      · skip
        refine vj_lk (lv' := [(2, .int p2)]) [2] rfl ?_
        exact hj71
      · skip
        refine vj_iload_n (j := 3) C dMo_readTrigger_65 rfl rfl ?_
        refine vj_bipush (v := 61) C dMo_readTrigger_66 (by decide) ?_
        refine vj_icmp_ne (tgt := 75) C dMo_readTrigger_68 rfl ?_ ?_
        · skip
          refine vj_iload (j := 4) C dMo_readTrigger_75 rfl ?_
          refine vj_jp (fun (j : Rr) => Vj x 0 0 96 [(0, .ref a0), (1, .int p1), (2, .int p2), (4, .int v8)] [] M58 j) ?_ ?_
          · skip
            refine vj_aload_n (j := 0) C dMo_readTrigger_96 rfl rfl ?_
            refine vj_gr C dMo_readTrigger_97 lf_Mo_24 rfl (fun a97 => ?_)
            refine vj_iload_n (j := 1) C dMo_readTrigger_100 rfl rfl ?_
            refine vj_iload (j := 3) C dMo_readTrigger_101 rfl ?_
            refine vj_jp (fun (j : Mm → Int32 → Rr) => ∀ Mj118 s118_2, Vj x 0 0 118 [(0, .ref a0), (1, .int p1), (2, .int p2), (4, .int v8)] [.int s118_2, .int p1, .ref a97] Mj118 (j Mj118 s118_2)) ?_ ?_
            · intro Mj118 s118_2
              refine vj_iast C dMo_readTrigger_118 (fun M118 => ?_)
              refine vj_aload_n (j := 0) C dMo_readTrigger_119 rfl rfl ?_
              refine vj_gr C dMo_readTrigger_120 lf_Mo_27 rfl (fun a120 => ?_)
              refine vj_iload_n (j := 1) C dMo_readTrigger_123 rfl rfl ?_
              refine vj_aload_n (j := 0) C dMo_readTrigger_124 rfl rfl ?_
              refine vj_iload_n (j := 2) C dMo_readTrigger_125 rfl rfl ?_
              refine vj_iconst (v := 1) C dMo_readTrigger_126 (by decide) ?_
              refine vj_iadd C dMo_readTrigger_127 ?_
              refine vj_cV (ci := 9) (As := [.int (p2 + 1)]) (st := [.int p1, .ref a120]) (b := a0) (a1 := 1) C dMo_readTrigger_128 (cm_Mo_kind _ _ _ _) rfl gv_Mo_82 rfl rfl rfl hv_Mo_kind ⟨Nat.le_of_ble_eq_true rfl, Nat.le_of_ble_eq_true rfl⟩ rfl rfl (Nat.le_of_ble_eq_true rfl) ⟨Nat.le_of_ble_eq_true rfl, Nat.le_of_ble_eq_true rfl⟩ (fun v128 M128 => ?_)
              show Vj x 0 0 131 [(0, .ref a0), (1, .int p1), (2, .int p2), (4, .int v8)] [.int v128, .int p1, .ref a120] M128 _
              refine vj_iast C dMo_readTrigger_131 (fun M131 => ?_)
              refine vj_iload (j := 3) C dMo_readTrigger_132 rfl ?_
              refine vj_jp (fun (j : Mm → Int32 → Rr) => ∀ Mj154 s154_0, Vj x 0 0 154 [(2, .int p2)] [.int s154_0] Mj154 (j Mj154 s154_0)) ?_ ?_
              · intro Mj154 s154_0
                refine vj_if_ge (tgt := 164) C dMo_readTrigger_154 rfl ?_ ?_
                · skip
                  refine vj_iload_n (j := 0) C dMo_readTrigger_164 rfl rfl ?_
                  refine vj_iconst (v := 2) C dMo_readTrigger_165 (by decide) ?_
                  refine vj_iadd C dMo_readTrigger_166 ?_
                  exact vj_ret C dMo_readTrigger_167 rfl rfl (Nat.le_of_ble_eq_true rfl) (Nat.le_of_ble_eq_true rfl)
                · skip
                  refine vj_bipush (v := (-2)) C dMo_readTrigger_157 (by decide) ?_
                  refine vj_iload_n (j := 0) C dMo_readTrigger_159 rfl rfl ?_
                  refine vj_isub C dMo_readTrigger_160 ?_
                  refine vj_goto (tgt := 167) C dMo_readTrigger_161 rfl ?_
                  exact vj_ret C dMo_readTrigger_167 rfl rfl (Nat.le_of_ble_eq_true rfl) (Nat.le_of_ble_eq_true rfl)
              · intro j154 hj154
                refine vj_if_lt (tgt := 147) C dMo_readTrigger_134 rfl ?_ ?_
                · skip
                  refine vj_aload_n (j := 0) C dMo_readTrigger_147 rfl rfl ?_
                  refine vj_iload_n (j := 2) C dMo_readTrigger_148 rfl rfl ?_
                  refine vj_iconst (v := 1) C dMo_readTrigger_149 (by decide) ?_
                  refine vj_iadd C dMo_readTrigger_150 ?_
                  refine vj_cV (ci := 9) (As := [.int (p2 + 1)]) (st := []) (b := a0) (a1 := 1) C dMo_readTrigger_151 (cm_Mo_digit _ _ _ _) rfl gv_Mo_79 rfl rfl rfl hv_Mo_digit ⟨Nat.le_of_ble_eq_true rfl, Nat.le_of_ble_eq_true rfl⟩ rfl rfl (Nat.le_of_ble_eq_true rfl) ⟨Nat.le_of_ble_eq_true rfl, Nat.le_of_ble_eq_true rfl⟩ (fun v151 M151 => ?_)
                  show Vj x 0 0 154 [(0, .ref a0), (1, .int p1), (2, .int p2), (4, .int v8)] [.int v151] M151 _
                  refine vj_lk (lv' := [(2, .int p2)]) [2] rfl ?_
                  exact hj154 _ _
                · skip
                  refine vj_aload_n (j := 0) C dMo_readTrigger_137 rfl rfl ?_
                  refine vj_iload_n (j := 2) C dMo_readTrigger_138 rfl rfl ?_
                  refine vj_iconst (v := 1) C dMo_readTrigger_139 (by decide) ?_
                  refine vj_iadd C dMo_readTrigger_140 ?_
                  refine vj_cV (ci := 9) (As := [.int (p2 + 1)]) (st := []) (b := a0) (a1 := 1) C dMo_readTrigger_141 (cm_Mo_kind _ _ _ _) rfl gv_Mo_82 rfl rfl rfl hv_Mo_kind ⟨Nat.le_of_ble_eq_true rfl, Nat.le_of_ble_eq_true rfl⟩ rfl rfl (Nat.le_of_ble_eq_true rfl) ⟨Nat.le_of_ble_eq_true rfl, Nat.le_of_ble_eq_true rfl⟩ (fun v141 M141 => ?_)
                  show Vj x 0 0 144 [(0, .ref a0), (1, .int p1), (2, .int p2), (4, .int v8)] [.int v141] M141 _
                  refine vj_goto (tgt := 154) C dMo_readTrigger_144 rfl ?_
                  refine vj_lk (lv' := [(2, .int p2)]) [2] rfl ?_
                  exact hj154 _ _
            · intro j118 hj118
              refine vj_if_lt (tgt := 111) C dMo_readTrigger_103 rfl ?_ ?_
              · skip
                refine vj_aload_n (j := 0) C dMo_readTrigger_111 rfl rfl ?_
                refine vj_iload_n (j := 2) C dMo_readTrigger_112 rfl rfl ?_
                refine vj_iconst (v := 1) C dMo_readTrigger_113 (by decide) ?_
                refine vj_iadd C dMo_readTrigger_114 ?_
                refine vj_cV (ci := 9) (As := [.int (p2 + 1)]) (st := [.int p1, .ref a97]) (b := a0) (a1 := 1) C dMo_readTrigger_115 (cm_Mo_digit _ _ _ _) rfl gv_Mo_79 rfl rfl rfl hv_Mo_digit ⟨Nat.le_of_ble_eq_true rfl, Nat.le_of_ble_eq_true rfl⟩ rfl rfl (Nat.le_of_ble_eq_true rfl) ⟨Nat.le_of_ble_eq_true rfl, Nat.le_of_ble_eq_true rfl⟩ (fun v115 M115 => ?_)
                show Vj x 0 0 118 [(0, .ref a0), (1, .int p1), (2, .int p2), (4, .int v8)] [.int v115, .int p1, .ref a97] M115 _
                exact hj118 _ _
              · skip
                refine vj_iload (j := 3) C dMo_readTrigger_106 rfl ?_
                refine vj_goto (tgt := 118) C dMo_readTrigger_108 rfl ?_
                exact hj118 _ _
          · intro j96 hj96
            refine vj_if_ge (tgt := 96) C dMo_readTrigger_77 rfl ?_ ?_
            · skip
              refine vj_lk (lv' := [(0, .ref a0), (1, .int p1), (2, .int p2), (4, .int v8)]) [0, 1, 2, 4] rfl ?_
              exact hj96
            · skip
              refine vj_iload_n (j := 3) C dMo_readTrigger_80 rfl rfl ?_
              refine vj_bipush (v := 120) C dMo_readTrigger_81 (by decide) ?_
              refine vj_icmp_eq (tgt := 96) C dMo_readTrigger_83 rfl ?_ ?_
              · skip
                refine vj_lk (lv' := [(0, .ref a0), (1, .int p1), (2, .int p2), (4, .int v8)]) [0, 1, 2, 4] rfl ?_
                exact hj96
              · skip
                refine vj_iload_n (j := 3) C dMo_readTrigger_86 rfl rfl ?_
                refine vj_bipush (v := 102) C dMo_readTrigger_87 (by decide) ?_
                refine vj_icmp_eq (tgt := 96) C dMo_readTrigger_89 rfl ?_ ?_
                · skip
                  refine vj_lk (lv' := [(0, .ref a0), (1, .int p1), (2, .int p2), (4, .int v8)]) [0, 1, 2, 4] rfl ?_
                  exact hj96
                · skip
                  refine vj_iconst (v := (-1)) C dMo_readTrigger_92 (by decide) ?_
                  refine vj_iload_n (j := 2) C dMo_readTrigger_93 rfl rfl ?_
                  refine vj_isub C dMo_readTrigger_94 ?_
                  exact vj_ret C dMo_readTrigger_95 rfl rfl (Nat.le_of_ble_eq_true rfl) (Nat.le_of_ble_eq_true rfl)
        · skip
          refine vj_lk (lv' := [(2, .int p2)]) [2] rfl ?_
          exact hj71
  · intro j58 hj58
    refine vj_icmp_ne (tgt := 28) C dMo_readTrigger_21 rfl ?_ ?_
    · skip
      refine vj_iload (j := 4) C dMo_readTrigger_28 rfl ?_
      refine vj_if_lt (tgt := 37) C dMo_readTrigger_30 rfl ?_ ?_
      · skip
        refine vj_iload_n (j := 3) C dMo_readTrigger_37 rfl rfl ?_
        refine vj_bipush (v := 120) C dMo_readTrigger_38 (by decide) ?_
        refine vj_icmp_ne (tgt := 47) C dMo_readTrigger_40 rfl ?_ ?_
        · skip
          refine vj_iload_n (j := 3) C dMo_readTrigger_47 rfl rfl ?_
          refine vj_bipush (v := 102) C dMo_readTrigger_48 (by decide) ?_
          refine vj_icmp_ne (tgt := 57) C dMo_readTrigger_50 rfl ?_ ?_
          · skip
            refine vj_iconst (v := 4) C dMo_readTrigger_57 (by decide) ?_
            exact hj58 _
          · skip
            refine vj_iconst (v := 3) C dMo_readTrigger_53 (by decide) ?_
            refine vj_goto (tgt := 58) C dMo_readTrigger_54 rfl ?_
            exact hj58 _
        · skip
          refine vj_iconst (v := 2) C dMo_readTrigger_43 (by decide) ?_
          refine vj_goto (tgt := 58) C dMo_readTrigger_44 rfl ?_
          exact hj58 _
      · skip
        refine vj_iconst (v := 1) C dMo_readTrigger_33 (by decide) ?_
        refine vj_goto (tgt := 58) C dMo_readTrigger_34 rfl ?_
        exact hj58 _
    · skip
      refine vj_iconst (v := 0) C dMo_readTrigger_24 (by decide) ?_
      refine vj_goto (tgt := 58) C dMo_readTrigger_25 rfl ?_
      exact hj58 _
def fn_Mo_overPair (M : Mm) (a0 : Nat) (p1 : Int32) : Rr := fo_cv M 9 a0 (fn_Mo_party M a0 p1) fun v2 M2 => if 0 ≤ v2 then fo_cv M2 9 a0 (fn_Mo_party M2 a0 (p1 + 1)) fun v16 M16 => fo_jp (fun (Mj37 : Mm) => some (((-2) - p1), Mj37)) (fun j37 => if v16 < 0 then j37 M16 else fo_cv M16 9 a0 (fn_Mo_party M16 a0 (p1 + 1)) fun v26 M26 => fo_cv M26 9 a0 (fn_Mo_party M26 a0 p1) fun v31 M31 => if v26 = v31 then j37 M31 else fo_cv M31 9 a0 (fn_Mo_digit M31 a0 (p1 + 2)) fun v46 M46 => if 0 ≤ v46 then some ((p1 + 3), M46) else some (((-3) - p1), M46)) else some (((-1) - p1), M2)
set_option maxHeartbeats 4000000 in
set_option maxRecDepth 100000 in
theorem cm_Mo_overPair (l : Launch) (M : Mm) (a0 : Nat) (p1 : Int32) : ct l zyMo_overPair ws_Mo_overPair { frames := 2, cells := 0, slots := 0, locals := 43 } 0 0 (fun w => some (.int w)) [.ref a0, .int p1] M (fn_Mo_overPair M a0 p1) := by
  refine ct_of (cc := zbMo_overPair) (maxL := 2) (ret := (some .int)) (lv0 := [(0, .ref a0), (1, .int p1)]) (by decide) rfl (Nat.le_of_ble_eq_true rfl) rfl rfl ?_
  intro x C
  unfold fn_Mo_overPair
  refine vj_aload_n (j := 0) C dMo_overPair_0 rfl rfl ?_
  refine vj_iload_n (j := 1) C dMo_overPair_1 rfl rfl ?_
  refine vj_cV (ci := 9) (As := [.int p1]) (st := []) (b := a0) (a1 := 1) C dMo_overPair_2 (cm_Mo_party _ _ _ _) rfl gv_Mo_76 rfl rfl rfl hv_Mo_party ⟨Nat.le_of_ble_eq_true rfl, Nat.le_of_ble_eq_true rfl⟩ rfl rfl (Nat.le_of_ble_eq_true rfl) ⟨Nat.le_of_ble_eq_true rfl, Nat.le_of_ble_eq_true rfl⟩ (fun v2 M2 => ?_)
  show Vj x 0 0 5 [(0, .ref a0), (1, .int p1)] [.int v2] M2 _
  refine vj_if_ge (tgt := 12) C dMo_overPair_5 rfl ?_ ?_
  · skip
    refine vj_aload_n (j := 0) C dMo_overPair_12 rfl rfl ?_
    refine vj_iload_n (j := 1) C dMo_overPair_13 rfl rfl ?_
    refine vj_iconst (v := 1) C dMo_overPair_14 (by decide) ?_
    refine vj_iadd C dMo_overPair_15 ?_
    refine vj_cV (ci := 9) (As := [.int (p1 + 1)]) (st := []) (b := a0) (a1 := 1) C dMo_overPair_16 (cm_Mo_party _ _ _ _) rfl gv_Mo_76 rfl rfl rfl hv_Mo_party ⟨Nat.le_of_ble_eq_true rfl, Nat.le_of_ble_eq_true rfl⟩ rfl rfl (Nat.le_of_ble_eq_true rfl) ⟨Nat.le_of_ble_eq_true rfl, Nat.le_of_ble_eq_true rfl⟩ (fun v16 M16 => ?_)
    show Vj x 0 0 19 [(0, .ref a0), (1, .int p1)] [.int v16] M16 _
    refine vj_jp (fun (j : Mm → Rr) => ∀ Mj37, Vj x 0 0 37 [(1, .int p1)] [] Mj37 (j Mj37)) ?_ ?_
    · intro Mj37
      refine vj_bipush (v := (-2)) C dMo_overPair_37 (by decide) ?_
      refine vj_iload_n (j := 0) C dMo_overPair_39 rfl rfl ?_
      refine vj_isub C dMo_overPair_40 ?_
      exact vj_ret C dMo_overPair_41 rfl rfl (Nat.le_of_ble_eq_true rfl) (Nat.le_of_ble_eq_true rfl)
    · intro j37 hj37
      refine vj_if_lt (tgt := 37) C dMo_overPair_19 rfl ?_ ?_
      · skip
        refine vj_lk (lv' := [(1, .int p1)]) [1] rfl ?_
        exact hj37 _
      · skip
        refine vj_aload_n (j := 0) C dMo_overPair_22 rfl rfl ?_
        refine vj_iload_n (j := 1) C dMo_overPair_23 rfl rfl ?_
        refine vj_iconst (v := 1) C dMo_overPair_24 (by decide) ?_
        refine vj_iadd C dMo_overPair_25 ?_
        refine vj_cV (ci := 9) (As := [.int (p1 + 1)]) (st := []) (b := a0) (a1 := 1) C dMo_overPair_26 (cm_Mo_party _ _ _ _) rfl gv_Mo_76 rfl rfl rfl hv_Mo_party ⟨Nat.le_of_ble_eq_true rfl, Nat.le_of_ble_eq_true rfl⟩ rfl rfl (Nat.le_of_ble_eq_true rfl) ⟨Nat.le_of_ble_eq_true rfl, Nat.le_of_ble_eq_true rfl⟩ (fun v26 M26 => ?_)
        show Vj x 0 0 29 [(0, .ref a0), (1, .int p1)] [.int v26] M26 _
        refine vj_aload_n (j := 0) C dMo_overPair_29 rfl rfl ?_
        refine vj_iload_n (j := 1) C dMo_overPair_30 rfl rfl ?_
        refine vj_cV (ci := 9) (As := [.int p1]) (st := [.int v26]) (b := a0) (a1 := 1) C dMo_overPair_31 (cm_Mo_party _ _ _ _) rfl gv_Mo_76 rfl rfl rfl hv_Mo_party ⟨Nat.le_of_ble_eq_true rfl, Nat.le_of_ble_eq_true rfl⟩ rfl rfl (Nat.le_of_ble_eq_true rfl) ⟨Nat.le_of_ble_eq_true rfl, Nat.le_of_ble_eq_true rfl⟩ (fun v31 M31 => ?_)
        show Vj x 0 0 34 [(0, .ref a0), (1, .int p1)] [.int v31, .int v26] M31 _
        refine vj_icmp_ne (tgt := 42) C dMo_overPair_34 rfl ?_ ?_
        · skip
          refine vj_aload_n (j := 0) C dMo_overPair_42 rfl rfl ?_
          refine vj_iload_n (j := 1) C dMo_overPair_43 rfl rfl ?_
          refine vj_iconst (v := 2) C dMo_overPair_44 (by decide) ?_
          refine vj_iadd C dMo_overPair_45 ?_
          refine vj_cV (ci := 9) (As := [.int (p1 + 2)]) (st := []) (b := a0) (a1 := 1) C dMo_overPair_46 (cm_Mo_digit _ _ _ _) rfl gv_Mo_79 rfl rfl rfl hv_Mo_digit ⟨Nat.le_of_ble_eq_true rfl, Nat.le_of_ble_eq_true rfl⟩ rfl rfl (Nat.le_of_ble_eq_true rfl) ⟨Nat.le_of_ble_eq_true rfl, Nat.le_of_ble_eq_true rfl⟩ (fun v46 M46 => ?_)
          show Vj x 0 0 49 [(0, .ref a0), (1, .int p1)] [.int v46] M46 _
          refine vj_if_ge (tgt := 59) C dMo_overPair_49 rfl ?_ ?_
          · skip
            refine vj_iload_n (j := 1) C dMo_overPair_59 rfl rfl ?_
            refine vj_iconst (v := 3) C dMo_overPair_60 (by decide) ?_
            refine vj_iadd C dMo_overPair_61 ?_
            exact vj_ret C dMo_overPair_62 rfl rfl (Nat.le_of_ble_eq_true rfl) (Nat.le_of_ble_eq_true rfl)
          · skip
            refine vj_bipush (v := (-3)) C dMo_overPair_52 (by decide) ?_
            refine vj_iload_n (j := 1) C dMo_overPair_54 rfl rfl ?_
            refine vj_isub C dMo_overPair_55 ?_
            refine vj_goto (tgt := 62) C dMo_overPair_56 rfl ?_
            exact vj_ret C dMo_overPair_62 rfl rfl (Nat.le_of_ble_eq_true rfl) (Nat.le_of_ble_eq_true rfl)
        · skip
          refine vj_lk (lv' := [(1, .int p1)]) [1] rfl ?_
          exact hj37 _
  · skip
    refine vj_iconst (v := (-1)) C dMo_overPair_8 (by decide) ?_
    refine vj_iload_n (j := 1) C dMo_overPair_9 rfl rfl ?_
    refine vj_isub C dMo_overPair_10 ?_
    exact vj_ret C dMo_overPair_11 rfl rfl (Nat.le_of_ble_eq_true rfl) (Nat.le_of_ble_eq_true rfl)
def fn_Mo_readBound (M : Mm) (a0 : Nat) (p1 : Int32) (p2 : Int32) : Rr := fo_gr M 9 a0 11 fun a1 => fo_cv M 9 a0 (fn_Mo_charAt M a0 p2) fun v7 M7 => fo_jp (fun (s20_2 : Int32) => fo_sz M7 a1 p1 s20_2 fun M20 => fo_gr M20 9 a0 11 fun a22 => fo_ai M20 1 a22 p1 fun v26 => if v26 = 0 then some (p2, M20) else fo_gr M20 9 a0 12 fun a33 => fo_cv M20 9 a0 (fn_Mo_party M20 a0 (p2 + 1)) fun v41 M41 => fo_si M41 a33 p1 v41 fun M44 => fo_gr M44 9 a0 13 fun a46 => fo_cv M44 9 a0 (fn_Mo_party M44 a0 (p2 + 2)) fun v54 M54 => fo_si M54 a46 p1 v54 fun M57 => fo_gr M57 9 a0 14 fun a59 => fo_cv M57 9 a0 (fn_Mo_digit M57 a0 (p2 + 3)) fun v67 M67 => fo_si M67 a59 p1 v67 fun M70 => fo_cv M70 9 a0 (fn_Mo_overPair M70 a0 (p2 + 1)) fun v75 M75 => if 0 ≤ v75 then fo_cv M75 9 a0 (fn_Mo_charAt M75 a0 v75) fun v89 M89 => if v89 = 93 then some ((v75 + 1), M89) else some (((-1) - v75), M89) else some (v75, M75)) (fun j20 => if v7 = 91 then j20 1 else j20 0)
set_option maxHeartbeats 4000000 in
set_option maxRecDepth 100000 in
theorem cm_Mo_readBound (l : Launch) (M : Mm) (a0 : Nat) (p1 : Int32) (p2 : Int32) : ct l zyMo_readBound ws_Mo_readBound { frames := 3, cells := 0, slots := 0, locals := 64 } 0 0 (fun w => some (.int w)) [.ref a0, .int p1, .int p2] M (fn_Mo_readBound M a0 p1 p2) := by
  refine ct_of (cc := zbMo_readBound) (maxL := 4) (ret := (some .int)) (lv0 := [(0, .ref a0), (1, .int p1), (2, .int p2)]) (by decide) rfl (Nat.le_of_ble_eq_true rfl) rfl rfl ?_
  intro x C
  unfold fn_Mo_readBound
  refine vj_aload_n (j := 0) C dMo_readBound_0 rfl rfl ?_
  refine vj_gr C dMo_readBound_1 lf_Mo_30 rfl (fun a1 => ?_)
  refine vj_iload_n (j := 1) C dMo_readBound_4 rfl rfl ?_
  refine vj_aload_n (j := 0) C dMo_readBound_5 rfl rfl ?_
  refine vj_iload_n (j := 2) C dMo_readBound_6 rfl rfl ?_
  refine vj_cV (ci := 9) (As := [.int p2]) (st := [.int p1, .ref a1]) (b := a0) (a1 := 1) C dMo_readBound_7 (cm_Mo_charAt _ _ _ _) rfl gv_Mo_72 rfl rfl rfl hv_Mo_charAt ⟨Nat.le_of_ble_eq_true rfl, Nat.le_of_ble_eq_true rfl⟩ rfl rfl (Nat.le_of_ble_eq_true rfl) ⟨Nat.le_of_ble_eq_true rfl, Nat.le_of_ble_eq_true rfl⟩ (fun v7 M7 => ?_)
  show Vj x 0 0 10 [(0, .ref a0), (1, .int p1), (2, .int p2)] [.int v7, .int p1, .ref a1] M7 _
  refine vj_bipush (v := 91) C dMo_readBound_10 (by decide) ?_
  refine vj_jp (fun (j : Int32 → Rr) => ∀ s20_2, Vj x 0 0 20 [(0, .ref a0), (1, .int p1), (2, .int p2)] [.int s20_2, .int p1, .ref a1] M7 (j s20_2)) ?_ ?_
  · intro s20_2
    refine vj_zast C dMo_readBound_20 (fun M20 => ?_)
    refine vj_aload_n (j := 0) C dMo_readBound_21 rfl rfl ?_
    refine vj_gr C dMo_readBound_22 lf_Mo_30 rfl (fun a22 => ?_)
    refine vj_iload_n (j := 1) C dMo_readBound_25 rfl rfl ?_
    refine vj_zald C dMo_readBound_26 (by decide) (fun v26 => ?_)
    refine vj_if_ne (tgt := 32) C dMo_readBound_27 rfl ?_ ?_
    · skip
      refine vj_aload_n (j := 0) C dMo_readBound_32 rfl rfl ?_
      refine vj_gr C dMo_readBound_33 lf_Mo_33 rfl (fun a33 => ?_)
      refine vj_iload_n (j := 1) C dMo_readBound_36 rfl rfl ?_
      refine vj_aload_n (j := 0) C dMo_readBound_37 rfl rfl ?_
      refine vj_iload_n (j := 2) C dMo_readBound_38 rfl rfl ?_
      refine vj_iconst (v := 1) C dMo_readBound_39 (by decide) ?_
      refine vj_iadd C dMo_readBound_40 ?_
      refine vj_cV (ci := 9) (As := [.int (p2 + 1)]) (st := [.int p1, .ref a33]) (b := a0) (a1 := 1) C dMo_readBound_41 (cm_Mo_party _ _ _ _) rfl gv_Mo_76 rfl rfl rfl hv_Mo_party ⟨Nat.le_of_ble_eq_true rfl, Nat.le_of_ble_eq_true rfl⟩ rfl rfl (Nat.le_of_ble_eq_true rfl) ⟨Nat.le_of_ble_eq_true rfl, Nat.le_of_ble_eq_true rfl⟩ (fun v41 M41 => ?_)
      show Vj x 0 0 44 [(0, .ref a0), (1, .int p1), (2, .int p2)] [.int v41, .int p1, .ref a33] M41 _
      refine vj_iast C dMo_readBound_44 (fun M44 => ?_)
      refine vj_aload_n (j := 0) C dMo_readBound_45 rfl rfl ?_
      refine vj_gr C dMo_readBound_46 lf_Mo_36 rfl (fun a46 => ?_)
      refine vj_iload_n (j := 1) C dMo_readBound_49 rfl rfl ?_
      refine vj_aload_n (j := 0) C dMo_readBound_50 rfl rfl ?_
      refine vj_iload_n (j := 2) C dMo_readBound_51 rfl rfl ?_
      refine vj_iconst (v := 2) C dMo_readBound_52 (by decide) ?_
      refine vj_iadd C dMo_readBound_53 ?_
      refine vj_cV (ci := 9) (As := [.int (p2 + 2)]) (st := [.int p1, .ref a46]) (b := a0) (a1 := 1) C dMo_readBound_54 (cm_Mo_party _ _ _ _) rfl gv_Mo_76 rfl rfl rfl hv_Mo_party ⟨Nat.le_of_ble_eq_true rfl, Nat.le_of_ble_eq_true rfl⟩ rfl rfl (Nat.le_of_ble_eq_true rfl) ⟨Nat.le_of_ble_eq_true rfl, Nat.le_of_ble_eq_true rfl⟩ (fun v54 M54 => ?_)
      show Vj x 0 0 57 [(0, .ref a0), (1, .int p1), (2, .int p2)] [.int v54, .int p1, .ref a46] M54 _
      refine vj_iast C dMo_readBound_57 (fun M57 => ?_)
      refine vj_aload_n (j := 0) C dMo_readBound_58 rfl rfl ?_
      refine vj_gr C dMo_readBound_59 lf_Mo_39 rfl (fun a59 => ?_)
      refine vj_iload_n (j := 1) C dMo_readBound_62 rfl rfl ?_
      refine vj_aload_n (j := 0) C dMo_readBound_63 rfl rfl ?_
      refine vj_iload_n (j := 2) C dMo_readBound_64 rfl rfl ?_
      refine vj_iconst (v := 3) C dMo_readBound_65 (by decide) ?_
      refine vj_iadd C dMo_readBound_66 ?_
      refine vj_cV (ci := 9) (As := [.int (p2 + 3)]) (st := [.int p1, .ref a59]) (b := a0) (a1 := 1) C dMo_readBound_67 (cm_Mo_digit _ _ _ _) rfl gv_Mo_79 rfl rfl rfl hv_Mo_digit ⟨Nat.le_of_ble_eq_true rfl, Nat.le_of_ble_eq_true rfl⟩ rfl rfl (Nat.le_of_ble_eq_true rfl) ⟨Nat.le_of_ble_eq_true rfl, Nat.le_of_ble_eq_true rfl⟩ (fun v67 M67 => ?_)
      show Vj x 0 0 70 [(0, .ref a0), (1, .int p1), (2, .int p2)] [.int v67, .int p1, .ref a59] M67 _
      refine vj_iast C dMo_readBound_70 (fun M70 => ?_)
      refine vj_aload_n (j := 0) C dMo_readBound_71 rfl rfl ?_
      refine vj_iload_n (j := 2) C dMo_readBound_72 rfl rfl ?_
      refine vj_iconst (v := 1) C dMo_readBound_73 (by decide) ?_
      refine vj_iadd C dMo_readBound_74 ?_
      refine vj_cV (ci := 9) (As := [.int (p2 + 1)]) (st := []) (b := a0) (a1 := 1) C dMo_readBound_75 (cm_Mo_overPair _ _ _ _) rfl gv_Mo_85 rfl rfl rfl hv_Mo_overPair ⟨Nat.le_of_ble_eq_true rfl, Nat.le_of_ble_eq_true rfl⟩ rfl rfl (Nat.le_of_ble_eq_true rfl) ⟨Nat.le_of_ble_eq_true rfl, Nat.le_of_ble_eq_true rfl⟩ (fun v75 M75 => ?_)
      show Vj x 0 0 78 [(0, .ref a0), (1, .int p1), (2, .int p2)] [.int v75] M75 _
      refine vj_istore_n (lv' := [(0, .ref a0), (3, .int v75)]) C dMo_readBound_78 rfl (by decide) [1, 0] rfl ?_
      refine vj_iload_n (j := 1) C dMo_readBound_79 rfl rfl ?_
      refine vj_if_ge (tgt := 87) C dMo_readBound_80 rfl ?_ ?_
      · skip
        refine vj_aload_n (j := 0) C dMo_readBound_87 rfl rfl ?_
        refine vj_iload_n (j := 1) C dMo_readBound_88 rfl rfl ?_
        refine vj_cV (ci := 9) (As := [.int v75]) (st := []) (b := a0) (a1 := 1) C dMo_readBound_89 (cm_Mo_charAt _ _ _ _) rfl gv_Mo_72 rfl rfl rfl hv_Mo_charAt ⟨Nat.le_of_ble_eq_true rfl, Nat.le_of_ble_eq_true rfl⟩ rfl rfl (Nat.le_of_ble_eq_true rfl) ⟨Nat.le_of_ble_eq_true rfl, Nat.le_of_ble_eq_true rfl⟩ (fun v89 M89 => ?_)
        show Vj x 0 0 92 [(0, .ref a0), (3, .int v75)] [.int v89] M89 _
        refine vj_bipush (v := 93) C dMo_readBound_92 (by decide) ?_
        refine vj_icmp_ne (tgt := 103) C dMo_readBound_94 rfl ?_ ?_
        · skip
          refine vj_iconst (v := (-1)) C dMo_readBound_103 (by decide) ?_
          refine vj_iload_n (j := 1) C dMo_readBound_104 rfl rfl ?_
          refine vj_isub C dMo_readBound_105 ?_
          exact vj_ret C dMo_readBound_106 rfl rfl (Nat.le_of_ble_eq_true rfl) (Nat.le_of_ble_eq_true rfl)
        · skip
          refine vj_iload_n (j := 1) C dMo_readBound_97 rfl rfl ?_
          refine vj_iconst (v := 1) C dMo_readBound_98 (by decide) ?_
          refine vj_iadd C dMo_readBound_99 ?_
          refine vj_goto (tgt := 106) C dMo_readBound_100 rfl ?_
          exact vj_ret C dMo_readBound_106 rfl rfl (Nat.le_of_ble_eq_true rfl) (Nat.le_of_ble_eq_true rfl)
      · skip
        refine vj_iload_n (j := 1) C dMo_readBound_83 rfl rfl ?_
        refine vj_goto (tgt := 106) C dMo_readBound_84 rfl ?_
        exact vj_ret C dMo_readBound_106 rfl rfl (Nat.le_of_ble_eq_true rfl) (Nat.le_of_ble_eq_true rfl)
    · skip
      refine vj_iload_n (j := 2) C dMo_readBound_30 rfl rfl ?_
      exact vj_ret C dMo_readBound_31 rfl rfl (Nat.le_of_ble_eq_true rfl) (Nat.le_of_ble_eq_true rfl)
  · intro j20 hj20
    refine vj_icmp_ne (tgt := 19) C dMo_readBound_12 rfl ?_ ?_
    · skip
      refine vj_iconst (v := 0) C dMo_readBound_19 (by decide) ?_
      exact hj20 _
    · skip
      refine vj_iconst (v := 1) C dMo_readBound_15 (by decide) ?_
      refine vj_goto (tgt := 20) C dMo_readBound_16 rfl ?_
      exact hj20 _
def fn_Mo_readAction (M : Mm) (a0 : Nat) (p1 : Int32) (p2 : Int32) : Rr := fo_cv M 9 a0 (fn_Mo_charAt M a0 p2) fun v2 M2 => fo_gr M2 9 a0 15 fun a7 => fo_jp (fun (s62_2 : Int32) => fo_si M2 a7 p1 s62_2 fun M62 => fo_gr M62 9 a0 15 fun a64 => fo_ai M62 0 a64 p1 fun v68 => if 0 ≤ v68 then fo_gr M62 9 a0 15 fun a77 => fo_ai M62 0 a77 p1 fun v81 => if v81 = 4 then fo_gr M62 9 a0 16 fun a87 => fo_cv M62 9 a0 (fn_Mo_digit M62 a0 (p2 + 1)) fun v95 M95 => fo_si M95 a87 p1 v95 fun M98 => fo_gr M98 9 a0 16 fun a100 => fo_ai M98 0 a100 p1 fun v104 => if 0 ≤ v104 then some ((p2 + 2), M98) else some (((-2) - p2), M98) else fo_gr M62 9 a0 16 fun a120 => fo_cv M62 9 a0 (fn_Mo_party M62 a0 (p2 + 1)) fun v128 M128 => fo_si M128 a120 p1 v128 fun M131 => fo_gr M131 9 a0 17 fun a133 => fo_gr M131 9 a0 15 fun a138 => fo_ai M131 0 a138 p1 fun v142 => fo_jp (fun (Mj164 : Mm) (s164_2 : Int32) => fo_si Mj164 a133 p1 s164_2 fun M164 => fo_gr M164 9 a0 18 fun a166 => fo_cv M164 9 a0 (fn_Mo_digit M164 a0 (p2 + 3)) fun v174 M174 => fo_si M174 a166 p1 v174 fun M177 => fo_gr M177 9 a0 15 fun a179 => fo_ai M177 0 a179 p1 fun v183 => if v183 = 3 then fo_cv M177 9 a0 (fn_Mo_overPair M177 a0 (p2 + 1)) fun v192 M192 => some (v192, M192) else fo_gr M177 9 a0 16 fun a197 => fo_ai M177 0 a197 p1 fun v201 => if 0 ≤ v201 then fo_gr M177 9 a0 17 fun a213 => fo_ai M177 0 a213 p1 fun v217 => if 0 ≤ v217 then fo_gr M177 9 a0 18 fun a229 => fo_ai M177 0 a229 p1 fun v233 => if 0 ≤ v233 then some ((p2 + 4), M177) else some (((-4) - p2), M177) else some (((-3) - p2), M177) else some (((-2) - p2), M177)) (fun j164 => if v142 = 3 then fo_cv M131 9 a0 (fn_Mo_party M131 a0 (p2 + 2)) fun v151 M151 => j164 M151 v151 else fo_cv M131 9 a0 (fn_Mo_kind M131 a0 (p2 + 2)) fun v161 M161 => j164 M161 v161) else some (((-1) - p2), M62)) (fun j62 => if v2 = 33 then j62 0 else if v2 = 126 then j62 1 else if v2 = 63 then j62 2 else if v2 = 36 then j62 3 else if v2 = 61 then j62 4 else j62 (-1))
set_option maxHeartbeats 4000000 in
set_option maxRecDepth 100000 in
theorem cm_Mo_readAction (l : Launch) (M : Mm) (a0 : Nat) (p1 : Int32) (p2 : Int32) : ct l zyMo_readAction ws_Mo_readAction { frames := 3, cells := 0, slots := 0, locals := 64 } 0 0 (fun w => some (.int w)) [.ref a0, .int p1, .int p2] M (fn_Mo_readAction M a0 p1 p2) := by
  refine ct_of (cc := zbMo_readAction) (maxL := 4) (ret := (some .int)) (lv0 := [(0, .ref a0), (1, .int p1), (2, .int p2)]) (by decide) rfl (Nat.le_of_ble_eq_true rfl) rfl rfl ?_
  intro x C
  unfold fn_Mo_readAction
  refine vj_aload_n (j := 0) C dMo_readAction_0 rfl rfl ?_
  refine vj_iload_n (j := 2) C dMo_readAction_1 rfl rfl ?_
  refine vj_cV (ci := 9) (As := [.int p2]) (st := []) (b := a0) (a1 := 1) C dMo_readAction_2 (cm_Mo_charAt _ _ _ _) rfl gv_Mo_72 rfl rfl rfl hv_Mo_charAt ⟨Nat.le_of_ble_eq_true rfl, Nat.le_of_ble_eq_true rfl⟩ rfl rfl (Nat.le_of_ble_eq_true rfl) ⟨Nat.le_of_ble_eq_true rfl, Nat.le_of_ble_eq_true rfl⟩ (fun v2 M2 => ?_)
  show Vj x 0 0 5 [(0, .ref a0), (1, .int p1), (2, .int p2)] [.int v2] M2 _
  refine vj_istore_n (lv' := [(0, .ref a0), (1, .int p1), (2, .int p2), (3, .int v2)]) C dMo_readAction_5 rfl (by decide) [1, 2, 3, 0] rfl ?_
  refine vj_aload_n (j := 0) C dMo_readAction_6 rfl rfl ?_
  refine vj_gr C dMo_readAction_7 lf_Mo_42 rfl (fun a7 => ?_)
  refine vj_iload_n (j := 1) C dMo_readAction_10 rfl rfl ?_
  refine vj_iload_n (j := 3) C dMo_readAction_11 rfl rfl ?_
  refine vj_bipush (v := 33) C dMo_readAction_12 (by decide) ?_
  refine vj_jp (fun (j : Int32 → Rr) => ∀ s62_2, Vj x 0 0 62 [(0, .ref a0), (1, .int p1), (2, .int p2)] [.int s62_2, .int p1, .ref a7] M2 (j s62_2)) ?_ ?_
  · intro s62_2
    refine vj_iast C dMo_readAction_62 (fun M62 => ?_)
    refine vj_aload_n (j := 0) C dMo_readAction_63 rfl rfl ?_
    refine vj_gr C dMo_readAction_64 lf_Mo_42 rfl (fun a64 => ?_)
    refine vj_iload_n (j := 1) C dMo_readAction_67 rfl rfl ?_
    refine vj_iald C dMo_readAction_68 (by decide) (fun v68 => ?_)
    refine vj_if_ge (tgt := 76) C dMo_readAction_69 rfl ?_ ?_
    · skip
      refine vj_aload_n (j := 0) C dMo_readAction_76 rfl rfl ?_
      refine vj_gr C dMo_readAction_77 lf_Mo_42 rfl (fun a77 => ?_)
      refine vj_iload_n (j := 1) C dMo_readAction_80 rfl rfl ?_
      refine vj_iald C dMo_readAction_81 (by decide) (fun v81 => ?_)
      refine vj_iconst (v := 4) C dMo_readAction_82 (by decide) ?_
      refine vj_icmp_ne (tgt := 119) C dMo_readAction_83 rfl ?_ ?_
      · skip
        refine vj_aload_n (j := 0) C dMo_readAction_119 rfl rfl ?_
        refine vj_gr C dMo_readAction_120 lf_Mo_45 rfl (fun a120 => ?_)
        refine vj_iload_n (j := 1) C dMo_readAction_123 rfl rfl ?_
        refine vj_aload_n (j := 0) C dMo_readAction_124 rfl rfl ?_
        refine vj_iload_n (j := 2) C dMo_readAction_125 rfl rfl ?_
        refine vj_iconst (v := 1) C dMo_readAction_126 (by decide) ?_
        refine vj_iadd C dMo_readAction_127 ?_
        refine vj_cV (ci := 9) (As := [.int (p2 + 1)]) (st := [.int p1, .ref a120]) (b := a0) (a1 := 1) C dMo_readAction_128 (cm_Mo_party _ _ _ _) rfl gv_Mo_76 rfl rfl rfl hv_Mo_party ⟨Nat.le_of_ble_eq_true rfl, Nat.le_of_ble_eq_true rfl⟩ rfl rfl (Nat.le_of_ble_eq_true rfl) ⟨Nat.le_of_ble_eq_true rfl, Nat.le_of_ble_eq_true rfl⟩ (fun v128 M128 => ?_)
        show Vj x 0 0 131 [(0, .ref a0), (1, .int p1), (2, .int p2)] [.int v128, .int p1, .ref a120] M128 _
        refine vj_iast C dMo_readAction_131 (fun M131 => ?_)
        refine vj_aload_n (j := 0) C dMo_readAction_132 rfl rfl ?_
        refine vj_gr C dMo_readAction_133 lf_Mo_48 rfl (fun a133 => ?_)
        refine vj_iload_n (j := 1) C dMo_readAction_136 rfl rfl ?_
        refine vj_aload_n (j := 0) C dMo_readAction_137 rfl rfl ?_
        refine vj_gr C dMo_readAction_138 lf_Mo_42 rfl (fun a138 => ?_)
        refine vj_iload_n (j := 1) C dMo_readAction_141 rfl rfl ?_
        refine vj_iald C dMo_readAction_142 (by decide) (fun v142 => ?_)
        refine vj_iconst (v := 3) C dMo_readAction_143 (by decide) ?_
        refine vj_jp (fun (j : Mm → Int32 → Rr) => ∀ Mj164 s164_2, Vj x 0 0 164 [(0, .ref a0), (1, .int p1), (2, .int p2)] [.int s164_2, .int p1, .ref a133] Mj164 (j Mj164 s164_2)) ?_ ?_
        · intro Mj164 s164_2
          refine vj_iast C dMo_readAction_164 (fun M164 => ?_)
          refine vj_aload_n (j := 0) C dMo_readAction_165 rfl rfl ?_
          refine vj_gr C dMo_readAction_166 lf_Mo_51 rfl (fun a166 => ?_)
          refine vj_iload_n (j := 1) C dMo_readAction_169 rfl rfl ?_
          refine vj_aload_n (j := 0) C dMo_readAction_170 rfl rfl ?_
          refine vj_iload_n (j := 2) C dMo_readAction_171 rfl rfl ?_
          refine vj_iconst (v := 3) C dMo_readAction_172 (by decide) ?_
          refine vj_iadd C dMo_readAction_173 ?_
          refine vj_cV (ci := 9) (As := [.int (p2 + 3)]) (st := [.int p1, .ref a166]) (b := a0) (a1 := 1) C dMo_readAction_174 (cm_Mo_digit _ _ _ _) rfl gv_Mo_79 rfl rfl rfl hv_Mo_digit ⟨Nat.le_of_ble_eq_true rfl, Nat.le_of_ble_eq_true rfl⟩ rfl rfl (Nat.le_of_ble_eq_true rfl) ⟨Nat.le_of_ble_eq_true rfl, Nat.le_of_ble_eq_true rfl⟩ (fun v174 M174 => ?_)
          show Vj x 0 0 177 [(0, .ref a0), (1, .int p1), (2, .int p2)] [.int v174, .int p1, .ref a166] M174 _
          refine vj_iast C dMo_readAction_177 (fun M177 => ?_)
          refine vj_aload_n (j := 0) C dMo_readAction_178 rfl rfl ?_
          refine vj_gr C dMo_readAction_179 lf_Mo_42 rfl (fun a179 => ?_)
          refine vj_iload_n (j := 1) C dMo_readAction_182 rfl rfl ?_
          refine vj_iald C dMo_readAction_183 (by decide) (fun v183 => ?_)
          refine vj_iconst (v := 3) C dMo_readAction_184 (by decide) ?_
          refine vj_icmp_ne (tgt := 196) C dMo_readAction_185 rfl ?_ ?_
          · skip
            refine vj_aload_n (j := 0) C dMo_readAction_196 rfl rfl ?_
            refine vj_gr C dMo_readAction_197 lf_Mo_45 rfl (fun a197 => ?_)
            refine vj_iload_n (j := 1) C dMo_readAction_200 rfl rfl ?_
            refine vj_iald C dMo_readAction_201 (by decide) (fun v201 => ?_)
            refine vj_if_ge (tgt := 212) C dMo_readAction_202 rfl ?_ ?_
            · skip
              refine vj_aload_n (j := 0) C dMo_readAction_212 rfl rfl ?_
              refine vj_gr C dMo_readAction_213 lf_Mo_48 rfl (fun a213 => ?_)
              refine vj_iload_n (j := 1) C dMo_readAction_216 rfl rfl ?_
              refine vj_iald C dMo_readAction_217 (by decide) (fun v217 => ?_)
              refine vj_if_ge (tgt := 228) C dMo_readAction_218 rfl ?_ ?_
              · skip
                refine vj_aload_n (j := 0) C dMo_readAction_228 rfl rfl ?_
                refine vj_gr C dMo_readAction_229 lf_Mo_51 rfl (fun a229 => ?_)
                refine vj_iload_n (j := 1) C dMo_readAction_232 rfl rfl ?_
                refine vj_iald C dMo_readAction_233 (by decide) (fun v233 => ?_)
                refine vj_if_ge (tgt := 244) C dMo_readAction_234 rfl ?_ ?_
                · skip
                  refine vj_iload_n (j := 2) C dMo_readAction_244 rfl rfl ?_
                  refine vj_iconst (v := 4) C dMo_readAction_245 (by decide) ?_
                  refine vj_iadd C dMo_readAction_246 ?_
                  exact vj_ret C dMo_readAction_247 rfl rfl (Nat.le_of_ble_eq_true rfl) (Nat.le_of_ble_eq_true rfl)
                · skip
                  refine vj_bipush (v := (-4)) C dMo_readAction_237 (by decide) ?_
                  refine vj_iload_n (j := 2) C dMo_readAction_239 rfl rfl ?_
                  refine vj_isub C dMo_readAction_240 ?_
                  refine vj_goto (tgt := 247) C dMo_readAction_241 rfl ?_
                  exact vj_ret C dMo_readAction_247 rfl rfl (Nat.le_of_ble_eq_true rfl) (Nat.le_of_ble_eq_true rfl)
              · skip
                refine vj_bipush (v := (-3)) C dMo_readAction_221 (by decide) ?_
                refine vj_iload_n (j := 2) C dMo_readAction_223 rfl rfl ?_
                refine vj_isub C dMo_readAction_224 ?_
                refine vj_goto (tgt := 247) C dMo_readAction_225 rfl ?_
                exact vj_ret C dMo_readAction_247 rfl rfl (Nat.le_of_ble_eq_true rfl) (Nat.le_of_ble_eq_true rfl)
            · skip
              refine vj_bipush (v := (-2)) C dMo_readAction_205 (by decide) ?_
              refine vj_iload_n (j := 2) C dMo_readAction_207 rfl rfl ?_
              refine vj_isub C dMo_readAction_208 ?_
              refine vj_goto (tgt := 247) C dMo_readAction_209 rfl ?_
              exact vj_ret C dMo_readAction_247 rfl rfl (Nat.le_of_ble_eq_true rfl) (Nat.le_of_ble_eq_true rfl)
          · skip
            refine vj_aload_n (j := 0) C dMo_readAction_188 rfl rfl ?_
            refine vj_iload_n (j := 2) C dMo_readAction_189 rfl rfl ?_
            refine vj_iconst (v := 1) C dMo_readAction_190 (by decide) ?_
            refine vj_iadd C dMo_readAction_191 ?_
            refine vj_cV (ci := 9) (As := [.int (p2 + 1)]) (st := []) (b := a0) (a1 := 1) C dMo_readAction_192 (cm_Mo_overPair _ _ _ _) rfl gv_Mo_85 rfl rfl rfl hv_Mo_overPair ⟨Nat.le_of_ble_eq_true rfl, Nat.le_of_ble_eq_true rfl⟩ rfl rfl (Nat.le_of_ble_eq_true rfl) ⟨Nat.le_of_ble_eq_true rfl, Nat.le_of_ble_eq_true rfl⟩ (fun v192 M192 => ?_)
            show Vj x 0 0 195 [(0, .ref a0), (1, .int p1), (2, .int p2)] [.int v192] M192 _
            exact vj_ret C dMo_readAction_195 rfl rfl (Nat.le_of_ble_eq_true rfl) (Nat.le_of_ble_eq_true rfl)
        · intro j164 hj164
          refine vj_icmp_ne (tgt := 157) C dMo_readAction_144 rfl ?_ ?_
          · skip
            refine vj_aload_n (j := 0) C dMo_readAction_157 rfl rfl ?_
            refine vj_iload_n (j := 2) C dMo_readAction_158 rfl rfl ?_
            refine vj_iconst (v := 2) C dMo_readAction_159 (by decide) ?_
            refine vj_iadd C dMo_readAction_160 ?_
            refine vj_cV (ci := 9) (As := [.int (p2 + 2)]) (st := [.int p1, .ref a133]) (b := a0) (a1 := 1) C dMo_readAction_161 (cm_Mo_kind _ _ _ _) rfl gv_Mo_82 rfl rfl rfl hv_Mo_kind ⟨Nat.le_of_ble_eq_true rfl, Nat.le_of_ble_eq_true rfl⟩ rfl rfl (Nat.le_of_ble_eq_true rfl) ⟨Nat.le_of_ble_eq_true rfl, Nat.le_of_ble_eq_true rfl⟩ (fun v161 M161 => ?_)
            show Vj x 0 0 164 [(0, .ref a0), (1, .int p1), (2, .int p2)] [.int v161, .int p1, .ref a133] M161 _
            exact hj164 _ _
          · skip
            refine vj_aload_n (j := 0) C dMo_readAction_147 rfl rfl ?_
            refine vj_iload_n (j := 2) C dMo_readAction_148 rfl rfl ?_
            refine vj_iconst (v := 2) C dMo_readAction_149 (by decide) ?_
            refine vj_iadd C dMo_readAction_150 ?_
            refine vj_cV (ci := 9) (As := [.int (p2 + 2)]) (st := [.int p1, .ref a133]) (b := a0) (a1 := 1) C dMo_readAction_151 (cm_Mo_party _ _ _ _) rfl gv_Mo_76 rfl rfl rfl hv_Mo_party ⟨Nat.le_of_ble_eq_true rfl, Nat.le_of_ble_eq_true rfl⟩ rfl rfl (Nat.le_of_ble_eq_true rfl) ⟨Nat.le_of_ble_eq_true rfl, Nat.le_of_ble_eq_true rfl⟩ (fun v151 M151 => ?_)
            show Vj x 0 0 154 [(0, .ref a0), (1, .int p1), (2, .int p2)] [.int v151, .int p1, .ref a133] M151 _
            refine vj_goto (tgt := 164) C dMo_readAction_154 rfl ?_
            exact hj164 _ _
      · skip
        refine vj_aload_n (j := 0) C dMo_readAction_86 rfl rfl ?_
        refine vj_gr C dMo_readAction_87 lf_Mo_45 rfl (fun a87 => ?_)
        refine vj_iload_n (j := 1) C dMo_readAction_90 rfl rfl ?_
        refine vj_aload_n (j := 0) C dMo_readAction_91 rfl rfl ?_
        refine vj_iload_n (j := 2) C dMo_readAction_92 rfl rfl ?_
        refine vj_iconst (v := 1) C dMo_readAction_93 (by decide) ?_
        refine vj_iadd C dMo_readAction_94 ?_
        refine vj_cV (ci := 9) (As := [.int (p2 + 1)]) (st := [.int p1, .ref a87]) (b := a0) (a1 := 1) C dMo_readAction_95 (cm_Mo_digit _ _ _ _) rfl gv_Mo_79 rfl rfl rfl hv_Mo_digit ⟨Nat.le_of_ble_eq_true rfl, Nat.le_of_ble_eq_true rfl⟩ rfl rfl (Nat.le_of_ble_eq_true rfl) ⟨Nat.le_of_ble_eq_true rfl, Nat.le_of_ble_eq_true rfl⟩ (fun v95 M95 => ?_)
        show Vj x 0 0 98 [(0, .ref a0), (1, .int p1), (2, .int p2)] [.int v95, .int p1, .ref a87] M95 _
        refine vj_iast C dMo_readAction_98 (fun M98 => ?_)
        refine vj_aload_n (j := 0) C dMo_readAction_99 rfl rfl ?_
        refine vj_gr C dMo_readAction_100 lf_Mo_45 rfl (fun a100 => ?_)
        refine vj_iload_n (j := 1) C dMo_readAction_103 rfl rfl ?_
        refine vj_iald C dMo_readAction_104 (by decide) (fun v104 => ?_)
        refine vj_if_ge (tgt := 115) C dMo_readAction_105 rfl ?_ ?_
        · skip
          refine vj_iload_n (j := 2) C dMo_readAction_115 rfl rfl ?_
          refine vj_iconst (v := 2) C dMo_readAction_116 (by decide) ?_
          refine vj_iadd C dMo_readAction_117 ?_
          exact vj_ret C dMo_readAction_118 rfl rfl (Nat.le_of_ble_eq_true rfl) (Nat.le_of_ble_eq_true rfl)
        · skip
          refine vj_bipush (v := (-2)) C dMo_readAction_108 (by decide) ?_
          refine vj_iload_n (j := 2) C dMo_readAction_110 rfl rfl ?_
          refine vj_isub C dMo_readAction_111 ?_
          refine vj_goto (tgt := 118) C dMo_readAction_112 rfl ?_
          exact vj_ret C dMo_readAction_118 rfl rfl (Nat.le_of_ble_eq_true rfl) (Nat.le_of_ble_eq_true rfl)
    · skip
      refine vj_iconst (v := (-1)) C dMo_readAction_72 (by decide) ?_
      refine vj_iload_n (j := 2) C dMo_readAction_73 rfl rfl ?_
      refine vj_isub C dMo_readAction_74 ?_
      exact vj_ret C dMo_readAction_75 rfl rfl (Nat.le_of_ble_eq_true rfl) (Nat.le_of_ble_eq_true rfl)
  · intro j62 hj62
    refine vj_icmp_ne (tgt := 21) C dMo_readAction_14 rfl ?_ ?_
    · skip
      refine vj_iload_n (j := 3) C dMo_readAction_21 rfl rfl ?_
      refine vj_bipush (v := 126) C dMo_readAction_22 (by decide) ?_
      refine vj_icmp_ne (tgt := 31) C dMo_readAction_24 rfl ?_ ?_
      · skip
        refine vj_iload_n (j := 3) C dMo_readAction_31 rfl rfl ?_
        refine vj_bipush (v := 63) C dMo_readAction_32 (by decide) ?_
        refine vj_icmp_ne (tgt := 41) C dMo_readAction_34 rfl ?_ ?_
        · skip
          refine vj_iload_n (j := 3) C dMo_readAction_41 rfl rfl ?_
          refine vj_bipush (v := 36) C dMo_readAction_42 (by decide) ?_
          refine vj_icmp_ne (tgt := 51) C dMo_readAction_44 rfl ?_ ?_
          · skip
            refine vj_iload_n (j := 3) C dMo_readAction_51 rfl rfl ?_
            refine vj_bipush (v := 61) C dMo_readAction_52 (by decide) ?_
            refine vj_icmp_ne (tgt := 61) C dMo_readAction_54 rfl ?_ ?_
            · skip
              refine vj_iconst (v := (-1)) C dMo_readAction_61 (by decide) ?_
              refine vj_lk (lv' := [(0, .ref a0), (1, .int p1), (2, .int p2)]) [0, 1, 2] rfl ?_
              exact hj62 _
            · skip
              refine vj_iconst (v := 4) C dMo_readAction_57 (by decide) ?_
              refine vj_goto (tgt := 62) C dMo_readAction_58 rfl ?_
              refine vj_lk (lv' := [(0, .ref a0), (1, .int p1), (2, .int p2)]) [0, 1, 2] rfl ?_
              exact hj62 _
          · skip
            refine vj_iconst (v := 3) C dMo_readAction_47 (by decide) ?_
            refine vj_goto (tgt := 62) C dMo_readAction_48 rfl ?_
            refine vj_lk (lv' := [(0, .ref a0), (1, .int p1), (2, .int p2)]) [0, 1, 2] rfl ?_
            exact hj62 _
        · skip
          refine vj_iconst (v := 2) C dMo_readAction_37 (by decide) ?_
          refine vj_goto (tgt := 62) C dMo_readAction_38 rfl ?_
          refine vj_lk (lv' := [(0, .ref a0), (1, .int p1), (2, .int p2)]) [0, 1, 2] rfl ?_
          exact hj62 _
      · skip
        refine vj_iconst (v := 1) C dMo_readAction_27 (by decide) ?_
        refine vj_goto (tgt := 62) C dMo_readAction_28 rfl ?_
        refine vj_lk (lv' := [(0, .ref a0), (1, .int p1), (2, .int p2)]) [0, 1, 2] rfl ?_
        exact hj62 _
    · skip
      refine vj_iconst (v := 0) C dMo_readAction_17 (by decide) ?_
      refine vj_goto (tgt := 62) C dMo_readAction_18 rfl ?_
      refine vj_lk (lv' := [(0, .ref a0), (1, .int p1), (2, .int p2)]) [0, 1, 2] rfl ?_
      exact hj62 _
