def fn_Mo_readClause (M : Mm) (a0 : Nat) (p1 : Int32) (p2 : Int32) : Rr := fo_cv M 9 a0 (fn_Mo_readTrigger M a0 p1 p2) fun v3 M3 => fo_jp (fun (Mj21 : Mm) (s21_0 : Int32) => fo_jp (fun (Mj46 : Mm) (w46_3 : Int32) => if 0 ≤ w46_3 then fo_cv Mj46 9 a0 (fn_Mo_readAction Mj46 a0 p1 w46_3) fun v57 M57 => some (v57, M57) else some (w46_3, Mj46)) (fun j46 => if s21_0 < 0 then j46 Mj21 s21_0 else fo_cv Mj21 9 a0 (fn_Mo_charAt Mj21 a0 s21_0) fun v28 M28 => fo_jp (fun (s45_0 : Int32) => j46 M28 s45_0) (fun j45 => if v28 = 62 then j45 (s21_0 + 1) else j45 ((-1) - s21_0)))) (fun j21 => if 0 ≤ v3 then fo_cv M3 9 a0 (fn_Mo_readBound M3 a0 p1 v3) fun v18 M18 => j21 M18 v18 else j21 M3 v3)
set_option maxHeartbeats 4000000 in
set_option maxRecDepth 100000 in
theorem cm_Mo_readClause (l : Launch) (M : Mm) (a0 : Nat) (p1 : Int32) (p2 : Int32) : ct l zyMo_readClause ws_Mo_readClause { frames := 4, cells := 0, slots := 0, locals := 87 } 0 0 (fun w => some (.int w)) [.ref a0, .int p1, .int p2] M (fn_Mo_readClause M a0 p1 p2) := by
  refine ct_of (cc := zbMo_readClause) (maxL := 4) (ret := (some .int)) (lv0 := [(0, .ref a0), (1, .int p1), (2, .int p2)]) (by decide) rfl (Nat.le_of_ble_eq_true rfl) rfl rfl ?_
  intro x C
  unfold fn_Mo_readClause
  refine vj_aload_n (j := 0) C dMo_readClause_0 rfl rfl ?_
  refine vj_iload_n (j := 1) C dMo_readClause_1 rfl rfl ?_
  refine vj_iload_n (j := 2) C dMo_readClause_2 rfl rfl ?_
  refine vj_cV (ci := 9) (As := [.int p1, .int p2]) (st := []) (b := a0) (a1 := 2) C dMo_readClause_3 (cm_Mo_readTrigger _ _ _ _ _) rfl gv_Mo_88 rfl rfl rfl hv_Mo_readTrigger ⟨Nat.le_of_ble_eq_true rfl, Nat.le_of_ble_eq_true rfl⟩ rfl rfl (Nat.le_of_ble_eq_true rfl) ⟨Nat.le_of_ble_eq_true rfl, Nat.le_of_ble_eq_true rfl⟩ (fun v3 M3 => ?_)
  show Vj x 0 0 6 [(0, .ref a0), (1, .int p1), (2, .int p2)] [.int v3] M3 _
  refine vj_istore_n (lv' := [(0, .ref a0), (1, .int p1), (3, .int v3)]) C dMo_readClause_6 rfl (by decide) [1, 2, 0] rfl ?_
  refine vj_iload_n (j := 2) C dMo_readClause_7 rfl rfl ?_
  refine vj_jp (fun (j : Mm → Int32 → Rr) => ∀ Mj21 s21_0, Vj x 0 0 21 [(0, .ref a0), (1, .int p1)] [.int s21_0] Mj21 (j Mj21 s21_0)) ?_ ?_
  · intro Mj21 s21_0
    refine vj_istore_n (lv' := [(0, .ref a0), (1, .int p1), (3, .int s21_0)]) C dMo_readClause_21 rfl (by decide) [1, 2, 0] rfl ?_
    refine vj_iload_n (j := 2) C dMo_readClause_22 rfl rfl ?_
    refine vj_jp (fun (j : Mm → Int32 → Rr) => ∀ Mj46 w46_3, Vj x 0 0 46 [(0, .ref a0), (1, .int p1), (3, .int w46_3)] [] Mj46 (j Mj46 w46_3)) ?_ ?_
    · intro Mj46 w46_3
      refine vj_iload_n (j := 2) C dMo_readClause_46 rfl rfl ?_
      refine vj_if_ge (tgt := 54) C dMo_readClause_47 rfl ?_ ?_
      · skip
        refine vj_aload_n (j := 0) C dMo_readClause_54 rfl rfl ?_
        refine vj_iload_n (j := 1) C dMo_readClause_55 rfl rfl ?_
        refine vj_iload_n (j := 2) C dMo_readClause_56 rfl rfl ?_
        refine vj_cV (ci := 9) (As := [.int p1, .int w46_3]) (st := []) (b := a0) (a1 := 2) C dMo_readClause_57 (cm_Mo_readAction _ _ _ _ _) rfl gv_Mo_95 rfl rfl rfl hv_Mo_readAction ⟨Nat.le_of_ble_eq_true rfl, Nat.le_of_ble_eq_true rfl⟩ rfl rfl (Nat.le_of_ble_eq_true rfl) ⟨Nat.le_of_ble_eq_true rfl, Nat.le_of_ble_eq_true rfl⟩ (fun v57 M57 => ?_)
        show Vj x 0 0 60 [(0, .ref a0), (1, .int p1), (3, .int w46_3)] [.int v57] M57 _
        exact vj_ret C dMo_readClause_60 rfl rfl (Nat.le_of_ble_eq_true rfl) (Nat.le_of_ble_eq_true rfl)
      · skip
        refine vj_iload_n (j := 2) C dMo_readClause_50 rfl rfl ?_
        refine vj_goto (tgt := 60) C dMo_readClause_51 rfl ?_
        exact vj_ret C dMo_readClause_60 rfl rfl (Nat.le_of_ble_eq_true rfl) (Nat.le_of_ble_eq_true rfl)
    · intro j46 hj46
      refine vj_if_lt (tgt := 46) C dMo_readClause_23 rfl ?_ ?_
      · skip
        exact hj46 _ _
      · skip
        refine vj_aload_n (j := 0) C dMo_readClause_26 rfl rfl ?_
        refine vj_iload_n (j := 2) C dMo_readClause_27 rfl rfl ?_
        refine vj_cV (ci := 9) (As := [.int s21_0]) (st := []) (b := a0) (a1 := 1) C dMo_readClause_28 (cm_Mo_charAt _ _ _ _) rfl gv_Mo_72 rfl rfl rfl hv_Mo_charAt ⟨Nat.le_of_ble_eq_true rfl, Nat.le_of_ble_eq_true rfl⟩ rfl rfl (Nat.le_of_ble_eq_true rfl) ⟨Nat.le_of_ble_eq_true rfl, Nat.le_of_ble_eq_true rfl⟩ (fun v28 M28 => ?_)
        show Vj x 0 0 31 [(0, .ref a0), (1, .int p1), (3, .int s21_0)] [.int v28] M28 _
        refine vj_bipush (v := 62) C dMo_readClause_31 (by decide) ?_
        refine vj_jp (fun (j : Int32 → Rr) => ∀ s45_0, Vj x 0 0 45 [(0, .ref a0), (1, .int p1)] [.int s45_0] M28 (j s45_0)) ?_ ?_
        · intro s45_0
          refine vj_istore_n (lv' := [(0, .ref a0), (1, .int p1), (3, .int s45_0)]) C dMo_readClause_45 rfl (by decide) [1, 2, 0] rfl ?_
          exact hj46 _ _
        · intro j45 hj45
          refine vj_icmp_ne (tgt := 42) C dMo_readClause_33 rfl ?_ ?_
          · skip
            refine vj_iconst (v := (-1)) C dMo_readClause_42 (by decide) ?_
            refine vj_iload_n (j := 2) C dMo_readClause_43 rfl rfl ?_
            refine vj_isub C dMo_readClause_44 ?_
            refine vj_lk (lv' := [(0, .ref a0), (1, .int p1)]) [0, 1] rfl ?_
            exact hj45 _
          · skip
            refine vj_iload_n (j := 2) C dMo_readClause_36 rfl rfl ?_
            refine vj_iconst (v := 1) C dMo_readClause_37 (by decide) ?_
            refine vj_iadd C dMo_readClause_38 ?_
            refine vj_goto (tgt := 45) C dMo_readClause_39 rfl ?_
            refine vj_lk (lv' := [(0, .ref a0), (1, .int p1)]) [0, 1] rfl ?_
            exact hj45 _
  · intro j21 hj21
    refine vj_if_ge (tgt := 15) C dMo_readClause_8 rfl ?_ ?_
    · skip
      refine vj_aload_n (j := 0) C dMo_readClause_15 rfl rfl ?_
      refine vj_iload_n (j := 1) C dMo_readClause_16 rfl rfl ?_
      refine vj_iload_n (j := 2) C dMo_readClause_17 rfl rfl ?_
      refine vj_cV (ci := 9) (As := [.int p1, .int v3]) (st := []) (b := a0) (a1 := 2) C dMo_readClause_18 (cm_Mo_readBound _ _ _ _ _) rfl gv_Mo_92 rfl rfl rfl hv_Mo_readBound ⟨Nat.le_of_ble_eq_true rfl, Nat.le_of_ble_eq_true rfl⟩ rfl rfl (Nat.le_of_ble_eq_true rfl) ⟨Nat.le_of_ble_eq_true rfl, Nat.le_of_ble_eq_true rfl⟩ (fun v18 M18 => ?_)
      show Vj x 0 0 21 [(0, .ref a0), (1, .int p1), (3, .int v3)] [.int v18] M18 _
      refine vj_lk (lv' := [(0, .ref a0), (1, .int p1)]) [0, 1] rfl ?_
      exact hj21 _ _
    · skip
      refine vj_iload_n (j := 2) C dMo_readClause_11 rfl rfl ?_
      refine vj_goto (tgt := 21) C dMo_readClause_12 rfl ?_
      refine vj_lk (lv' := [(0, .ref a0), (1, .int p1)]) [0, 1] rfl ?_
      exact hj21 _ _
def lp_Mo_readAll_7 (a0 : Nat) (p1 : Int32) (g7 : Mm → Int32 → Int32 → Int32 → Rr) (Mh7 : Mm) (w7_2 : Int32) (w7_3 : Int32) (w7_4 : Int32) : Rr := if w7_4 = 0 then if 0 ≤ w7_3 then fo_gi Mh7 9 a0 1 fun v78 => if w7_3 = v78 then some (w7_2, Mh7) else some (((-1) - w7_3), Mh7) else some (w7_3, Mh7) else fo_cv Mh7 9 a0 (fn_Mo_readClause Mh7 a0 (p1 + w7_2) w7_3) fun v17 M17 => fo_nm (w7_2 + 1) fun v24 => fo_jp (fun (Mj50 : Mm) (s50_0 : Int32) => fo_jp (fun (s64_0 : Int32) => g7 Mj50 v24 s64_0 s50_0) (fun j64 => if s50_0 = 0 then j64 v17 else j64 (v17 + 1))) (fun j50 => fo_jp (fun (Mj49 : Mm) => j50 Mj49 0) (fun j49 => if v17 < 0 then j49 M17 else fo_cv M17 9 a0 (fn_Mo_charAt M17 a0 v17) fun v31 M31 => if v31 = 59 then if 10 ≤ v24 then j49 M31 else j50 M31 1 else j49 M31))
def fn_Mo_readAll (M : Mm) (a0 : Nat) (p1 : Int32) : Rr := fo_fx (fun _ _ _ _ => none) (lp_Mo_readAll_7 a0 p1) fo_N M 0 0 1
set_option maxHeartbeats 4000000 in
set_option maxRecDepth 100000 in
theorem cm_Mo_readAll (l : Launch) (M : Mm) (a0 : Nat) (p1 : Int32) : ct l zyMo_readAll ws_Mo_readAll { frames := 5, cells := 0, slots := 0, locals := 110 } 0 0 (fun w => some (.int w)) [.ref a0, .int p1] M (fn_Mo_readAll M a0 p1) := by
  refine ct_of (cc := zbMo_readAll) (maxL := 5) (ret := (some .int)) (lv0 := [(0, .ref a0), (1, .int p1)]) (by decide) rfl (Nat.le_of_ble_eq_true rfl) rfl rfl ?_
  intro x C
  unfold fn_Mo_readAll
  refine vj_iconst (v := 0) C dMo_readAll_0 (by decide) ?_
  refine vj_istore_n (lv' := [(0, .ref a0), (1, .int p1), (2, .int 0)]) C dMo_readAll_1 rfl (by decide) [1, 2, 0] rfl ?_
  refine vj_iconst (v := 0) C dMo_readAll_2 (by decide) ?_
  refine vj_istore_n (lv' := [(0, .ref a0), (1, .int p1), (2, .int 0), (3, .int 0)]) C dMo_readAll_3 rfl (by decide) [1, 2, 3, 0] rfl ?_
  refine vj_iconst (v := 1) C dMo_readAll_4 (by decide) ?_
  refine vj_istore (lv' := [(0, .ref a0), (1, .int p1), (2, .int 0), (3, .int 0), (4, .int 1)]) C dMo_readAll_5 (by decide) [1, 2, 3, 4, 0] rfl ?_
  have hg7x : ∀ nf Mh7 w7_2 w7_3 w7_4, Vj x 0 0 7 [(0, .ref a0), (1, .int p1), (2, .int w7_2), (3, .int w7_3), (4, .int w7_4)] [] Mh7 (fo_fx (fun _ _ _ _ => none) (lp_Mo_readAll_7 a0 p1) nf Mh7 w7_2 w7_3 w7_4) := by
    intro nf
    refine fo_fx_P (fun (j : Mm → Int32 → Int32 → Int32 → Rr) => ∀ Mh7 w7_2 w7_3 w7_4, Vj x 0 0 7 [(0, .ref a0), (1, .int p1), (2, .int w7_2), (3, .int w7_3), (4, .int w7_4)] [] Mh7 (j Mh7 w7_2 w7_3 w7_4)) (fun _ _ _ _ => Vj_none) ?_ nf
    intro g7 hg7 Mh7 w7_2 w7_3 w7_4
    unfold lp_Mo_readAll_7
    refine vj_iload (j := 4) C dMo_readAll_7 rfl ?_
    refine vj_if_eq (tgt := 68) C dMo_readAll_9 rfl ?_ ?_
    · skip
      refine vj_iload_n (j := 3) C dMo_readAll_68 rfl rfl ?_
      refine vj_if_ge (tgt := 76) C dMo_readAll_69 rfl ?_ ?_
      · skip
        refine vj_iload_n (j := 3) C dMo_readAll_76 rfl rfl ?_
        refine vj_aload_n (j := 0) C dMo_readAll_77 rfl rfl ?_
        refine vj_gi C dMo_readAll_78 lf_Mo_65 rfl (fun v78 => ?_)
        refine vj_icmp_ne (tgt := 88) C dMo_readAll_81 rfl ?_ ?_
        · skip
          refine vj_iconst (v := (-1)) C dMo_readAll_88 (by decide) ?_
          refine vj_iload_n (j := 3) C dMo_readAll_89 rfl rfl ?_
          refine vj_isub C dMo_readAll_90 ?_
          exact vj_ret C dMo_readAll_91 rfl rfl (Nat.le_of_ble_eq_true rfl) (Nat.le_of_ble_eq_true rfl)
        · skip
          refine vj_iload_n (j := 2) C dMo_readAll_84 rfl rfl ?_
          refine vj_goto (tgt := 91) C dMo_readAll_85 rfl ?_
          exact vj_ret C dMo_readAll_91 rfl rfl (Nat.le_of_ble_eq_true rfl) (Nat.le_of_ble_eq_true rfl)
      · skip
        refine vj_iload_n (j := 3) C dMo_readAll_72 rfl rfl ?_
        refine vj_goto (tgt := 91) C dMo_readAll_73 rfl ?_
        exact vj_ret C dMo_readAll_91 rfl rfl (Nat.le_of_ble_eq_true rfl) (Nat.le_of_ble_eq_true rfl)
    · skip
      refine vj_aload_n (j := 0) C dMo_readAll_12 rfl rfl ?_
      refine vj_iload_n (j := 1) C dMo_readAll_13 rfl rfl ?_
      refine vj_iload_n (j := 2) C dMo_readAll_14 rfl rfl ?_
      refine vj_iadd C dMo_readAll_15 ?_
      refine vj_iload_n (j := 3) C dMo_readAll_16 rfl rfl ?_
      refine vj_cV (ci := 9) (As := [.int (p1 + w7_2), .int w7_3]) (st := []) (b := a0) (a1 := 2) C dMo_readAll_17 (cm_Mo_readClause _ _ _ _ _) rfl gv_Mo_98 rfl rfl rfl hv_Mo_readClause ⟨Nat.le_of_ble_eq_true rfl, Nat.le_of_ble_eq_true rfl⟩ rfl rfl (Nat.le_of_ble_eq_true rfl) ⟨Nat.le_of_ble_eq_true rfl, Nat.le_of_ble_eq_true rfl⟩ (fun v17 M17 => ?_)
      show Vj x 0 0 20 [(0, .ref a0), (1, .int p1), (2, .int w7_2), (3, .int w7_3), (4, .int w7_4)] [.int v17] M17 _
      refine vj_istore_n (lv' := [(0, .ref a0), (1, .int p1), (2, .int w7_2), (3, .int v17)]) C dMo_readAll_20 rfl (by decide) [1, 2, 3, 0] rfl ?_
      refine vj_iload_n (j := 2) C dMo_readAll_21 rfl rfl ?_
      refine vj_iconst (v := 1) C dMo_readAll_22 (by decide) ?_
      refine vj_iadd C dMo_readAll_23 ?_
      refine vj_nm (fun v24 => ?_)
      refine vj_istore_n (lv' := [(0, .ref a0), (1, .int p1), (2, .int v24), (3, .int v17)]) C dMo_readAll_24 rfl (by decide) [1, 2, 0, 3] rfl ?_
      refine vj_iload_n (j := 3) C dMo_readAll_25 rfl rfl ?_
      refine vj_jp (fun (j : Mm → Int32 → Rr) => ∀ Mj50 s50_0, Vj x 0 0 50 [(0, .ref a0), (1, .int p1), (2, .int v24), (3, .int v17)] [.int s50_0] Mj50 (j Mj50 s50_0)) ?_ ?_
      · intro Mj50 s50_0
        refine vj_istore (lv' := [(0, .ref a0), (1, .int p1), (2, .int v24), (3, .int v17), (4, .int s50_0)]) C dMo_readAll_50 (by decide) [1, 2, 3, 4, 0] rfl ?_
        refine vj_iload (j := 4) C dMo_readAll_52 rfl ?_
        refine vj_jp (fun (j : Int32 → Rr) => ∀ s64_0, Vj x 0 0 64 [(0, .ref a0), (1, .int p1), (2, .int v24), (4, .int s50_0)] [.int s64_0] Mj50 (j s64_0)) ?_ ?_
        · intro s64_0
          refine vj_istore_n (lv' := [(0, .ref a0), (1, .int p1), (2, .int v24), (3, .int s64_0), (4, .int s50_0)]) C dMo_readAll_64 rfl (by decide) [1, 2, 3, 0, 4] rfl ?_
          refine vj_goto (tgt := 7) C dMo_readAll_65 rfl ?_
          exact hg7 _ _ _ _
        · intro j64 hj64
          refine vj_if_eq (tgt := 63) C dMo_readAll_54 rfl ?_ ?_
          · skip
            refine vj_iload_n (j := 3) C dMo_readAll_63 rfl rfl ?_
            refine vj_lk (lv' := [(0, .ref a0), (1, .int p1), (2, .int v24), (4, .int s50_0)]) [0, 1, 2, 4] rfl ?_
            exact hj64 _
          · skip
            refine vj_iload_n (j := 3) C dMo_readAll_57 rfl rfl ?_
            refine vj_iconst (v := 1) C dMo_readAll_58 (by decide) ?_
            refine vj_iadd C dMo_readAll_59 ?_
            refine vj_goto (tgt := 64) C dMo_readAll_60 rfl ?_
            refine vj_lk (lv' := [(0, .ref a0), (1, .int p1), (2, .int v24), (4, .int s50_0)]) [0, 1, 2, 4] rfl ?_
            exact hj64 _
      · intro j50 hj50
        refine vj_jp (fun (j : Mm → Rr) => ∀ Mj49, Vj x 0 0 49 [(0, .ref a0), (1, .int p1), (2, .int v24), (3, .int v17)] [] Mj49 (j Mj49)) ?_ ?_
        · intro Mj49
          refine vj_iconst (v := 0) C dMo_readAll_49 (by decide) ?_
          exact hj50 _ _
        · intro j49 hj49
          refine vj_if_lt (tgt := 49) C dMo_readAll_26 rfl ?_ ?_
          · skip
            exact hj49 _
          · skip
            refine vj_aload_n (j := 0) C dMo_readAll_29 rfl rfl ?_
            refine vj_iload_n (j := 3) C dMo_readAll_30 rfl rfl ?_
            refine vj_cV (ci := 9) (As := [.int v17]) (st := []) (b := a0) (a1 := 1) C dMo_readAll_31 (cm_Mo_charAt _ _ _ _) rfl gv_Mo_72 rfl rfl rfl hv_Mo_charAt ⟨Nat.le_of_ble_eq_true rfl, Nat.le_of_ble_eq_true rfl⟩ rfl rfl (Nat.le_of_ble_eq_true rfl) ⟨Nat.le_of_ble_eq_true rfl, Nat.le_of_ble_eq_true rfl⟩ (fun v31 M31 => ?_)
            show Vj x 0 0 34 [(0, .ref a0), (1, .int p1), (2, .int v24), (3, .int v17)] [.int v31] M31 _
            refine vj_bipush (v := 59) C dMo_readAll_34 (by decide) ?_
            refine vj_icmp_ne (tgt := 49) C dMo_readAll_36 rfl ?_ ?_
            · skip
              exact hj49 _
            · skip
              refine vj_iload_n (j := 2) C dMo_readAll_39 rfl rfl ?_
              refine vj_bipush (v := 10) C dMo_readAll_40 (by decide) ?_
              refine vj_icmp_ge (tgt := 49) C dMo_readAll_42 rfl ?_ ?_
              · skip
                exact hj49 _
              · skip
                refine vj_iconst (v := 1) C dMo_readAll_45 (by decide) ?_
                refine vj_goto (tgt := 50) C dMo_readAll_46 rfl ?_
                exact hj50 _ _
  exact hg7x _ _ _ _ _
def fn_Mo_refersWell (M : Mm) (a0 : Nat) (p1 : Int32) (p2 : Int32) (p3 : Int32) : Rr := fo_gr M 9 a0 8 fun a1 => fo_ai M 0 a1 (p1 + p2) fun v7 => fo_gr M 9 a0 9 fun a11 => fo_ai M 0 a11 (p1 + p2) fun v17 => fo_jp (fun (s62_0 : Int32) => if s62_0 = 0 then fo_rz 0 M else fo_gr M 9 a0 15 fun a70 => fo_ai M 0 a70 (p1 + p2) fun v76 => if v76 = 4 then fo_gr M 9 a0 16 fun a82 => fo_ai M 0 a82 (p1 + p2) fun v88 => if p3 ≤ v88 then fo_rz 0 M else fo_rz 1 M else fo_rz 1 M) (fun j62 => fo_jp (j62 1) (fun j57 => if v7 < 2 then j57 else if 3 < v7 then j57 else fo_jp (j62 0) (fun j61 => if p3 ≤ v17 then j61 else fo_gr M 9 a0 15 fun a39 => fo_ai M 0 a39 (p1 + (v17 - v17 / 10 * 10)) fun v49 => if (3 - v7) < v49 then j61 else j57)))
set_option maxHeartbeats 4000000 in
set_option maxRecDepth 100000 in
theorem cm_Mo_refersWell (l : Launch) (M : Mm) (a0 : Nat) (p1 : Int32) (p2 : Int32) (p3 : Int32) : ct l zyMo_refersWell ws_Mo_refersWell { frames := 0, cells := 0, slots := 0, locals := 0 } 0 0 (fun w => some (.int w)) [.ref a0, .int p1, .int p2, .int p3] M (fn_Mo_refersWell M a0 p1 p2 p3) := by
  refine ct_of (cc := zbMo_refersWell) (maxL := 7) (ret := (some .boolean)) (lv0 := [(0, .ref a0), (1, .int p1), (2, .int p2), (3, .int p3)]) (by decide) rfl (Nat.le_of_ble_eq_true rfl) rfl rfl ?_
  intro x C
  unfold fn_Mo_refersWell
  refine vj_aload_n (j := 0) C dMo_refersWell_0 rfl rfl ?_
  refine vj_gr C dMo_refersWell_1 lf_Mo_21 rfl (fun a1 => ?_)
  refine vj_iload_n (j := 1) C dMo_refersWell_4 rfl rfl ?_
  refine vj_iload_n (j := 2) C dMo_refersWell_5 rfl rfl ?_
  refine vj_iadd C dMo_refersWell_6 ?_
  refine vj_iald C dMo_refersWell_7 (by decide) (fun v7 => ?_)
  refine vj_istore (lv' := [(0, .ref a0), (1, .int p1), (2, .int p2), (3, .int p3), (4, .int v7)]) C dMo_refersWell_8 (by decide) [1, 2, 3, 4, 0] rfl ?_
  refine vj_aload_n (j := 0) C dMo_refersWell_10 rfl rfl ?_
  refine vj_gr C dMo_refersWell_11 lf_Mo_24 rfl (fun a11 => ?_)
  refine vj_iload_n (j := 1) C dMo_refersWell_14 rfl rfl ?_
  refine vj_iload_n (j := 2) C dMo_refersWell_15 rfl rfl ?_
  refine vj_iadd C dMo_refersWell_16 ?_
  refine vj_iald C dMo_refersWell_17 (by decide) (fun v17 => ?_)
  refine vj_istore (lv' := [(0, .ref a0), (1, .int p1), (2, .int p2), (3, .int p3), (4, .int v7), (5, .int v17)]) C dMo_refersWell_18 (by decide) [1, 2, 3, 4, 5, 0] rfl ?_
  refine vj_iload (j := 4) C dMo_refersWell_20 rfl ?_
  refine vj_iconst (v := 2) C dMo_refersWell_22 (by decide) ?_
  refine vj_jp (fun (j : Int32 → Rr) => ∀ s62_0, Vj x 0 0 62 [(0, .ref a0), (1, .int p1), (2, .int p2), (3, .int p3)] [.int s62_0] M (j s62_0)) ?_ ?_
  · intro s62_0
    refine vj_istore (lv' := [(0, .ref a0), (1, .int p1), (2, .int p2), (3, .int p3), (6, .int s62_0)]) C dMo_refersWell_62 (by decide) [1, 2, 3, 4, 0] rfl ?_
    refine vj_iload (j := 4) C dMo_refersWell_64 rfl ?_
    refine vj_if_eq (tgt := 97) C dMo_refersWell_66 rfl ?_ ?_
    · skip
      refine vj_iconst (v := 0) C dMo_refersWell_97 (by decide) ?_
      exact vj_retz C dMo_refersWell_98 rfl rfl (Nat.le_of_ble_eq_true rfl) (Nat.le_of_ble_eq_true rfl)
    · skip
      refine vj_aload_n (j := 0) C dMo_refersWell_69 rfl rfl ?_
      refine vj_gr C dMo_refersWell_70 lf_Mo_42 rfl (fun a70 => ?_)
      refine vj_iload_n (j := 1) C dMo_refersWell_73 rfl rfl ?_
      refine vj_iload_n (j := 2) C dMo_refersWell_74 rfl rfl ?_
      refine vj_iadd C dMo_refersWell_75 ?_
      refine vj_iald C dMo_refersWell_76 (by decide) (fun v76 => ?_)
      refine vj_iconst (v := 4) C dMo_refersWell_77 (by decide) ?_
      refine vj_icmp_ne (tgt := 93) C dMo_refersWell_78 rfl ?_ ?_
      · skip
        refine vj_iconst (v := 1) C dMo_refersWell_93 (by decide) ?_
        refine vj_goto (tgt := 98) C dMo_refersWell_94 rfl ?_
        exact vj_retz C dMo_refersWell_98 rfl rfl (Nat.le_of_ble_eq_true rfl) (Nat.le_of_ble_eq_true rfl)
      · skip
        refine vj_aload_n (j := 0) C dMo_refersWell_81 rfl rfl ?_
        refine vj_gr C dMo_refersWell_82 lf_Mo_45 rfl (fun a82 => ?_)
        refine vj_iload_n (j := 1) C dMo_refersWell_85 rfl rfl ?_
        refine vj_iload_n (j := 2) C dMo_refersWell_86 rfl rfl ?_
        refine vj_iadd C dMo_refersWell_87 ?_
        refine vj_iald C dMo_refersWell_88 (by decide) (fun v88 => ?_)
        refine vj_iload_n (j := 3) C dMo_refersWell_89 rfl rfl ?_
        refine vj_icmp_ge (tgt := 97) C dMo_refersWell_90 rfl ?_ ?_
        · skip
          refine vj_iconst (v := 0) C dMo_refersWell_97 (by decide) ?_
          exact vj_retz C dMo_refersWell_98 rfl rfl (Nat.le_of_ble_eq_true rfl) (Nat.le_of_ble_eq_true rfl)
        · skip
          refine vj_iconst (v := 1) C dMo_refersWell_93 (by decide) ?_
          refine vj_goto (tgt := 98) C dMo_refersWell_94 rfl ?_
          exact vj_retz C dMo_refersWell_98 rfl rfl (Nat.le_of_ble_eq_true rfl) (Nat.le_of_ble_eq_true rfl)
  · intro j62 hj62
    refine vj_jp (fun (j : Rr) => Vj x 0 0 57 [(0, .ref a0), (1, .int p1), (2, .int p2), (3, .int p3)] [] M j) ?_ ?_
    · skip
      refine vj_iconst (v := 1) C dMo_refersWell_57 (by decide) ?_
      refine vj_goto (tgt := 62) C dMo_refersWell_58 rfl ?_
      exact hj62 _
    · intro j57 hj57
      refine vj_icmp_lt (tgt := 57) C dMo_refersWell_23 rfl ?_ ?_
      · skip
        refine vj_lk (lv' := [(0, .ref a0), (1, .int p1), (2, .int p2), (3, .int p3)]) [0, 1, 2, 3] rfl ?_
        exact hj57
      · skip
        refine vj_iload (j := 4) C dMo_refersWell_26 rfl ?_
        refine vj_iconst (v := 3) C dMo_refersWell_28 (by decide) ?_
        refine vj_icmp_gt (tgt := 57) C dMo_refersWell_29 rfl ?_ ?_
        · skip
          refine vj_lk (lv' := [(0, .ref a0), (1, .int p1), (2, .int p2), (3, .int p3)]) [0, 1, 2, 3] rfl ?_
          exact hj57
        · skip
          refine vj_iload (j := 5) C dMo_refersWell_32 rfl ?_
          refine vj_iload_n (j := 3) C dMo_refersWell_34 rfl rfl ?_
          refine vj_jp (fun (j : Rr) => Vj x 0 0 61 [(0, .ref a0), (1, .int p1), (2, .int p2), (3, .int p3)] [] M j) ?_ ?_
          · skip
            refine vj_iconst (v := 0) C dMo_refersWell_61 (by decide) ?_
            exact hj62 _
          · intro j61 hj61
            refine vj_icmp_ge (tgt := 61) C dMo_refersWell_35 rfl ?_ ?_
            · skip
              refine vj_lk (lv' := [(0, .ref a0), (1, .int p1), (2, .int p2), (3, .int p3)]) [0, 1, 2, 3] rfl ?_
              exact hj61
            · skip
              refine vj_aload_n (j := 0) C dMo_refersWell_38 rfl rfl ?_
              refine vj_gr C dMo_refersWell_39 lf_Mo_42 rfl (fun a39 => ?_)
              refine vj_iload_n (j := 1) C dMo_refersWell_42 rfl rfl ?_
              refine vj_iload (j := 5) C dMo_refersWell_43 rfl ?_
              refine vj_bipush (v := 10) C dMo_refersWell_45 (by decide) ?_
              refine vj_irem C dMo_refersWell_47 (by decide) ?_
              refine vj_iadd C dMo_refersWell_48 ?_
              refine vj_iald C dMo_refersWell_49 (by decide) (fun v49 => ?_)
              refine vj_iconst (v := 3) C dMo_refersWell_50 (by decide) ?_
              refine vj_iload (j := 4) C dMo_refersWell_51 rfl ?_
              refine vj_isub C dMo_refersWell_53 ?_
              refine vj_icmp_gt (tgt := 61) C dMo_refersWell_54 rfl ?_ ?_
              · skip
                refine vj_lk (lv' := [(0, .ref a0), (1, .int p1), (2, .int p2), (3, .int p3)]) [0, 1, 2, 3] rfl ?_
                exact hj61
              · skip
                refine vj_lk (lv' := [(0, .ref a0), (1, .int p1), (2, .int p2), (3, .int p3)]) [0, 1, 2, 3] rfl ?_
                exact hj57
def lp_Mo_goesRound_8 (M : Mm) (a0 : Nat) (p1 : Int32) (p2 : Int32) (g8 : Int32 → Int32 → Int32 → Rr) (w8_3 : Int32) (w8_4 : Int32) (w8_5 : Int32) : Rr := if 10 ≤ w8_5 then fo_rz w8_4 M else if w8_4 = 0 then fo_gr M 9 a0 15 fun a21 => fo_ai M 0 a21 (p1 + w8_3) fun v27 => if v27 = 4 then fo_gr M 9 a0 16 fun a33 => fo_ai M 0 a33 (p1 + w8_3) fun v39 => fo_jp (fun (s51_0 : Int32) => g8 v39 s51_0 (w8_5 + 1)) (fun j51 => if v39 = p2 then j51 1 else j51 0) else fo_rz w8_4 M else fo_rz w8_4 M
def fn_Mo_goesRound (M : Mm) (a0 : Nat) (p1 : Int32) (p2 : Int32) : Rr := fo_fx (fun _ _ _ => none) (lp_Mo_goesRound_8 M a0 p1 p2) fo_N p2 0 0
set_option maxHeartbeats 4000000 in
set_option maxRecDepth 100000 in
theorem cm_Mo_goesRound (l : Launch) (M : Mm) (a0 : Nat) (p1 : Int32) (p2 : Int32) : ct l zyMo_goesRound ws_Mo_goesRound { frames := 0, cells := 0, slots := 0, locals := 0 } 0 0 (fun w => some (.int w)) [.ref a0, .int p1, .int p2] M (fn_Mo_goesRound M a0 p1 p2) := by
  refine ct_of (cc := zbMo_goesRound) (maxL := 6) (ret := (some .boolean)) (lv0 := [(0, .ref a0), (1, .int p1), (2, .int p2)]) (by decide) rfl (Nat.le_of_ble_eq_true rfl) rfl rfl ?_
  intro x C
  unfold fn_Mo_goesRound
  refine vj_iload_n (j := 2) C dMo_goesRound_0 rfl rfl ?_
  refine vj_istore_n (lv' := [(0, .ref a0), (1, .int p1), (2, .int p2), (3, .int p2)]) C dMo_goesRound_1 rfl (by decide) [1, 2, 3, 0] rfl ?_
  refine vj_iconst (v := 0) C dMo_goesRound_2 (by decide) ?_
  refine vj_istore (lv' := [(0, .ref a0), (1, .int p1), (2, .int p2), (3, .int p2), (4, .int 0)]) C dMo_goesRound_3 (by decide) [1, 2, 3, 4, 0] rfl ?_
  refine vj_iconst (v := 0) C dMo_goesRound_5 (by decide) ?_
  refine vj_istore (lv' := [(0, .ref a0), (1, .int p1), (2, .int p2), (3, .int p2), (4, .int 0), (5, .int 0)]) C dMo_goesRound_6 (by decide) [1, 2, 3, 4, 5, 0] rfl ?_
  have hg8x : ∀ nf w8_3 w8_4 w8_5, Vj x 0 0 8 [(0, .ref a0), (1, .int p1), (2, .int p2), (3, .int w8_3), (4, .int w8_4), (5, .int w8_5)] [] M (fo_fx (fun _ _ _ => none) (lp_Mo_goesRound_8 M a0 p1 p2) nf w8_3 w8_4 w8_5) := by
    intro nf
    refine fo_fx_P (fun (j : Int32 → Int32 → Int32 → Rr) => ∀ w8_3 w8_4 w8_5, Vj x 0 0 8 [(0, .ref a0), (1, .int p1), (2, .int p2), (3, .int w8_3), (4, .int w8_4), (5, .int w8_5)] [] M (j w8_3 w8_4 w8_5)) (fun _ _ _ => Vj_none) ?_ nf
    intro g8 hg8 w8_3 w8_4 w8_5
    unfold lp_Mo_goesRound_8
    refine vj_iload (j := 5) C dMo_goesRound_8 rfl ?_
    refine vj_bipush (v := 10) C dMo_goesRound_10 (by decide) ?_
    refine vj_icmp_ge (tgt := 59) C dMo_goesRound_12 rfl ?_ ?_
    · skip
      refine vj_iload (j := 4) C dMo_goesRound_59 rfl ?_
      exact vj_retz C dMo_goesRound_61 rfl rfl (Nat.le_of_ble_eq_true rfl) (Nat.le_of_ble_eq_true rfl)
    · skip
      refine vj_iload (j := 4) C dMo_goesRound_15 rfl ?_
      refine vj_if_ne (tgt := 59) C dMo_goesRound_17 rfl ?_ ?_
      · skip
        refine vj_iload (j := 4) C dMo_goesRound_59 rfl ?_
        exact vj_retz C dMo_goesRound_61 rfl rfl (Nat.le_of_ble_eq_true rfl) (Nat.le_of_ble_eq_true rfl)
      · skip
        refine vj_aload_n (j := 0) C dMo_goesRound_20 rfl rfl ?_
        refine vj_gr C dMo_goesRound_21 lf_Mo_42 rfl (fun a21 => ?_)
        refine vj_iload_n (j := 1) C dMo_goesRound_24 rfl rfl ?_
        refine vj_iload_n (j := 3) C dMo_goesRound_25 rfl rfl ?_
        refine vj_iadd C dMo_goesRound_26 ?_
        refine vj_iald C dMo_goesRound_27 (by decide) (fun v27 => ?_)
        refine vj_iconst (v := 4) C dMo_goesRound_28 (by decide) ?_
        refine vj_icmp_ne (tgt := 59) C dMo_goesRound_29 rfl ?_ ?_
        · skip
          refine vj_iload (j := 4) C dMo_goesRound_59 rfl ?_
          exact vj_retz C dMo_goesRound_61 rfl rfl (Nat.le_of_ble_eq_true rfl) (Nat.le_of_ble_eq_true rfl)
        · skip
          refine vj_aload_n (j := 0) C dMo_goesRound_32 rfl rfl ?_
          refine vj_gr C dMo_goesRound_33 lf_Mo_45 rfl (fun a33 => ?_)
          refine vj_iload_n (j := 1) C dMo_goesRound_36 rfl rfl ?_
          refine vj_iload_n (j := 3) C dMo_goesRound_37 rfl rfl ?_
          refine vj_iadd C dMo_goesRound_38 ?_
          refine vj_iald C dMo_goesRound_39 (by decide) (fun v39 => ?_)
          refine vj_istore_n (lv' := [(0, .ref a0), (1, .int p1), (2, .int p2), (3, .int v39), (5, .int w8_5)]) C dMo_goesRound_40 rfl (by decide) [1, 2, 3, 0, 5] rfl ?_
          refine vj_iload_n (j := 3) C dMo_goesRound_41 rfl rfl ?_
          refine vj_iload_n (j := 2) C dMo_goesRound_42 rfl rfl ?_
          refine vj_jp (fun (j : Int32 → Rr) => ∀ s51_0, Vj x 0 0 51 [(0, .ref a0), (1, .int p1), (2, .int p2), (3, .int v39), (5, .int w8_5)] [.int s51_0] M (j s51_0)) ?_ ?_
          · intro s51_0
            refine vj_istore (lv' := [(0, .ref a0), (1, .int p1), (2, .int p2), (3, .int v39), (4, .int s51_0), (5, .int w8_5)]) C dMo_goesRound_51 (by decide) [1, 2, 3, 4, 0, 5] rfl ?_
            refine vj_iinc (j := 5) (b := 1) (lv' := [(0, .ref a0), (1, .int p1), (2, .int p2), (3, .int v39), (4, .int s51_0), (5, .int (w8_5 + 1))]) C dMo_goesRound_53 rfl (by decide) (by decide) [1, 2, 3, 4, 5, 0] rfl ?_
            refine vj_goto (tgt := 8) C dMo_goesRound_56 rfl ?_
            exact hg8 _ _ _
          · intro j51 hj51
            refine vj_icmp_ne (tgt := 50) C dMo_goesRound_43 rfl ?_ ?_
            · skip
              refine vj_iconst (v := 0) C dMo_goesRound_50 (by decide) ?_
              exact hj51 _
            · skip
              refine vj_iconst (v := 1) C dMo_goesRound_46 (by decide) ?_
              refine vj_goto (tgt := 51) C dMo_goesRound_47 rfl ?_
              exact hj51 _
  exact hg8x _ _ _ _
def lp_Mo_faultOf_39 (a0 : Nat) (p1 : Int32) (p2 : Int32) (g39 : Mm → Int32 → Rr) (Mh39 : Mm) (w39_3 : Int32) : Rr := if p2 ≤ w39_3 then some ((-1), Mh39) else fo_cv Mh39 9 a0 (fn_Mo_goesRound Mh39 a0 p1 w39_3) fun v47 M47 => if v47 = 0 then g39 M47 (w39_3 + 1) else some ((300 + w39_3), M47)
def lp_Mo_faultOf_10 (a0 : Nat) (p1 : Int32) (p2 : Int32) (g10 : Mm → Int32 → Rr) (Mh10 : Mm) (w10_3 : Int32) : Rr := if p2 ≤ w10_3 then fo_fx (fun _ _ => none) (lp_Mo_faultOf_39 a0 p1 p2) fo_N Mh10 0 else fo_cv Mh10 9 a0 (fn_Mo_refersWell Mh10 a0 p1 w10_3 p2) fun v19 M19 => if v19 = 0 then some ((200 + w10_3), M19) else g10 M19 (w10_3 + 1)
def fn_Mo_faultOf (M : Mm) (a0 : Nat) (p1 : Int32) (p2 : Int32) : Rr := if 0 ≤ p2 then fo_fx (fun _ _ => none) (lp_Mo_faultOf_10 a0 p1 p2) fo_N M 0 else some (((-1) - p2), M)
set_option maxHeartbeats 4000000 in
set_option maxRecDepth 100000 in
theorem cm_Mo_faultOf (l : Launch) (M : Mm) (a0 : Nat) (p1 : Int32) (p2 : Int32) : ct l zyMo_faultOf ws_Mo_faultOf { frames := 1, cells := 0, slots := 0, locals := 26 } 0 0 (fun w => some (.int w)) [.ref a0, .int p1, .int p2] M (fn_Mo_faultOf M a0 p1 p2) := by
  refine ct_of (cc := zbMo_faultOf) (maxL := 4) (ret := (some .int)) (lv0 := [(0, .ref a0), (1, .int p1), (2, .int p2)]) (by decide) rfl (Nat.le_of_ble_eq_true rfl) rfl rfl ?_
  intro x C
  unfold fn_Mo_faultOf
  refine vj_iload_n (j := 2) C dMo_faultOf_0 rfl rfl ?_
  refine vj_if_ge (tgt := 8) C dMo_faultOf_1 rfl ?_ ?_
  · skip
    refine vj_iconst (v := 0) C dMo_faultOf_8 (by decide) ?_
    refine vj_istore_n (lv' := [(0, .ref a0), (1, .int p1), (2, .int p2), (3, .int 0)]) C dMo_faultOf_9 rfl (by decide) [1, 2, 3, 0] rfl ?_
    have hg10x : ∀ nf Mh10 w10_3, Vj x 0 0 10 [(0, .ref a0), (1, .int p1), (2, .int p2), (3, .int w10_3)] [] Mh10 (fo_fx (fun _ _ => none) (lp_Mo_faultOf_10 a0 p1 p2) nf Mh10 w10_3) := by
      intro nf
      refine fo_fx_P (fun (j : Mm → Int32 → Rr) => ∀ Mh10 w10_3, Vj x 0 0 10 [(0, .ref a0), (1, .int p1), (2, .int p2), (3, .int w10_3)] [] Mh10 (j Mh10 w10_3)) (fun _ _ => Vj_none) ?_ nf
      intro g10 hg10 Mh10 w10_3
      unfold lp_Mo_faultOf_10
      refine vj_iload_n (j := 3) C dMo_faultOf_10 rfl rfl ?_
      refine vj_iload_n (j := 2) C dMo_faultOf_11 rfl rfl ?_
      refine vj_icmp_ge (tgt := 37) C dMo_faultOf_12 rfl ?_ ?_
      · skip
        refine vj_iconst (v := 0) C dMo_faultOf_37 (by decide) ?_
        refine vj_istore_n (lv' := [(0, .ref a0), (1, .int p1), (2, .int p2), (3, .int 0)]) C dMo_faultOf_38 rfl (by decide) [1, 2, 3, 0] rfl ?_
        have hg39x : ∀ nf Mh39 w39_3, Vj x 0 0 39 [(0, .ref a0), (1, .int p1), (2, .int p2), (3, .int w39_3)] [] Mh39 (fo_fx (fun _ _ => none) (lp_Mo_faultOf_39 a0 p1 p2) nf Mh39 w39_3) := by
          intro nf
          refine fo_fx_P (fun (j : Mm → Int32 → Rr) => ∀ Mh39 w39_3, Vj x 0 0 39 [(0, .ref a0), (1, .int p1), (2, .int p2), (3, .int w39_3)] [] Mh39 (j Mh39 w39_3)) (fun _ _ => Vj_none) ?_ nf
          intro g39 hg39 Mh39 w39_3
          unfold lp_Mo_faultOf_39
          refine vj_iload_n (j := 3) C dMo_faultOf_39 rfl rfl ?_
          refine vj_iload_n (j := 2) C dMo_faultOf_40 rfl rfl ?_
          refine vj_icmp_ge (tgt := 65) C dMo_faultOf_41 rfl ?_ ?_
          · skip
            refine vj_iconst (v := (-1)) C dMo_faultOf_65 (by decide) ?_
            exact vj_ret C dMo_faultOf_66 rfl rfl (Nat.le_of_ble_eq_true rfl) (Nat.le_of_ble_eq_true rfl)
          · skip
            refine vj_aload_n (j := 0) C dMo_faultOf_44 rfl rfl ?_
            refine vj_iload_n (j := 1) C dMo_faultOf_45 rfl rfl ?_
            refine vj_iload_n (j := 3) C dMo_faultOf_46 rfl rfl ?_
            refine vj_cV (ci := 9) (As := [.int p1, .int w39_3]) (st := []) (b := a0) (a1 := 2) C dMo_faultOf_47 (cm_Mo_goesRound _ _ _ _ _) rfl gv_Mo_105 rfl rfl rfl hv_Mo_goesRound ⟨Nat.le_of_ble_eq_true rfl, Nat.le_of_ble_eq_true rfl⟩ rfl rfl (Nat.le_of_ble_eq_true rfl) ⟨Nat.le_of_ble_eq_true rfl, Nat.le_of_ble_eq_true rfl⟩ (fun v47 M47 => ?_)
            show Vj x 0 0 50 [(0, .ref a0), (1, .int p1), (2, .int p2), (3, .int w39_3)] [.int v47] M47 _
            refine vj_if_eq (tgt := 59) C dMo_faultOf_50 rfl ?_ ?_
            · skip
              refine vj_iinc (j := 3) (b := 1) (lv' := [(0, .ref a0), (1, .int p1), (2, .int p2), (3, .int (w39_3 + 1))]) C dMo_faultOf_59 rfl (by decide) (by decide) [1, 2, 3, 0] rfl ?_
              refine vj_goto (tgt := 39) C dMo_faultOf_62 rfl ?_
              exact hg39 _ _
            · skip
              refine vj_sipush (v := 300) C dMo_faultOf_53 (by decide) ?_
              refine vj_iload_n (j := 3) C dMo_faultOf_56 rfl rfl ?_
              refine vj_iadd C dMo_faultOf_57 ?_
              exact vj_ret C dMo_faultOf_58 rfl rfl (Nat.le_of_ble_eq_true rfl) (Nat.le_of_ble_eq_true rfl)
        exact hg39x _ _ _
      · skip
        refine vj_aload_n (j := 0) C dMo_faultOf_15 rfl rfl ?_
        refine vj_iload_n (j := 1) C dMo_faultOf_16 rfl rfl ?_
        refine vj_iload_n (j := 3) C dMo_faultOf_17 rfl rfl ?_
        refine vj_iload_n (j := 2) C dMo_faultOf_18 rfl rfl ?_
        refine vj_cV (ci := 9) (As := [.int p1, .int w10_3, .int p2]) (st := []) (b := a0) (a1 := 3) C dMo_faultOf_19 (cm_Mo_refersWell _ _ _ _ _ _) rfl gv_Mo_101 rfl rfl rfl hv_Mo_refersWell ⟨Nat.le_of_ble_eq_true rfl, Nat.le_of_ble_eq_true rfl⟩ rfl rfl (Nat.le_of_ble_eq_true rfl) ⟨Nat.le_of_ble_eq_true rfl, Nat.le_of_ble_eq_true rfl⟩ (fun v19 M19 => ?_)
        show Vj x 0 0 22 [(0, .ref a0), (1, .int p1), (2, .int p2), (3, .int w10_3)] [.int v19] M19 _
        refine vj_if_ne (tgt := 31) C dMo_faultOf_22 rfl ?_ ?_
        · skip
          refine vj_iinc (j := 3) (b := 1) (lv' := [(0, .ref a0), (1, .int p1), (2, .int p2), (3, .int (w10_3 + 1))]) C dMo_faultOf_31 rfl (by decide) (by decide) [1, 2, 3, 0] rfl ?_
          refine vj_goto (tgt := 10) C dMo_faultOf_34 rfl ?_
          exact hg10 _ _
        · skip
          refine vj_sipush (v := 200) C dMo_faultOf_25 (by decide) ?_
          refine vj_iload_n (j := 3) C dMo_faultOf_28 rfl rfl ?_
          refine vj_iadd C dMo_faultOf_29 ?_
          exact vj_ret C dMo_faultOf_30 rfl rfl (Nat.le_of_ble_eq_true rfl) (Nat.le_of_ble_eq_true rfl)
    exact hg10x _ _ _
  · skip
    refine vj_iconst (v := (-1)) C dMo_faultOf_4 (by decide) ?_
    refine vj_iload_n (j := 2) C dMo_faultOf_5 rfl rfl ?_
    refine vj_isub C dMo_faultOf_6 ?_
    exact vj_ret C dMo_faultOf_7 rfl rfl (Nat.le_of_ble_eq_true rfl) (Nat.le_of_ble_eq_true rfl)
def lp_Mo_copy_2 (a0 : Nat) (p1 : Int32) (p2 : Int32) (g2 : Mm → Int32 → Rr) (Mh2 : Mm) (w2_3 : Int32) : Rr := if 71 ≤ w2_3 then some (0, Mh2) else fo_gr Mh2 9 a0 19 fun a9 => fo_gr Mh2 9 a0 19 fun a19 => fo_ai Mh2 0 a19 ((71 * p1) + w2_3) fun v28 => fo_si Mh2 a9 ((71 * p2) + w2_3) v28 fun M29 => g2 M29 (w2_3 + 1)
def fn_Mo_copy (M : Mm) (a0 : Nat) (p1 : Int32) (p2 : Int32) : Rr := fo_fx (fun _ _ => none) (lp_Mo_copy_2 a0 p1 p2) fo_N M 0
set_option maxHeartbeats 4000000 in
set_option maxRecDepth 100000 in
theorem cm_Mo_copy (l : Launch) (M : Mm) (a0 : Nat) (p1 : Int32) (p2 : Int32) : ct l zyMo_copy ws_Mo_copy { frames := 0, cells := 0, slots := 0, locals := 0 } 0 0 (fun _ => none) [.ref a0, .int p1, .int p2] M (fn_Mo_copy M a0 p1 p2) := by
  refine ct_of (cc := zbMo_copy) (maxL := 4) (ret := none) (lv0 := [(0, .ref a0), (1, .int p1), (2, .int p2)]) (by decide) rfl (Nat.le_of_ble_eq_true rfl) rfl rfl ?_
  intro x C
  unfold fn_Mo_copy
  refine vj_iconst (v := 0) C dMo_copy_0 (by decide) ?_
  refine vj_istore_n (lv' := [(0, .ref a0), (1, .int p1), (2, .int p2), (3, .int 0)]) C dMo_copy_1 rfl (by decide) [1, 2, 3, 0] rfl ?_
  have hg2x : ∀ nf Mh2 w2_3, Vj x 0 0 2 [(0, .ref a0), (1, .int p1), (2, .int p2), (3, .int w2_3)] [] Mh2 (fo_fx (fun _ _ => none) (lp_Mo_copy_2 a0 p1 p2) nf Mh2 w2_3) := by
    intro nf
    refine fo_fx_P (fun (j : Mm → Int32 → Rr) => ∀ Mh2 w2_3, Vj x 0 0 2 [(0, .ref a0), (1, .int p1), (2, .int p2), (3, .int w2_3)] [] Mh2 (j Mh2 w2_3)) (fun _ _ => Vj_none) ?_ nf
    intro g2 hg2 Mh2 w2_3
    unfold lp_Mo_copy_2
    refine vj_iload_n (j := 3) C dMo_copy_2 rfl rfl ?_
    refine vj_bipush (v := 71) C dMo_copy_3 (by decide) ?_
    refine vj_icmp_ge (tgt := 36) C dMo_copy_5 rfl ?_ ?_
    · skip
      exact vj_retv C dMo_copy_36 rfl rfl (Nat.le_of_ble_eq_true rfl) (Nat.le_of_ble_eq_true rfl)
    · skip
      refine vj_aload_n (j := 0) C dMo_copy_8 rfl rfl ?_
      refine vj_gr C dMo_copy_9 lf_Mo_54 rfl (fun a9 => ?_)
      refine vj_bipush (v := 71) C dMo_copy_12 (by decide) ?_
      refine vj_iload_n (j := 2) C dMo_copy_14 rfl rfl ?_
      refine vj_imul C dMo_copy_15 ?_
      refine vj_iload_n (j := 3) C dMo_copy_16 rfl rfl ?_
      refine vj_iadd C dMo_copy_17 ?_
      refine vj_aload_n (j := 0) C dMo_copy_18 rfl rfl ?_
      refine vj_gr C dMo_copy_19 lf_Mo_54 rfl (fun a19 => ?_)
      refine vj_bipush (v := 71) C dMo_copy_22 (by decide) ?_
      refine vj_iload_n (j := 1) C dMo_copy_24 rfl rfl ?_
      refine vj_imul C dMo_copy_25 ?_
      refine vj_iload_n (j := 3) C dMo_copy_26 rfl rfl ?_
      refine vj_iadd C dMo_copy_27 ?_
      refine vj_iald C dMo_copy_28 (by decide) (fun v28 => ?_)
      refine vj_iast C dMo_copy_29 (fun M29 => ?_)
      refine vj_iinc (j := 3) (b := 1) (lv' := [(0, .ref a0), (1, .int p1), (2, .int p2), (3, .int (w2_3 + 1))]) C dMo_copy_30 rfl (by decide) (by decide) [1, 2, 3, 0] rfl ?_
      refine vj_goto (tgt := 2) C dMo_copy_33 rfl ?_
      exact hg2 _ _
  exact hg2x _ _ _
def lp_Mo_dayAfter_5 (M : Mm) (a0 : Nat) (g5 : Int32 → Int32 → Rr) (w5_3 : Int32) (w5_4 : Int32) : Rr := if w5_4 ≤ 0 then some (w5_3, M) else fo_nm (w5_3 + 1) fun v13 => fo_jp (fun (s38_0 : Int32) => g5 v13 s38_0) (fun j38 => fo_jp (j38 (w5_4 - 1)) (fun j29 => if 60 < v13 then j29 else fo_gr M 9 a0 4 fun a21 => fo_ai M 1 a21 v13 fun v25 => if v25 = 0 then j29 else j38 w5_4))
def fn_Mo_dayAfter (M : Mm) (a0 : Nat) (p1 : Int32) (p2 : Int32) : Rr := fo_fx (fun _ _ => none) (lp_Mo_dayAfter_5 M a0) fo_N p1 p2
set_option maxHeartbeats 4000000 in
set_option maxRecDepth 100000 in
theorem cm_Mo_dayAfter (l : Launch) (M : Mm) (a0 : Nat) (p1 : Int32) (p2 : Int32) : ct l zyMo_dayAfter ws_Mo_dayAfter { frames := 0, cells := 0, slots := 0, locals := 0 } 0 0 (fun w => some (.int w)) [.ref a0, .int p1, .int p2] M (fn_Mo_dayAfter M a0 p1 p2) := by
  refine ct_of (cc := zbMo_dayAfter) (maxL := 5) (ret := (some .int)) (lv0 := [(0, .ref a0), (1, .int p1), (2, .int p2)]) (by decide) rfl (Nat.le_of_ble_eq_true rfl) rfl rfl ?_
  intro x C
  unfold fn_Mo_dayAfter
  refine vj_iload_n (j := 1) C dMo_dayAfter_0 rfl rfl ?_
  refine vj_istore_n (lv' := [(0, .ref a0), (2, .int p2), (3, .int p1)]) C dMo_dayAfter_1 rfl (by decide) [1, 3, 0] rfl ?_
  refine vj_iload_n (j := 1) C dMo_dayAfter_2 rfl rfl ?_
  refine vj_istore (lv' := [(0, .ref a0), (3, .int p1), (4, .int p2)]) C dMo_dayAfter_3 (by decide) [1, 3, 0] rfl ?_
  have hg5x : ∀ nf w5_3 w5_4, Vj x 0 0 5 [(0, .ref a0), (3, .int w5_3), (4, .int w5_4)] [] M (fo_fx (fun _ _ => none) (lp_Mo_dayAfter_5 M a0) nf w5_3 w5_4) := by
    intro nf
    refine fo_fx_P (fun (j : Int32 → Int32 → Rr) => ∀ w5_3 w5_4, Vj x 0 0 5 [(0, .ref a0), (3, .int w5_3), (4, .int w5_4)] [] M (j w5_3 w5_4)) (fun _ _ => Vj_none) ?_ nf
    intro g5 hg5 w5_3 w5_4
    unfold lp_Mo_dayAfter_5
    refine vj_iload (j := 2) C dMo_dayAfter_5 rfl ?_
    refine vj_if_le (tgt := 43) C dMo_dayAfter_7 rfl ?_ ?_
    · skip
      refine vj_iload_n (j := 1) C dMo_dayAfter_43 rfl rfl ?_
      exact vj_ret C dMo_dayAfter_44 rfl rfl (Nat.le_of_ble_eq_true rfl) (Nat.le_of_ble_eq_true rfl)
    · skip
      refine vj_iload_n (j := 1) C dMo_dayAfter_10 rfl rfl ?_
      refine vj_iconst (v := 1) C dMo_dayAfter_11 (by decide) ?_
      refine vj_iadd C dMo_dayAfter_12 ?_
      refine vj_nm (fun v13 => ?_)
      refine vj_istore_n (lv' := [(0, .ref a0), (3, .int v13), (4, .int w5_4)]) C dMo_dayAfter_13 rfl (by decide) [1, 0, 2] rfl ?_
      refine vj_iload_n (j := 1) C dMo_dayAfter_14 rfl rfl ?_
      refine vj_bipush (v := 60) C dMo_dayAfter_15 (by decide) ?_
      refine vj_jp (fun (j : Int32 → Rr) => ∀ s38_0, Vj x 0 0 38 [(0, .ref a0), (3, .int v13)] [.int s38_0] M (j s38_0)) ?_ ?_
      · intro s38_0
        refine vj_istore (lv' := [(0, .ref a0), (3, .int v13), (4, .int s38_0)]) C dMo_dayAfter_38 (by decide) [1, 2, 0] rfl ?_
        refine vj_goto (tgt := 5) C dMo_dayAfter_40 rfl ?_
        exact hg5 _ _
      · intro j38 hj38
        refine vj_jp (fun (j : Rr) => Vj x 0 0 29 [(0, .ref a0), (3, .int v13), (4, .int w5_4)] [] M j) ?_ ?_
        · skip
          refine vj_iload (j := 2) C dMo_dayAfter_29 rfl ?_
          refine vj_iconst (v := 1) C dMo_dayAfter_31 (by decide) ?_
          refine vj_isub C dMo_dayAfter_32 ?_
          refine vj_goto (tgt := 38) C dMo_dayAfter_33 rfl ?_
          refine vj_lk (lv' := [(0, .ref a0), (3, .int v13)]) [0, 1] rfl ?_
          exact hj38 _
        · intro j29 hj29
          refine vj_icmp_gt (tgt := 29) C dMo_dayAfter_17 rfl ?_ ?_
          · skip
            exact hj29
          · skip
            refine vj_aload_n (j := 0) C dMo_dayAfter_20 rfl rfl ?_
            refine vj_gr C dMo_dayAfter_21 lf_Mo_17 rfl (fun a21 => ?_)
            refine vj_iload_n (j := 1) C dMo_dayAfter_24 rfl rfl ?_
            refine vj_zald C dMo_dayAfter_25 (by decide) (fun v25 => ?_)
            refine vj_if_ne (tgt := 36) C dMo_dayAfter_26 rfl ?_ ?_
            · skip
              refine vj_iload (j := 2) C dMo_dayAfter_36 rfl ?_
              refine vj_lk (lv' := [(0, .ref a0), (3, .int v13)]) [0, 1] rfl ?_
              exact hj38 _
            · skip
              exact hj29
  exact hg5x _ _ _
def fn_Mo_put (M : Mm) (a0 : Nat) (p1 : Int32) (p2 : Int32) (p3 : Int32) (p4 : Int32) : Rr := fo_gr M 9 a0 19 fun a1 => fo_ai M 0 a1 ((71 * p1) + p2) fun v10 => fo_gi M 9 a0 23 fun v15 => fo_jp (fun (s33_1 : Int32) => fo_pz M 9 a0 23 s33_1 fun M33 => fo_gi M33 9 a0 23 fun v37 => if v37 = 0 then fo_gr M33 9 a0 19 fun a44 => fo_si M33 a44 ((((71 * p1) + p2) + 1) + (2 * v10)) p3 fun M61 => fo_gr M61 9 a0 19 fun a63 => fo_si M61 a63 ((((71 * p1) + p2) + 2) + (2 * v10)) p4 fun M81 => fo_gr M81 9 a0 19 fun a83 => fo_si M81 a83 ((71 * p1) + p2) (v10 + 1) fun M96 => some (0, M96) else some (0, M33)) (fun j33 => fo_jp (j33 1) (fun j28 => if v15 = 0 then if v10 = 8 then j28 else j33 0 else j28))
set_option maxHeartbeats 4000000 in
set_option maxRecDepth 100000 in
theorem cm_Mo_put (l : Launch) (M : Mm) (a0 : Nat) (p1 : Int32) (p2 : Int32) (p3 : Int32) (p4 : Int32) : ct l zyMo_put ws_Mo_put { frames := 0, cells := 0, slots := 0, locals := 0 } 0 0 (fun _ => none) [.ref a0, .int p1, .int p2, .int p3, .int p4] M (fn_Mo_put M a0 p1 p2 p3 p4) := by
  refine ct_of (cc := zbMo_put) (maxL := 6) (ret := none) (lv0 := [(0, .ref a0), (1, .int p1), (2, .int p2), (3, .int p3), (4, .int p4)]) (by decide) rfl (Nat.le_of_ble_eq_true rfl) rfl rfl ?_
  intro x C
  unfold fn_Mo_put
  refine vj_aload_n (j := 0) C dMo_put_0 rfl rfl ?_
  refine vj_gr C dMo_put_1 lf_Mo_54 rfl (fun a1 => ?_)
  refine vj_bipush (v := 71) C dMo_put_4 (by decide) ?_
  refine vj_iload_n (j := 1) C dMo_put_6 rfl rfl ?_
  refine vj_imul C dMo_put_7 ?_
  refine vj_iload_n (j := 2) C dMo_put_8 rfl rfl ?_
  refine vj_iadd C dMo_put_9 ?_
  refine vj_iald C dMo_put_10 (by decide) (fun v10 => ?_)
  refine vj_istore (lv' := [(0, .ref a0), (1, .int p1), (2, .int p2), (3, .int p3), (4, .int p4), (5, .int v10)]) C dMo_put_11 (by decide) [1, 2, 3, 4, 5, 0] rfl ?_
  refine vj_aload_n (j := 0) C dMo_put_13 rfl rfl ?_
  refine vj_aload_n (j := 0) C dMo_put_14 rfl rfl ?_
  refine vj_gi C dMo_put_15 lf_Mo_109 rfl (fun v15 => ?_)
  refine vj_jp (fun (j : Int32 → Rr) => ∀ s33_1, Vj x 0 0 33 [(0, .ref a0), (1, .int p1), (2, .int p2), (3, .int p3), (4, .int p4), (5, .int v10)] [.int s33_1, .ref a0] M (j s33_1)) ?_ ?_
  · intro s33_1
    refine vj_pz C dMo_put_33 lf_Mo_109 lq_9_23 rfl (fun M33 => ?_)
    refine vj_aload_n (j := 0) C dMo_put_36 rfl rfl ?_
    refine vj_gi C dMo_put_37 lf_Mo_109 rfl (fun v37 => ?_)
    refine vj_if_ne (tgt := 97) C dMo_put_40 rfl ?_ ?_
    · skip
      exact vj_retv C dMo_put_97 rfl rfl (Nat.le_of_ble_eq_true rfl) (Nat.le_of_ble_eq_true rfl)
    · skip
      refine vj_aload_n (j := 0) C dMo_put_43 rfl rfl ?_
      refine vj_gr C dMo_put_44 lf_Mo_54 rfl (fun a44 => ?_)
      refine vj_bipush (v := 71) C dMo_put_47 (by decide) ?_
      refine vj_iload_n (j := 1) C dMo_put_49 rfl rfl ?_
      refine vj_imul C dMo_put_50 ?_
      refine vj_iload_n (j := 2) C dMo_put_51 rfl rfl ?_
      refine vj_iadd C dMo_put_52 ?_
      refine vj_iconst (v := 1) C dMo_put_53 (by decide) ?_
      refine vj_iadd C dMo_put_54 ?_
      refine vj_iconst (v := 2) C dMo_put_55 (by decide) ?_
      refine vj_iload (j := 5) C dMo_put_56 rfl ?_
      refine vj_imul C dMo_put_58 ?_
      refine vj_iadd C dMo_put_59 ?_
      refine vj_iload_n (j := 3) C dMo_put_60 rfl rfl ?_
      refine vj_iast C dMo_put_61 (fun M61 => ?_)
      refine vj_aload_n (j := 0) C dMo_put_62 rfl rfl ?_
      refine vj_gr C dMo_put_63 lf_Mo_54 rfl (fun a63 => ?_)
      refine vj_bipush (v := 71) C dMo_put_66 (by decide) ?_
      refine vj_iload_n (j := 1) C dMo_put_68 rfl rfl ?_
      refine vj_imul C dMo_put_69 ?_
      refine vj_iload_n (j := 2) C dMo_put_70 rfl rfl ?_
      refine vj_iadd C dMo_put_71 ?_
      refine vj_iconst (v := 2) C dMo_put_72 (by decide) ?_
      refine vj_iadd C dMo_put_73 ?_
      refine vj_iconst (v := 2) C dMo_put_74 (by decide) ?_
      refine vj_iload (j := 5) C dMo_put_75 rfl ?_
      refine vj_imul C dMo_put_77 ?_
      refine vj_iadd C dMo_put_78 ?_
      refine vj_iload (j := 4) C dMo_put_79 rfl ?_
      refine vj_iast C dMo_put_81 (fun M81 => ?_)
      refine vj_aload_n (j := 0) C dMo_put_82 rfl rfl ?_
      refine vj_gr C dMo_put_83 lf_Mo_54 rfl (fun a83 => ?_)
      refine vj_bipush (v := 71) C dMo_put_86 (by decide) ?_
      refine vj_iload_n (j := 1) C dMo_put_88 rfl rfl ?_
      refine vj_imul C dMo_put_89 ?_
      refine vj_iload_n (j := 2) C dMo_put_90 rfl rfl ?_
      refine vj_iadd C dMo_put_91 ?_
      refine vj_iload (j := 5) C dMo_put_92 rfl ?_
      refine vj_iconst (v := 1) C dMo_put_94 (by decide) ?_
      refine vj_iadd C dMo_put_95 ?_
      refine vj_iast C dMo_put_96 (fun M96 => ?_)
      exact vj_retv C dMo_put_97 rfl rfl (Nat.le_of_ble_eq_true rfl) (Nat.le_of_ble_eq_true rfl)
  · intro j33 hj33
    refine vj_jp (fun (j : Rr) => Vj x 0 0 28 [(0, .ref a0), (1, .int p1), (2, .int p2), (3, .int p3), (4, .int p4), (5, .int v10)] [.ref a0] M j) ?_ ?_
    · skip
      refine vj_iconst (v := 1) C dMo_put_28 (by decide) ?_
      refine vj_goto (tgt := 33) C dMo_put_29 rfl ?_
      exact hj33 _
    · intro j28 hj28
      refine vj_if_ne (tgt := 28) C dMo_put_18 rfl ?_ ?_
      · skip
        exact hj28
      · skip
        refine vj_iload (j := 5) C dMo_put_21 rfl ?_
        refine vj_bipush (v := 8) C dMo_put_23 (by decide) ?_
        refine vj_icmp_ne (tgt := 32) C dMo_put_25 rfl ?_ ?_
        · skip
          refine vj_iconst (v := 0) C dMo_put_32 (by decide) ?_
          exact hj33 _
        · skip
          exact hj28
def lp_Mo_takeOut_33 (a0 : Nat) (p1 : Int32) (p2 : Int32) (v13 : Int32) (g33 : Mm → Int32 → Rr) (Mh33 : Mm) (w33_5 : Int32) : Rr := if (2 * v13) ≤ w33_5 then some (0, Mh33) else fo_gr Mh33 9 a0 19 fun a43 => fo_gr Mh33 9 a0 19 fun a58 => fo_ai Mh33 0 a58 ((((71 * p1) + p2) + 3) + w33_5) fun v72 => fo_si Mh33 a43 ((((71 * p1) + p2) + 1) + w33_5) v72 fun M73 => g33 M73 (w33_5 + 1)
def fn_Mo_takeOut (M : Mm) (a0 : Nat) (p1 : Int32) (p2 : Int32) (p3 : Int32) : Rr := fo_gr M 9 a0 19 fun a1 => fo_ai M 0 a1 ((71 * p1) + p2) fun v10 => fo_nm (v10 - 1) fun v13 => fo_gr M 9 a0 19 fun a16 => fo_si M a16 ((71 * p1) + p2) v13 fun M27 => fo_nm (2 * p3) fun v31 => fo_fx (fun _ _ => none) (lp_Mo_takeOut_33 a0 p1 p2 v13) fo_N M27 v31
set_option maxHeartbeats 4000000 in
set_option maxRecDepth 100000 in
theorem cm_Mo_takeOut (l : Launch) (M : Mm) (a0 : Nat) (p1 : Int32) (p2 : Int32) (p3 : Int32) : ct l zyMo_takeOut ws_Mo_takeOut { frames := 0, cells := 0, slots := 0, locals := 0 } 0 0 (fun _ => none) [.ref a0, .int p1, .int p2, .int p3] M (fn_Mo_takeOut M a0 p1 p2 p3) := by
  refine ct_of (cc := zbMo_takeOut) (maxL := 6) (ret := none) (lv0 := [(0, .ref a0), (1, .int p1), (2, .int p2), (3, .int p3)]) (by decide) rfl (Nat.le_of_ble_eq_true rfl) rfl rfl ?_
  intro x C
  unfold fn_Mo_takeOut
  refine vj_aload_n (j := 0) C dMo_takeOut_0 rfl rfl ?_
  refine vj_gr C dMo_takeOut_1 lf_Mo_54 rfl (fun a1 => ?_)
  refine vj_bipush (v := 71) C dMo_takeOut_4 (by decide) ?_
  refine vj_iload_n (j := 1) C dMo_takeOut_6 rfl rfl ?_
  refine vj_imul C dMo_takeOut_7 ?_
  refine vj_iload_n (j := 2) C dMo_takeOut_8 rfl rfl ?_
  refine vj_iadd C dMo_takeOut_9 ?_
  refine vj_iald C dMo_takeOut_10 (by decide) (fun v10 => ?_)
  refine vj_iconst (v := 1) C dMo_takeOut_11 (by decide) ?_
  refine vj_isub C dMo_takeOut_12 ?_
  refine vj_nm (fun v13 => ?_)
  refine vj_istore (lv' := [(0, .ref a0), (1, .int p1), (2, .int p2), (3, .int p3), (4, .int v13)]) C dMo_takeOut_13 (by decide) [1, 2, 3, 4, 0] rfl ?_
  refine vj_aload_n (j := 0) C dMo_takeOut_15 rfl rfl ?_
  refine vj_gr C dMo_takeOut_16 lf_Mo_54 rfl (fun a16 => ?_)
  refine vj_bipush (v := 71) C dMo_takeOut_19 (by decide) ?_
  refine vj_iload_n (j := 1) C dMo_takeOut_21 rfl rfl ?_
  refine vj_imul C dMo_takeOut_22 ?_
  refine vj_iload_n (j := 2) C dMo_takeOut_23 rfl rfl ?_
  refine vj_iadd C dMo_takeOut_24 ?_
  refine vj_iload (j := 4) C dMo_takeOut_25 rfl ?_
  refine vj_iast C dMo_takeOut_27 (fun M27 => ?_)
  refine vj_iconst (v := 2) C dMo_takeOut_28 (by decide) ?_
  refine vj_iload_n (j := 3) C dMo_takeOut_29 rfl rfl ?_
  refine vj_imul C dMo_takeOut_30 ?_
  refine vj_nm (fun v31 => ?_)
  refine vj_istore (lv' := [(0, .ref a0), (1, .int p1), (2, .int p2), (4, .int v13), (5, .int v31)]) C dMo_takeOut_31 (by decide) [1, 2, 3, 5, 0] rfl ?_
  have hg33x : ∀ nf Mh33 w33_5, Vj x 0 0 33 [(0, .ref a0), (1, .int p1), (2, .int p2), (4, .int v13), (5, .int w33_5)] [] Mh33 (fo_fx (fun _ _ => none) (lp_Mo_takeOut_33 a0 p1 p2 v13) nf Mh33 w33_5) := by
    intro nf
    refine fo_fx_P (fun (j : Mm → Int32 → Rr) => ∀ Mh33 w33_5, Vj x 0 0 33 [(0, .ref a0), (1, .int p1), (2, .int p2), (4, .int v13), (5, .int w33_5)] [] Mh33 (j Mh33 w33_5)) (fun _ _ => Vj_none) ?_ nf
    intro g33 hg33 Mh33 w33_5
    unfold lp_Mo_takeOut_33
    refine vj_iload (j := 4) C dMo_takeOut_33 rfl ?_
    refine vj_iconst (v := 2) C dMo_takeOut_35 (by decide) ?_
    refine vj_iload (j := 3) C dMo_takeOut_36 rfl ?_
    refine vj_imul C dMo_takeOut_38 ?_
    refine vj_icmp_ge (tgt := 80) C dMo_takeOut_39 rfl ?_ ?_
    · skip
      exact vj_retv C dMo_takeOut_80 rfl rfl (Nat.le_of_ble_eq_true rfl) (Nat.le_of_ble_eq_true rfl)
    · skip
      refine vj_aload_n (j := 0) C dMo_takeOut_42 rfl rfl ?_
      refine vj_gr C dMo_takeOut_43 lf_Mo_54 rfl (fun a43 => ?_)
      refine vj_bipush (v := 71) C dMo_takeOut_46 (by decide) ?_
      refine vj_iload_n (j := 1) C dMo_takeOut_48 rfl rfl ?_
      refine vj_imul C dMo_takeOut_49 ?_
      refine vj_iload_n (j := 2) C dMo_takeOut_50 rfl rfl ?_
      refine vj_iadd C dMo_takeOut_51 ?_
      refine vj_iconst (v := 1) C dMo_takeOut_52 (by decide) ?_
      refine vj_iadd C dMo_takeOut_53 ?_
      refine vj_iload (j := 4) C dMo_takeOut_54 rfl ?_
      refine vj_iadd C dMo_takeOut_56 ?_
      refine vj_aload_n (j := 0) C dMo_takeOut_57 rfl rfl ?_
      refine vj_gr C dMo_takeOut_58 lf_Mo_54 rfl (fun a58 => ?_)
      refine vj_bipush (v := 71) C dMo_takeOut_61 (by decide) ?_
      refine vj_iload_n (j := 1) C dMo_takeOut_63 rfl rfl ?_
      refine vj_imul C dMo_takeOut_64 ?_
      refine vj_iload_n (j := 2) C dMo_takeOut_65 rfl rfl ?_
      refine vj_iadd C dMo_takeOut_66 ?_
      refine vj_iconst (v := 3) C dMo_takeOut_67 (by decide) ?_
      refine vj_iadd C dMo_takeOut_68 ?_
      refine vj_iload (j := 4) C dMo_takeOut_69 rfl ?_
      refine vj_iadd C dMo_takeOut_71 ?_
      refine vj_iald C dMo_takeOut_72 (by decide) (fun v72 => ?_)
      refine vj_iast C dMo_takeOut_73 (fun M73 => ?_)
      refine vj_iinc (j := 4) (b := 1) (lv' := [(0, .ref a0), (1, .int p1), (2, .int p2), (4, .int v13), (5, .int (w33_5 + 1))]) C dMo_takeOut_74 rfl (by decide) (by decide) [1, 2, 3, 4, 0] rfl ?_
      refine vj_goto (tgt := 33) C dMo_takeOut_77 rfl ?_
      exact hg33 _ _
  exact hg33x _ _ _
def fn_Mo_clauseAt (M : Mm) (a0 : Nat) (p1 : Int32) (p2 : Int32) (p3 : Int32) : Rr := fo_gr M 9 a0 19 fun a1 => fo_ai M 0 a1 ((((71 * p1) + p2) + 1) + (2 * p3)) fun v16 => some (v16, M)
set_option maxHeartbeats 4000000 in
set_option maxRecDepth 100000 in
theorem cm_Mo_clauseAt (l : Launch) (M : Mm) (a0 : Nat) (p1 : Int32) (p2 : Int32) (p3 : Int32) : ct l zyMo_clauseAt ws_Mo_clauseAt { frames := 0, cells := 0, slots := 0, locals := 0 } 0 0 (fun w => some (.int w)) [.ref a0, .int p1, .int p2, .int p3] M (fn_Mo_clauseAt M a0 p1 p2 p3) := by
  refine ct_of (cc := zbMo_clauseAt) (maxL := 4) (ret := (some .int)) (lv0 := [(0, .ref a0), (1, .int p1), (2, .int p2), (3, .int p3)]) (by decide) rfl (Nat.le_of_ble_eq_true rfl) rfl rfl ?_
  intro x C
  unfold fn_Mo_clauseAt
  refine vj_aload_n (j := 0) C dMo_clauseAt_0 rfl rfl ?_
  refine vj_gr C dMo_clauseAt_1 lf_Mo_54 rfl (fun a1 => ?_)
  refine vj_bipush (v := 71) C dMo_clauseAt_4 (by decide) ?_
  refine vj_iload_n (j := 1) C dMo_clauseAt_6 rfl rfl ?_
  refine vj_imul C dMo_clauseAt_7 ?_
  refine vj_iload_n (j := 2) C dMo_clauseAt_8 rfl rfl ?_
  refine vj_iadd C dMo_clauseAt_9 ?_
  refine vj_iconst (v := 1) C dMo_clauseAt_10 (by decide) ?_
  refine vj_iadd C dMo_clauseAt_11 ?_
  refine vj_iconst (v := 2) C dMo_clauseAt_12 (by decide) ?_
  refine vj_iload_n (j := 3) C dMo_clauseAt_13 rfl rfl ?_
  refine vj_imul C dMo_clauseAt_14 ?_
  refine vj_iadd C dMo_clauseAt_15 ?_
  refine vj_iald C dMo_clauseAt_16 (by decide) (fun v16 => ?_)
  exact vj_ret C dMo_clauseAt_17 rfl rfl (Nat.le_of_ble_eq_true rfl) (Nat.le_of_ble_eq_true rfl)
def fn_Mo_dayAt (M : Mm) (a0 : Nat) (p1 : Int32) (p2 : Int32) (p3 : Int32) : Rr := fo_gr M 9 a0 19 fun a1 => fo_ai M 0 a1 ((((71 * p1) + p2) + 2) + (2 * p3)) fun v16 => some (v16, M)
set_option maxHeartbeats 4000000 in
set_option maxRecDepth 100000 in
theorem cm_Mo_dayAt (l : Launch) (M : Mm) (a0 : Nat) (p1 : Int32) (p2 : Int32) (p3 : Int32) : ct l zyMo_dayAt ws_Mo_dayAt { frames := 0, cells := 0, slots := 0, locals := 0 } 0 0 (fun w => some (.int w)) [.ref a0, .int p1, .int p2, .int p3] M (fn_Mo_dayAt M a0 p1 p2 p3) := by
  refine ct_of (cc := zbMo_dayAt) (maxL := 4) (ret := (some .int)) (lv0 := [(0, .ref a0), (1, .int p1), (2, .int p2), (3, .int p3)]) (by decide) rfl (Nat.le_of_ble_eq_true rfl) rfl rfl ?_
  intro x C
  unfold fn_Mo_dayAt
  refine vj_aload_n (j := 0) C dMo_dayAt_0 rfl rfl ?_
  refine vj_gr C dMo_dayAt_1 lf_Mo_54 rfl (fun a1 => ?_)
  refine vj_bipush (v := 71) C dMo_dayAt_4 (by decide) ?_
  refine vj_iload_n (j := 1) C dMo_dayAt_6 rfl rfl ?_
  refine vj_imul C dMo_dayAt_7 ?_
  refine vj_iload_n (j := 2) C dMo_dayAt_8 rfl rfl ?_
  refine vj_iadd C dMo_dayAt_9 ?_
  refine vj_iconst (v := 2) C dMo_dayAt_10 (by decide) ?_
  refine vj_iadd C dMo_dayAt_11 ?_
  refine vj_iconst (v := 2) C dMo_dayAt_12 (by decide) ?_
  refine vj_iload_n (j := 3) C dMo_dayAt_13 rfl rfl ?_
  refine vj_imul C dMo_dayAt_14 ?_
  refine vj_iadd C dMo_dayAt_15 ?_
  refine vj_iald C dMo_dayAt_16 (by decide) (fun v16 => ?_)
  exact vj_ret C dMo_dayAt_17 rfl rfl (Nat.le_of_ble_eq_true rfl) (Nat.le_of_ble_eq_true rfl)
def fn_Mo_isOf (M : Mm) (a0 : Nat) (p1 : Int32) (p2 : Int32) (p3 : Int32) : Rr := fo_gr M 9 a0 16 fun a1 => fo_gi M 9 a0 5 fun v7 => fo_ai M 0 a1 ((10 * v7) + p1) fun v13 => if v13 = p2 then fo_gr M 9 a0 17 fun a19 => fo_gi M 9 a0 5 fun v25 => fo_ai M 0 a19 ((10 * v25) + p1) fun v31 => if v31 = p3 then fo_rz 1 M else fo_rz 0 M else fo_rz 0 M
set_option maxHeartbeats 4000000 in
set_option maxRecDepth 100000 in
theorem cm_Mo_isOf (l : Launch) (M : Mm) (a0 : Nat) (p1 : Int32) (p2 : Int32) (p3 : Int32) : ct l zyMo_isOf ws_Mo_isOf { frames := 0, cells := 0, slots := 0, locals := 0 } 0 0 (fun w => some (.int w)) [.ref a0, .int p1, .int p2, .int p3] M (fn_Mo_isOf M a0 p1 p2 p3) := by
  refine ct_of (cc := zbMo_isOf) (maxL := 4) (ret := (some .boolean)) (lv0 := [(0, .ref a0), (1, .int p1), (2, .int p2), (3, .int p3)]) (by decide) rfl (Nat.le_of_ble_eq_true rfl) rfl rfl ?_
  intro x C
  unfold fn_Mo_isOf
  refine vj_aload_n (j := 0) C dMo_isOf_0 rfl rfl ?_
  refine vj_gr C dMo_isOf_1 lf_Mo_45 rfl (fun a1 => ?_)
  refine vj_bipush (v := 10) C dMo_isOf_4 (by decide) ?_
  refine vj_aload_n (j := 0) C dMo_isOf_6 rfl rfl ?_
  refine vj_gi C dMo_isOf_7 lf_Mo_112 rfl (fun v7 => ?_)
  refine vj_imul C dMo_isOf_10 ?_
  refine vj_iload_n (j := 1) C dMo_isOf_11 rfl rfl ?_
  refine vj_iadd C dMo_isOf_12 ?_
  refine vj_iald C dMo_isOf_13 (by decide) (fun v13 => ?_)
  refine vj_iload_n (j := 2) C dMo_isOf_14 rfl rfl ?_
  refine vj_icmp_ne (tgt := 40) C dMo_isOf_15 rfl ?_ ?_
  · skip
    refine vj_iconst (v := 0) C dMo_isOf_40 (by decide) ?_
    exact vj_retz C dMo_isOf_41 rfl rfl (Nat.le_of_ble_eq_true rfl) (Nat.le_of_ble_eq_true rfl)
  · skip
    refine vj_aload_n (j := 0) C dMo_isOf_18 rfl rfl ?_
    refine vj_gr C dMo_isOf_19 lf_Mo_48 rfl (fun a19 => ?_)
    refine vj_bipush (v := 10) C dMo_isOf_22 (by decide) ?_
    refine vj_aload_n (j := 0) C dMo_isOf_24 rfl rfl ?_
    refine vj_gi C dMo_isOf_25 lf_Mo_112 rfl (fun v25 => ?_)
    refine vj_imul C dMo_isOf_28 ?_
    refine vj_iload_n (j := 1) C dMo_isOf_29 rfl rfl ?_
    refine vj_iadd C dMo_isOf_30 ?_
    refine vj_iald C dMo_isOf_31 (by decide) (fun v31 => ?_)
    refine vj_iload_n (j := 3) C dMo_isOf_32 rfl rfl ?_
    refine vj_icmp_ne (tgt := 40) C dMo_isOf_33 rfl ?_ ?_
    · skip
      refine vj_iconst (v := 0) C dMo_isOf_40 (by decide) ?_
      exact vj_retz C dMo_isOf_41 rfl rfl (Nat.le_of_ble_eq_true rfl) (Nat.le_of_ble_eq_true rfl)
    · skip
      refine vj_iconst (v := 1) C dMo_isOf_36 (by decide) ?_
      refine vj_goto (tgt := 41) C dMo_isOf_37 rfl ?_
      exact vj_retz C dMo_isOf_41 rfl rfl (Nat.le_of_ble_eq_true rfl) (Nat.le_of_ble_eq_true rfl)
def lp_Mo_first_6 (a0 : Nat) (p1 : Int32) (p2 : Int32) (p3 : Int32) (p4 : Int32) (g6 : Mm → Int32 → Int32 → Rr) (Mh6 : Mm) (w6_5 : Int32) (w6_6 : Int32) : Rr := fo_gr Mh6 9 a0 19 fun a9 => fo_ai Mh6 0 a9 ((71 * p1) + p2) fun v18 => if v18 ≤ w6_6 then some (w6_5, Mh6) else fo_cv Mh6 9 a0 (fn_Mo_clauseAt Mh6 a0 p1 p2 w6_6) fun v28 M28 => fo_cv M28 9 a0 (fn_Mo_isOf M28 a0 v28 p3 p4) fun v34 M34 => fo_jp (fun (Mj92 : Mm) (s92_0 : Int32) => fo_jp (fun (s111_0 : Int32) => g6 Mj92 s111_0 (w6_6 + 1)) (fun j111 => fo_jp (j111 w6_5) (fun j109 => if v34 = 0 then j109 else if s92_0 = 0 then j109 else j111 w6_6))) (fun j92 => fo_jp (fun (Mj87 : Mm) => j92 Mj87 1) (fun j87 => if w6_5 < 0 then j87 M34 else fo_cv M34 9 a0 (fn_Mo_dayAt M34 a0 p1 p2 w6_6) fun v51 M51 => fo_cv M51 9 a0 (fn_Mo_clauseAt M51 a0 p1 p2 w6_6) fun v60 M60 => fo_cv M60 9 a0 (fn_Mo_dayAt M60 a0 p1 p2 w6_5) fun v71 M71 => fo_cv M71 9 a0 (fn_Mo_clauseAt M71 a0 p1 p2 w6_5) fun v80 M80 => if ((100 * v71) + v80) ≤ ((100 * v51) + v60) then j92 M80 0 else j87 M80))
def fn_Mo_first (M : Mm) (a0 : Nat) (p1 : Int32) (p2 : Int32) (p3 : Int32) (p4 : Int32) : Rr := fo_fx (fun _ _ _ => none) (lp_Mo_first_6 a0 p1 p2 p3 p4) fo_N M (-1) 0
set_option maxHeartbeats 4000000 in
set_option maxRecDepth 100000 in
theorem cm_Mo_first (l : Launch) (M : Mm) (a0 : Nat) (p1 : Int32) (p2 : Int32) (p3 : Int32) (p4 : Int32) : ct l zyMo_first ws_Mo_first { frames := 1, cells := 0, slots := 0, locals := 23 } 0 0 (fun w => some (.int w)) [.ref a0, .int p1, .int p2, .int p3, .int p4] M (fn_Mo_first M a0 p1 p2 p3 p4) := by
  refine ct_of (cc := zbMo_first) (maxL := 9) (ret := (some .int)) (lv0 := [(0, .ref a0), (1, .int p1), (2, .int p2), (3, .int p3), (4, .int p4)]) (by decide) rfl (Nat.le_of_ble_eq_true rfl) rfl rfl ?_
  intro x C
  unfold fn_Mo_first
  refine vj_iconst (v := (-1)) C dMo_first_0 (by decide) ?_
  refine vj_istore (lv' := [(0, .ref a0), (1, .int p1), (2, .int p2), (3, .int p3), (4, .int p4), (5, .int (-1))]) C dMo_first_1 (by decide) [1, 2, 3, 4, 5, 0] rfl ?_
  refine vj_iconst (v := 0) C dMo_first_3 (by decide) ?_
  refine vj_istore (lv' := [(0, .ref a0), (1, .int p1), (2, .int p2), (3, .int p3), (4, .int p4), (5, .int (-1)), (6, .int 0)]) C dMo_first_4 (by decide) [1, 2, 3, 4, 5, 6, 0] rfl ?_
  have hg6x : ∀ nf Mh6 w6_5 w6_6, Vj x 0 0 6 [(0, .ref a0), (1, .int p1), (2, .int p2), (3, .int p3), (4, .int p4), (5, .int w6_5), (6, .int w6_6)] [] Mh6 (fo_fx (fun _ _ _ => none) (lp_Mo_first_6 a0 p1 p2 p3 p4) nf Mh6 w6_5 w6_6) := by
    intro nf
    refine fo_fx_P (fun (j : Mm → Int32 → Int32 → Rr) => ∀ Mh6 w6_5 w6_6, Vj x 0 0 6 [(0, .ref a0), (1, .int p1), (2, .int p2), (3, .int p3), (4, .int p4), (5, .int w6_5), (6, .int w6_6)] [] Mh6 (j Mh6 w6_5 w6_6)) (fun _ _ _ => Vj_none) ?_ nf
    intro g6 hg6 Mh6 w6_5 w6_6
    unfold lp_Mo_first_6
    refine vj_iload (j := 6) C dMo_first_6 rfl ?_
    refine vj_aload_n (j := 0) C dMo_first_8 rfl rfl ?_
    refine vj_gr C dMo_first_9 lf_Mo_54 rfl (fun a9 => ?_)
    refine vj_bipush (v := 71) C dMo_first_12 (by decide) ?_
    refine vj_iload_n (j := 1) C dMo_first_14 rfl rfl ?_
    refine vj_imul C dMo_first_15 ?_
    refine vj_iload_n (j := 2) C dMo_first_16 rfl rfl ?_
    refine vj_iadd C dMo_first_17 ?_
    refine vj_iald C dMo_first_18 (by decide) (fun v18 => ?_)
    refine vj_icmp_ge (tgt := 119) C dMo_first_19 rfl ?_ ?_
    · skip
      refine vj_iload (j := 5) C dMo_first_119 rfl ?_
      exact vj_ret C dMo_first_121 rfl rfl (Nat.le_of_ble_eq_true rfl) (Nat.le_of_ble_eq_true rfl)
    · skip
      refine vj_aload_n (j := 0) C dMo_first_22 rfl rfl ?_
      refine vj_aload_n (j := 0) C dMo_first_23 rfl rfl ?_
      refine vj_iload_n (j := 1) C dMo_first_24 rfl rfl ?_
      refine vj_iload_n (j := 2) C dMo_first_25 rfl rfl ?_
      refine vj_iload (j := 6) C dMo_first_26 rfl ?_
      refine vj_cV (ci := 9) (As := [.int p1, .int p2, .int w6_6]) (st := [.ref a0]) (b := a0) (a1 := 3) C dMo_first_28 (cm_Mo_clauseAt _ _ _ _ _ _) rfl gv_Mo_115 rfl rfl rfl hv_Mo_clauseAt ⟨Nat.le_of_ble_eq_true rfl, Nat.le_of_ble_eq_true rfl⟩ rfl rfl (Nat.le_of_ble_eq_true rfl) ⟨Nat.le_of_ble_eq_true rfl, Nat.le_of_ble_eq_true rfl⟩ (fun v28 M28 => ?_)
      show Vj x 0 0 31 [(0, .ref a0), (1, .int p1), (2, .int p2), (3, .int p3), (4, .int p4), (5, .int w6_5), (6, .int w6_6)] [.int v28, .ref a0] M28 _
      refine vj_iload_n (j := 3) C dMo_first_31 rfl rfl ?_
      refine vj_iload (j := 4) C dMo_first_32 rfl ?_
      refine vj_cV (ci := 9) (As := [.int v28, .int p3, .int p4]) (st := []) (b := a0) (a1 := 3) C dMo_first_34 (cm_Mo_isOf _ _ _ _ _ _) rfl gv_Mo_119 rfl rfl rfl hv_Mo_isOf ⟨Nat.le_of_ble_eq_true rfl, Nat.le_of_ble_eq_true rfl⟩ rfl rfl (Nat.le_of_ble_eq_true rfl) ⟨Nat.le_of_ble_eq_true rfl, Nat.le_of_ble_eq_true rfl⟩ (fun v34 M34 => ?_)
      show Vj x 0 0 37 [(0, .ref a0), (1, .int p1), (2, .int p2), (3, .int p3), (4, .int p4), (5, .int w6_5), (6, .int w6_6)] [.int v34] M34 _
      refine vj_istore (lv' := [(0, .ref a0), (1, .int p1), (2, .int p2), (3, .int p3), (4, .int p4), (5, .int w6_5), (6, .int w6_6), (7, .int v34)]) C dMo_first_37 (by decide) [1, 2, 3, 4, 5, 6, 7, 0] rfl ?_
      refine vj_iload (j := 5) C dMo_first_39 rfl ?_
      refine vj_jp (fun (j : Mm → Int32 → Rr) => ∀ Mj92 s92_0, Vj x 0 0 92 [(0, .ref a0), (1, .int p1), (2, .int p2), (3, .int p3), (4, .int p4), (5, .int w6_5), (6, .int w6_6), (7, .int v34)] [.int s92_0] Mj92 (j Mj92 s92_0)) ?_ ?_
      · intro Mj92 s92_0
        refine vj_istore (lv' := [(0, .ref a0), (1, .int p1), (2, .int p2), (3, .int p3), (4, .int p4), (5, .int w6_5), (6, .int w6_6), (7, .int v34), (8, .int s92_0)]) C dMo_first_92 (by decide) [1, 2, 3, 4, 5, 6, 7, 8, 0] rfl ?_
        refine vj_iload (j := 7) C dMo_first_94 rfl ?_
        refine vj_jp (fun (j : Int32 → Rr) => ∀ s111_0, Vj x 0 0 111 [(0, .ref a0), (1, .int p1), (2, .int p2), (3, .int p3), (4, .int p4), (6, .int w6_6)] [.int s111_0] Mj92 (j s111_0)) ?_ ?_
        · intro s111_0
          refine vj_istore (lv' := [(0, .ref a0), (1, .int p1), (2, .int p2), (3, .int p3), (4, .int p4), (5, .int s111_0), (6, .int w6_6)]) C dMo_first_111 (by decide) [1, 2, 3, 4, 5, 0, 6] rfl ?_
          refine vj_iinc (j := 6) (b := 1) (lv' := [(0, .ref a0), (1, .int p1), (2, .int p2), (3, .int p3), (4, .int p4), (5, .int s111_0), (6, .int (w6_6 + 1))]) C dMo_first_113 rfl (by decide) (by decide) [1, 2, 3, 4, 5, 6, 0] rfl ?_
          refine vj_goto (tgt := 6) C dMo_first_116 rfl ?_
          exact hg6 _ _ _
        · intro j111 hj111
          refine vj_jp (fun (j : Rr) => Vj x 0 0 109 [(0, .ref a0), (1, .int p1), (2, .int p2), (3, .int p3), (4, .int p4), (5, .int w6_5), (6, .int w6_6)] [] Mj92 j) ?_ ?_
          · skip
            refine vj_iload (j := 5) C dMo_first_109 rfl ?_
            refine vj_lk (lv' := [(0, .ref a0), (1, .int p1), (2, .int p2), (3, .int p3), (4, .int p4), (6, .int w6_6)]) [0, 1, 2, 3, 4, 6] rfl ?_
            exact hj111 _
          · intro j109 hj109
            refine vj_if_eq (tgt := 109) C dMo_first_96 rfl ?_ ?_
            · skip
              refine vj_lk (lv' := [(0, .ref a0), (1, .int p1), (2, .int p2), (3, .int p3), (4, .int p4), (5, .int w6_5), (6, .int w6_6)]) [0, 1, 2, 3, 4, 5, 6] rfl ?_
              exact hj109
            · skip
              refine vj_iload (j := 8) C dMo_first_99 rfl ?_
              refine vj_if_eq (tgt := 109) C dMo_first_101 rfl ?_ ?_
              · skip
                refine vj_lk (lv' := [(0, .ref a0), (1, .int p1), (2, .int p2), (3, .int p3), (4, .int p4), (5, .int w6_5), (6, .int w6_6)]) [0, 1, 2, 3, 4, 5, 6] rfl ?_
                exact hj109
              · skip
                refine vj_iload (j := 6) C dMo_first_104 rfl ?_
                refine vj_goto (tgt := 111) C dMo_first_106 rfl ?_
                refine vj_lk (lv' := [(0, .ref a0), (1, .int p1), (2, .int p2), (3, .int p3), (4, .int p4), (6, .int w6_6)]) [0, 1, 2, 3, 4, 6] rfl ?_
                exact hj111 _
      · intro j92 hj92
        refine vj_jp (fun (j : Mm → Rr) => ∀ Mj87, Vj x 0 0 87 [(0, .ref a0), (1, .int p1), (2, .int p2), (3, .int p3), (4, .int p4), (5, .int w6_5), (6, .int w6_6), (7, .int v34)] [] Mj87 (j Mj87)) ?_ ?_
        · intro Mj87
          refine vj_iconst (v := 1) C dMo_first_87 (by decide) ?_
          refine vj_goto (tgt := 92) C dMo_first_88 rfl ?_
          exact hj92 _ _
        · intro j87 hj87
          refine vj_if_lt (tgt := 87) C dMo_first_41 rfl ?_ ?_
          · skip
            exact hj87 _
          · skip
            refine vj_bipush (v := 100) C dMo_first_44 (by decide) ?_
            refine vj_aload_n (j := 0) C dMo_first_46 rfl rfl ?_
            refine vj_iload_n (j := 1) C dMo_first_47 rfl rfl ?_
            refine vj_iload_n (j := 2) C dMo_first_48 rfl rfl ?_
            refine vj_iload (j := 6) C dMo_first_49 rfl ?_
            refine vj_cV (ci := 9) (As := [.int p1, .int p2, .int w6_6]) (st := [.int 100]) (b := a0) (a1 := 3) C dMo_first_51 (cm_Mo_dayAt _ _ _ _ _ _) rfl gv_Mo_122 rfl rfl rfl hv_Mo_dayAt ⟨Nat.le_of_ble_eq_true rfl, Nat.le_of_ble_eq_true rfl⟩ rfl rfl (Nat.le_of_ble_eq_true rfl) ⟨Nat.le_of_ble_eq_true rfl, Nat.le_of_ble_eq_true rfl⟩ (fun v51 M51 => ?_)
            show Vj x 0 0 54 [(0, .ref a0), (1, .int p1), (2, .int p2), (3, .int p3), (4, .int p4), (5, .int w6_5), (6, .int w6_6), (7, .int v34)] [.int v51, .int 100] M51 _
            refine vj_imul C dMo_first_54 ?_
            refine vj_aload_n (j := 0) C dMo_first_55 rfl rfl ?_
            refine vj_iload_n (j := 1) C dMo_first_56 rfl rfl ?_
            refine vj_iload_n (j := 2) C dMo_first_57 rfl rfl ?_
            refine vj_iload (j := 6) C dMo_first_58 rfl ?_
            refine vj_cV (ci := 9) (As := [.int p1, .int p2, .int w6_6]) (st := [.int (100 * v51)]) (b := a0) (a1 := 3) C dMo_first_60 (cm_Mo_clauseAt _ _ _ _ _ _) rfl gv_Mo_115 rfl rfl rfl hv_Mo_clauseAt ⟨Nat.le_of_ble_eq_true rfl, Nat.le_of_ble_eq_true rfl⟩ rfl rfl (Nat.le_of_ble_eq_true rfl) ⟨Nat.le_of_ble_eq_true rfl, Nat.le_of_ble_eq_true rfl⟩ (fun v60 M60 => ?_)
            show Vj x 0 0 63 [(0, .ref a0), (1, .int p1), (2, .int p2), (3, .int p3), (4, .int p4), (5, .int w6_5), (6, .int w6_6), (7, .int v34)] [.int v60, .int (100 * v51)] M60 _
            refine vj_iadd C dMo_first_63 ?_
            refine vj_bipush (v := 100) C dMo_first_64 (by decide) ?_
            refine vj_aload_n (j := 0) C dMo_first_66 rfl rfl ?_
            refine vj_iload_n (j := 1) C dMo_first_67 rfl rfl ?_
            refine vj_iload_n (j := 2) C dMo_first_68 rfl rfl ?_
            refine vj_iload (j := 5) C dMo_first_69 rfl ?_
            refine vj_cV (ci := 9) (As := [.int p1, .int p2, .int w6_5]) (st := [.int 100, .int ((100 * v51) + v60)]) (b := a0) (a1 := 3) C dMo_first_71 (cm_Mo_dayAt _ _ _ _ _ _) rfl gv_Mo_122 rfl rfl rfl hv_Mo_dayAt ⟨Nat.le_of_ble_eq_true rfl, Nat.le_of_ble_eq_true rfl⟩ rfl rfl (Nat.le_of_ble_eq_true rfl) ⟨Nat.le_of_ble_eq_true rfl, Nat.le_of_ble_eq_true rfl⟩ (fun v71 M71 => ?_)
            show Vj x 0 0 74 [(0, .ref a0), (1, .int p1), (2, .int p2), (3, .int p3), (4, .int p4), (5, .int w6_5), (6, .int w6_6), (7, .int v34)] [.int v71, .int 100, .int ((100 * v51) + v60)] M71 _
            refine vj_imul C dMo_first_74 ?_
            refine vj_aload_n (j := 0) C dMo_first_75 rfl rfl ?_
            refine vj_iload_n (j := 1) C dMo_first_76 rfl rfl ?_
            refine vj_iload_n (j := 2) C dMo_first_77 rfl rfl ?_
            refine vj_iload (j := 5) C dMo_first_78 rfl ?_
            refine vj_cV (ci := 9) (As := [.int p1, .int p2, .int w6_5]) (st := [.int (100 * v71), .int ((100 * v51) + v60)]) (b := a0) (a1 := 3) C dMo_first_80 (cm_Mo_clauseAt _ _ _ _ _ _) rfl gv_Mo_115 rfl rfl rfl hv_Mo_clauseAt ⟨Nat.le_of_ble_eq_true rfl, Nat.le_of_ble_eq_true rfl⟩ rfl rfl (Nat.le_of_ble_eq_true rfl) ⟨Nat.le_of_ble_eq_true rfl, Nat.le_of_ble_eq_true rfl⟩ (fun v80 M80 => ?_)
            show Vj x 0 0 83 [(0, .ref a0), (1, .int p1), (2, .int p2), (3, .int p3), (4, .int p4), (5, .int w6_5), (6, .int w6_6), (7, .int v34)] [.int v80, .int (100 * v71), .int ((100 * v51) + v60)] M80 _
            refine vj_iadd C dMo_first_83 ?_
            refine vj_icmp_ge (tgt := 91) C dMo_first_84 rfl ?_ ?_
            · skip
              refine vj_iconst (v := 0) C dMo_first_91 (by decide) ?_
              exact hj92 _ _
            · skip
              exact hj87 _
  exact hg6x _ _ _ _
def lp_Mo_await_3 (a0 : Nat) (p1 : Int32) (p2 : Int32) (p3 : Int32) (g3 : Mm → Int32 → Rr) (Mh3 : Mm) (w3_4 : Int32) : Rr := fo_gi Mh3 9 a0 7 fun v6 => if v6 ≤ w3_4 then some (0, Mh3) else fo_gi Mh3 9 a0 5 fun v15 => fo_nm ((10 * v15) + w3_4) fun v22 => fo_gr Mh3 9 a0 8 fun a25 => fo_ai Mh3 0 a25 v22 fun v30 => fo_jp (fun (s71_0 : Int32) => fo_jp (fun (Mj99 : Mm) => g3 Mj99 (w3_4 + 1)) (fun j99 => if s71_0 = 0 then j99 Mh3 else fo_gr Mh3 9 a0 22 fun a79 => fo_gi Mh3 9 a0 21 fun v83 => fo_si Mh3 a79 v83 w3_4 fun M88 => fo_gi M88 9 a0 21 fun v91 => fo_pi M88 9 a0 21 (v91 + 1) fun M96 => j99 M96)) (fun j71 => fo_jp (j71 0) (fun j70 => if v30 = p1 then fo_jp (fo_jp (j71 1) (fun j66 => if p1 = 1 then fo_gr Mh3 9 a0 10 fun a56 => fo_ai Mh3 0 a56 v22 fun v61 => if v61 = p3 then j66 else j70 else j66)) (fun j50 => if p1 = 0 then j50 else fo_gr Mh3 9 a0 9 fun a40 => fo_ai Mh3 0 a40 v22 fun v45 => if v45 = p2 then j50 else j70) else j70))
def fn_Mo_await (M : Mm) (a0 : Nat) (p1 : Int32) (p2 : Int32) (p3 : Int32) : Rr := fo_fx (fun _ _ => none) (lp_Mo_await_3 a0 p1 p2 p3) fo_N M 0
set_option maxHeartbeats 4000000 in
set_option maxRecDepth 100000 in
theorem cm_Mo_await (l : Launch) (M : Mm) (a0 : Nat) (p1 : Int32) (p2 : Int32) (p3 : Int32) : ct l zyMo_await ws_Mo_await { frames := 0, cells := 0, slots := 0, locals := 0 } 0 0 (fun _ => none) [.ref a0, .int p1, .int p2, .int p3] M (fn_Mo_await M a0 p1 p2 p3) := by
  refine ct_of (cc := zbMo_await) (maxL := 7) (ret := none) (lv0 := [(0, .ref a0), (1, .int p1), (2, .int p2), (3, .int p3)]) (by decide) rfl (Nat.le_of_ble_eq_true rfl) rfl rfl ?_
  intro x C
  unfold fn_Mo_await
  refine vj_iconst (v := 0) C dMo_await_0 (by decide) ?_
  refine vj_istore (lv' := [(0, .ref a0), (1, .int p1), (2, .int p2), (3, .int p3), (4, .int 0)]) C dMo_await_1 (by decide) [1, 2, 3, 4, 0] rfl ?_
  have hg3x : ∀ nf Mh3 w3_4, Vj x 0 0 3 [(0, .ref a0), (1, .int p1), (2, .int p2), (3, .int p3), (4, .int w3_4)] [] Mh3 (fo_fx (fun _ _ => none) (lp_Mo_await_3 a0 p1 p2 p3) nf Mh3 w3_4) := by
    intro nf
    refine fo_fx_P (fun (j : Mm → Int32 → Rr) => ∀ Mh3 w3_4, Vj x 0 0 3 [(0, .ref a0), (1, .int p1), (2, .int p2), (3, .int p3), (4, .int w3_4)] [] Mh3 (j Mh3 w3_4)) (fun _ _ => Vj_none) ?_ nf
    intro g3 hg3 Mh3 w3_4
    unfold lp_Mo_await_3
    refine vj_iload (j := 4) C dMo_await_3 rfl ?_
    refine vj_aload_n (j := 0) C dMo_await_5 rfl rfl ?_
    refine vj_gi C dMo_await_6 lf_Mo_125 rfl (fun v6 => ?_)
    refine vj_icmp_ge (tgt := 105) C dMo_await_9 rfl ?_ ?_
    · skip
      exact vj_retv C dMo_await_105 rfl rfl (Nat.le_of_ble_eq_true rfl) (Nat.le_of_ble_eq_true rfl)
    · skip
      refine vj_bipush (v := 10) C dMo_await_12 (by decide) ?_
      refine vj_aload_n (j := 0) C dMo_await_14 rfl rfl ?_
      refine vj_gi C dMo_await_15 lf_Mo_112 rfl (fun v15 => ?_)
      refine vj_imul C dMo_await_18 ?_
      refine vj_iload (j := 4) C dMo_await_19 rfl ?_
      refine vj_iadd C dMo_await_21 ?_
      refine vj_nm (fun v22 => ?_)
      refine vj_istore (lv' := [(0, .ref a0), (1, .int p1), (2, .int p2), (3, .int p3), (4, .int w3_4), (5, .int v22)]) C dMo_await_22 (by decide) [1, 2, 3, 4, 5, 0] rfl ?_
      refine vj_aload_n (j := 0) C dMo_await_24 rfl rfl ?_
      refine vj_gr C dMo_await_25 lf_Mo_21 rfl (fun a25 => ?_)
      refine vj_iload (j := 5) C dMo_await_28 rfl ?_
      refine vj_iald C dMo_await_30 (by decide) (fun v30 => ?_)
      refine vj_iload_n (j := 1) C dMo_await_31 rfl rfl ?_
      refine vj_jp (fun (j : Int32 → Rr) => ∀ s71_0, Vj x 0 0 71 [(0, .ref a0), (1, .int p1), (2, .int p2), (3, .int p3), (4, .int w3_4)] [.int s71_0] Mh3 (j s71_0)) ?_ ?_
      · intro s71_0
        refine vj_istore (lv' := [(0, .ref a0), (1, .int p1), (2, .int p2), (3, .int p3), (4, .int w3_4), (6, .int s71_0)]) C dMo_await_71 (by decide) [1, 2, 3, 4, 5, 0] rfl ?_
        refine vj_iload (j := 5) C dMo_await_73 rfl ?_
        refine vj_jp (fun (j : Mm → Rr) => ∀ Mj99, Vj x 0 0 99 [(0, .ref a0), (1, .int p1), (2, .int p2), (3, .int p3), (4, .int w3_4)] [] Mj99 (j Mj99)) ?_ ?_
        · intro Mj99
          refine vj_iinc (j := 4) (b := 1) (lv' := [(0, .ref a0), (1, .int p1), (2, .int p2), (3, .int p3), (4, .int (w3_4 + 1))]) C dMo_await_99 rfl (by decide) (by decide) [1, 2, 3, 4, 0] rfl ?_
          refine vj_goto (tgt := 3) C dMo_await_102 rfl ?_
          exact hg3 _ _
        · intro j99 hj99
          refine vj_if_eq (tgt := 99) C dMo_await_75 rfl ?_ ?_
          · skip
            refine vj_lk (lv' := [(0, .ref a0), (1, .int p1), (2, .int p2), (3, .int p3), (4, .int w3_4)]) [0, 1, 2, 3, 4] rfl ?_
            exact hj99 _
          · skip
            refine vj_aload_n (j := 0) C dMo_await_78 rfl rfl ?_
            refine vj_gr C dMo_await_79 lf_Mo_57 rfl (fun a79 => ?_)
            refine vj_aload_n (j := 0) C dMo_await_82 rfl rfl ?_
            refine vj_gi C dMo_await_83 lf_Mo_128 rfl (fun v83 => ?_)
            refine vj_iload (j := 4) C dMo_await_86 rfl ?_
            refine vj_iast C dMo_await_88 (fun M88 => ?_)
            refine vj_aload_n (j := 0) C dMo_await_89 rfl rfl ?_
            refine vj_aload_n (j := 0) C dMo_await_90 rfl rfl ?_
            refine vj_gi C dMo_await_91 lf_Mo_128 rfl (fun v91 => ?_)
            refine vj_iconst (v := 1) C dMo_await_94 (by decide) ?_
            refine vj_iadd C dMo_await_95 ?_
            refine vj_pi C dMo_await_96 lf_Mo_128 lq_9_21 rfl (fun M96 => ?_)
            refine vj_lk (lv' := [(0, .ref a0), (1, .int p1), (2, .int p2), (3, .int p3), (4, .int w3_4)]) [0, 1, 2, 3, 4] rfl ?_
            exact hj99 _
      · intro j71 hj71
        refine vj_jp (fun (j : Rr) => Vj x 0 0 70 [(0, .ref a0), (1, .int p1), (2, .int p2), (3, .int p3), (4, .int w3_4)] [] Mh3 j) ?_ ?_
        · skip
          refine vj_iconst (v := 0) C dMo_await_70 (by decide) ?_
          exact hj71 _
        · intro j70 hj70
          refine vj_icmp_ne (tgt := 70) C dMo_await_32 rfl ?_ ?_
          · skip
            refine vj_lk (lv' := [(0, .ref a0), (1, .int p1), (2, .int p2), (3, .int p3), (4, .int w3_4)]) [0, 1, 2, 3, 4] rfl ?_
            exact hj70
          · skip
            refine vj_iload_n (j := 1) C dMo_await_35 rfl rfl ?_
            refine vj_jp (fun (j : Rr) => Vj x 0 0 50 [(0, .ref a0), (1, .int p1), (2, .int p2), (3, .int p3), (4, .int w3_4), (5, .int v22)] [] Mh3 j) ?_ ?_
            · skip
              refine vj_iload_n (j := 1) C dMo_await_50 rfl rfl ?_
              refine vj_iconst (v := 1) C dMo_await_51 (by decide) ?_
              refine vj_jp (fun (j : Rr) => Vj x 0 0 66 [(0, .ref a0), (1, .int p1), (2, .int p2), (3, .int p3), (4, .int w3_4)] [] Mh3 j) ?_ ?_
              · skip
                refine vj_iconst (v := 1) C dMo_await_66 (by decide) ?_
                refine vj_goto (tgt := 71) C dMo_await_67 rfl ?_
                exact hj71 _
              · intro j66 hj66
                refine vj_icmp_ne (tgt := 66) C dMo_await_52 rfl ?_ ?_
                · skip
                  refine vj_lk (lv' := [(0, .ref a0), (1, .int p1), (2, .int p2), (3, .int p3), (4, .int w3_4)]) [0, 1, 2, 3, 4] rfl ?_
                  exact hj66
                · skip
                  refine vj_aload_n (j := 0) C dMo_await_55 rfl rfl ?_
                  refine vj_gr C dMo_await_56 lf_Mo_27 rfl (fun a56 => ?_)
                  refine vj_iload (j := 5) C dMo_await_59 rfl ?_
                  refine vj_iald C dMo_await_61 (by decide) (fun v61 => ?_)
                  refine vj_iload_n (j := 3) C dMo_await_62 rfl rfl ?_
                  refine vj_icmp_ne (tgt := 70) C dMo_await_63 rfl ?_ ?_
                  · skip
                    refine vj_lk (lv' := [(0, .ref a0), (1, .int p1), (2, .int p2), (3, .int p3), (4, .int w3_4)]) [0, 1, 2, 3, 4] rfl ?_
                    exact hj70
                  · skip
                    refine vj_lk (lv' := [(0, .ref a0), (1, .int p1), (2, .int p2), (3, .int p3), (4, .int w3_4)]) [0, 1, 2, 3, 4] rfl ?_
                    exact hj66
            · intro j50 hj50
              refine vj_if_eq (tgt := 50) C dMo_await_36 rfl ?_ ?_
              · skip
                exact hj50
              · skip
                refine vj_aload_n (j := 0) C dMo_await_39 rfl rfl ?_
                refine vj_gr C dMo_await_40 lf_Mo_24 rfl (fun a40 => ?_)
                refine vj_iload (j := 5) C dMo_await_43 rfl ?_
                refine vj_iald C dMo_await_45 (by decide) (fun v45 => ?_)
                refine vj_iload_n (j := 2) C dMo_await_46 rfl rfl ?_
                refine vj_icmp_ne (tgt := 70) C dMo_await_47 rfl ?_ ?_
                · skip
                  refine vj_lk (lv' := [(0, .ref a0), (1, .int p1), (2, .int p2), (3, .int p3), (4, .int w3_4)]) [0, 1, 2, 3, 4] rfl ?_
                  exact hj70
                · skip
                  exact hj50
  exact hg3x _ _ _
