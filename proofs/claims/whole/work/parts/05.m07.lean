def fn_Mo_isParty (M : Mm) (p0 : Int32) : Rr := if p0 < 0 then fo_rz 0 M else if 3 ≤ p0 then fo_rz 0 M else fo_rz 1 M
set_option maxHeartbeats 4000000 in
set_option maxRecDepth 100000 in
theorem cm_Mo_isParty (l : Launch) (M : Mm) (p0 : Int32) : ct l zyMo_isParty ws_Mo_isParty { frames := 0, cells := 0, slots := 0, locals := 0 } 0 0 (fun w => some (.int w)) [.int p0] M (fn_Mo_isParty M p0) := by
  refine ct_of (cc := zbMo_isParty) (maxL := 1) (ret := (some .boolean)) (lv0 := [(0, .int p0)]) (by decide) rfl (Nat.le_of_ble_eq_true rfl) rfl rfl ?_
  intro x C
  unfold fn_Mo_isParty
  refine vj_iload_n (j := 0) C dMo_isParty_0 rfl rfl ?_
  refine vj_if_lt (tgt := 13) C dMo_isParty_1 rfl ?_ ?_
  · skip
    refine vj_iconst (v := 0) C dMo_isParty_13 (by decide) ?_
    exact vj_retz C dMo_isParty_14 rfl rfl (Nat.le_of_ble_eq_true rfl) (Nat.le_of_ble_eq_true rfl)
  · skip
    refine vj_iload_n (j := 0) C dMo_isParty_4 rfl rfl ?_
    refine vj_iconst (v := 3) C dMo_isParty_5 (by decide) ?_
    refine vj_icmp_ge (tgt := 13) C dMo_isParty_6 rfl ?_ ?_
    · skip
      refine vj_iconst (v := 0) C dMo_isParty_13 (by decide) ?_
      exact vj_retz C dMo_isParty_14 rfl rfl (Nat.le_of_ble_eq_true rfl) (Nat.le_of_ble_eq_true rfl)
    · skip
      refine vj_iconst (v := 1) C dMo_isParty_9 (by decide) ?_
      refine vj_goto (tgt := 14) C dMo_isParty_10 rfl ?_
      exact vj_retz C dMo_isParty_14 rfl rfl (Nat.le_of_ble_eq_true rfl) (Nat.le_of_ble_eq_true rfl)
def fn_Mo_isKind (M : Mm) (p0 : Int32) : Rr := if p0 < 0 then fo_rz 0 M else if 5 ≤ p0 then fo_rz 0 M else fo_rz 1 M
set_option maxHeartbeats 4000000 in
set_option maxRecDepth 100000 in
theorem cm_Mo_isKind (l : Launch) (M : Mm) (p0 : Int32) : ct l zyMo_isKind ws_Mo_isKind { frames := 0, cells := 0, slots := 0, locals := 0 } 0 0 (fun w => some (.int w)) [.int p0] M (fn_Mo_isKind M p0) := by
  refine ct_of (cc := zbMo_isKind) (maxL := 1) (ret := (some .boolean)) (lv0 := [(0, .int p0)]) (by decide) rfl (Nat.le_of_ble_eq_true rfl) rfl rfl ?_
  intro x C
  unfold fn_Mo_isKind
  refine vj_iload_n (j := 0) C dMo_isKind_0 rfl rfl ?_
  refine vj_if_lt (tgt := 13) C dMo_isKind_1 rfl ?_ ?_
  · skip
    refine vj_iconst (v := 0) C dMo_isKind_13 (by decide) ?_
    exact vj_retz C dMo_isKind_14 rfl rfl (Nat.le_of_ble_eq_true rfl) (Nat.le_of_ble_eq_true rfl)
  · skip
    refine vj_iload_n (j := 0) C dMo_isKind_4 rfl rfl ?_
    refine vj_iconst (v := 5) C dMo_isKind_5 (by decide) ?_
    refine vj_icmp_ge (tgt := 13) C dMo_isKind_6 rfl ?_ ?_
    · skip
      refine vj_iconst (v := 0) C dMo_isKind_13 (by decide) ?_
      exact vj_retz C dMo_isKind_14 rfl rfl (Nat.le_of_ble_eq_true rfl) (Nat.le_of_ble_eq_true rfl)
    · skip
      refine vj_iconst (v := 1) C dMo_isKind_9 (by decide) ?_
      refine vj_goto (tgt := 14) C dMo_isKind_10 rfl ?_
      exact vj_retz C dMo_isKind_14 rfl rfl (Nat.le_of_ble_eq_true rfl) (Nat.le_of_ble_eq_true rfl)
def fn_Mo_event (M : Mm) (a0 : Nat) (p1 : Int32) (p2 : Int32) : Rr := fo_gi M 9 a0 6 fun v2 => fo_jp (fun (Mj31 : Mm) (s31_1 : Int32) => fo_pi Mj31 9 a0 0 s31_1 fun M31 => fo_gi M31 9 a0 0 fun v35 => if v35 ≤ 0 then fo_cv M31 9 a0 (fn_Mo_copy M31 a0 0 13) fun _ M47 => fo_cv M47 9 a0 (fn_Mo_eventIn M47 a0 13 p1 p2) fun _ M55 => fo_cv M55 9 a0 (fn_Mo_settle M55 a0) fun v59 M59 => some (v59, M59) else some (0, M31)) (fun j31 => if v2 = 0 then j31 M 1 else fo_cl (fn_Mo_isParty M p1) fun v13 M13 => fo_jp (fun (Mj26 : Mm) => j31 Mj26 2) (fun j26 => if v13 = 0 then j26 M13 else fo_cl (fn_Mo_isKind M13 p2) fun v20 M20 => if v20 = 0 then j26 M20 else j31 M20 0))
set_option maxHeartbeats 4000000 in
set_option maxRecDepth 100000 in
theorem cm_Mo_event (l : Launch) (M : Mm) (a0 : Nat) (p1 : Int32) (p2 : Int32) : ct l zyMo_event ws_Mo_event { frames := 4, cells := 0, slots := 0, locals := 101 } 0 0 (fun w => some (.int w)) [.ref a0, .int p1, .int p2] M (fn_Mo_event M a0 p1 p2) := by
  refine ct_of (cc := zbMo_event) (maxL := 3) (ret := (some .int)) (lv0 := [(0, .ref a0), (1, .int p1), (2, .int p2)]) (by decide) rfl (Nat.le_of_ble_eq_true rfl) rfl rfl ?_
  intro x C
  unfold fn_Mo_event
  refine vj_aload_n (j := 0) C dMo_event_0 rfl rfl ?_
  refine vj_aload_n (j := 0) C dMo_event_1 rfl rfl ?_
  refine vj_gi C dMo_event_2 lf_Mo_68 rfl (fun v2 => ?_)
  refine vj_jp (fun (j : Mm → Int32 → Rr) => ∀ Mj31 s31_1, Vj x 0 0 31 [(0, .ref a0), (1, .int p1), (2, .int p2)] [.int s31_1, .ref a0] Mj31 (j Mj31 s31_1)) ?_ ?_
  · intro Mj31 s31_1
    refine vj_pi C dMo_event_31 lf_Mo_60 lq_9_0 rfl (fun M31 => ?_)
    refine vj_aload_n (j := 0) C dMo_event_34 rfl rfl ?_
    refine vj_gi C dMo_event_35 lf_Mo_60 rfl (fun v35 => ?_)
    refine vj_if_le (tgt := 43) C dMo_event_38 rfl ?_ ?_
    · skip
      refine vj_aload_n (j := 0) C dMo_event_43 rfl rfl ?_
      refine vj_iconst (v := 0) C dMo_event_44 (by decide) ?_
      refine vj_bipush (v := 13) C dMo_event_45 (by decide) ?_
      refine vj_cV (ci := 9) (As := [.int 0, .int 13]) (st := []) (b := a0) (a1 := 2) C dMo_event_47 (cm_Mo_copy _ _ _ _ _) rfl gv_Mo_178 rfl rfl rfl hv_Mo_copy ⟨Nat.le_of_ble_eq_true rfl, Nat.le_of_ble_eq_true rfl⟩ rfl rfl (Nat.le_of_ble_eq_true rfl) ⟨Nat.le_of_ble_eq_true rfl, Nat.le_of_ble_eq_true rfl⟩ (fun _ M47 => ?_)
      show Vj x 0 0 50 [(0, .ref a0), (1, .int p1), (2, .int p2)] [] M47 _
      refine vj_aload_n (j := 0) C dMo_event_50 rfl rfl ?_
      refine vj_bipush (v := 13) C dMo_event_51 (by decide) ?_
      refine vj_iload_n (j := 1) C dMo_event_53 rfl rfl ?_
      refine vj_iload_n (j := 2) C dMo_event_54 rfl rfl ?_
      refine vj_cV (ci := 9) (As := [.int 13, .int p1, .int p2]) (st := []) (b := a0) (a1 := 3) C dMo_event_55 (cm_Mo_eventIn _ _ _ _ _ _) rfl gv_Mo_191 rfl rfl rfl hv_Mo_eventIn ⟨Nat.le_of_ble_eq_true rfl, Nat.le_of_ble_eq_true rfl⟩ rfl rfl (Nat.le_of_ble_eq_true rfl) ⟨Nat.le_of_ble_eq_true rfl, Nat.le_of_ble_eq_true rfl⟩ (fun _ M55 => ?_)
      show Vj x 0 0 58 [(0, .ref a0), (1, .int p1), (2, .int p2)] [] M55 _
      refine vj_aload_n (j := 0) C dMo_event_58 rfl rfl ?_
      refine vj_cV (ci := 9) (As := []) (st := []) (b := a0) (a1 := 0) C dMo_event_59 (cm_Mo_settle _ _ _) rfl gv_Mo_194 rfl rfl rfl hv_Mo_settle ⟨Nat.le_of_ble_eq_true rfl, Nat.le_of_ble_eq_true rfl⟩ rfl rfl (Nat.le_of_ble_eq_true rfl) ⟨Nat.le_of_ble_eq_true rfl, Nat.le_of_ble_eq_true rfl⟩ (fun v59 M59 => ?_)
      show Vj x 0 0 62 [(0, .ref a0), (1, .int p1), (2, .int p2)] [.int v59] M59 _
      exact vj_ret C dMo_event_62 rfl rfl (Nat.le_of_ble_eq_true rfl) (Nat.le_of_ble_eq_true rfl)
    · skip
      refine vj_iconst (v := 0) C dMo_event_41 (by decide) ?_
      exact vj_ret C dMo_event_42 rfl rfl (Nat.le_of_ble_eq_true rfl) (Nat.le_of_ble_eq_true rfl)
  · intro j31 hj31
    refine vj_if_ne (tgt := 12) C dMo_event_5 rfl ?_ ?_
    · skip
      refine vj_iload_n (j := 1) C dMo_event_12 rfl rfl ?_
      refine vj_cS (As := [.int p1]) (st := [.ref a0]) (a1 := 1) C dMo_event_13 (cm_Mo_isParty _ _ _) gs_Mo_184 rfl rfl rfl hs_Mo_isParty ⟨Nat.le_of_ble_eq_true rfl, Nat.le_of_ble_eq_true rfl⟩ rfl rfl (Nat.le_of_ble_eq_true rfl) ⟨Nat.le_of_ble_eq_true rfl, Nat.le_of_ble_eq_true rfl⟩ (fun v13 M13 => ?_)
      show Vj x 0 0 16 [(0, .ref a0), (1, .int p1), (2, .int p2)] [.int v13, .ref a0] M13 _
      refine vj_jp (fun (j : Mm → Rr) => ∀ Mj26, Vj x 0 0 26 [(0, .ref a0), (1, .int p1), (2, .int p2)] [.ref a0] Mj26 (j Mj26)) ?_ ?_
      · intro Mj26
        refine vj_iconst (v := 2) C dMo_event_26 (by decide) ?_
        refine vj_goto (tgt := 31) C dMo_event_27 rfl ?_
        exact hj31 _ _
      · intro j26 hj26
        refine vj_if_eq (tgt := 26) C dMo_event_16 rfl ?_ ?_
        · skip
          exact hj26 _
        · skip
          refine vj_iload_n (j := 2) C dMo_event_19 rfl rfl ?_
          refine vj_cS (As := [.int p2]) (st := [.ref a0]) (a1 := 1) C dMo_event_20 (cm_Mo_isKind _ _ _) gs_Mo_188 rfl rfl rfl hs_Mo_isKind ⟨Nat.le_of_ble_eq_true rfl, Nat.le_of_ble_eq_true rfl⟩ rfl rfl (Nat.le_of_ble_eq_true rfl) ⟨Nat.le_of_ble_eq_true rfl, Nat.le_of_ble_eq_true rfl⟩ (fun v20 M20 => ?_)
          show Vj x 0 0 23 [(0, .ref a0), (1, .int p1), (2, .int p2)] [.int v20, .ref a0] M20 _
          refine vj_if_ne (tgt := 30) C dMo_event_23 rfl ?_ ?_
          · skip
            refine vj_iconst (v := 0) C dMo_event_30 (by decide) ?_
            exact hj31 _ _
          · skip
            exact hj26 _
    · skip
      refine vj_iconst (v := 1) C dMo_event_8 (by decide) ?_
      refine vj_goto (tgt := 31) C dMo_event_9 rfl ?_
      exact hj31 _ _
def fn_Mo_nextDay (M : Mm) (a0 : Nat) : Rr := fo_gi M 9 a0 6 fun v2 => fo_jp (fun (s24_1 : Int32) => fo_pi M 9 a0 0 s24_1 fun M24 => fo_gi M24 9 a0 0 fun v28 => if v28 ≤ 0 then fo_cv M24 9 a0 (fn_Mo_copy M24 a0 0 13) fun _ M40 => fo_cv M40 9 a0 (fn_Mo_endIn M40 a0 13) fun _ M46 => fo_cv M46 9 a0 (fn_Mo_settle M46 a0) fun v50 M50 => fo_gi M50 9 a0 0 fun v56 => if v56 = 3 then fo_pi M50 9 a0 0 2 fun M71 => some (v50, M71) else fo_gi M50 9 a0 0 fun v68 => fo_pi M50 9 a0 0 v68 fun M71 => some (v50, M71) else some (0, M24)) (fun j24 => fo_jp (j24 1) (fun j19 => if v2 = 0 then j19 else fo_gr M 9 a0 19 fun a9 => fo_ai M 0 a9 0 fun v13 => if v13 = 60 then j19 else j24 0))
set_option maxHeartbeats 4000000 in
set_option maxRecDepth 100000 in
theorem cm_Mo_nextDay (l : Launch) (M : Mm) (a0 : Nat) : ct l zyMo_nextDay ws_Mo_nextDay { frames := 4, cells := 0, slots := 0, locals := 98 } 0 0 (fun w => some (.int w)) [.ref a0] M (fn_Mo_nextDay M a0) := by
  refine ct_of (cc := zbMo_nextDay) (maxL := 2) (ret := (some .int)) (lv0 := [(0, .ref a0)]) (by decide) rfl (Nat.le_of_ble_eq_true rfl) rfl rfl ?_
  intro x C
  unfold fn_Mo_nextDay
  refine vj_aload_n (j := 0) C dMo_nextDay_0 rfl rfl ?_
  refine vj_aload_n (j := 0) C dMo_nextDay_1 rfl rfl ?_
  refine vj_gi C dMo_nextDay_2 lf_Mo_68 rfl (fun v2 => ?_)
  refine vj_jp (fun (j : Int32 → Rr) => ∀ s24_1, Vj x 0 0 24 [(0, .ref a0)] [.int s24_1, .ref a0] M (j s24_1)) ?_ ?_
  · intro s24_1
    refine vj_pi C dMo_nextDay_24 lf_Mo_60 lq_9_0 rfl (fun M24 => ?_)
    refine vj_aload_n (j := 0) C dMo_nextDay_27 rfl rfl ?_
    refine vj_gi C dMo_nextDay_28 lf_Mo_60 rfl (fun v28 => ?_)
    refine vj_if_le (tgt := 36) C dMo_nextDay_31 rfl ?_ ?_
    · skip
      refine vj_aload_n (j := 0) C dMo_nextDay_36 rfl rfl ?_
      refine vj_iconst (v := 0) C dMo_nextDay_37 (by decide) ?_
      refine vj_bipush (v := 13) C dMo_nextDay_38 (by decide) ?_
      refine vj_cV (ci := 9) (As := [.int 0, .int 13]) (st := []) (b := a0) (a1 := 2) C dMo_nextDay_40 (cm_Mo_copy _ _ _ _ _) rfl gv_Mo_178 rfl rfl rfl hv_Mo_copy ⟨Nat.le_of_ble_eq_true rfl, Nat.le_of_ble_eq_true rfl⟩ rfl rfl (Nat.le_of_ble_eq_true rfl) ⟨Nat.le_of_ble_eq_true rfl, Nat.le_of_ble_eq_true rfl⟩ (fun _ M40 => ?_)
      show Vj x 0 0 43 [(0, .ref a0)] [] M40 _
      refine vj_aload_n (j := 0) C dMo_nextDay_43 rfl rfl ?_
      refine vj_bipush (v := 13) C dMo_nextDay_44 (by decide) ?_
      refine vj_cV (ci := 9) (As := [.int 13]) (st := []) (b := a0) (a1 := 1) C dMo_nextDay_46 (cm_Mo_endIn _ _ _ _) rfl gv_Mo_198 rfl rfl rfl hv_Mo_endIn ⟨Nat.le_of_ble_eq_true rfl, Nat.le_of_ble_eq_true rfl⟩ rfl rfl (Nat.le_of_ble_eq_true rfl) ⟨Nat.le_of_ble_eq_true rfl, Nat.le_of_ble_eq_true rfl⟩ (fun _ M46 => ?_)
      show Vj x 0 0 49 [(0, .ref a0)] [] M46 _
      refine vj_aload_n (j := 0) C dMo_nextDay_49 rfl rfl ?_
      refine vj_cV (ci := 9) (As := []) (st := []) (b := a0) (a1 := 0) C dMo_nextDay_50 (cm_Mo_settle _ _ _) rfl gv_Mo_194 rfl rfl rfl hv_Mo_settle ⟨Nat.le_of_ble_eq_true rfl, Nat.le_of_ble_eq_true rfl⟩ rfl rfl (Nat.le_of_ble_eq_true rfl) ⟨Nat.le_of_ble_eq_true rfl, Nat.le_of_ble_eq_true rfl⟩ (fun v50 M50 => ?_)
      show Vj x 0 0 53 [(0, .ref a0)] [.int v50] M50 _
      refine vj_istore_n (lv' := [(0, .ref a0), (1, .int v50)]) C dMo_nextDay_53 rfl (by decide) [1, 0] rfl ?_
      refine vj_aload_n (j := 0) C dMo_nextDay_54 rfl rfl ?_
      refine vj_aload_n (j := 0) C dMo_nextDay_55 rfl rfl ?_
      refine vj_gi C dMo_nextDay_56 lf_Mo_60 rfl (fun v56 => ?_)
      refine vj_iconst (v := 3) C dMo_nextDay_59 (by decide) ?_
      refine vj_icmp_ne (tgt := 67) C dMo_nextDay_60 rfl ?_ ?_
      · skip
        refine vj_aload_n (j := 0) C dMo_nextDay_67 rfl rfl ?_
        refine vj_gi C dMo_nextDay_68 lf_Mo_60 rfl (fun v68 => ?_)
        refine vj_pi C dMo_nextDay_71 lf_Mo_60 lq_9_0 rfl (fun M71 => ?_)
        refine vj_iload_n (j := 1) C dMo_nextDay_74 rfl rfl ?_
        exact vj_ret C dMo_nextDay_75 rfl rfl (Nat.le_of_ble_eq_true rfl) (Nat.le_of_ble_eq_true rfl)
      · skip
        refine vj_iconst (v := 2) C dMo_nextDay_63 (by decide) ?_
        refine vj_goto (tgt := 71) C dMo_nextDay_64 rfl ?_
        refine vj_pi C dMo_nextDay_71 lf_Mo_60 lq_9_0 rfl (fun M71 => ?_)
        refine vj_iload_n (j := 1) C dMo_nextDay_74 rfl rfl ?_
        exact vj_ret C dMo_nextDay_75 rfl rfl (Nat.le_of_ble_eq_true rfl) (Nat.le_of_ble_eq_true rfl)
    · skip
      refine vj_iconst (v := 0) C dMo_nextDay_34 (by decide) ?_
      exact vj_ret C dMo_nextDay_35 rfl rfl (Nat.le_of_ble_eq_true rfl) (Nat.le_of_ble_eq_true rfl)
  · intro j24 hj24
    refine vj_jp (fun (j : Rr) => Vj x 0 0 19 [(0, .ref a0)] [.ref a0] M j) ?_ ?_
    · skip
      refine vj_iconst (v := 1) C dMo_nextDay_19 (by decide) ?_
      refine vj_goto (tgt := 24) C dMo_nextDay_20 rfl ?_
      exact hj24 _
    · intro j19 hj19
      refine vj_if_eq (tgt := 19) C dMo_nextDay_5 rfl ?_ ?_
      · skip
        exact hj19
      · skip
        refine vj_aload_n (j := 0) C dMo_nextDay_8 rfl rfl ?_
        refine vj_gr C dMo_nextDay_9 lf_Mo_54 rfl (fun a9 => ?_)
        refine vj_iconst (v := 0) C dMo_nextDay_12 (by decide) ?_
        refine vj_iald C dMo_nextDay_13 (by decide) (fun v13 => ?_)
        refine vj_bipush (v := 60) C dMo_nextDay_14 (by decide) ?_
        refine vj_icmp_ne (tgt := 23) C dMo_nextDay_16 rfl ?_ ?_
        · skip
          refine vj_iconst (v := 0) C dMo_nextDay_23 (by decide) ?_
          exact hj24 _
        · skip
          exact hj19
def lp_Mo_undo_16 (a0 : Nat) (g16 : Mm → Int32 → Rr) (Mh16 : Mm) (w16_1 : Int32) : Rr := fo_gi Mh16 9 a0 20 fun v18 => if v18 ≤ w16_1 then fo_gi Mh16 9 a0 20 fun v40 => fo_pi Mh16 9 a0 20 (v40 - 1) fun M45 => fo_rz 1 M45 else fo_cv Mh16 9 a0 (fn_Mo_copy Mh16 a0 (w16_1 + 1) w16_1) fun _ M29 => g16 M29 (w16_1 + 1)
def fn_Mo_undo (M : Mm) (a0 : Nat) : Rr := fo_pi M 9 a0 0 0 fun M2 => fo_gi M2 9 a0 20 fun v6 => if v6 = 0 then fo_rz 0 M2 else fo_fx (fun _ _ => none) (lp_Mo_undo_16 a0) fo_N M2 0
set_option maxHeartbeats 4000000 in
set_option maxRecDepth 100000 in
theorem cm_Mo_undo (l : Launch) (M : Mm) (a0 : Nat) : ct l zyMo_undo ws_Mo_undo { frames := 1, cells := 0, slots := 0, locals := 23 } 0 0 (fun w => some (.int w)) [.ref a0] M (fn_Mo_undo M a0) := by
  refine ct_of (cc := zbMo_undo) (maxL := 2) (ret := (some .boolean)) (lv0 := [(0, .ref a0)]) (by decide) rfl (Nat.le_of_ble_eq_true rfl) rfl rfl ?_
  intro x C
  unfold fn_Mo_undo
  refine vj_aload_n (j := 0) C dMo_undo_0 rfl rfl ?_
  refine vj_iconst (v := 0) C dMo_undo_1 (by decide) ?_
  refine vj_pi C dMo_undo_2 lf_Mo_60 lq_9_0 rfl (fun M2 => ?_)
  refine vj_aload_n (j := 0) C dMo_undo_5 rfl rfl ?_
  refine vj_gi C dMo_undo_6 lf_Mo_181 rfl (fun v6 => ?_)
  refine vj_if_ne (tgt := 14) C dMo_undo_9 rfl ?_ ?_
  · skip
    refine vj_iconst (v := 0) C dMo_undo_14 (by decide) ?_
    refine vj_istore_n (lv' := [(0, .ref a0), (1, .int 0)]) C dMo_undo_15 rfl (by decide) [1, 0] rfl ?_
    have hg16x : ∀ nf Mh16 w16_1, Vj x 0 0 16 [(0, .ref a0), (1, .int w16_1)] [] Mh16 (fo_fx (fun _ _ => none) (lp_Mo_undo_16 a0) nf Mh16 w16_1) := by
      intro nf
      refine fo_fx_P (fun (j : Mm → Int32 → Rr) => ∀ Mh16 w16_1, Vj x 0 0 16 [(0, .ref a0), (1, .int w16_1)] [] Mh16 (j Mh16 w16_1)) (fun _ _ => Vj_none) ?_ nf
      intro g16 hg16 Mh16 w16_1
      unfold lp_Mo_undo_16
      refine vj_iload_n (j := 1) C dMo_undo_16 rfl rfl ?_
      refine vj_aload_n (j := 0) C dMo_undo_17 rfl rfl ?_
      refine vj_gi C dMo_undo_18 lf_Mo_181 rfl (fun v18 => ?_)
      refine vj_icmp_ge (tgt := 38) C dMo_undo_21 rfl ?_ ?_
      · skip
        refine vj_aload_n (j := 0) C dMo_undo_38 rfl rfl ?_
        refine vj_aload_n (j := 0) C dMo_undo_39 rfl rfl ?_
        refine vj_gi C dMo_undo_40 lf_Mo_181 rfl (fun v40 => ?_)
        refine vj_iconst (v := 1) C dMo_undo_43 (by decide) ?_
        refine vj_isub C dMo_undo_44 ?_
        refine vj_pi C dMo_undo_45 lf_Mo_181 lq_9_20 rfl (fun M45 => ?_)
        refine vj_iconst (v := 1) C dMo_undo_48 (by decide) ?_
        exact vj_retz C dMo_undo_49 rfl rfl (Nat.le_of_ble_eq_true rfl) (Nat.le_of_ble_eq_true rfl)
      · skip
        refine vj_aload_n (j := 0) C dMo_undo_24 rfl rfl ?_
        refine vj_iload_n (j := 1) C dMo_undo_25 rfl rfl ?_
        refine vj_iconst (v := 1) C dMo_undo_26 (by decide) ?_
        refine vj_iadd C dMo_undo_27 ?_
        refine vj_iload_n (j := 1) C dMo_undo_28 rfl rfl ?_
        refine vj_cV (ci := 9) (As := [.int (w16_1 + 1), .int w16_1]) (st := []) (b := a0) (a1 := 2) C dMo_undo_29 (cm_Mo_copy _ _ _ _ _) rfl gv_Mo_178 rfl rfl rfl hv_Mo_copy ⟨Nat.le_of_ble_eq_true rfl, Nat.le_of_ble_eq_true rfl⟩ rfl rfl (Nat.le_of_ble_eq_true rfl) ⟨Nat.le_of_ble_eq_true rfl, Nat.le_of_ble_eq_true rfl⟩ (fun _ M29 => ?_)
        show Vj x 0 0 32 [(0, .ref a0), (1, .int w16_1)] [] M29 _
        refine vj_iinc (j := 1) (b := 1) (lv' := [(0, .ref a0), (1, .int (w16_1 + 1))]) C dMo_undo_32 rfl (by decide) (by decide) [1, 0] rfl ?_
        refine vj_goto (tgt := 16) C dMo_undo_35 rfl ?_
        exact hg16 _ _
    exact hg16x _ _ _
  · skip
    refine vj_iconst (v := 0) C dMo_undo_12 (by decide) ?_
    exact vj_retz C dMo_undo_13 rfl rfl (Nat.le_of_ble_eq_true rfl) (Nat.le_of_ble_eq_true rfl)
def fn_Mo_today (M : Mm) (a0 : Nat) : Rr := fo_pi M 9 a0 0 0 fun M2 => fo_gi M2 9 a0 6 fun v6 => if v6 = 0 then some ((-1), M2) else fo_gr M2 9 a0 19 fun a13 => fo_ai M2 0 a13 0 fun v17 => some (v17, M2)
set_option maxHeartbeats 4000000 in
set_option maxRecDepth 100000 in
theorem cm_Mo_today (l : Launch) (M : Mm) (a0 : Nat) : ct l zyMo_today ws_Mo_today { frames := 0, cells := 0, slots := 0, locals := 0 } 0 0 (fun w => some (.int w)) [.ref a0] M (fn_Mo_today M a0) := by
  refine ct_of (cc := zbMo_today) (maxL := 1) (ret := (some .int)) (lv0 := [(0, .ref a0)]) (by decide) rfl (Nat.le_of_ble_eq_true rfl) rfl rfl ?_
  intro x C
  unfold fn_Mo_today
  refine vj_aload_n (j := 0) C dMo_today_0 rfl rfl ?_
  refine vj_iconst (v := 0) C dMo_today_1 (by decide) ?_
  refine vj_pi C dMo_today_2 lf_Mo_60 lq_9_0 rfl (fun M2 => ?_)
  refine vj_aload_n (j := 0) C dMo_today_5 rfl rfl ?_
  refine vj_gi C dMo_today_6 lf_Mo_68 rfl (fun v6 => ?_)
  refine vj_if_eq (tgt := 21) C dMo_today_9 rfl ?_ ?_
  · skip
    refine vj_iconst (v := (-1)) C dMo_today_21 (by decide) ?_
    exact vj_ret C dMo_today_22 rfl rfl (Nat.le_of_ble_eq_true rfl) (Nat.le_of_ble_eq_true rfl)
  · skip
    refine vj_aload_n (j := 0) C dMo_today_12 rfl rfl ?_
    refine vj_gr C dMo_today_13 lf_Mo_54 rfl (fun a13 => ?_)
    refine vj_iconst (v := 0) C dMo_today_16 (by decide) ?_
    refine vj_iald C dMo_today_17 (by decide) (fun v17 => ?_)
    refine vj_goto (tgt := 22) C dMo_today_18 rfl ?_
    exact vj_ret C dMo_today_22 rfl rfl (Nat.le_of_ble_eq_true rfl) (Nat.le_of_ble_eq_true rfl)
def lp_Mo_duty_56 (a0 : Nat) (p1 : Int32) (s22_0 : Int32) (g25 : Mm → Int32 → Rr) (w25_3 : Int32) (v48 : Int32) (g56 : Mm → Int32 → Int32 → Rr) (Mh56 : Mm) (w56_5 : Int32) (w56_6 : Int32) : Rr := if s22_0 ≤ w56_6 then if w56_5 = p1 then some (v48, Mh56) else g25 Mh56 (w25_3 + 1) else fo_cv Mh56 9 a0 (fn_Mo_dayAt Mh56 a0 0 1 w56_6) fun v69 M69 => fo_cv M69 9 a0 (fn_Mo_clauseAt M69 a0 0 1 w56_6) fun v78 M78 => fo_nm ((100 * v69) + v78) fun v82 => fo_jp (fun (s113_0 : Int32) => g56 M78 s113_0 (w56_6 + 1)) (fun j113 => fo_jp (j113 (w56_5 + 1)) (fun j104 => if v82 < v48 then j104 else fo_jp (j113 w56_5) (fun j111 => if v82 = v48 then if w25_3 ≤ w56_6 then j111 else j104 else j111)))
def lp_Mo_duty_25 (a0 : Nat) (p1 : Int32) (s22_0 : Int32) (g25 : Mm → Int32 → Rr) (Mh25 : Mm) (w25_3 : Int32) : Rr := if s22_0 ≤ w25_3 then some ((-1), Mh25) else fo_cv Mh25 9 a0 (fn_Mo_dayAt Mh25 a0 0 1 w25_3) fun v36 M36 => fo_cv M36 9 a0 (fn_Mo_clauseAt M36 a0 0 1 w25_3) fun v44 M44 => fo_nm ((100 * v36) + v44) fun v48 => fo_fx (fun _ _ _ => none) (lp_Mo_duty_56 a0 p1 s22_0 g25 w25_3 v48) fo_N M44 0 0
def fn_Mo_duty (M : Mm) (a0 : Nat) (p1 : Int32) : Rr := fo_pi M 9 a0 0 0 fun M2 => fo_gi M2 9 a0 6 fun v6 => fo_jp (fun (s22_0 : Int32) => fo_fx (fun _ _ => none) (lp_Mo_duty_25 a0 p1 s22_0) fo_N M2 0) (fun j22 => if v6 = 0 then j22 0 else fo_gr M2 9 a0 19 fun a13 => fo_ai M2 0 a13 1 fun v17 => j22 v17)
set_option maxHeartbeats 4000000 in
set_option maxRecDepth 100000 in
theorem cm_Mo_duty (l : Launch) (M : Mm) (a0 : Nat) (p1 : Int32) : ct l zyMo_duty ws_Mo_duty { frames := 1, cells := 0, slots := 0, locals := 23 } 0 0 (fun w => some (.int w)) [.ref a0, .int p1] M (fn_Mo_duty M a0 p1) := by
  refine ct_of (cc := zbMo_duty) (maxL := 8) (ret := (some .int)) (lv0 := [(0, .ref a0), (1, .int p1)]) (by decide) rfl (Nat.le_of_ble_eq_true rfl) rfl rfl ?_
  intro x C
  unfold fn_Mo_duty
  refine vj_aload_n (j := 0) C dMo_duty_0 rfl rfl ?_
  refine vj_iconst (v := 0) C dMo_duty_1 (by decide) ?_
  refine vj_pi C dMo_duty_2 lf_Mo_60 lq_9_0 rfl (fun M2 => ?_)
  refine vj_aload_n (j := 0) C dMo_duty_5 rfl rfl ?_
  refine vj_gi C dMo_duty_6 lf_Mo_68 rfl (fun v6 => ?_)
  refine vj_jp (fun (j : Int32 → Rr) => ∀ s22_0, Vj x 0 0 22 [(0, .ref a0), (1, .int p1)] [.int s22_0] M2 (j s22_0)) ?_ ?_
  · intro s22_0
    refine vj_istore_n (lv' := [(0, .ref a0), (1, .int p1), (2, .int s22_0)]) C dMo_duty_22 rfl (by decide) [1, 2, 0] rfl ?_
    refine vj_iconst (v := 0) C dMo_duty_23 (by decide) ?_
    refine vj_istore_n (lv' := [(0, .ref a0), (1, .int p1), (2, .int s22_0), (3, .int 0)]) C dMo_duty_24 rfl (by decide) [1, 2, 3, 0] rfl ?_
    have hg25x : ∀ nf Mh25 w25_3, Vj x 0 0 25 [(0, .ref a0), (1, .int p1), (2, .int s22_0), (3, .int w25_3)] [] Mh25 (fo_fx (fun _ _ => none) (lp_Mo_duty_25 a0 p1 s22_0) nf Mh25 w25_3) := by
      intro nf
      refine fo_fx_P (fun (j : Mm → Int32 → Rr) => ∀ Mh25 w25_3, Vj x 0 0 25 [(0, .ref a0), (1, .int p1), (2, .int s22_0), (3, .int w25_3)] [] Mh25 (j Mh25 w25_3)) (fun _ _ => Vj_none) ?_ nf
      intro g25 hg25 Mh25 w25_3
      unfold lp_Mo_duty_25
      refine vj_iload_n (j := 3) C dMo_duty_25 rfl rfl ?_
      refine vj_iload_n (j := 2) C dMo_duty_26 rfl rfl ?_
      refine vj_icmp_ge (tgt := 136) C dMo_duty_27 rfl ?_ ?_
      · skip
        refine vj_iconst (v := (-1)) C dMo_duty_136 (by decide) ?_
        exact vj_ret C dMo_duty_137 rfl rfl (Nat.le_of_ble_eq_true rfl) (Nat.le_of_ble_eq_true rfl)
      · skip
        refine vj_bipush (v := 100) C dMo_duty_30 (by decide) ?_
        refine vj_aload_n (j := 0) C dMo_duty_32 rfl rfl ?_
        refine vj_iconst (v := 0) C dMo_duty_33 (by decide) ?_
        refine vj_iconst (v := 1) C dMo_duty_34 (by decide) ?_
        refine vj_iload_n (j := 3) C dMo_duty_35 rfl rfl ?_
        refine vj_cV (ci := 9) (As := [.int 0, .int 1, .int w25_3]) (st := [.int 100]) (b := a0) (a1 := 3) C dMo_duty_36 (cm_Mo_dayAt _ _ _ _ _ _) rfl gv_Mo_122 rfl rfl rfl hv_Mo_dayAt ⟨Nat.le_of_ble_eq_true rfl, Nat.le_of_ble_eq_true rfl⟩ rfl rfl (Nat.le_of_ble_eq_true rfl) ⟨Nat.le_of_ble_eq_true rfl, Nat.le_of_ble_eq_true rfl⟩ (fun v36 M36 => ?_)
        show Vj x 0 0 39 [(0, .ref a0), (1, .int p1), (2, .int s22_0), (3, .int w25_3)] [.int v36, .int 100] M36 _
        refine vj_imul C dMo_duty_39 ?_
        refine vj_aload_n (j := 0) C dMo_duty_40 rfl rfl ?_
        refine vj_iconst (v := 0) C dMo_duty_41 (by decide) ?_
        refine vj_iconst (v := 1) C dMo_duty_42 (by decide) ?_
        refine vj_iload_n (j := 3) C dMo_duty_43 rfl rfl ?_
        refine vj_cV (ci := 9) (As := [.int 0, .int 1, .int w25_3]) (st := [.int (100 * v36)]) (b := a0) (a1 := 3) C dMo_duty_44 (cm_Mo_clauseAt _ _ _ _ _ _) rfl gv_Mo_115 rfl rfl rfl hv_Mo_clauseAt ⟨Nat.le_of_ble_eq_true rfl, Nat.le_of_ble_eq_true rfl⟩ rfl rfl (Nat.le_of_ble_eq_true rfl) ⟨Nat.le_of_ble_eq_true rfl, Nat.le_of_ble_eq_true rfl⟩ (fun v44 M44 => ?_)
        show Vj x 0 0 47 [(0, .ref a0), (1, .int p1), (2, .int s22_0), (3, .int w25_3)] [.int v44, .int (100 * v36)] M44 _
        refine vj_iadd C dMo_duty_47 ?_
        refine vj_nm (fun v48 => ?_)
        refine vj_istore (lv' := [(0, .ref a0), (1, .int p1), (2, .int s22_0), (3, .int w25_3), (4, .int v48)]) C dMo_duty_48 (by decide) [1, 2, 3, 4, 0] rfl ?_
        refine vj_iconst (v := 0) C dMo_duty_50 (by decide) ?_
        refine vj_istore (lv' := [(0, .ref a0), (1, .int p1), (2, .int s22_0), (3, .int w25_3), (4, .int v48), (5, .int 0)]) C dMo_duty_51 (by decide) [1, 2, 3, 4, 5, 0] rfl ?_
        refine vj_iconst (v := 0) C dMo_duty_53 (by decide) ?_
        refine vj_istore (lv' := [(0, .ref a0), (1, .int p1), (2, .int s22_0), (3, .int w25_3), (4, .int v48), (5, .int 0), (6, .int 0)]) C dMo_duty_54 (by decide) [1, 2, 3, 4, 5, 6, 0] rfl ?_
        have hg56x : ∀ nf Mh56 w56_5 w56_6, Vj x 0 0 56 [(0, .ref a0), (1, .int p1), (2, .int s22_0), (3, .int w25_3), (4, .int v48), (5, .int w56_5), (6, .int w56_6)] [] Mh56 (fo_fx (fun _ _ _ => none) (lp_Mo_duty_56 a0 p1 s22_0 g25 w25_3 v48) nf Mh56 w56_5 w56_6) := by
          intro nf
          refine fo_fx_P (fun (j : Mm → Int32 → Int32 → Rr) => ∀ Mh56 w56_5 w56_6, Vj x 0 0 56 [(0, .ref a0), (1, .int p1), (2, .int s22_0), (3, .int w25_3), (4, .int v48), (5, .int w56_5), (6, .int w56_6)] [] Mh56 (j Mh56 w56_5 w56_6)) (fun _ _ _ => Vj_none) ?_ nf
          intro g56 hg56 Mh56 w56_5 w56_6
          unfold lp_Mo_duty_56
          refine vj_iload (j := 6) C dMo_duty_56 rfl ?_
          refine vj_iload_n (j := 2) C dMo_duty_58 rfl rfl ?_
          refine vj_icmp_ge (tgt := 121) C dMo_duty_59 rfl ?_ ?_
          · skip
            refine vj_iload (j := 5) C dMo_duty_121 rfl ?_
            refine vj_iload_n (j := 1) C dMo_duty_123 rfl rfl ?_
            refine vj_icmp_ne (tgt := 130) C dMo_duty_124 rfl ?_ ?_
            · skip
              refine vj_iinc (j := 3) (b := 1) (lv' := [(0, .ref a0), (1, .int p1), (2, .int s22_0), (3, .int (w25_3 + 1))]) C dMo_duty_130 rfl (by decide) (by decide) [1, 2, 3, 0] rfl ?_
              refine vj_goto (tgt := 25) C dMo_duty_133 rfl ?_
              exact hg25 _ _
            · skip
              refine vj_iload (j := 4) C dMo_duty_127 rfl ?_
              exact vj_ret C dMo_duty_129 rfl rfl (Nat.le_of_ble_eq_true rfl) (Nat.le_of_ble_eq_true rfl)
          · skip
            refine vj_bipush (v := 100) C dMo_duty_62 (by decide) ?_
            refine vj_aload_n (j := 0) C dMo_duty_64 rfl rfl ?_
            refine vj_iconst (v := 0) C dMo_duty_65 (by decide) ?_
            refine vj_iconst (v := 1) C dMo_duty_66 (by decide) ?_
            refine vj_iload (j := 6) C dMo_duty_67 rfl ?_
            refine vj_cV (ci := 9) (As := [.int 0, .int 1, .int w56_6]) (st := [.int 100]) (b := a0) (a1 := 3) C dMo_duty_69 (cm_Mo_dayAt _ _ _ _ _ _) rfl gv_Mo_122 rfl rfl rfl hv_Mo_dayAt ⟨Nat.le_of_ble_eq_true rfl, Nat.le_of_ble_eq_true rfl⟩ rfl rfl (Nat.le_of_ble_eq_true rfl) ⟨Nat.le_of_ble_eq_true rfl, Nat.le_of_ble_eq_true rfl⟩ (fun v69 M69 => ?_)
            show Vj x 0 0 72 [(0, .ref a0), (1, .int p1), (2, .int s22_0), (3, .int w25_3), (4, .int v48), (5, .int w56_5), (6, .int w56_6)] [.int v69, .int 100] M69 _
            refine vj_imul C dMo_duty_72 ?_
            refine vj_aload_n (j := 0) C dMo_duty_73 rfl rfl ?_
            refine vj_iconst (v := 0) C dMo_duty_74 (by decide) ?_
            refine vj_iconst (v := 1) C dMo_duty_75 (by decide) ?_
            refine vj_iload (j := 6) C dMo_duty_76 rfl ?_
            refine vj_cV (ci := 9) (As := [.int 0, .int 1, .int w56_6]) (st := [.int (100 * v69)]) (b := a0) (a1 := 3) C dMo_duty_78 (cm_Mo_clauseAt _ _ _ _ _ _) rfl gv_Mo_115 rfl rfl rfl hv_Mo_clauseAt ⟨Nat.le_of_ble_eq_true rfl, Nat.le_of_ble_eq_true rfl⟩ rfl rfl (Nat.le_of_ble_eq_true rfl) ⟨Nat.le_of_ble_eq_true rfl, Nat.le_of_ble_eq_true rfl⟩ (fun v78 M78 => ?_)
            show Vj x 0 0 81 [(0, .ref a0), (1, .int p1), (2, .int s22_0), (3, .int w25_3), (4, .int v48), (5, .int w56_5), (6, .int w56_6)] [.int v78, .int (100 * v69)] M78 _
            refine vj_iadd C dMo_duty_81 ?_
            refine vj_nm (fun v82 => ?_)
            refine vj_istore (lv' := [(0, .ref a0), (1, .int p1), (2, .int s22_0), (3, .int w25_3), (4, .int v48), (5, .int w56_5), (6, .int w56_6), (7, .int v82)]) C dMo_duty_82 (by decide) [1, 2, 3, 4, 5, 6, 7, 0] rfl ?_
            refine vj_iload (j := 7) C dMo_duty_84 rfl ?_
            refine vj_iload (j := 4) C dMo_duty_86 rfl ?_
            refine vj_jp (fun (j : Int32 → Rr) => ∀ s113_0, Vj x 0 0 113 [(0, .ref a0), (1, .int p1), (2, .int s22_0), (3, .int w25_3), (4, .int v48), (6, .int w56_6)] [.int s113_0] M78 (j s113_0)) ?_ ?_
            · intro s113_0
              refine vj_istore (lv' := [(0, .ref a0), (1, .int p1), (2, .int s22_0), (3, .int w25_3), (4, .int v48), (5, .int s113_0), (6, .int w56_6)]) C dMo_duty_113 (by decide) [1, 2, 3, 4, 5, 0, 6] rfl ?_
              refine vj_iinc (j := 6) (b := 1) (lv' := [(0, .ref a0), (1, .int p1), (2, .int s22_0), (3, .int w25_3), (4, .int v48), (5, .int s113_0), (6, .int (w56_6 + 1))]) C dMo_duty_115 rfl (by decide) (by decide) [1, 2, 3, 4, 5, 6, 0] rfl ?_
              refine vj_goto (tgt := 56) C dMo_duty_118 rfl ?_
              exact hg56 _ _ _
            · intro j113 hj113
              refine vj_jp (fun (j : Rr) => Vj x 0 0 104 [(0, .ref a0), (1, .int p1), (2, .int s22_0), (3, .int w25_3), (4, .int v48), (5, .int w56_5), (6, .int w56_6)] [] M78 j) ?_ ?_
              · skip
                refine vj_iload (j := 5) C dMo_duty_104 rfl ?_
                refine vj_iconst (v := 1) C dMo_duty_106 (by decide) ?_
                refine vj_iadd C dMo_duty_107 ?_
                refine vj_goto (tgt := 113) C dMo_duty_108 rfl ?_
                refine vj_lk (lv' := [(0, .ref a0), (1, .int p1), (2, .int s22_0), (3, .int w25_3), (4, .int v48), (6, .int w56_6)]) [0, 1, 2, 3, 4, 6] rfl ?_
                exact hj113 _
              · intro j104 hj104
                refine vj_icmp_lt (tgt := 104) C dMo_duty_88 rfl ?_ ?_
                · skip
                  refine vj_lk (lv' := [(0, .ref a0), (1, .int p1), (2, .int s22_0), (3, .int w25_3), (4, .int v48), (5, .int w56_5), (6, .int w56_6)]) [0, 1, 2, 3, 4, 5, 6] rfl ?_
                  exact hj104
                · skip
                  refine vj_iload (j := 7) C dMo_duty_91 rfl ?_
                  refine vj_iload (j := 4) C dMo_duty_93 rfl ?_
                  refine vj_jp (fun (j : Rr) => Vj x 0 0 111 [(0, .ref a0), (1, .int p1), (2, .int s22_0), (3, .int w25_3), (4, .int v48), (5, .int w56_5), (6, .int w56_6)] [] M78 j) ?_ ?_
                  · skip
                    refine vj_iload (j := 5) C dMo_duty_111 rfl ?_
                    refine vj_lk (lv' := [(0, .ref a0), (1, .int p1), (2, .int s22_0), (3, .int w25_3), (4, .int v48), (6, .int w56_6)]) [0, 1, 2, 3, 4, 6] rfl ?_
                    exact hj113 _
                  · intro j111 hj111
                    refine vj_icmp_ne (tgt := 111) C dMo_duty_95 rfl ?_ ?_
                    · skip
                      refine vj_lk (lv' := [(0, .ref a0), (1, .int p1), (2, .int s22_0), (3, .int w25_3), (4, .int v48), (5, .int w56_5), (6, .int w56_6)]) [0, 1, 2, 3, 4, 5, 6] rfl ?_
                      exact hj111
                    · skip
                      refine vj_iload (j := 6) C dMo_duty_98 rfl ?_
                      refine vj_iload_n (j := 3) C dMo_duty_100 rfl rfl ?_
                      refine vj_icmp_ge (tgt := 111) C dMo_duty_101 rfl ?_ ?_
                      · skip
                        refine vj_lk (lv' := [(0, .ref a0), (1, .int p1), (2, .int s22_0), (3, .int w25_3), (4, .int v48), (5, .int w56_5), (6, .int w56_6)]) [0, 1, 2, 3, 4, 5, 6] rfl ?_
                        exact hj111
                      · skip
                        refine vj_lk (lv' := [(0, .ref a0), (1, .int p1), (2, .int s22_0), (3, .int w25_3), (4, .int v48), (5, .int w56_5), (6, .int w56_6)]) [0, 1, 2, 3, 4, 5, 6] rfl ?_
                        exact hj104
        exact hg56x _ _ _ _
    exact hg25x _ _ _
  · intro j22 hj22
    refine vj_if_eq (tgt := 21) C dMo_duty_9 rfl ?_ ?_
    · skip
      refine vj_iconst (v := 0) C dMo_duty_21 (by decide) ?_
      exact hj22 _
    · skip
      refine vj_aload_n (j := 0) C dMo_duty_12 rfl rfl ?_
      refine vj_gr C dMo_duty_13 lf_Mo_54 rfl (fun a13 => ?_)
      refine vj_iconst (v := 1) C dMo_duty_16 (by decide) ?_
      refine vj_iald C dMo_duty_17 (by decide) (fun v17 => ?_)
      refine vj_goto (tgt := 22) C dMo_duty_18 rfl ?_
      exact hj22 _
def fn_Mo_count (M : Mm) (a0 : Nat) (p1 : Int32) : Rr := fo_pi M 9 a0 0 0 fun M2 => fo_gi M2 9 a0 6 fun v6 => if v6 = 0 then some (0, M2) else if p1 < 0 then some (0, M2) else if p1 ≤ 2 then fo_gr M2 9 a0 19 fun a26 => if p1 = 0 then fo_ai M2 0 a26 1 fun v49 => some (v49, M2) else if p1 = 1 then fo_ai M2 0 a26 18 fun v49 => some (v49, M2) else fo_ai M2 0 a26 35 fun v49 => some (v49, M2) else some (0, M2)
set_option maxHeartbeats 4000000 in
set_option maxRecDepth 100000 in
theorem cm_Mo_count (l : Launch) (M : Mm) (a0 : Nat) (p1 : Int32) : ct l zyMo_count ws_Mo_count { frames := 0, cells := 0, slots := 0, locals := 0 } 0 0 (fun w => some (.int w)) [.ref a0, .int p1] M (fn_Mo_count M a0 p1) := by
  refine ct_of (cc := zbMo_count) (maxL := 2) (ret := (some .int)) (lv0 := [(0, .ref a0), (1, .int p1)]) (by decide) rfl (Nat.le_of_ble_eq_true rfl) rfl rfl ?_
  intro x C
  unfold fn_Mo_count
  refine vj_aload_n (j := 0) C dMo_count_0 rfl rfl ?_
  refine vj_iconst (v := 0) C dMo_count_1 (by decide) ?_
  refine vj_pi C dMo_count_2 lf_Mo_60 lq_9_0 rfl (fun M2 => ?_)
  refine vj_aload_n (j := 0) C dMo_count_5 rfl rfl ?_
  refine vj_gi C dMo_count_6 lf_Mo_68 rfl (fun v6 => ?_)
  refine vj_if_eq (tgt := 21) C dMo_count_9 rfl ?_ ?_
  · skip
    refine vj_iconst (v := 0) C dMo_count_21 (by decide) ?_
    refine vj_goto (tgt := 50) C dMo_count_22 rfl ?_
    exact vj_ret C dMo_count_50 rfl rfl (Nat.le_of_ble_eq_true rfl) (Nat.le_of_ble_eq_true rfl)
  · skip
    refine vj_iload_n (j := 1) C dMo_count_12 rfl rfl ?_
    refine vj_if_lt (tgt := 21) C dMo_count_13 rfl ?_ ?_
    · skip
      refine vj_iconst (v := 0) C dMo_count_21 (by decide) ?_
      refine vj_goto (tgt := 50) C dMo_count_22 rfl ?_
      exact vj_ret C dMo_count_50 rfl rfl (Nat.le_of_ble_eq_true rfl) (Nat.le_of_ble_eq_true rfl)
    · skip
      refine vj_iload_n (j := 1) C dMo_count_16 rfl rfl ?_
      refine vj_iconst (v := 2) C dMo_count_17 (by decide) ?_
      refine vj_icmp_le (tgt := 25) C dMo_count_18 rfl ?_ ?_
      · skip
        refine vj_aload_n (j := 0) C dMo_count_25 rfl rfl ?_
        refine vj_gr C dMo_count_26 lf_Mo_54 rfl (fun a26 => ?_)
        refine vj_iload_n (j := 1) C dMo_count_29 rfl rfl ?_
        refine vj_if_ne (tgt := 37) C dMo_count_30 rfl ?_ ?_
        · skip
          refine vj_iload_n (j := 1) C dMo_count_37 rfl rfl ?_
          refine vj_iconst (v := 1) C dMo_count_38 (by decide) ?_
          refine vj_icmp_ne (tgt := 47) C dMo_count_39 rfl ?_ ?_
          · skip
            refine vj_bipush (v := 35) C dMo_count_47 (by decide) ?_
            refine vj_iald C dMo_count_49 (by decide) (fun v49 => ?_)
            exact vj_ret C dMo_count_50 rfl rfl (Nat.le_of_ble_eq_true rfl) (Nat.le_of_ble_eq_true rfl)
          · skip
            refine vj_bipush (v := 18) C dMo_count_42 (by decide) ?_
            refine vj_goto (tgt := 49) C dMo_count_44 rfl ?_
            refine vj_iald C dMo_count_49 (by decide) (fun v49 => ?_)
            exact vj_ret C dMo_count_50 rfl rfl (Nat.le_of_ble_eq_true rfl) (Nat.le_of_ble_eq_true rfl)
        · skip
          refine vj_iconst (v := 1) C dMo_count_33 (by decide) ?_
          refine vj_goto (tgt := 49) C dMo_count_34 rfl ?_
          refine vj_iald C dMo_count_49 (by decide) (fun v49 => ?_)
          exact vj_ret C dMo_count_50 rfl rfl (Nat.le_of_ble_eq_true rfl) (Nat.le_of_ble_eq_true rfl)
      · skip
        refine vj_iconst (v := 0) C dMo_count_21 (by decide) ?_
        refine vj_goto (tgt := 50) C dMo_count_22 rfl ?_
        exact vj_ret C dMo_count_50 rfl rfl (Nat.le_of_ble_eq_true rfl) (Nat.le_of_ble_eq_true rfl)
def fn_Mo_breaches (M : Mm) (a0 : Nat) (p1 : Int32) : Rr := fo_pi M 9 a0 0 0 fun M2 => fo_gi M2 9 a0 6 fun v6 => if v6 = 0 then some (0, M2) else if p1 < 0 then some (0, M2) else fo_gi M2 9 a0 7 fun v18 => if v18 ≤ p1 then some (0, M2) else fo_gr M2 9 a0 19 fun a25 => fo_ai M2 0 a25 (61 + p1) fun v32 => some (v32, M2)
set_option maxHeartbeats 4000000 in
set_option maxRecDepth 100000 in
theorem cm_Mo_breaches (l : Launch) (M : Mm) (a0 : Nat) (p1 : Int32) : ct l zyMo_breaches ws_Mo_breaches { frames := 0, cells := 0, slots := 0, locals := 0 } 0 0 (fun w => some (.int w)) [.ref a0, .int p1] M (fn_Mo_breaches M a0 p1) := by
  refine ct_of (cc := zbMo_breaches) (maxL := 2) (ret := (some .int)) (lv0 := [(0, .ref a0), (1, .int p1)]) (by decide) rfl (Nat.le_of_ble_eq_true rfl) rfl rfl ?_
  intro x C
  unfold fn_Mo_breaches
  refine vj_aload_n (j := 0) C dMo_breaches_0 rfl rfl ?_
  refine vj_iconst (v := 0) C dMo_breaches_1 (by decide) ?_
  refine vj_pi C dMo_breaches_2 lf_Mo_60 lq_9_0 rfl (fun M2 => ?_)
  refine vj_aload_n (j := 0) C dMo_breaches_5 rfl rfl ?_
  refine vj_gi C dMo_breaches_6 lf_Mo_68 rfl (fun v6 => ?_)
  refine vj_if_eq (tgt := 36) C dMo_breaches_9 rfl ?_ ?_
  · skip
    refine vj_iconst (v := 0) C dMo_breaches_36 (by decide) ?_
    exact vj_ret C dMo_breaches_37 rfl rfl (Nat.le_of_ble_eq_true rfl) (Nat.le_of_ble_eq_true rfl)
  · skip
    refine vj_iload_n (j := 1) C dMo_breaches_12 rfl rfl ?_
    refine vj_if_lt (tgt := 36) C dMo_breaches_13 rfl ?_ ?_
    · skip
      refine vj_iconst (v := 0) C dMo_breaches_36 (by decide) ?_
      exact vj_ret C dMo_breaches_37 rfl rfl (Nat.le_of_ble_eq_true rfl) (Nat.le_of_ble_eq_true rfl)
    · skip
      refine vj_iload_n (j := 1) C dMo_breaches_16 rfl rfl ?_
      refine vj_aload_n (j := 0) C dMo_breaches_17 rfl rfl ?_
      refine vj_gi C dMo_breaches_18 lf_Mo_125 rfl (fun v18 => ?_)
      refine vj_icmp_ge (tgt := 36) C dMo_breaches_21 rfl ?_ ?_
      · skip
        refine vj_iconst (v := 0) C dMo_breaches_36 (by decide) ?_
        exact vj_ret C dMo_breaches_37 rfl rfl (Nat.le_of_ble_eq_true rfl) (Nat.le_of_ble_eq_true rfl)
      · skip
        refine vj_aload_n (j := 0) C dMo_breaches_24 rfl rfl ?_
        refine vj_gr C dMo_breaches_25 lf_Mo_54 rfl (fun a25 => ?_)
        refine vj_bipush (v := 61) C dMo_breaches_28 (by decide) ?_
        refine vj_iload_n (j := 1) C dMo_breaches_30 rfl rfl ?_
        refine vj_iadd C dMo_breaches_31 ?_
        refine vj_iald C dMo_breaches_32 (by decide) (fun v32 => ?_)
        refine vj_goto (tgt := 37) C dMo_breaches_33 rfl ?_
        exact vj_ret C dMo_breaches_37 rfl rfl (Nat.le_of_ble_eq_true rfl) (Nat.le_of_ble_eq_true rfl)
def fn_Mo_may (M : Mm) (a0 : Nat) (p1 : Int32) (p2 : Int32) : Rr := fo_pi M 9 a0 0 0 fun M2 => fo_gi M2 9 a0 6 fun v6 => if v6 = 0 then some ((-1), M2) else fo_cl (fn_Mo_isParty M2 p1) fun v13 M13 => if v13 = 0 then some ((-1), M13) else fo_cl (fn_Mo_isKind M13 p2) fun v20 M20 => if v20 = 0 then some ((-1), M20) else fo_cv M20 9 a0 (fn_Mo_first M20 a0 0 18 p1 p2) fun v34 M34 => if 0 ≤ v34 then fo_cv M34 9 a0 (fn_Mo_first M34 a0 0 35 p1 p2) fun v50 M50 => if 0 ≤ v50 then some (1, M50) else some (2, M50) else some (0, M34)
set_option maxHeartbeats 4000000 in
set_option maxRecDepth 100000 in
theorem cm_Mo_may (l : Launch) (M : Mm) (a0 : Nat) (p1 : Int32) (p2 : Int32) : ct l zyMo_may ws_Mo_may { frames := 2, cells := 0, slots := 0, locals := 51 } 0 0 (fun w => some (.int w)) [.ref a0, .int p1, .int p2] M (fn_Mo_may M a0 p1 p2) := by
  refine ct_of (cc := zbMo_may) (maxL := 3) (ret := (some .int)) (lv0 := [(0, .ref a0), (1, .int p1), (2, .int p2)]) (by decide) rfl (Nat.le_of_ble_eq_true rfl) rfl rfl ?_
  intro x C
  unfold fn_Mo_may
  refine vj_aload_n (j := 0) C dMo_may_0 rfl rfl ?_
  refine vj_iconst (v := 0) C dMo_may_1 (by decide) ?_
  refine vj_pi C dMo_may_2 lf_Mo_60 lq_9_0 rfl (fun M2 => ?_)
  refine vj_aload_n (j := 0) C dMo_may_5 rfl rfl ?_
  refine vj_gi C dMo_may_6 lf_Mo_68 rfl (fun v6 => ?_)
  refine vj_if_eq (tgt := 26) C dMo_may_9 rfl ?_ ?_
  · skip
    refine vj_iconst (v := (-1)) C dMo_may_26 (by decide) ?_
    exact vj_ret C dMo_may_27 rfl rfl (Nat.le_of_ble_eq_true rfl) (Nat.le_of_ble_eq_true rfl)
  · skip
    refine vj_iload_n (j := 1) C dMo_may_12 rfl rfl ?_
    refine vj_cS (As := [.int p1]) (st := []) (a1 := 1) C dMo_may_13 (cm_Mo_isParty _ _ _) gs_Mo_184 rfl rfl rfl hs_Mo_isParty ⟨Nat.le_of_ble_eq_true rfl, Nat.le_of_ble_eq_true rfl⟩ rfl rfl (Nat.le_of_ble_eq_true rfl) ⟨Nat.le_of_ble_eq_true rfl, Nat.le_of_ble_eq_true rfl⟩ (fun v13 M13 => ?_)
    show Vj x 0 0 16 [(0, .ref a0), (1, .int p1), (2, .int p2)] [.int v13] M13 _
    refine vj_if_eq (tgt := 26) C dMo_may_16 rfl ?_ ?_
    · skip
      refine vj_iconst (v := (-1)) C dMo_may_26 (by decide) ?_
      exact vj_ret C dMo_may_27 rfl rfl (Nat.le_of_ble_eq_true rfl) (Nat.le_of_ble_eq_true rfl)
    · skip
      refine vj_iload_n (j := 2) C dMo_may_19 rfl rfl ?_
      refine vj_cS (As := [.int p2]) (st := []) (a1 := 1) C dMo_may_20 (cm_Mo_isKind _ _ _) gs_Mo_188 rfl rfl rfl hs_Mo_isKind ⟨Nat.le_of_ble_eq_true rfl, Nat.le_of_ble_eq_true rfl⟩ rfl rfl (Nat.le_of_ble_eq_true rfl) ⟨Nat.le_of_ble_eq_true rfl, Nat.le_of_ble_eq_true rfl⟩ (fun v20 M20 => ?_)
      show Vj x 0 0 23 [(0, .ref a0), (1, .int p1), (2, .int p2)] [.int v20] M20 _
      refine vj_if_ne (tgt := 28) C dMo_may_23 rfl ?_ ?_
      · skip
        refine vj_aload_n (j := 0) C dMo_may_28 rfl rfl ?_
        refine vj_iconst (v := 0) C dMo_may_29 (by decide) ?_
        refine vj_bipush (v := 18) C dMo_may_30 (by decide) ?_
        refine vj_iload_n (j := 1) C dMo_may_32 rfl rfl ?_
        refine vj_iload_n (j := 2) C dMo_may_33 rfl rfl ?_
        refine vj_cV (ci := 9) (As := [.int 0, .int 18, .int p1, .int p2]) (st := []) (b := a0) (a1 := 4) C dMo_may_34 (cm_Mo_first _ _ _ _ _ _ _) rfl gv_Mo_155 rfl rfl rfl hv_Mo_first ⟨Nat.le_of_ble_eq_true rfl, Nat.le_of_ble_eq_true rfl⟩ rfl rfl (Nat.le_of_ble_eq_true rfl) ⟨Nat.le_of_ble_eq_true rfl, Nat.le_of_ble_eq_true rfl⟩ (fun v34 M34 => ?_)
        show Vj x 0 0 37 [(0, .ref a0), (1, .int p1), (2, .int p2)] [.int v34] M34 _
        refine vj_if_ge (tgt := 44) C dMo_may_37 rfl ?_ ?_
        · skip
          refine vj_aload_n (j := 0) C dMo_may_44 rfl rfl ?_
          refine vj_iconst (v := 0) C dMo_may_45 (by decide) ?_
          refine vj_bipush (v := 35) C dMo_may_46 (by decide) ?_
          refine vj_iload_n (j := 1) C dMo_may_48 rfl rfl ?_
          refine vj_iload_n (j := 2) C dMo_may_49 rfl rfl ?_
          refine vj_cV (ci := 9) (As := [.int 0, .int 35, .int p1, .int p2]) (st := []) (b := a0) (a1 := 4) C dMo_may_50 (cm_Mo_first _ _ _ _ _ _ _) rfl gv_Mo_155 rfl rfl rfl hv_Mo_first ⟨Nat.le_of_ble_eq_true rfl, Nat.le_of_ble_eq_true rfl⟩ rfl rfl (Nat.le_of_ble_eq_true rfl) ⟨Nat.le_of_ble_eq_true rfl, Nat.le_of_ble_eq_true rfl⟩ (fun v50 M50 => ?_)
          show Vj x 0 0 53 [(0, .ref a0), (1, .int p1), (2, .int p2)] [.int v50] M50 _
          refine vj_if_ge (tgt := 60) C dMo_may_53 rfl ?_ ?_
          · skip
            refine vj_iconst (v := 1) C dMo_may_60 (by decide) ?_
            exact vj_ret C dMo_may_61 rfl rfl (Nat.le_of_ble_eq_true rfl) (Nat.le_of_ble_eq_true rfl)
          · skip
            refine vj_iconst (v := 2) C dMo_may_56 (by decide) ?_
            refine vj_goto (tgt := 61) C dMo_may_57 rfl ?_
            exact vj_ret C dMo_may_61 rfl rfl (Nat.le_of_ble_eq_true rfl) (Nat.le_of_ble_eq_true rfl)
        · skip
          refine vj_iconst (v := 0) C dMo_may_40 (by decide) ?_
          refine vj_goto (tgt := 61) C dMo_may_41 rfl ?_
          exact vj_ret C dMo_may_61 rfl rfl (Nat.le_of_ble_eq_true rfl) (Nat.le_of_ble_eq_true rfl)
      · skip
        refine vj_iconst (v := (-1)) C dMo_may_26 (by decide) ?_
        exact vj_ret C dMo_may_27 rfl rfl (Nat.le_of_ble_eq_true rfl) (Nat.le_of_ble_eq_true rfl)
def fn_Mo_owed (M : Mm) (a0 : Nat) (p1 : Int32) (p2 : Int32) : Rr := fo_pi M 9 a0 0 0 fun M2 => fo_gi M2 9 a0 6 fun v6 => if v6 = 0 then some (0, M2) else fo_cl (fn_Mo_isParty M2 p1) fun v13 M13 => if v13 = 0 then some (0, M13) else fo_cl (fn_Mo_isParty M13 p2) fun v20 M20 => if v20 = 0 then some (0, M20) else fo_gr M20 9 a0 19 fun a27 => fo_ai M20 0 a27 ((52 + (3 * p1)) + p2) fun v38 => some (v38, M20)
set_option maxHeartbeats 4000000 in
set_option maxRecDepth 100000 in
theorem cm_Mo_owed (l : Launch) (M : Mm) (a0 : Nat) (p1 : Int32) (p2 : Int32) : ct l zyMo_owed ws_Mo_owed { frames := 1, cells := 0, slots := 0, locals := 20 } 0 0 (fun w => some (.int w)) [.ref a0, .int p1, .int p2] M (fn_Mo_owed M a0 p1 p2) := by
  refine ct_of (cc := zbMo_owed) (maxL := 3) (ret := (some .int)) (lv0 := [(0, .ref a0), (1, .int p1), (2, .int p2)]) (by decide) rfl (Nat.le_of_ble_eq_true rfl) rfl rfl ?_
  intro x C
  unfold fn_Mo_owed
  refine vj_aload_n (j := 0) C dMo_owed_0 rfl rfl ?_
  refine vj_iconst (v := 0) C dMo_owed_1 (by decide) ?_
  refine vj_pi C dMo_owed_2 lf_Mo_60 lq_9_0 rfl (fun M2 => ?_)
  refine vj_aload_n (j := 0) C dMo_owed_5 rfl rfl ?_
  refine vj_gi C dMo_owed_6 lf_Mo_68 rfl (fun v6 => ?_)
  refine vj_if_eq (tgt := 42) C dMo_owed_9 rfl ?_ ?_
  · skip
    refine vj_iconst (v := 0) C dMo_owed_42 (by decide) ?_
    exact vj_ret C dMo_owed_43 rfl rfl (Nat.le_of_ble_eq_true rfl) (Nat.le_of_ble_eq_true rfl)
  · skip
    refine vj_iload_n (j := 1) C dMo_owed_12 rfl rfl ?_
    refine vj_cS (As := [.int p1]) (st := []) (a1 := 1) C dMo_owed_13 (cm_Mo_isParty _ _ _) gs_Mo_184 rfl rfl rfl hs_Mo_isParty ⟨Nat.le_of_ble_eq_true rfl, Nat.le_of_ble_eq_true rfl⟩ rfl rfl (Nat.le_of_ble_eq_true rfl) ⟨Nat.le_of_ble_eq_true rfl, Nat.le_of_ble_eq_true rfl⟩ (fun v13 M13 => ?_)
    show Vj x 0 0 16 [(0, .ref a0), (1, .int p1), (2, .int p2)] [.int v13] M13 _
    refine vj_if_eq (tgt := 42) C dMo_owed_16 rfl ?_ ?_
    · skip
      refine vj_iconst (v := 0) C dMo_owed_42 (by decide) ?_
      exact vj_ret C dMo_owed_43 rfl rfl (Nat.le_of_ble_eq_true rfl) (Nat.le_of_ble_eq_true rfl)
    · skip
      refine vj_iload_n (j := 2) C dMo_owed_19 rfl rfl ?_
      refine vj_cS (As := [.int p2]) (st := []) (a1 := 1) C dMo_owed_20 (cm_Mo_isParty _ _ _) gs_Mo_184 rfl rfl rfl hs_Mo_isParty ⟨Nat.le_of_ble_eq_true rfl, Nat.le_of_ble_eq_true rfl⟩ rfl rfl (Nat.le_of_ble_eq_true rfl) ⟨Nat.le_of_ble_eq_true rfl, Nat.le_of_ble_eq_true rfl⟩ (fun v20 M20 => ?_)
      show Vj x 0 0 23 [(0, .ref a0), (1, .int p1), (2, .int p2)] [.int v20] M20 _
      refine vj_if_eq (tgt := 42) C dMo_owed_23 rfl ?_ ?_
      · skip
        refine vj_iconst (v := 0) C dMo_owed_42 (by decide) ?_
        exact vj_ret C dMo_owed_43 rfl rfl (Nat.le_of_ble_eq_true rfl) (Nat.le_of_ble_eq_true rfl)
      · skip
        refine vj_aload_n (j := 0) C dMo_owed_26 rfl rfl ?_
        refine vj_gr C dMo_owed_27 lf_Mo_54 rfl (fun a27 => ?_)
        refine vj_bipush (v := 52) C dMo_owed_30 (by decide) ?_
        refine vj_iconst (v := 3) C dMo_owed_32 (by decide) ?_
        refine vj_iload_n (j := 1) C dMo_owed_33 rfl rfl ?_
        refine vj_imul C dMo_owed_34 ?_
        refine vj_iadd C dMo_owed_35 ?_
        refine vj_iload_n (j := 2) C dMo_owed_36 rfl rfl ?_
        refine vj_iadd C dMo_owed_37 ?_
        refine vj_iald C dMo_owed_38 (by decide) (fun v38 => ?_)
        refine vj_goto (tgt := 43) C dMo_owed_39 rfl ?_
        exact vj_ret C dMo_owed_43 rfl rfl (Nat.le_of_ble_eq_true rfl) (Nat.le_of_ble_eq_true rfl)
def lp_Mo_goes_12 (a0 : Nat) (p2 : Int32) (p3 : Int32) (p4 : Int32) (g12 : Mm → Int32 → Int32 → Rr) (Mh12 : Mm) (w12_5 : Int32) (w12_6 : Int32) : Rr := fo_jp (if w12_5 = 0 then fo_rz w12_5 Mh12 else fo_cv Mh12 9 a0 (fn_Mo_endIn Mh12 a0 p2) fun _ M130 => fo_gi M130 9 a0 23 fun v134 => fo_jp (fo_rz 0 M130) (fun j155 => if v134 = 0 then fo_gi M130 9 a0 25 fun v141 => if ((v141 >>> (p3 &&& 31)) &&& 1) = 0 then fo_rz 1 M130 else j155 else j155)) (fun j123 => if 2 ≤ w12_6 then j123 else if w12_5 = 0 then j123 else fo_jp (fun (s77_0 : Int32) => fo_jp (fun (Mj117 : Mm) (w117_5 : Int32) => g12 Mj117 w117_5 (w12_6 + 1)) (fun j117 => if s77_0 < 0 then j117 Mh12 w12_5 else fo_cv Mh12 9 a0 (fn_Mo_eventIn Mh12 a0 p2 p3 s77_0) fun _ M89 => fo_gi M89 9 a0 23 fun v93 => fo_jp (fun (s115_0 : Int32) => j117 M89 s115_0) (fun j115 => fo_jp (j115 0) (fun j114 => if v93 = 0 then fo_gi M89 9 a0 25 fun v100 => if ((v100 >>> (p3 &&& 31)) &&& 1) = 0 then j115 1 else j114 else j114)))) (fun j77 => if p4 = 0 then j77 (-1) else if 6 ≤ p4 then if w12_6 = 0 then j77 ((p4 - 6) / 5) else j77 ((p4 - 6) - (p4 - 6) / 5 * 5) else if w12_6 = 0 then j77 (p4 - 1) else j77 (-1)))
def fn_Mo_goes (M : Mm) (a0 : Nat) (p1 : Int32) (p2 : Int32) (p3 : Int32) (p4 : Int32) : Rr := fo_cv M 9 a0 (fn_Mo_copy M a0 p1 p2) fun _ M3 => fo_fx (fun _ _ _ => none) (lp_Mo_goes_12 a0 p2 p3 p4) fo_N M3 1 0
set_option maxHeartbeats 4000000 in
set_option maxRecDepth 100000 in
theorem cm_Mo_goes (l : Launch) (M : Mm) (a0 : Nat) (p1 : Int32) (p2 : Int32) (p3 : Int32) (p4 : Int32) : ct l zyMo_goes ws_Mo_goes { frames := 4, cells := 0, slots := 0, locals := 101 } 0 0 (fun w => some (.int w)) [.ref a0, .int p1, .int p2, .int p3, .int p4] M (fn_Mo_goes M a0 p1 p2 p3 p4) := by
  refine ct_of (cc := zbMo_goes) (maxL := 8) (ret := (some .boolean)) (lv0 := [(0, .ref a0), (1, .int p1), (2, .int p2), (3, .int p3), (4, .int p4)]) (by decide) rfl (Nat.le_of_ble_eq_true rfl) rfl rfl ?_
  intro x C
  unfold fn_Mo_goes
  refine vj_aload_n (j := 0) C dMo_goes_0 rfl rfl ?_
  refine vj_iload_n (j := 1) C dMo_goes_1 rfl rfl ?_
  refine vj_iload_n (j := 2) C dMo_goes_2 rfl rfl ?_
  refine vj_cV (ci := 9) (As := [.int p1, .int p2]) (st := []) (b := a0) (a1 := 2) C dMo_goes_3 (cm_Mo_copy _ _ _ _ _) rfl gv_Mo_178 rfl rfl rfl hv_Mo_copy ⟨Nat.le_of_ble_eq_true rfl, Nat.le_of_ble_eq_true rfl⟩ rfl rfl (Nat.le_of_ble_eq_true rfl) ⟨Nat.le_of_ble_eq_true rfl, Nat.le_of_ble_eq_true rfl⟩ (fun _ M3 => ?_)
  show Vj x 0 0 6 [(0, .ref a0), (1, .int p1), (2, .int p2), (3, .int p3), (4, .int p4)] [] M3 _
  refine vj_iconst (v := 1) C dMo_goes_6 (by decide) ?_
  refine vj_istore (lv' := [(0, .ref a0), (2, .int p2), (3, .int p3), (4, .int p4), (5, .int 1)]) C dMo_goes_7 (by decide) [1, 3, 4, 5, 0] rfl ?_
  refine vj_iconst (v := 0) C dMo_goes_9 (by decide) ?_
  refine vj_istore (lv' := [(0, .ref a0), (2, .int p2), (3, .int p3), (4, .int p4), (5, .int 1), (6, .int 0)]) C dMo_goes_10 (by decide) [1, 2, 3, 4, 5, 0] rfl ?_
  have hg12x : ∀ nf Mh12 w12_5 w12_6, Vj x 0 0 12 [(0, .ref a0), (2, .int p2), (3, .int p3), (4, .int p4), (5, .int w12_5), (6, .int w12_6)] [] Mh12 (fo_fx (fun _ _ _ => none) (lp_Mo_goes_12 a0 p2 p3 p4) nf Mh12 w12_5 w12_6) := by
    intro nf
    refine fo_fx_P (fun (j : Mm → Int32 → Int32 → Rr) => ∀ Mh12 w12_5 w12_6, Vj x 0 0 12 [(0, .ref a0), (2, .int p2), (3, .int p3), (4, .int p4), (5, .int w12_5), (6, .int w12_6)] [] Mh12 (j Mh12 w12_5 w12_6)) (fun _ _ _ => Vj_none) ?_ nf
    intro g12 hg12 Mh12 w12_5 w12_6
    unfold lp_Mo_goes_12
    refine vj_iload (j := 5) C dMo_goes_12 rfl ?_
    refine vj_iconst (v := 2) C dMo_goes_14 (by decide) ?_
    refine vj_jp (fun (j : Rr) => Vj x 0 0 123 [(0, .ref a0), (2, .int p2), (3, .int p3), (5, .int w12_5)] [] Mh12 j) ?_ ?_
    · skip
      refine vj_iload (j := 3) C dMo_goes_123 rfl ?_
      refine vj_if_eq (tgt := 158) C dMo_goes_125 rfl ?_ ?_
      · skip
        refine vj_iload (j := 3) C dMo_goes_158 rfl ?_
        exact vj_retz C dMo_goes_160 rfl rfl (Nat.le_of_ble_eq_true rfl) (Nat.le_of_ble_eq_true rfl)
      · skip
        refine vj_aload_n (j := 0) C dMo_goes_128 rfl rfl ?_
        refine vj_iload_n (j := 1) C dMo_goes_129 rfl rfl ?_
        refine vj_cV (ci := 9) (As := [.int p2]) (st := []) (b := a0) (a1 := 1) C dMo_goes_130 (cm_Mo_endIn _ _ _ _) rfl gv_Mo_198 rfl rfl rfl hv_Mo_endIn ⟨Nat.le_of_ble_eq_true rfl, Nat.le_of_ble_eq_true rfl⟩ rfl rfl (Nat.le_of_ble_eq_true rfl) ⟨Nat.le_of_ble_eq_true rfl, Nat.le_of_ble_eq_true rfl⟩ (fun _ M130 => ?_)
        show Vj x 0 0 133 [(0, .ref a0), (2, .int p2), (3, .int p3), (5, .int w12_5)] [] M130 _
        refine vj_aload_n (j := 0) C dMo_goes_133 rfl rfl ?_
        refine vj_gi C dMo_goes_134 lf_Mo_109 rfl (fun v134 => ?_)
        refine vj_jp (fun (j : Rr) => Vj x 0 0 155 [] [] M130 j) ?_ ?_
        · skip
          refine vj_iconst (v := 0) C dMo_goes_155 (by decide) ?_
          refine vj_istore (lv' := [(5, .int 0)]) C dMo_goes_156 (by decide) [0] rfl ?_
          refine vj_iload (j := 0) C dMo_goes_158 rfl ?_
          exact vj_retz C dMo_goes_160 rfl rfl (Nat.le_of_ble_eq_true rfl) (Nat.le_of_ble_eq_true rfl)
        · intro j155 hj155
          refine vj_if_ne (tgt := 155) C dMo_goes_137 rfl ?_ ?_
          · skip
            refine vj_lk (lv' := []) [] rfl ?_
            exact hj155
          · skip
            refine vj_aload_n (j := 0) C dMo_goes_140 rfl rfl ?_
            refine vj_gi C dMo_goes_141 lf_Mo_134 rfl (fun v141 => ?_)
            refine vj_iload_n (j := 2) C dMo_goes_144 rfl rfl ?_
            refine vj_ishr C dMo_goes_145 ?_
            refine vj_iconst (v := 1) C dMo_goes_146 (by decide) ?_
            refine vj_iand C dMo_goes_147 ?_
            refine vj_if_ne (tgt := 155) C dMo_goes_148 rfl ?_ ?_
            · skip
              refine vj_lk (lv' := []) [] rfl ?_
              exact hj155
            · skip
              refine vj_iconst (v := 1) C dMo_goes_151 (by decide) ?_
              refine vj_goto (tgt := 156) C dMo_goes_152 rfl ?_
              refine vj_istore (lv' := [(5, .int 1)]) C dMo_goes_156 (by decide) [0] rfl ?_
              refine vj_iload (j := 0) C dMo_goes_158 rfl ?_
              exact vj_retz C dMo_goes_160 rfl rfl (Nat.le_of_ble_eq_true rfl) (Nat.le_of_ble_eq_true rfl)
    · intro j123 hj123
      refine vj_icmp_ge (tgt := 123) C dMo_goes_15 rfl ?_ ?_
      · skip
        refine vj_lk (lv' := [(0, .ref a0), (2, .int p2), (3, .int p3), (5, .int w12_5)]) [0, 1, 2, 4] rfl ?_
        exact hj123
      · skip
        refine vj_iload (j := 4) C dMo_goes_18 rfl ?_
        refine vj_if_eq (tgt := 123) C dMo_goes_20 rfl ?_ ?_
        · skip
          refine vj_lk (lv' := [(0, .ref a0), (2, .int p2), (3, .int p3), (5, .int w12_5)]) [0, 1, 2, 4] rfl ?_
          exact hj123
        · skip
          refine vj_iload (j := 3) C dMo_goes_23 rfl ?_
          refine vj_jp (fun (j : Int32 → Rr) => ∀ s77_0, Vj x 0 0 77 [(0, .ref a0), (2, .int p2), (3, .int p3), (4, .int p4), (5, .int w12_5), (6, .int w12_6)] [.int s77_0] Mh12 (j s77_0)) ?_ ?_
          · intro s77_0
            refine vj_istore (lv' := [(0, .ref a0), (2, .int p2), (3, .int p3), (4, .int p4), (5, .int w12_5), (6, .int w12_6), (7, .int s77_0)]) C dMo_goes_77 (by decide) [1, 2, 3, 4, 5, 6, 0] rfl ?_
            refine vj_iload (j := 6) C dMo_goes_79 rfl ?_
            refine vj_jp (fun (j : Mm → Int32 → Rr) => ∀ Mj117 w117_5, Vj x 0 0 117 [(0, .ref a0), (2, .int p2), (3, .int p3), (4, .int p4), (5, .int w117_5), (6, .int w12_6)] [] Mj117 (j Mj117 w117_5)) ?_ ?_
            · intro Mj117 w117_5
              refine vj_iinc (j := 5) (b := 1) (lv' := [(0, .ref a0), (2, .int p2), (3, .int p3), (4, .int p4), (5, .int w117_5), (6, .int (w12_6 + 1))]) C dMo_goes_117 rfl (by decide) (by decide) [1, 2, 3, 4, 5, 0] rfl ?_
              refine vj_goto (tgt := 12) C dMo_goes_120 rfl ?_
              exact hg12 _ _ _
            · intro j117 hj117
              refine vj_if_lt (tgt := 117) C dMo_goes_81 rfl ?_ ?_
              · skip
                refine vj_lk (lv' := [(0, .ref a0), (2, .int p2), (3, .int p3), (4, .int p4), (5, .int w12_5), (6, .int w12_6)]) [0, 1, 2, 3, 4, 5] rfl ?_
                exact hj117 _ _
              · skip
                refine vj_aload_n (j := 0) C dMo_goes_84 rfl rfl ?_
                refine vj_iload_n (j := 1) C dMo_goes_85 rfl rfl ?_
                refine vj_iload_n (j := 2) C dMo_goes_86 rfl rfl ?_
                refine vj_iload (j := 6) C dMo_goes_87 rfl ?_
                refine vj_cV (ci := 9) (As := [.int p2, .int p3, .int s77_0]) (st := []) (b := a0) (a1 := 3) C dMo_goes_89 (cm_Mo_eventIn _ _ _ _ _ _) rfl gv_Mo_191 rfl rfl rfl hv_Mo_eventIn ⟨Nat.le_of_ble_eq_true rfl, Nat.le_of_ble_eq_true rfl⟩ rfl rfl (Nat.le_of_ble_eq_true rfl) ⟨Nat.le_of_ble_eq_true rfl, Nat.le_of_ble_eq_true rfl⟩ (fun _ M89 => ?_)
                show Vj x 0 0 92 [(0, .ref a0), (2, .int p2), (3, .int p3), (4, .int p4), (5, .int w12_5), (6, .int w12_6), (7, .int s77_0)] [] M89 _
                refine vj_aload_n (j := 0) C dMo_goes_92 rfl rfl ?_
                refine vj_gi C dMo_goes_93 lf_Mo_109 rfl (fun v93 => ?_)
                refine vj_jp (fun (j : Int32 → Rr) => ∀ s115_0, Vj x 0 0 115 [(0, .ref a0), (2, .int p2), (3, .int p3), (4, .int p4), (6, .int w12_6)] [.int s115_0] M89 (j s115_0)) ?_ ?_
                · intro s115_0
                  refine vj_istore (lv' := [(0, .ref a0), (2, .int p2), (3, .int p3), (4, .int p4), (5, .int s115_0), (6, .int w12_6)]) C dMo_goes_115 (by decide) [1, 2, 3, 4, 0, 5] rfl ?_
                  exact hj117 _ _
                · intro j115 hj115
                  refine vj_jp (fun (j : Rr) => Vj x 0 0 114 [(0, .ref a0), (2, .int p2), (3, .int p3), (4, .int p4), (6, .int w12_6)] [] M89 j) ?_ ?_
                  · skip
                    refine vj_iconst (v := 0) C dMo_goes_114 (by decide) ?_
                    exact hj115 _
                  · intro j114 hj114
                    refine vj_if_ne (tgt := 114) C dMo_goes_96 rfl ?_ ?_
                    · skip
                      refine vj_lk (lv' := [(0, .ref a0), (2, .int p2), (3, .int p3), (4, .int p4), (6, .int w12_6)]) [0, 1, 2, 3, 5] rfl ?_
                      exact hj114
                    · skip
                      refine vj_aload_n (j := 0) C dMo_goes_99 rfl rfl ?_
                      refine vj_gi C dMo_goes_100 lf_Mo_134 rfl (fun v100 => ?_)
                      refine vj_iload_n (j := 2) C dMo_goes_103 rfl rfl ?_
                      refine vj_ishr C dMo_goes_104 ?_
                      refine vj_iconst (v := 1) C dMo_goes_105 (by decide) ?_
                      refine vj_iand C dMo_goes_106 ?_
                      refine vj_if_ne (tgt := 114) C dMo_goes_107 rfl ?_ ?_
                      · skip
                        refine vj_lk (lv' := [(0, .ref a0), (2, .int p2), (3, .int p3), (4, .int p4), (6, .int w12_6)]) [0, 1, 2, 3, 5] rfl ?_
                        exact hj114
                      · skip
                        refine vj_iconst (v := 1) C dMo_goes_110 (by decide) ?_
                        refine vj_goto (tgt := 115) C dMo_goes_111 rfl ?_
                        refine vj_lk (lv' := [(0, .ref a0), (2, .int p2), (3, .int p3), (4, .int p4), (6, .int w12_6)]) [0, 1, 2, 3, 5] rfl ?_
                        exact hj115 _
          · intro j77 hj77
            refine vj_if_ne (tgt := 32) C dMo_goes_25 rfl ?_ ?_
            · skip
              refine vj_iload (j := 3) C dMo_goes_32 rfl ?_
              refine vj_bipush (v := 6) C dMo_goes_34 (by decide) ?_
              refine vj_icmp_ge (tgt := 55) C dMo_goes_36 rfl ?_ ?_
              · skip
                refine vj_iload (j := 5) C dMo_goes_55 rfl ?_
                refine vj_if_ne (tgt := 70) C dMo_goes_57 rfl ?_ ?_
                · skip
                  refine vj_iload (j := 3) C dMo_goes_70 rfl ?_
                  refine vj_bipush (v := 6) C dMo_goes_72 (by decide) ?_
                  refine vj_isub C dMo_goes_74 ?_
                  refine vj_iconst (v := 5) C dMo_goes_75 (by decide) ?_
                  refine vj_irem C dMo_goes_76 (by decide) ?_
                  exact hj77 _
                · skip
                  refine vj_iload (j := 3) C dMo_goes_60 rfl ?_
                  refine vj_bipush (v := 6) C dMo_goes_62 (by decide) ?_
                  refine vj_isub C dMo_goes_64 ?_
                  refine vj_iconst (v := 5) C dMo_goes_65 (by decide) ?_
                  refine vj_idiv C dMo_goes_66 (by decide) ?_
                  refine vj_goto (tgt := 77) C dMo_goes_67 rfl ?_
                  exact hj77 _
              · skip
                refine vj_iload (j := 5) C dMo_goes_39 rfl ?_
                refine vj_if_ne (tgt := 51) C dMo_goes_41 rfl ?_ ?_
                · skip
                  refine vj_iconst (v := (-1)) C dMo_goes_51 (by decide) ?_
                  refine vj_goto (tgt := 77) C dMo_goes_52 rfl ?_
                  exact hj77 _
                · skip
                  refine vj_iload (j := 3) C dMo_goes_44 rfl ?_
                  refine vj_iconst (v := 1) C dMo_goes_46 (by decide) ?_
                  refine vj_isub C dMo_goes_47 ?_
                  refine vj_goto (tgt := 77) C dMo_goes_48 rfl ?_
                  exact hj77 _
            · skip
              refine vj_iconst (v := (-1)) C dMo_goes_28 (by decide) ?_
              refine vj_goto (tgt := 77) C dMo_goes_29 rfl ?_
              exact hj77 _
  exact hg12x _ _ _ _
def lp_Mo_hasOne_6 (a0 : Nat) (p1 : Int32) (p2 : Int32) (p3 : Int32) (g6 : Mm → Int32 → Int32 → Rr) (Mh6 : Mm) (w6_4 : Int32) (w6_5 : Int32) : Rr := if 31 ≤ w6_5 then fo_rz w6_4 Mh6 else if w6_4 = 0 then fo_cv Mh6 9 a0 (fn_Mo_goes Mh6 a0 p1 p2 p3 w6_5) fun v24 M24 => g6 M24 v24 (w6_5 + 1) else fo_rz w6_4 Mh6
def fn_Mo_hasOne (M : Mm) (a0 : Nat) (p1 : Int32) (p2 : Int32) (p3 : Int32) : Rr := fo_fx (fun _ _ _ => none) (lp_Mo_hasOne_6 a0 p1 p2 p3) fo_N M 0 0
set_option maxHeartbeats 4000000 in
set_option maxRecDepth 100000 in
theorem cm_Mo_hasOne (l : Launch) (M : Mm) (a0 : Nat) (p1 : Int32) (p2 : Int32) (p3 : Int32) : ct l zyMo_hasOne ws_Mo_hasOne { frames := 5, cells := 0, slots := 0, locals := 128 } 0 0 (fun w => some (.int w)) [.ref a0, .int p1, .int p2, .int p3] M (fn_Mo_hasOne M a0 p1 p2 p3) := by
  refine ct_of (cc := zbMo_hasOne) (maxL := 6) (ret := (some .boolean)) (lv0 := [(0, .ref a0), (1, .int p1), (2, .int p2), (3, .int p3)]) (by decide) rfl (Nat.le_of_ble_eq_true rfl) rfl rfl ?_
  intro x C
  unfold fn_Mo_hasOne
  refine vj_iconst (v := 0) C dMo_hasOne_0 (by decide) ?_
  refine vj_istore (lv' := [(0, .ref a0), (1, .int p1), (2, .int p2), (3, .int p3), (4, .int 0)]) C dMo_hasOne_1 (by decide) [1, 2, 3, 4, 0] rfl ?_
  refine vj_iconst (v := 0) C dMo_hasOne_3 (by decide) ?_
  refine vj_istore (lv' := [(0, .ref a0), (1, .int p1), (2, .int p2), (3, .int p3), (4, .int 0), (5, .int 0)]) C dMo_hasOne_4 (by decide) [1, 2, 3, 4, 5, 0] rfl ?_
  have hg6x : ∀ nf Mh6 w6_4 w6_5, Vj x 0 0 6 [(0, .ref a0), (1, .int p1), (2, .int p2), (3, .int p3), (4, .int w6_4), (5, .int w6_5)] [] Mh6 (fo_fx (fun _ _ _ => none) (lp_Mo_hasOne_6 a0 p1 p2 p3) nf Mh6 w6_4 w6_5) := by
    intro nf
    refine fo_fx_P (fun (j : Mm → Int32 → Int32 → Rr) => ∀ Mh6 w6_4 w6_5, Vj x 0 0 6 [(0, .ref a0), (1, .int p1), (2, .int p2), (3, .int p3), (4, .int w6_4), (5, .int w6_5)] [] Mh6 (j Mh6 w6_4 w6_5)) (fun _ _ _ => Vj_none) ?_ nf
    intro g6 hg6 Mh6 w6_4 w6_5
    unfold lp_Mo_hasOne_6
    refine vj_iload (j := 5) C dMo_hasOne_6 rfl ?_
    refine vj_bipush (v := 31) C dMo_hasOne_8 (by decide) ?_
    refine vj_icmp_ge (tgt := 35) C dMo_hasOne_10 rfl ?_ ?_
    · skip
      refine vj_iload (j := 4) C dMo_hasOne_35 rfl ?_
      exact vj_retz C dMo_hasOne_37 rfl rfl (Nat.le_of_ble_eq_true rfl) (Nat.le_of_ble_eq_true rfl)
    · skip
      refine vj_iload (j := 4) C dMo_hasOne_13 rfl ?_
      refine vj_if_ne (tgt := 35) C dMo_hasOne_15 rfl ?_ ?_
      · skip
        refine vj_iload (j := 4) C dMo_hasOne_35 rfl ?_
        exact vj_retz C dMo_hasOne_37 rfl rfl (Nat.le_of_ble_eq_true rfl) (Nat.le_of_ble_eq_true rfl)
      · skip
        refine vj_aload_n (j := 0) C dMo_hasOne_18 rfl rfl ?_
        refine vj_iload_n (j := 1) C dMo_hasOne_19 rfl rfl ?_
        refine vj_iload_n (j := 2) C dMo_hasOne_20 rfl rfl ?_
        refine vj_iload_n (j := 3) C dMo_hasOne_21 rfl rfl ?_
        refine vj_iload (j := 5) C dMo_hasOne_22 rfl ?_
        refine vj_cV (ci := 9) (As := [.int p1, .int p2, .int p3, .int w6_5]) (st := []) (b := a0) (a1 := 4) C dMo_hasOne_24 (cm_Mo_goes _ _ _ _ _ _ _) rfl gv_Mo_201 rfl rfl rfl hv_Mo_goes ⟨Nat.le_of_ble_eq_true rfl, Nat.le_of_ble_eq_true rfl⟩ rfl rfl (Nat.le_of_ble_eq_true rfl) ⟨Nat.le_of_ble_eq_true rfl, Nat.le_of_ble_eq_true rfl⟩ (fun v24 M24 => ?_)
        show Vj x 0 0 27 [(0, .ref a0), (1, .int p1), (2, .int p2), (3, .int p3), (4, .int w6_4), (5, .int w6_5)] [.int v24] M24 _
        refine vj_istore (lv' := [(0, .ref a0), (1, .int p1), (2, .int p2), (3, .int p3), (4, .int v24), (5, .int w6_5)]) C dMo_hasOne_27 (by decide) [1, 2, 3, 4, 0, 5] rfl ?_
        refine vj_iinc (j := 5) (b := 1) (lv' := [(0, .ref a0), (1, .int p1), (2, .int p2), (3, .int p3), (4, .int v24), (5, .int (w6_5 + 1))]) C dMo_hasOne_29 rfl (by decide) (by decide) [1, 2, 3, 4, 5, 0] rfl ?_
        refine vj_goto (tgt := 6) C dMo_hasOne_32 rfl ?_
        exact hg6 _ _ _
  exact hg6x _ _ _ _
def lp_Mo_firstCourse_3 (a0 : Nat) (p1 : Int32) (p2 : Int32) (p3 : Int32) (g3 : Mm → Int32 → Rr) (Mh3 : Mm) (w3_4 : Int32) : Rr := if 31 ≤ w3_4 then some ((-1), Mh3) else fo_cv Mh3 9 a0 (fn_Mo_goes Mh3 a0 p1 15 p2 w3_4) fun v17 M17 => fo_jp (fun (Mj43 : Mm) => g3 Mj43 (w3_4 + 1)) (fun j43 => if v17 = 0 then j43 M17 else if p3 = 1 then some (w3_4, M17) else fo_cv M17 9 a0 (fn_Mo_hasOne M17 a0 15 16 p2) fun v34 M34 => if v34 = 0 then j43 M34 else some (w3_4, M34))
def fn_Mo_firstCourse (M : Mm) (a0 : Nat) (p1 : Int32) (p2 : Int32) (p3 : Int32) : Rr := fo_fx (fun _ _ => none) (lp_Mo_firstCourse_3 a0 p1 p2 p3) fo_N M 0
set_option maxHeartbeats 4000000 in
set_option maxRecDepth 100000 in
theorem cm_Mo_firstCourse (l : Launch) (M : Mm) (a0 : Nat) (p1 : Int32) (p2 : Int32) (p3 : Int32) : ct l zyMo_firstCourse ws_Mo_firstCourse { frames := 6, cells := 0, slots := 0, locals := 153 } 0 0 (fun w => some (.int w)) [.ref a0, .int p1, .int p2, .int p3] M (fn_Mo_firstCourse M a0 p1 p2 p3) := by
  refine ct_of (cc := zbMo_firstCourse) (maxL := 5) (ret := (some .int)) (lv0 := [(0, .ref a0), (1, .int p1), (2, .int p2), (3, .int p3)]) (by decide) rfl (Nat.le_of_ble_eq_true rfl) rfl rfl ?_
  intro x C
  unfold fn_Mo_firstCourse
  refine vj_iconst (v := 0) C dMo_firstCourse_0 (by decide) ?_
  refine vj_istore (lv' := [(0, .ref a0), (1, .int p1), (2, .int p2), (3, .int p3), (4, .int 0)]) C dMo_firstCourse_1 (by decide) [1, 2, 3, 4, 0] rfl ?_
  have hg3x : ∀ nf Mh3 w3_4, Vj x 0 0 3 [(0, .ref a0), (1, .int p1), (2, .int p2), (3, .int p3), (4, .int w3_4)] [] Mh3 (fo_fx (fun _ _ => none) (lp_Mo_firstCourse_3 a0 p1 p2 p3) nf Mh3 w3_4) := by
    intro nf
    refine fo_fx_P (fun (j : Mm → Int32 → Rr) => ∀ Mh3 w3_4, Vj x 0 0 3 [(0, .ref a0), (1, .int p1), (2, .int p2), (3, .int p3), (4, .int w3_4)] [] Mh3 (j Mh3 w3_4)) (fun _ _ => Vj_none) ?_ nf
    intro g3 hg3 Mh3 w3_4
    unfold lp_Mo_firstCourse_3
    refine vj_iload (j := 4) C dMo_firstCourse_3 rfl ?_
    refine vj_bipush (v := 31) C dMo_firstCourse_5 (by decide) ?_
    refine vj_icmp_ge (tgt := 49) C dMo_firstCourse_7 rfl ?_ ?_
    · skip
      refine vj_iconst (v := (-1)) C dMo_firstCourse_49 (by decide) ?_
      exact vj_ret C dMo_firstCourse_50 rfl rfl (Nat.le_of_ble_eq_true rfl) (Nat.le_of_ble_eq_true rfl)
    · skip
      refine vj_aload_n (j := 0) C dMo_firstCourse_10 rfl rfl ?_
      refine vj_iload_n (j := 1) C dMo_firstCourse_11 rfl rfl ?_
      refine vj_bipush (v := 15) C dMo_firstCourse_12 (by decide) ?_
      refine vj_iload_n (j := 2) C dMo_firstCourse_14 rfl rfl ?_
      refine vj_iload (j := 4) C dMo_firstCourse_15 rfl ?_
      refine vj_cV (ci := 9) (As := [.int p1, .int 15, .int p2, .int w3_4]) (st := []) (b := a0) (a1 := 4) C dMo_firstCourse_17 (cm_Mo_goes _ _ _ _ _ _ _) rfl gv_Mo_201 rfl rfl rfl hv_Mo_goes ⟨Nat.le_of_ble_eq_true rfl, Nat.le_of_ble_eq_true rfl⟩ rfl rfl (Nat.le_of_ble_eq_true rfl) ⟨Nat.le_of_ble_eq_true rfl, Nat.le_of_ble_eq_true rfl⟩ (fun v17 M17 => ?_)
      show Vj x 0 0 20 [(0, .ref a0), (1, .int p1), (2, .int p2), (3, .int p3), (4, .int w3_4)] [.int v17] M17 _
      refine vj_jp (fun (j : Mm → Rr) => ∀ Mj43, Vj x 0 0 43 [(0, .ref a0), (1, .int p1), (2, .int p2), (3, .int p3), (4, .int w3_4)] [] Mj43 (j Mj43)) ?_ ?_
      · intro Mj43
        refine vj_iinc (j := 4) (b := 1) (lv' := [(0, .ref a0), (1, .int p1), (2, .int p2), (3, .int p3), (4, .int (w3_4 + 1))]) C dMo_firstCourse_43 rfl (by decide) (by decide) [1, 2, 3, 4, 0] rfl ?_
        refine vj_goto (tgt := 3) C dMo_firstCourse_46 rfl ?_
        exact hg3 _ _
      · intro j43 hj43
        refine vj_if_eq (tgt := 43) C dMo_firstCourse_20 rfl ?_ ?_
        · skip
          exact hj43 _
        · skip
          refine vj_iload_n (j := 3) C dMo_firstCourse_23 rfl rfl ?_
          refine vj_iconst (v := 1) C dMo_firstCourse_24 (by decide) ?_
          refine vj_icmp_eq (tgt := 40) C dMo_firstCourse_25 rfl ?_ ?_
          · skip
            refine vj_iload (j := 4) C dMo_firstCourse_40 rfl ?_
            exact vj_ret C dMo_firstCourse_42 rfl rfl (Nat.le_of_ble_eq_true rfl) (Nat.le_of_ble_eq_true rfl)
          · skip
            refine vj_aload_n (j := 0) C dMo_firstCourse_28 rfl rfl ?_
            refine vj_bipush (v := 15) C dMo_firstCourse_29 (by decide) ?_
            refine vj_bipush (v := 16) C dMo_firstCourse_31 (by decide) ?_
            refine vj_iload_n (j := 2) C dMo_firstCourse_33 rfl rfl ?_
            refine vj_cV (ci := 9) (As := [.int 15, .int 16, .int p2]) (st := []) (b := a0) (a1 := 3) C dMo_firstCourse_34 (cm_Mo_hasOne _ _ _ _ _ _) rfl gv_Mo_205 rfl rfl rfl hv_Mo_hasOne ⟨Nat.le_of_ble_eq_true rfl, Nat.le_of_ble_eq_true rfl⟩ rfl rfl (Nat.le_of_ble_eq_true rfl) ⟨Nat.le_of_ble_eq_true rfl, Nat.le_of_ble_eq_true rfl⟩ (fun v34 M34 => ?_)
            show Vj x 0 0 37 [(0, .ref a0), (1, .int p1), (2, .int p2), (3, .int p3), (4, .int w3_4)] [.int v34] M34 _
            refine vj_if_eq (tgt := 43) C dMo_firstCourse_37 rfl ?_ ?_
            · skip
              exact hj43 _
            · skip
              refine vj_iload (j := 4) C dMo_firstCourse_40 rfl ?_
              exact vj_ret C dMo_firstCourse_42 rfl rfl (Nat.le_of_ble_eq_true rfl) (Nat.le_of_ble_eq_true rfl)
  exact hg3x _ _ _
def fn_Mo_askCode (M : Mm) (a0 : Nat) (p1 : Int32) (p2 : Int32) : Rr := fo_gi M 9 a0 6 fun v1 => if v1 = 0 then some (1, M) else fo_cl (fn_Mo_isParty M p1) fun v12 M12 => if v12 = 0 then some (2, M12) else if p2 < 1 then some (2, M12) else if 2 < p2 then some (2, M12) else fo_gr M12 9 a0 19 fun a29 => fo_ai M12 0 a29 0 fun v33 => if v33 ≤ 58 then some (0, M12) else some (2, M12)
set_option maxHeartbeats 4000000 in
set_option maxRecDepth 100000 in
theorem cm_Mo_askCode (l : Launch) (M : Mm) (a0 : Nat) (p1 : Int32) (p2 : Int32) : ct l zyMo_askCode ws_Mo_askCode { frames := 1, cells := 0, slots := 0, locals := 20 } 0 0 (fun w => some (.int w)) [.ref a0, .int p1, .int p2] M (fn_Mo_askCode M a0 p1 p2) := by
  refine ct_of (cc := zbMo_askCode) (maxL := 3) (ret := (some .int)) (lv0 := [(0, .ref a0), (1, .int p1), (2, .int p2)]) (by decide) rfl (Nat.le_of_ble_eq_true rfl) rfl rfl ?_
  intro x C
  unfold fn_Mo_askCode
  refine vj_aload_n (j := 0) C dMo_askCode_0 rfl rfl ?_
  refine vj_gi C dMo_askCode_1 lf_Mo_68 rfl (fun v1 => ?_)
  refine vj_if_ne (tgt := 11) C dMo_askCode_4 rfl ?_ ?_
  · skip
    refine vj_iload_n (j := 1) C dMo_askCode_11 rfl rfl ?_
    refine vj_cS (As := [.int p1]) (st := []) (a1 := 1) C dMo_askCode_12 (cm_Mo_isParty _ _ _) gs_Mo_184 rfl rfl rfl hs_Mo_isParty ⟨Nat.le_of_ble_eq_true rfl, Nat.le_of_ble_eq_true rfl⟩ rfl rfl (Nat.le_of_ble_eq_true rfl) ⟨Nat.le_of_ble_eq_true rfl, Nat.le_of_ble_eq_true rfl⟩ (fun v12 M12 => ?_)
    show Vj x 0 0 15 [(0, .ref a0), (1, .int p1), (2, .int p2)] [.int v12] M12 _
    refine vj_if_eq (tgt := 39) C dMo_askCode_15 rfl ?_ ?_
    · skip
      refine vj_iconst (v := 2) C dMo_askCode_39 (by decide) ?_
      refine vj_goto (tgt := 44) C dMo_askCode_40 rfl ?_
      exact vj_ret C dMo_askCode_44 rfl rfl (Nat.le_of_ble_eq_true rfl) (Nat.le_of_ble_eq_true rfl)
    · skip
      refine vj_iload_n (j := 2) C dMo_askCode_18 rfl rfl ?_
      refine vj_iconst (v := 1) C dMo_askCode_19 (by decide) ?_
      refine vj_icmp_lt (tgt := 39) C dMo_askCode_20 rfl ?_ ?_
      · skip
        refine vj_iconst (v := 2) C dMo_askCode_39 (by decide) ?_
        refine vj_goto (tgt := 44) C dMo_askCode_40 rfl ?_
        exact vj_ret C dMo_askCode_44 rfl rfl (Nat.le_of_ble_eq_true rfl) (Nat.le_of_ble_eq_true rfl)
      · skip
        refine vj_iload_n (j := 2) C dMo_askCode_23 rfl rfl ?_
        refine vj_iconst (v := 2) C dMo_askCode_24 (by decide) ?_
        refine vj_icmp_gt (tgt := 39) C dMo_askCode_25 rfl ?_ ?_
        · skip
          refine vj_iconst (v := 2) C dMo_askCode_39 (by decide) ?_
          refine vj_goto (tgt := 44) C dMo_askCode_40 rfl ?_
          exact vj_ret C dMo_askCode_44 rfl rfl (Nat.le_of_ble_eq_true rfl) (Nat.le_of_ble_eq_true rfl)
        · skip
          refine vj_aload_n (j := 0) C dMo_askCode_28 rfl rfl ?_
          refine vj_gr C dMo_askCode_29 lf_Mo_54 rfl (fun a29 => ?_)
          refine vj_iconst (v := 0) C dMo_askCode_32 (by decide) ?_
          refine vj_iald C dMo_askCode_33 (by decide) (fun v33 => ?_)
          refine vj_bipush (v := 58) C dMo_askCode_34 (by decide) ?_
          refine vj_icmp_le (tgt := 43) C dMo_askCode_36 rfl ?_ ?_
          · skip
            refine vj_iconst (v := 0) C dMo_askCode_43 (by decide) ?_
            exact vj_ret C dMo_askCode_44 rfl rfl (Nat.le_of_ble_eq_true rfl) (Nat.le_of_ble_eq_true rfl)
          · skip
            refine vj_iconst (v := 2) C dMo_askCode_39 (by decide) ?_
            refine vj_goto (tgt := 44) C dMo_askCode_40 rfl ?_
            exact vj_ret C dMo_askCode_44 rfl rfl (Nat.le_of_ble_eq_true rfl) (Nat.le_of_ble_eq_true rfl)
  · skip
    refine vj_iconst (v := 1) C dMo_askCode_7 (by decide) ?_
    refine vj_goto (tgt := 44) C dMo_askCode_8 rfl ?_
    exact vj_ret C dMo_askCode_44 rfl rfl (Nat.le_of_ble_eq_true rfl) (Nat.le_of_ble_eq_true rfl)
