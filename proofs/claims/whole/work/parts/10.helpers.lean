theorem fo_try_some {M : Mm} {ci b : Nat} {o0 o1 : Rr} {K : Int32 → Mm → Rr} {Kx : Nat → Mm → Rr} {v : Int32 × Mm} (h : fo_try M ci b o0 o1 K Kx = some v) : mm_s M b = (1, ci) ∧ ((∃ r1 M1, o0 = some (r1, M1) ∧ K r1 M1 = some v) ∨ ∃ r1 M1, o1 = some (r1, M1) ∧ Kx (mm_e M1) (mm_un M1) = some v) := by
  unfold fo_try at h
  split at h
  · next h1 =>
    refine ⟨h1, ?_⟩
    cases o0 with
    | some w => exact Or.inl ⟨w.1, w.2, rfl, h⟩
    | none =>
      cases o1 with
      | some w => exact Or.inr ⟨w.1, w.2, rfl, h⟩
      | none => cases h
  · cases h
section VH
variable {x : Cx} {l0 : Launch} {cc : ByteArray} {nL0 : Nat} {own mn : String} {rm : Room} {rt : Option FieldType} {q0 : List Frame → va_G → (Nat → ClassId) → (Nat → Prop) → Array Value → State → Int32 → Mm → State → Prop} {n k pc : Nat} {lv : List (Nat × Value)} {st : List Value} {M : Mm} {o : Rr}
theorem vj_try (C : Fj x l0 cc nL0 gw own mn rm rt q0) {hh : List (Nat × Nat × Nat × Nat)} (Z : Zh x hh) {y : MethodName} {bytes : ByteArray} {maxL idx a1 : Nat} {ret : Option FieldType} {ws ws' : List Cond} {rm0 rm1 : Room} {vo1 : Int32 → Option Value} {o0 o1 : Rr} {K : Int32 → Mm → Rr} {Kx : Nat → Mm → Rr} {As st0 : List Value} {ci b : Nat} {Cn : String} {T : u_T} {N : Nat} (hpj : Nat → Nat)
    (d : decode cc pc = .ok (.invokevirtual idx, 3)) (hM : ct l0 y ws rm0 0 0 vo1 (.ref b :: As) M o0) (hX : cx l0 y ws rm1 1 6 (.ref b :: As) M o1) (hcl : vwCl[ci]? = some (Cn, T, N)) (hG1 : GoodIn gw (wsV own idx Cn y ws)) (hw : ws = Cond.code y bytes maxL ret :: ws') (hrc0 : rm0.cells = 0) (hrs0 : rm0.slots = 0) (hrc : rm1.cells = 1) (hrs : rm1.slots = 6)
    (hd : y.cls = Cn ∧ y.cls ≠ "java/lang/invoke/MethodHandle" ∧ y.cls ≠ "java/lang/invoke/VarHandle" ∧ (parseMethodDescriptor y.desc).map (fun d => d.parameters.length) = some a1) (hR0 : rm0.frames + 1 ≤ rm.frames ∧ 8 + (maxL + 11) + rm0.locals ≤ rm.locals) (hR2 : rm1.frames + 1 ≤ rm.frames ∧ 8 + (maxL + 11) + rm1.locals ≤ rm.locals) (hlen : As.length = a1)
    (hst : st0 = As.reverse ++ .ref b :: st) (hcat : (st.map fun v => v.category).sum ≤ 8) (hf : n + 1 ≤ rm.cells ∧ k + 6 ≤ rm.slots) (hok : ∀ j, (∀ M1, Kx j M1 = none) ∨ th_ok own hh pc j (hpj j))
    (h : ∀ r1 M1, Vj x n k (pc + 3) lv ((vo1 r1).toList ++ st) M1 (K r1 M1)) (hh1 : ∀ q j M1, Vj x (n + 1) (k + 6) (hpj j) lv [.ref q] M1 (Kx j M1)) : Vj x n k pc lv st0 M (fo_try M ci b o0 o1 K Kx) := by
  have hn := vj_cV C d hM hcl hG1 hw hrc0 hrs0 hd hR0 hlen hst hcat ⟨by omega, by omega⟩ h
  obtain ⟨p, l, e, R, s, m, args, below, meth, c, D, cA, A, QQ, nL⟩ := x
  obtain ⟨⟨hx, hb, hml, hown, hts⟩, hK, hR, hlo, hrt, hmn, hA, hl0, hnL, hQQ⟩ := C
  obtain ⟨hzh, hzk, hzn, htab, hl9⟩ := Z
  subst hl0; subst hnL; subst hR
  intro r M' ho H locs ls hW hG hS hl
  obtain ⟨hs, ⟨r1, M1, e0, ho⟩ | ⟨r1, M1, e1, ho⟩⟩ := fo_try_some ho
  · refine hn r M' ?_ H locs ls hW hG hS hl
    unfold fo_cv fo_cl
    rw [if_pos hs, e0]
    exact ho
  · rcases hok (mm_e M1) with hno | hok
    · rw [hno] at ho
      cases ho
    · refine th_call hx hb (hml.trans hl.1.symm) hown hts hK hA hzh hzk hzn htab d hX hcl hG1 hw hrc hrs hd hR2 hlen hst hcat hf hW hG hS hs e1 hok ?_
      intro q H1 locs1 hW1 hG1 hS1
      exact hh1 q _ _ r M' ho H1 locs1 ls hW1 hG1 hS1 hl
end VH
/-- the contract of a helper of the law -/
def ch (l : Launch) (y : MethodName) (ws : List Cond) (rm : Room) (vo : Int32 → Option Value) (av : List Value) (M : Mm) (o : Rr) : Prop :=
  ∀ (r : Int32) (M' : Mm), o = some (r, M') → ∀ (D : va_G) (cA : Nat → ClassId) (sz : Nat), Met l y ws rm (va_Pc av (fun U => U.heap.size = sz ∧ mm_W D cA M U.heap ∧ mm_K D cA U ∧ zh (mm_A M sz) U U.heap ∧ zk U ∧ zn U)) (mm_Q D cA (mm_A M sz) vo r M') 1 6 (mm_A M sz)
theorem ch_of {l : Launch} {y : MethodName} {ws ws' : List Cond} {rm : Room} {vo : Int32 → Option Value} {av : List Value} {M : Mm} {o : Rr} {cc : ByteArray} {maxL : Nat} {ret : Option FieldType} {hh : List (Nat × Nat × Nat × Nat)} {lv0 : List (Nat × Value)} (hl9 : l.stackTraces = false)
    (hy : plainName y.cls = true) (hw0 : ws = Cond.codeWith y cc maxL ret hh :: ws') (hlen : (lg_sl av).length ≤ maxL) (hlv : lv_args 0 av = lv0)
    (hws : ws' = gw) (body : ∀ x : Cx, Fj x l cc maxL gw y.cls y.name rm ret (nq vo 1 6) → Zh x hh → Vj x 0 0 0 lv0 [] M o) : ch l y ws rm vo av M o := by
  intro r M' ho D cA sz
  refine va_MetW (cc := cc) (maxL := maxL) (ret := ret) (hh := hh) hy hw0 ?_
  intro p e s m args below meth c s₁ B hml hv
  obtain ⟨rfl, rfl, hW, hK, hzh, hzk, hzn⟩ := hv
  have htab : c.exceptionTable.toList = tb hh := by
    obtain ⟨m9, meth9, c9, hn9, h1, h2, -, -, h5, -⟩ := Cond.codeWith_spec (atoms_spec (ws := ws) B.pre _ (by rw [hw0]; exact List.mem_cons_self))
    cases B.named.symm.trans hn9
    cases B.method.symm.trans h1
    cases (Stand.of_body B).code.symm.trans h2
    exact tb_of _ _ h5
  have hts : ∀ w ∈ gw, w.before av.toArray s = true := fun w hw => atoms_spec (ws := ws) B.pre w (by rw [hw0, hws]; exact List.mem_cons_of_mem _ hw)
  have hA : ∀ q, s.heap.size ≤ q → mm_A M s.heap.size q := fun q h => Or.inr h
  have hb := body (p, l, e, (headSpec ws rm).room, s, m, av.toArray, below, meth, c, D, cA, mm_A M s.heap.size, nq vo 1 6 below D cA (mm_A M s.heap.size) av.toArray s, maxL) ⟨⟨B.exec, B.bytes, hml, findClass_of_methodNamed B.named, hts⟩, hK, rfl, B.notSynchronized, B.returns, (name_of_methodNamed B.named B.method).1, hA, rfl, rfl, rfl⟩ ⟨hzh, hzk, hzn, htab, hl9⟩
  rw [lg_entry_eq]
  exact hb r M' ho s.heap [] _ hW (fun q h => Or.inl h) va_S.rf (hlv ▸ lv_entry av hlen)
/-- what the law knows -/
def Zl (x : Cx) : Prop :=
  match x with
  | (_, _, _, _, s, _, _, _, _, _, _, _, A, _, _) => zh A s s.heap ∧ zk s ∧ zn s
section VHC
variable {x : Cx} {l0 : Launch} {cc : ByteArray} {nL0 : Nat} {own mn : String} {rm : Room} {rt : Option FieldType} {q0 : List Frame → va_G → (Nat → ClassId) → (Nat → Prop) → Array Value → State → Int32 → Mm → State → Prop} {n k pc : Nat} {lv : List (Nat × Value)} {st : List Value} {M : Mm} {o : Rr}
theorem ch_blind {av : List Value} {M : Mm} {D : va_G} {cA : Nat → ClassId} {sz : Nat} : FrameBlind (va_Pc av (fun U => U.heap.size = sz ∧ mm_W D cA M U.heap ∧ mm_K D cA U ∧ zh (mm_A M sz) U U.heap ∧ zk U ∧ zn U)) := fun a U g mk q => by
  obtain ⟨q0, q3, q1, q2, q4, q5, q6⟩ := q
  exact ⟨q0, q3, q1, mm_K.same (u := U) (U := U.calling g mk a) rfl q2, zh.moved (u := U) (U := U.calling g mk a) (Vm.Alike.refl U.vm) q4, zk.same (u := U) (U := U.calling g mk a) rfl q5, zn.moved (u := U) (U := U.calling g mk a) (Vm.Alike.refl U.vm) q6⟩
set_option maxHeartbeats 4000000 in
theorem vj_cH (C : Fj x l0 cc nL0 gw own mn rm rt q0) (Z : Zl x) {y : MethodName} {bytes : ByteArray} {maxL idx a1 : Nat} {ret : Option FieldType} {hh : List (Nat × Nat × Nat × Nat)} {ws ws' : List Cond} {rm1 : Room} {vo1 : Int32 → Option Value} {o1 : Rr} {K : Int32 → Mm → Rr} {As st0 : List Value} (d : decode cc pc = .ok (.invokestatic idx, 3)) (hM : ch l0 y ws rm1 vo1 As M o1) (hg : (Cond.methodLink own idx y ∈ gw ∧ Cond.static y ∈ gw) ∧ Cond.initialized y.cls ∈ gw ∧ Cond.codeWith y bytes maxL ret hh ∈ gw) (hw : ws = Cond.codeWith y bytes maxL ret hh :: ws') (hws : ws' = gw) (hrc : rm1.cells = 1) (hrs : rm1.slots = 6)
    (hd : y.cls ≠ "java/lang/invoke/MethodHandle" ∧ y.cls ≠ "java/lang/invoke/VarHandle" ∧ (parseMethodDescriptor y.desc).map (fun d => d.parameters.length) = some a1) (hR2 : rm1.frames + 1 ≤ rm.frames ∧ 8 + (maxL + 11) + rm1.locals ≤ rm.locals) (hlen : As.length = a1) (hst : st0 = As.reverse ++ st) (hcat : (st.map fun v => v.category).sum ≤ 8) (hf : n + 1 ≤ rm.cells ∧ k + 6 ≤ rm.slots) (h : ∀ r1 M1, Vj x (n + 1) (k + 6) (pc + 3) lv ((vo1 r1).toList ++ st) M1 (K r1 M1)) : Vj x n k pc lv st0 M (fo_cl o1 K) := by
  obtain ⟨p, l, e, R, s, m, args, below, meth, c, D, cA, A, QQ, nL⟩ := x
  obtain ⟨⟨hx, hb, hml, hown, hts⟩, hK, hR, hlo, hrt, hmn, hA, hl0, hnL, hQQ⟩ := C
  obtain ⟨hzh, hzk, hzn⟩ := Z
  subst hl0; subst hnL; subst hR
  intro r M' ho H locs ls hW hG hS hl
  obtain ⟨r1, M1, e1, ho⟩ := fo_cl_some ho
  have hmove : ∀ q, mm_A M H.size q → A q := by
    intro q hq
    rcases hq with hq | hq
    · exact hG q hq
    · exact hA q (Nat.le_trans hS.1 hq)
  have hgood : ∀ w ∈ ws, ∀ (a' : Array Value) (U : State), s.WarmedH U.vm → w.before a' U = true := by
    intro w hw1 a' U hWU
    rw [hw, hws] at hw1
    have hwg : w ∈ gw := (List.mem_cons.mp hw1).elim (fun e9 => by rw [e9]; exact hg.2.2) id
    exact word_at hWU (good_of_word (gw_good hwg)) (hts w hwg)
  have hBack : Back l R p e below s args y 3 8 (PreOf R 1 6 (va_Pc As (fun U => U.heap.size = H.size ∧ mm_W D cA M U.heap ∧ mm_K D cA U ∧ zh (mm_A M H.size) U U.heap ∧ zk U ∧ zn U))) (PostOf (mm_Q D cA (mm_A M H.size) vo1 r1 M1) 1 6 (mm_A M H.size)) :=
    va_backW (hh := hh) (bytes := bytes) (maxL := maxL) (ret := ret) (hM r1 M1 e1 D cA H.size) ch_blind hrc hrs hR2.1 hR2.2 hgood (by rw [hw]; exact List.mem_cons_self) (fun a' U hWU => word_at hWU (good_of_word (gw_good hg.2.1)) (hts _ hg.2.1))
  refine va_Run.w (mc1 := 1) (ms1 := 6) (D := D) (cA := cA) (vo1 := vo1) (r1 := r1) (M1 := M1) (a := As.toArray) (st := st) ?_ hW hG hS hA ?_
  · intro T hT X
    obtain ⟨m9, methM, cM, hnamed, hmethM, -, -, -, -, -, -, hsigM⟩ := Cond.codeWith_spec (hts _ hg.2.2)
    have hstatic : methM.isStatic = true := Cond.static_spec hnamed hmethM (hts _ hg.1.2)
    obtain ⟨kP, hkP, -⟩ := className_of_methodNamed hnamed
    have hinitP : kP.init = .initialized := Cond.initialized_spec (findClass_of_methodNamed hnamed) hkP (hts _ hg.2.1)
    have hal : As.length = methM.sig.parameters.length := by
      have h2 := hd.2.2
      rw [hsigM] at h2
      exact hlen.trans (Option.some.inj h2).symm
    obtain ⟨vm₁, X₁, hstep₁⟩ := X.invokestatic hx hown (hts _ hg.1.1) hnamed hmethM hstatic hkP hinitP ⟨hd.1, hd.2.1⟩ (g := F0 m pc ls st0) rfl (argsL := As) (rest := st) hal hst (by rw [hb]; exact d)
    have hW₁ : s.WarmedH (T.setVm vm₁).vm := X₁.warmed
    have hPc : va_Pc As (fun U => U.heap.size = H.size ∧ mm_W D cA M U.heap ∧ mm_K D cA U ∧ zh (mm_A M H.size) U U.heap ∧ zk U ∧ zn U) As.toArray (T.setVm vm₁) := by
      have eh : (T.setVm vm₁).heap = H := hT
      refine ⟨rfl, by rw [eh], by rw [eh]; exact hW, mm_K.warm hW₁ hK, ?_, zk.warm hW₁ hzk, zn.moved hW₁.alike hzn⟩
      rw [eh]
      exact ((hzh.kept hS.2.1).moved hW₁.alike).narrow (fun q _ hq => hmove q hq)
    obtain ⟨v, B, X', ⟨g', mk, t, L, f1, f2, hq, f3, hL, f4, f5⟩, hsteps⟩ := hBack m meth c ⟨T.setVm vm₁, locs, n, k⟩ (F0 m pc ls st) (.invokestatic idx) m9 As.toArray X₁ rfl (hl.1.trans hml.symm) (by rw [hb]; exact d) (lv_room (rest := st) hcat) (X₁.named hnamed) ⟨hf.1, hf.2, hPc⟩
    obtain ⟨U', l2, c2, s2⟩ := B
    dsimp only [Pt.U, Pt.locs, Pt.cells, Pt.slots] at X' f1 f2 f3 f4 f5 hsteps hq
    subst f3; subst f4; subst f5
    exact ⟨v, (T.setVm vm₁).calling g' mk As.toArray, t, U', L, hT, X', hL, f1, f2, hq, fun target h9 => hstep₁ _ fun acts => by rw [doInvoke_state]; exact hsteps.trans h9⟩
  · intro H1 locs1 hW1 hG1 hS1
    exact h r1 M1 r M' ho H1 locs1 ls hW1 hG1 hS1 hl
end VHC

abbrev ws_Lw_begin : List Cond := Cond.codeWith zyLw_begin zbLw_begin 3 (some .int) [(0, 8, 11, 13), (0, 8, 14, 15)] :: gw
def fn_Lw_begin (M : Mm) (p0 : Nat) (p1 : Nat) : Rr := fo_try M 8 p0 (fn_Pm_begin false M p0) (fn_Pm_begin true M p0) (fun v M0 => fo_sl M0 p1 0 v.toInt64 fun M2 => some (0, M2)) (fun j M1 => if j = 2 then some (1, M1) else if j = 3 then some (2, M1) else none)
theorem kl_begin_a : (Jvm.Cond.methodLink "PledgeMonitorLaw" (7 : Nat) ({ cls := "PledgeMonitor", name := "begin", desc := "()I" } : Jvm.MethodName)) ∈ gw := gw_at 454 (by decide +kernel) (by decide +kernel)
theorem kl_begin_b : (Jvm.Cond.instanceMethod ({ cls := "PledgeMonitor", name := "begin", desc := "()I" } : Jvm.MethodName)) ∈ gw := gw_at 455 (by decide +kernel) (by decide +kernel)
theorem kl_begin_c : (Jvm.Cond.selects "PledgeMonitor" ({ cls := "PledgeMonitor", name := "begin", desc := "()I" } : Jvm.MethodName) ({ cls := "PledgeMonitor", name := "begin", desc := "()I" } : Jvm.MethodName)) ∈ gw := gw_at 456 (by decide +kernel) (by decide +kernel)
theorem kl_begin_d : (Jvm.Cond.code ({ cls := "PledgeMonitor", name := "begin", desc := "()I" } : Jvm.MethodName) prog_1_method_5_code (2 : Nat) (Option.some Jvm.ClassFile.FieldType.int)) ∈ gw := gw_at 457 (by decide +kernel) (by decide +kernel)
theorem kl_begin_e : (Jvm.Cond.initialized "PledgeMonitor") ∈ gw := gw_at 65 (by decide +kernel) (by decide +kernel)
theorem gl_begin : GoodIn gw (wsV "PledgeMonitorLaw" 7 zR8 zyPm_begin ws_Pm_begin) := gd_V kl_begin_a kl_begin_b kl_begin_c kl_begin_e kl_begin_d
theorem hl_begin : zyPm_begin.cls = zR8 ∧ zyPm_begin.cls ≠ "java/lang/invoke/MethodHandle" ∧ zyPm_begin.cls ≠ "java/lang/invoke/VarHandle" ∧ (parseMethodDescriptor zyPm_begin.desc).map (fun d => d.parameters.length) = some 0 := by decide +kernel
theorem kt_begin_2 : (Jvm.Cond.classLink "PledgeMonitorLaw" (13 : Nat) "java/lang/IllegalArgumentException") ∈ gw := gw_at 452 (by decide +kernel) (by decide +kernel)
theorem kt_begin_3 : (Jvm.Cond.classLink "PledgeMonitorLaw" (15 : Nat) "java/lang/UnsupportedOperationException") ∈ gw := gw_at 453 (by decide +kernel) (by decide +kernel)
theorem to_begin_2 : th_ok "PledgeMonitorLaw" [(0, 8, 11, 13), (0, 8, 14, 15)] 3 2 11 := ⟨[], (0, 8, 11, 13), [(0, 8, 14, 15)], rfl, rfl, ⟨by decide, by decide, by decide, kt_begin_2⟩, fun y hy => by cases hy⟩
theorem to_begin_3 : th_ok "PledgeMonitorLaw" [(0, 8, 11, 13), (0, 8, 14, 15)] 3 3 14 := ⟨[(0, 8, 11, 13)], (0, 8, 14, 15), [], rfl, rfl, ⟨by decide, by decide, by decide, kt_begin_3⟩, fun y hy => by
    simp only [List.mem_cons, List.not_mem_nil, or_false] at hy
    rcases hy with rfl
    · exact ⟨by decide, by decide, by decide, 2, kt_begin_2, by decide +kernel⟩⟩
set_option maxHeartbeats 4000000 in
set_option maxRecDepth 100000 in
theorem ch_Lw_begin (l : Launch) (hl9 : l.stackTraces = false) (M : Mm) (p0 : Nat) (p1 : Nat) : ch l zyLw_begin ws_Lw_begin { frames := 7, cells := 1, slots := 6, locals := 263 } (fun w => some (.int w)) [.ref p0, .ref p1] M (fn_Lw_begin M p0 p1) := by
  refine ch_of (cc := zbLw_begin) (maxL := 3) (ret := some .int) (hh := [(0, 8, 11, 13), (0, 8, 14, 15)]) (lv0 := [(0, .ref p0), (1, .ref p1)]) hl9 (by decide) rfl (Nat.le_of_ble_eq_true rfl) rfl rfl ?_
  intro x C Z
  unfold fn_Lw_begin
  refine vj_aload_n (j := 1) C dLw_begin_0 rfl rfl ?_
  refine vj_iconst (v := 0) C dLw_begin_1 (by decide) ?_
  refine vj_aload_n (j := 0) C dLw_begin_2 rfl rfl ?_
  refine vj_try (hpj := (fun j => if j = 2 then 11 else if j = 3 then 14 else 0)) (As := []) (st := [.int 0, .ref p1]) (b := p0) (ci := 8) (a1 := 0) C Z dLw_begin_3 (cm_Pm_begin l M p0) (cx_Pm_begin l hl9 M p0) rfl gl_begin rfl rfl rfl rfl rfl hl_begin ⟨Nat.le_of_ble_eq_true rfl, Nat.le_of_ble_eq_true rfl⟩ ⟨Nat.le_of_ble_eq_true rfl, Nat.le_of_ble_eq_true rfl⟩ rfl rfl (Nat.le_of_ble_eq_true rfl) ⟨Nat.le_of_ble_eq_true rfl, Nat.le_of_ble_eq_true rfl⟩ ?_ ?_ ?_
  · intro j
    by_cases h2 : j = 2
    · subst h2; exact Or.inr to_begin_2
    by_cases h3 : j = 3
    · subst h3; exact Or.inr to_begin_3
    left; intro M1; simp [h2, h3]
  · intro v M0
    show Vj x 0 0 6 [(0, .ref p0), (1, .ref p1)] [.int v, .int 0, .ref p1] M0 _
    refine vj_i2l C dLw_begin_6 ?_
    refine vj_last C dLw_begin_7 (fun M2 => ?_)
    refine vj_goto (tgt := 17) C dLw_begin_8 rfl ?_
    refine vj_iconst (v := 0) C dLw_begin_17 (by decide) ?_
    exact vj_ret C dLw_begin_18 rfl rfl (Nat.le_of_ble_eq_true rfl) (Nat.le_of_ble_eq_true rfl)
  · intro q j M1
    by_cases h2 : j = 2
    · subst h2
      show Vj x 1 6 11 [(0, .ref p0), (1, .ref p1)] [.ref q] M1 (some (1, M1))
      refine vj_astore_n (lv' := [(0, .ref p0), (1, .ref p1), (2, .ref q)]) C dLw_begin_11 rfl (by decide) [1, 2, 0] rfl ?_
      refine vj_iconst (v := 1) C dLw_begin_12 (by decide) ?_
      exact vj_ret C dLw_begin_13 rfl rfl (Nat.le_of_ble_eq_true rfl) (Nat.le_of_ble_eq_true rfl)
    by_cases h3 : j = 3
    · subst h3
      show Vj x 1 6 14 [(0, .ref p0), (1, .ref p1)] [.ref q] M1 (some (2, M1))
      refine vj_astore_n (lv' := [(0, .ref p0), (1, .ref p1), (2, .ref q)]) C dLw_begin_14 rfl (by decide) [1, 2, 0] rfl ?_
      refine vj_iconst (v := 2) C dLw_begin_15 (by decide) ?_
      exact vj_ret C dLw_begin_16 rfl rfl (Nat.le_of_ble_eq_true rfl) (Nat.le_of_ble_eq_true rfl)
    simp only [if_neg h2, if_neg h3]
    exact Vj_none
abbrev ws_Lw_event : List Cond := Cond.codeWith zyLw_event zbLw_event 5 (some .int) [(0, 10, 13, 21), (0, 10, 17, 13), (0, 10, 21, 15)] :: gw
def fn_Lw_event (M : Mm) (p0 : Nat) (p1 : Int32) (p2 : Int32) (p3 : Nat) : Rr := fo_try M 8 p0 (fn_Pm_event false M p0 p1 p2) (fn_Pm_event true M p0 p1 p2) (fun v M0 => fo_sl M0 p3 0 v.toInt64 fun M2 => some (0, M2)) (fun j M1 => if j = 1 then some (1, M1) else if j = 2 then some (2, M1) else if j = 3 then some (3, M1) else none)
theorem kl_event_a : (Jvm.Cond.methodLink "PledgeMonitorLaw" (17 : Nat) ({ cls := "PledgeMonitor", name := "event", desc := "(II)I" } : Jvm.MethodName)) ∈ gw := gw_at 654 (by decide +kernel) (by decide +kernel)
theorem kl_event_b : (Jvm.Cond.instanceMethod ({ cls := "PledgeMonitor", name := "event", desc := "(II)I" } : Jvm.MethodName)) ∈ gw := gw_at 655 (by decide +kernel) (by decide +kernel)
theorem kl_event_c : (Jvm.Cond.selects "PledgeMonitor" ({ cls := "PledgeMonitor", name := "event", desc := "(II)I" } : Jvm.MethodName) ({ cls := "PledgeMonitor", name := "event", desc := "(II)I" } : Jvm.MethodName)) ∈ gw := gw_at 656 (by decide +kernel) (by decide +kernel)
theorem kl_event_d : (Jvm.Cond.code ({ cls := "PledgeMonitor", name := "event", desc := "(II)I" } : Jvm.MethodName) prog_1_method_8_code (4 : Nat) (Option.some Jvm.ClassFile.FieldType.int)) ∈ gw := gw_at 657 (by decide +kernel) (by decide +kernel)
theorem kl_event_e : (Jvm.Cond.initialized "PledgeMonitor") ∈ gw := gw_at 65 (by decide +kernel) (by decide +kernel)
theorem gl_event : GoodIn gw (wsV "PledgeMonitorLaw" 17 zR8 zyPm_event ws_Pm_event) := gd_V kl_event_a kl_event_b kl_event_c kl_event_e kl_event_d
theorem hl_event : zyPm_event.cls = zR8 ∧ zyPm_event.cls ≠ "java/lang/invoke/MethodHandle" ∧ zyPm_event.cls ≠ "java/lang/invoke/VarHandle" ∧ (parseMethodDescriptor zyPm_event.desc).map (fun d => d.parameters.length) = some 2 := by decide +kernel
theorem kt_event_1 : (Jvm.Cond.classLink "PledgeMonitorLaw" (21 : Nat) "java/lang/IllegalStateException") ∈ gw := gw_at 653 (by decide +kernel) (by decide +kernel)
theorem kt_event_2 : (Jvm.Cond.classLink "PledgeMonitorLaw" (13 : Nat) "java/lang/IllegalArgumentException") ∈ gw := gw_at 452 (by decide +kernel) (by decide +kernel)
theorem kt_event_3 : (Jvm.Cond.classLink "PledgeMonitorLaw" (15 : Nat) "java/lang/UnsupportedOperationException") ∈ gw := gw_at 453 (by decide +kernel) (by decide +kernel)
theorem to_event_1 : th_ok "PledgeMonitorLaw" [(0, 10, 13, 21), (0, 10, 17, 13), (0, 10, 21, 15)] 5 1 13 := ⟨[], (0, 10, 13, 21), [(0, 10, 17, 13), (0, 10, 21, 15)], rfl, rfl, ⟨by decide, by decide, by decide, kt_event_1⟩, fun y hy => by cases hy⟩
theorem to_event_2 : th_ok "PledgeMonitorLaw" [(0, 10, 13, 21), (0, 10, 17, 13), (0, 10, 21, 15)] 5 2 17 := ⟨[(0, 10, 13, 21)], (0, 10, 17, 13), [(0, 10, 21, 15)], rfl, rfl, ⟨by decide, by decide, by decide, kt_event_2⟩, fun y hy => by
    simp only [List.mem_cons, List.not_mem_nil, or_false] at hy
    rcases hy with rfl
    · exact ⟨by decide, by decide, by decide, 1, kt_event_1, by decide +kernel⟩⟩
theorem to_event_3 : th_ok "PledgeMonitorLaw" [(0, 10, 13, 21), (0, 10, 17, 13), (0, 10, 21, 15)] 5 3 21 := ⟨[(0, 10, 13, 21), (0, 10, 17, 13)], (0, 10, 21, 15), [], rfl, rfl, ⟨by decide, by decide, by decide, kt_event_3⟩, fun y hy => by
    simp only [List.mem_cons, List.not_mem_nil, or_false] at hy
    rcases hy with rfl | rfl
    · exact ⟨by decide, by decide, by decide, 1, kt_event_1, by decide +kernel⟩
    · exact ⟨by decide, by decide, by decide, 2, kt_event_2, by decide +kernel⟩⟩
set_option maxHeartbeats 4000000 in
set_option maxRecDepth 100000 in
theorem ch_Lw_event (l : Launch) (hl9 : l.stackTraces = false) (M : Mm) (p0 : Nat) (p1 : Int32) (p2 : Int32) (p3 : Nat) : ch l zyLw_event ws_Lw_event { frames := 7, cells := 1, slots := 6, locals := 306 } (fun w => some (.int w)) [.ref p0, .int p1, .int p2, .ref p3] M (fn_Lw_event M p0 p1 p2 p3) := by
  refine ch_of (cc := zbLw_event) (maxL := 5) (ret := some .int) (hh := [(0, 10, 13, 21), (0, 10, 17, 13), (0, 10, 21, 15)]) (lv0 := [(0, .ref p0), (1, .int p1), (2, .int p2), (3, .ref p3)]) hl9 (by decide) rfl (Nat.le_of_ble_eq_true rfl) rfl rfl ?_
  intro x C Z
  unfold fn_Lw_event
  refine vj_aload_n (j := 3) C dLw_event_0 rfl rfl ?_
  refine vj_iconst (v := 0) C dLw_event_1 (by decide) ?_
  refine vj_aload_n (j := 0) C dLw_event_2 rfl rfl ?_
  refine vj_iload_n (j := 1) C dLw_event_3 rfl rfl ?_
  refine vj_iload_n (j := 2) C dLw_event_4 rfl rfl ?_
  refine vj_try (hpj := (fun j => if j = 1 then 13 else if j = 2 then 17 else if j = 3 then 21 else 0)) (As := [.int p1, .int p2]) (st := [.int 0, .ref p3]) (b := p0) (ci := 8) (a1 := 2) C Z dLw_event_5 (cm_Pm_event l M p0 p1 p2) (cx_Pm_event l hl9 M p0 p1 p2) rfl gl_event rfl rfl rfl rfl rfl hl_event ⟨Nat.le_of_ble_eq_true rfl, Nat.le_of_ble_eq_true rfl⟩ ⟨Nat.le_of_ble_eq_true rfl, Nat.le_of_ble_eq_true rfl⟩ rfl rfl (Nat.le_of_ble_eq_true rfl) ⟨Nat.le_of_ble_eq_true rfl, Nat.le_of_ble_eq_true rfl⟩ ?_ ?_ ?_
  · intro j
    by_cases h1 : j = 1
    · subst h1; exact Or.inr to_event_1
    by_cases h2 : j = 2
    · subst h2; exact Or.inr to_event_2
    by_cases h3 : j = 3
    · subst h3; exact Or.inr to_event_3
    left; intro M1; simp [h1, h2, h3]
  · intro v M0
    show Vj x 0 0 8 [(0, .ref p0), (1, .int p1), (2, .int p2), (3, .ref p3)] [.int v, .int 0, .ref p3] M0 _
    refine vj_i2l C dLw_event_8 ?_
    refine vj_last C dLw_event_9 (fun M2 => ?_)
    refine vj_goto (tgt := 25) C dLw_event_10 rfl ?_
    refine vj_iconst (v := 0) C dLw_event_25 (by decide) ?_
    exact vj_ret C dLw_event_26 rfl rfl (Nat.le_of_ble_eq_true rfl) (Nat.le_of_ble_eq_true rfl)
  · intro q j M1
    by_cases h1 : j = 1
    · subst h1
      show Vj x 1 6 13 [(0, .ref p0), (1, .int p1), (2, .int p2), (3, .ref p3)] [.ref q] M1 (some (1, M1))
      refine vj_astore (lv' := [(0, .ref p0), (1, .int p1), (2, .int p2), (3, .ref p3), (4, .ref q)]) C dLw_event_13 (by decide) [1, 2, 3, 4, 0] rfl ?_
      refine vj_iconst (v := 1) C dLw_event_15 (by decide) ?_
      exact vj_ret C dLw_event_16 rfl rfl (Nat.le_of_ble_eq_true rfl) (Nat.le_of_ble_eq_true rfl)
    by_cases h2 : j = 2
    · subst h2
      show Vj x 1 6 17 [(0, .ref p0), (1, .int p1), (2, .int p2), (3, .ref p3)] [.ref q] M1 (some (2, M1))
      refine vj_astore (lv' := [(0, .ref p0), (1, .int p1), (2, .int p2), (3, .ref p3), (4, .ref q)]) C dLw_event_17 (by decide) [1, 2, 3, 4, 0] rfl ?_
      refine vj_iconst (v := 2) C dLw_event_19 (by decide) ?_
      exact vj_ret C dLw_event_20 rfl rfl (Nat.le_of_ble_eq_true rfl) (Nat.le_of_ble_eq_true rfl)
    by_cases h3 : j = 3
    · subst h3
      show Vj x 1 6 21 [(0, .ref p0), (1, .int p1), (2, .int p2), (3, .ref p3)] [.ref q] M1 (some (3, M1))
      refine vj_astore (lv' := [(0, .ref p0), (1, .int p1), (2, .int p2), (3, .ref p3), (4, .ref q)]) C dLw_event_21 (by decide) [1, 2, 3, 4, 0] rfl ?_
      refine vj_iconst (v := 3) C dLw_event_23 (by decide) ?_
      exact vj_ret C dLw_event_24 rfl rfl (Nat.le_of_ble_eq_true rfl) (Nat.le_of_ble_eq_true rfl)
    simp only [if_neg h1, if_neg h2, if_neg h3]
    exact Vj_none
abbrev ws_Lw_nextDay : List Cond := Cond.codeWith zyLw_nextDay zbLw_nextDay 3 (some .int) [(0, 8, 11, 21), (0, 8, 14, 15)] :: gw
def fn_Lw_nextDay (M : Mm) (p0 : Nat) (p1 : Nat) : Rr := fo_try M 8 p0 (fn_Pm_nextDay false M p0) (fn_Pm_nextDay true M p0) (fun v M0 => fo_sl M0 p1 0 v.toInt64 fun M2 => some (0, M2)) (fun j M1 => if j = 1 then some (1, M1) else if j = 3 then some (2, M1) else none)
theorem kl_nextDay_a : (Jvm.Cond.methodLink "PledgeMonitorLaw" (23 : Nat) ({ cls := "PledgeMonitor", name := "nextDay", desc := "()I" } : Jvm.MethodName)) ∈ gw := gw_at 727 (by decide +kernel) (by decide +kernel)
theorem kl_nextDay_b : (Jvm.Cond.instanceMethod ({ cls := "PledgeMonitor", name := "nextDay", desc := "()I" } : Jvm.MethodName)) ∈ gw := gw_at 728 (by decide +kernel) (by decide +kernel)
theorem kl_nextDay_c : (Jvm.Cond.selects "PledgeMonitor" ({ cls := "PledgeMonitor", name := "nextDay", desc := "()I" } : Jvm.MethodName) ({ cls := "PledgeMonitor", name := "nextDay", desc := "()I" } : Jvm.MethodName)) ∈ gw := gw_at 729 (by decide +kernel) (by decide +kernel)
theorem kl_nextDay_d : (Jvm.Cond.code ({ cls := "PledgeMonitor", name := "nextDay", desc := "()I" } : Jvm.MethodName) prog_1_method_9_code (2 : Nat) (Option.some Jvm.ClassFile.FieldType.int)) ∈ gw := gw_at 730 (by decide +kernel) (by decide +kernel)
theorem kl_nextDay_e : (Jvm.Cond.initialized "PledgeMonitor") ∈ gw := gw_at 65 (by decide +kernel) (by decide +kernel)
theorem gl_nextDay : GoodIn gw (wsV "PledgeMonitorLaw" 23 zR8 zyPm_nextDay ws_Pm_nextDay) := gd_V kl_nextDay_a kl_nextDay_b kl_nextDay_c kl_nextDay_e kl_nextDay_d
theorem hl_nextDay : zyPm_nextDay.cls = zR8 ∧ zyPm_nextDay.cls ≠ "java/lang/invoke/MethodHandle" ∧ zyPm_nextDay.cls ≠ "java/lang/invoke/VarHandle" ∧ (parseMethodDescriptor zyPm_nextDay.desc).map (fun d => d.parameters.length) = some 0 := by decide +kernel
theorem kt_nextDay_1 : (Jvm.Cond.classLink "PledgeMonitorLaw" (21 : Nat) "java/lang/IllegalStateException") ∈ gw := gw_at 653 (by decide +kernel) (by decide +kernel)
theorem kt_nextDay_3 : (Jvm.Cond.classLink "PledgeMonitorLaw" (15 : Nat) "java/lang/UnsupportedOperationException") ∈ gw := gw_at 453 (by decide +kernel) (by decide +kernel)
theorem to_nextDay_1 : th_ok "PledgeMonitorLaw" [(0, 8, 11, 21), (0, 8, 14, 15)] 3 1 11 := ⟨[], (0, 8, 11, 21), [(0, 8, 14, 15)], rfl, rfl, ⟨by decide, by decide, by decide, kt_nextDay_1⟩, fun y hy => by cases hy⟩
theorem to_nextDay_3 : th_ok "PledgeMonitorLaw" [(0, 8, 11, 21), (0, 8, 14, 15)] 3 3 14 := ⟨[(0, 8, 11, 21)], (0, 8, 14, 15), [], rfl, rfl, ⟨by decide, by decide, by decide, kt_nextDay_3⟩, fun y hy => by
    simp only [List.mem_cons, List.not_mem_nil, or_false] at hy
    rcases hy with rfl
    · exact ⟨by decide, by decide, by decide, 1, kt_nextDay_1, by decide +kernel⟩⟩
set_option maxHeartbeats 4000000 in
set_option maxRecDepth 100000 in
theorem ch_Lw_nextDay (l : Launch) (hl9 : l.stackTraces = false) (M : Mm) (p0 : Nat) (p1 : Nat) : ch l zyLw_nextDay ws_Lw_nextDay { frames := 7, cells := 1, slots := 6, locals := 304 } (fun w => some (.int w)) [.ref p0, .ref p1] M (fn_Lw_nextDay M p0 p1) := by
  refine ch_of (cc := zbLw_nextDay) (maxL := 3) (ret := some .int) (hh := [(0, 8, 11, 21), (0, 8, 14, 15)]) (lv0 := [(0, .ref p0), (1, .ref p1)]) hl9 (by decide) rfl (Nat.le_of_ble_eq_true rfl) rfl rfl ?_
  intro x C Z
  unfold fn_Lw_nextDay
  refine vj_aload_n (j := 1) C dLw_nextDay_0 rfl rfl ?_
  refine vj_iconst (v := 0) C dLw_nextDay_1 (by decide) ?_
  refine vj_aload_n (j := 0) C dLw_nextDay_2 rfl rfl ?_
  refine vj_try (hpj := (fun j => if j = 1 then 11 else if j = 3 then 14 else 0)) (As := []) (st := [.int 0, .ref p1]) (b := p0) (ci := 8) (a1 := 0) C Z dLw_nextDay_3 (cm_Pm_nextDay l M p0) (cx_Pm_nextDay l hl9 M p0) rfl gl_nextDay rfl rfl rfl rfl rfl hl_nextDay ⟨Nat.le_of_ble_eq_true rfl, Nat.le_of_ble_eq_true rfl⟩ ⟨Nat.le_of_ble_eq_true rfl, Nat.le_of_ble_eq_true rfl⟩ rfl rfl (Nat.le_of_ble_eq_true rfl) ⟨Nat.le_of_ble_eq_true rfl, Nat.le_of_ble_eq_true rfl⟩ ?_ ?_ ?_
  · intro j
    by_cases h1 : j = 1
    · subst h1; exact Or.inr to_nextDay_1
    by_cases h3 : j = 3
    · subst h3; exact Or.inr to_nextDay_3
    left; intro M1; simp [h1, h3]
  · intro v M0
    show Vj x 0 0 6 [(0, .ref p0), (1, .ref p1)] [.int v, .int 0, .ref p1] M0 _
    refine vj_i2l C dLw_nextDay_6 ?_
    refine vj_last C dLw_nextDay_7 (fun M2 => ?_)
    refine vj_goto (tgt := 17) C dLw_nextDay_8 rfl ?_
    refine vj_iconst (v := 0) C dLw_nextDay_17 (by decide) ?_
    exact vj_ret C dLw_nextDay_18 rfl rfl (Nat.le_of_ble_eq_true rfl) (Nat.le_of_ble_eq_true rfl)
  · intro q j M1
    by_cases h1 : j = 1
    · subst h1
      show Vj x 1 6 11 [(0, .ref p0), (1, .ref p1)] [.ref q] M1 (some (1, M1))
      refine vj_astore_n (lv' := [(0, .ref p0), (1, .ref p1), (2, .ref q)]) C dLw_nextDay_11 rfl (by decide) [1, 2, 0] rfl ?_
      refine vj_iconst (v := 1) C dLw_nextDay_12 (by decide) ?_
      exact vj_ret C dLw_nextDay_13 rfl rfl (Nat.le_of_ble_eq_true rfl) (Nat.le_of_ble_eq_true rfl)
    by_cases h3 : j = 3
    · subst h3
      show Vj x 1 6 14 [(0, .ref p0), (1, .ref p1)] [.ref q] M1 (some (2, M1))
      refine vj_astore_n (lv' := [(0, .ref p0), (1, .ref p1), (2, .ref q)]) C dLw_nextDay_14 rfl (by decide) [1, 2, 0] rfl ?_
      refine vj_iconst (v := 2) C dLw_nextDay_15 (by decide) ?_
      exact vj_ret C dLw_nextDay_16 rfl rfl (Nat.le_of_ble_eq_true rfl) (Nat.le_of_ble_eq_true rfl)
    simp only [if_neg h1, if_neg h3]
    exact Vj_none
abbrev ws_Lw_course : List Cond := Cond.codeWith zyLw_course zbLw_course 5 (some .int) [(0, 10, 13, 21), (0, 10, 17, 13)] :: gw
def fn_Lw_course (M : Mm) (p0 : Nat) (p1 : Int32) (p2 : Int32) (p3 : Nat) : Rr := fo_try M 8 p0 (fn_Pm_course false M p0 p1 p2) (fn_Pm_course true M p0 p1 p2) (fun v M0 => fo_sl M0 p3 0 v.toInt64 fun M2 => some (0, M2)) (fun j M1 => if j = 1 then some (1, M1) else if j = 2 then some (2, M1) else none)
theorem kl_course_a : (Jvm.Cond.methodLink "PledgeMonitorLaw" (26 : Nat) ({ cls := "PledgeMonitor", name := "course", desc := "(II)I" } : Jvm.MethodName)) ∈ gw := gw_at 743 (by decide +kernel) (by decide +kernel)
theorem kl_course_b : (Jvm.Cond.instanceMethod ({ cls := "PledgeMonitor", name := "course", desc := "(II)I" } : Jvm.MethodName)) ∈ gw := gw_at 744 (by decide +kernel) (by decide +kernel)
theorem kl_course_c : (Jvm.Cond.selects "PledgeMonitor" ({ cls := "PledgeMonitor", name := "course", desc := "(II)I" } : Jvm.MethodName) ({ cls := "PledgeMonitor", name := "course", desc := "(II)I" } : Jvm.MethodName)) ∈ gw := gw_at 745 (by decide +kernel) (by decide +kernel)
theorem kl_course_d : (Jvm.Cond.code ({ cls := "PledgeMonitor", name := "course", desc := "(II)I" } : Jvm.MethodName) prog_1_method_17_code (3 : Nat) (Option.some Jvm.ClassFile.FieldType.int)) ∈ gw := gw_at 746 (by decide +kernel) (by decide +kernel)
theorem kl_course_e : (Jvm.Cond.initialized "PledgeMonitor") ∈ gw := gw_at 65 (by decide +kernel) (by decide +kernel)
theorem gl_course : GoodIn gw (wsV "PledgeMonitorLaw" 26 zR8 zyPm_course ws_Pm_course) := gd_V kl_course_a kl_course_b kl_course_c kl_course_e kl_course_d
theorem hl_course : zyPm_course.cls = zR8 ∧ zyPm_course.cls ≠ "java/lang/invoke/MethodHandle" ∧ zyPm_course.cls ≠ "java/lang/invoke/VarHandle" ∧ (parseMethodDescriptor zyPm_course.desc).map (fun d => d.parameters.length) = some 2 := by decide +kernel
theorem kt_course_1 : (Jvm.Cond.classLink "PledgeMonitorLaw" (21 : Nat) "java/lang/IllegalStateException") ∈ gw := gw_at 653 (by decide +kernel) (by decide +kernel)
theorem kt_course_2 : (Jvm.Cond.classLink "PledgeMonitorLaw" (13 : Nat) "java/lang/IllegalArgumentException") ∈ gw := gw_at 452 (by decide +kernel) (by decide +kernel)
theorem to_course_1 : th_ok "PledgeMonitorLaw" [(0, 10, 13, 21), (0, 10, 17, 13)] 5 1 13 := ⟨[], (0, 10, 13, 21), [(0, 10, 17, 13)], rfl, rfl, ⟨by decide, by decide, by decide, kt_course_1⟩, fun y hy => by cases hy⟩
theorem to_course_2 : th_ok "PledgeMonitorLaw" [(0, 10, 13, 21), (0, 10, 17, 13)] 5 2 17 := ⟨[(0, 10, 13, 21)], (0, 10, 17, 13), [], rfl, rfl, ⟨by decide, by decide, by decide, kt_course_2⟩, fun y hy => by
    simp only [List.mem_cons, List.not_mem_nil, or_false] at hy
    rcases hy with rfl
    · exact ⟨by decide, by decide, by decide, 1, kt_course_1, by decide +kernel⟩⟩
set_option maxHeartbeats 4000000 in
set_option maxRecDepth 100000 in
theorem ch_Lw_course (l : Launch) (hl9 : l.stackTraces = false) (M : Mm) (p0 : Nat) (p1 : Int32) (p2 : Int32) (p3 : Nat) : ch l zyLw_course ws_Lw_course { frames := 9, cells := 1, slots := 6, locals := 370 } (fun w => some (.int w)) [.ref p0, .int p1, .int p2, .ref p3] M (fn_Lw_course M p0 p1 p2 p3) := by
  refine ch_of (cc := zbLw_course) (maxL := 5) (ret := some .int) (hh := [(0, 10, 13, 21), (0, 10, 17, 13)]) (lv0 := [(0, .ref p0), (1, .int p1), (2, .int p2), (3, .ref p3)]) hl9 (by decide) rfl (Nat.le_of_ble_eq_true rfl) rfl rfl ?_
  intro x C Z
  unfold fn_Lw_course
  refine vj_aload_n (j := 3) C dLw_course_0 rfl rfl ?_
  refine vj_iconst (v := 0) C dLw_course_1 (by decide) ?_
  refine vj_aload_n (j := 0) C dLw_course_2 rfl rfl ?_
  refine vj_iload_n (j := 1) C dLw_course_3 rfl rfl ?_
  refine vj_iload_n (j := 2) C dLw_course_4 rfl rfl ?_
  refine vj_try (hpj := (fun j => if j = 1 then 13 else if j = 2 then 17 else 0)) (As := [.int p1, .int p2]) (st := [.int 0, .ref p3]) (b := p0) (ci := 8) (a1 := 2) C Z dLw_course_5 (cm_Pm_course l M p0 p1 p2) (cx_Pm_course l hl9 M p0 p1 p2) rfl gl_course rfl rfl rfl rfl rfl hl_course ⟨Nat.le_of_ble_eq_true rfl, Nat.le_of_ble_eq_true rfl⟩ ⟨Nat.le_of_ble_eq_true rfl, Nat.le_of_ble_eq_true rfl⟩ rfl rfl (Nat.le_of_ble_eq_true rfl) ⟨Nat.le_of_ble_eq_true rfl, Nat.le_of_ble_eq_true rfl⟩ ?_ ?_ ?_
  · intro j
    by_cases h1 : j = 1
    · subst h1; exact Or.inr to_course_1
    by_cases h2 : j = 2
    · subst h2; exact Or.inr to_course_2
    left; intro M1; simp [h1, h2]
  · intro v M0
    show Vj x 0 0 8 [(0, .ref p0), (1, .int p1), (2, .int p2), (3, .ref p3)] [.int v, .int 0, .ref p3] M0 _
    refine vj_i2l C dLw_course_8 ?_
    refine vj_last C dLw_course_9 (fun M2 => ?_)
    refine vj_goto (tgt := 21) C dLw_course_10 rfl ?_
    refine vj_iconst (v := 0) C dLw_course_21 (by decide) ?_
    exact vj_ret C dLw_course_22 rfl rfl (Nat.le_of_ble_eq_true rfl) (Nat.le_of_ble_eq_true rfl)
  · intro q j M1
    by_cases h1 : j = 1
    · subst h1
      show Vj x 1 6 13 [(0, .ref p0), (1, .int p1), (2, .int p2), (3, .ref p3)] [.ref q] M1 (some (1, M1))
      refine vj_astore (lv' := [(0, .ref p0), (1, .int p1), (2, .int p2), (3, .ref p3), (4, .ref q)]) C dLw_course_13 (by decide) [1, 2, 3, 4, 0] rfl ?_
      refine vj_iconst (v := 1) C dLw_course_15 (by decide) ?_
      exact vj_ret C dLw_course_16 rfl rfl (Nat.le_of_ble_eq_true rfl) (Nat.le_of_ble_eq_true rfl)
    by_cases h2 : j = 2
    · subst h2
      show Vj x 1 6 17 [(0, .ref p0), (1, .int p1), (2, .int p2), (3, .ref p3)] [.ref q] M1 (some (2, M1))
      refine vj_astore (lv' := [(0, .ref p0), (1, .int p1), (2, .int p2), (3, .ref p3), (4, .ref q)]) C dLw_course_17 (by decide) [1, 2, 3, 4, 0] rfl ?_
      refine vj_iconst (v := 2) C dLw_course_19 (by decide) ?_
      exact vj_ret C dLw_course_20 rfl rfl (Nat.le_of_ble_eq_true rfl) (Nat.le_of_ble_eq_true rfl)
    simp only [if_neg h1, if_neg h2]
    exact Vj_none
abbrev ws_Lw_threat : List Cond := Cond.codeWith zyLw_threat zbLw_threat 5 (some .int) [(0, 10, 13, 21), (0, 10, 17, 13)] :: gw
def fn_Lw_threat (M : Mm) (p0 : Nat) (p1 : Int32) (p2 : Int32) (p3 : Nat) : Rr := fo_try M 8 p0 (fn_Pm_threat false M p0 p1 p2) (fn_Pm_threat true M p0 p1 p2) (fun v M0 => fo_sl M0 p3 0 v.toInt64 fun M2 => some (0, M2)) (fun j M1 => if j = 1 then some (1, M1) else if j = 2 then some (2, M1) else none)
theorem kl_threat_a : (Jvm.Cond.methodLink "PledgeMonitorLaw" (29 : Nat) ({ cls := "PledgeMonitor", name := "threat", desc := "(II)I" } : Jvm.MethodName)) ∈ gw := gw_at 781 (by decide +kernel) (by decide +kernel)
theorem kl_threat_b : (Jvm.Cond.instanceMethod ({ cls := "PledgeMonitor", name := "threat", desc := "(II)I" } : Jvm.MethodName)) ∈ gw := gw_at 782 (by decide +kernel) (by decide +kernel)
theorem kl_threat_c : (Jvm.Cond.selects "PledgeMonitor" ({ cls := "PledgeMonitor", name := "threat", desc := "(II)I" } : Jvm.MethodName) ({ cls := "PledgeMonitor", name := "threat", desc := "(II)I" } : Jvm.MethodName)) ∈ gw := gw_at 783 (by decide +kernel) (by decide +kernel)
theorem kl_threat_d : (Jvm.Cond.code ({ cls := "PledgeMonitor", name := "threat", desc := "(II)I" } : Jvm.MethodName) prog_1_method_18_code (5 : Nat) (Option.some Jvm.ClassFile.FieldType.int)) ∈ gw := gw_at 784 (by decide +kernel) (by decide +kernel)
theorem kl_threat_e : (Jvm.Cond.initialized "PledgeMonitor") ∈ gw := gw_at 65 (by decide +kernel) (by decide +kernel)
theorem gl_threat : GoodIn gw (wsV "PledgeMonitorLaw" 29 zR8 zyPm_threat ws_Pm_threat) := gd_V kl_threat_a kl_threat_b kl_threat_c kl_threat_e kl_threat_d
theorem hl_threat : zyPm_threat.cls = zR8 ∧ zyPm_threat.cls ≠ "java/lang/invoke/MethodHandle" ∧ zyPm_threat.cls ≠ "java/lang/invoke/VarHandle" ∧ (parseMethodDescriptor zyPm_threat.desc).map (fun d => d.parameters.length) = some 2 := by decide +kernel
theorem kt_threat_1 : (Jvm.Cond.classLink "PledgeMonitorLaw" (21 : Nat) "java/lang/IllegalStateException") ∈ gw := gw_at 653 (by decide +kernel) (by decide +kernel)
theorem kt_threat_2 : (Jvm.Cond.classLink "PledgeMonitorLaw" (13 : Nat) "java/lang/IllegalArgumentException") ∈ gw := gw_at 452 (by decide +kernel) (by decide +kernel)
theorem to_threat_1 : th_ok "PledgeMonitorLaw" [(0, 10, 13, 21), (0, 10, 17, 13)] 5 1 13 := ⟨[], (0, 10, 13, 21), [(0, 10, 17, 13)], rfl, rfl, ⟨by decide, by decide, by decide, kt_threat_1⟩, fun y hy => by cases hy⟩
theorem to_threat_2 : th_ok "PledgeMonitorLaw" [(0, 10, 13, 21), (0, 10, 17, 13)] 5 2 17 := ⟨[(0, 10, 13, 21)], (0, 10, 17, 13), [], rfl, rfl, ⟨by decide, by decide, by decide, kt_threat_2⟩, fun y hy => by
    simp only [List.mem_cons, List.not_mem_nil, or_false] at hy
    rcases hy with rfl
    · exact ⟨by decide, by decide, by decide, 1, kt_threat_1, by decide +kernel⟩⟩
set_option maxHeartbeats 4000000 in
set_option maxRecDepth 100000 in
theorem ch_Lw_threat (l : Launch) (hl9 : l.stackTraces = false) (M : Mm) (p0 : Nat) (p1 : Int32) (p2 : Int32) (p3 : Nat) : ch l zyLw_threat ws_Lw_threat { frames := 9, cells := 1, slots := 6, locals := 372 } (fun w => some (.int w)) [.ref p0, .int p1, .int p2, .ref p3] M (fn_Lw_threat M p0 p1 p2 p3) := by
  refine ch_of (cc := zbLw_threat) (maxL := 5) (ret := some .int) (hh := [(0, 10, 13, 21), (0, 10, 17, 13)]) (lv0 := [(0, .ref p0), (1, .int p1), (2, .int p2), (3, .ref p3)]) hl9 (by decide) rfl (Nat.le_of_ble_eq_true rfl) rfl rfl ?_
  intro x C Z
  unfold fn_Lw_threat
  refine vj_aload_n (j := 3) C dLw_threat_0 rfl rfl ?_
  refine vj_iconst (v := 0) C dLw_threat_1 (by decide) ?_
  refine vj_aload_n (j := 0) C dLw_threat_2 rfl rfl ?_
  refine vj_iload_n (j := 1) C dLw_threat_3 rfl rfl ?_
  refine vj_iload_n (j := 2) C dLw_threat_4 rfl rfl ?_
  refine vj_try (hpj := (fun j => if j = 1 then 13 else if j = 2 then 17 else 0)) (As := [.int p1, .int p2]) (st := [.int 0, .ref p3]) (b := p0) (ci := 8) (a1 := 2) C Z dLw_threat_5 (cm_Pm_threat l M p0 p1 p2) (cx_Pm_threat l hl9 M p0 p1 p2) rfl gl_threat rfl rfl rfl rfl rfl hl_threat ⟨Nat.le_of_ble_eq_true rfl, Nat.le_of_ble_eq_true rfl⟩ ⟨Nat.le_of_ble_eq_true rfl, Nat.le_of_ble_eq_true rfl⟩ rfl rfl (Nat.le_of_ble_eq_true rfl) ⟨Nat.le_of_ble_eq_true rfl, Nat.le_of_ble_eq_true rfl⟩ ?_ ?_ ?_
  · intro j
    by_cases h1 : j = 1
    · subst h1; exact Or.inr to_threat_1
    by_cases h2 : j = 2
    · subst h2; exact Or.inr to_threat_2
    left; intro M1; simp [h1, h2]
  · intro v M0
    show Vj x 0 0 8 [(0, .ref p0), (1, .int p1), (2, .int p2), (3, .ref p3)] [.int v, .int 0, .ref p3] M0 _
    refine vj_i2l C dLw_threat_8 ?_
    refine vj_last C dLw_threat_9 (fun M2 => ?_)
    refine vj_goto (tgt := 21) C dLw_threat_10 rfl ?_
    refine vj_iconst (v := 0) C dLw_threat_21 (by decide) ?_
    exact vj_ret C dLw_threat_22 rfl rfl (Nat.le_of_ble_eq_true rfl) (Nat.le_of_ble_eq_true rfl)
  · intro q j M1
    by_cases h1 : j = 1
    · subst h1
      show Vj x 1 6 13 [(0, .ref p0), (1, .int p1), (2, .int p2), (3, .ref p3)] [.ref q] M1 (some (1, M1))
      refine vj_astore (lv' := [(0, .ref p0), (1, .int p1), (2, .int p2), (3, .ref p3), (4, .ref q)]) C dLw_threat_13 (by decide) [1, 2, 3, 4, 0] rfl ?_
      refine vj_iconst (v := 1) C dLw_threat_15 (by decide) ?_
      exact vj_ret C dLw_threat_16 rfl rfl (Nat.le_of_ble_eq_true rfl) (Nat.le_of_ble_eq_true rfl)
    by_cases h2 : j = 2
    · subst h2
      show Vj x 1 6 17 [(0, .ref p0), (1, .int p1), (2, .int p2), (3, .ref p3)] [.ref q] M1 (some (2, M1))
      refine vj_astore (lv' := [(0, .ref p0), (1, .int p1), (2, .int p2), (3, .ref p3), (4, .ref q)]) C dLw_threat_17 (by decide) [1, 2, 3, 4, 0] rfl ?_
      refine vj_iconst (v := 2) C dLw_threat_19 (by decide) ?_
      exact vj_ret C dLw_threat_20 rfl rfl (Nat.le_of_ble_eq_true rfl) (Nat.le_of_ble_eq_true rfl)
    simp only [if_neg h1, if_neg h2]
    exact Vj_none
