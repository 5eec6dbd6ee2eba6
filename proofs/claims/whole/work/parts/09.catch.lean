/-! catching: a method with a table of handlers calls one that may throw -/
def ex_p : List (String × String) := [("java/lang/IllegalStateException", "java/lang/IllegalArgumentException"), ("java/lang/IllegalStateException", "java/lang/UnsupportedOperationException"), ("java/lang/IllegalArgumentException", "java/lang/IllegalStateException"), ("java/lang/IllegalArgumentException", "java/lang/UnsupportedOperationException"), ("java/lang/UnsupportedOperationException", "java/lang/IllegalStateException"), ("java/lang/UnsupportedOperationException", "java/lang/IllegalArgumentException")]
def zn (U : State) : Prop := ∀ q ∈ ex_p, va_Nc q.1 q.2 U
theorem zn.moved {u U : State} (hvm : u.vm.Alike U.vm) (h : zn u) : zn U := fun q hq => by
  obtain ⟨c, t, h1, h2, h3⟩ := h q hq
  exact ⟨c, t, by rw [hvm.findClass]; exact h1, by rw [hvm.findClass]; exact h2, by rw [hvm.assignable]; exact h3⟩
def tb (hh : List (Nat × Nat × Nat × Nat)) : List ExceptionTableEntry := hh.map fun q => ⟨q.1, q.2.1, q.2.2.1, q.2.2.2⟩
theorem tb_of : ∀ (l : List ExceptionTableEntry) (hh : List (Nat × Nat × Nat × Nat)), l.map (fun h => (h.startPc, h.endPc, h.handlerPc, h.catchType)) = hh → l = tb hh
  | [], hh, h => by rw [← h]; rfl
  | a :: l, hh, h => by
    rw [← h]
    show a :: l = _ :: tb (l.map _)
    rw [← tb_of l _ rfl]
/-- one row of the table: its name is resolved, and takes the object or doesn't -/
theorem th_one {Q : Handler → Pre} {E : CtlPost} {e : Env} {d : Bool} {acts : List Action} {s : State} {f : JFrame} {a : Addr} {x : ExceptionTableEntry} {t : List ExceptionTableEntry} {c : ClassId} {cell : Cell} (b : Bool) (hx : covers x f.pc = true) (h0 : x.catchType ≠ 0)
    (hl : s.vm.ClassLinks e.platform f.method.cls x.catchType c) (hcell : s.heap[a]? = some cell) (hobj : ∀ k, cell.vm ≠ .statics k)
    (hk : ∃ k, s.vm.classes[cell.cls]? = some k) (hc : ∃ k, s.vm.classes[c]? = some k) (hb : s.vm.assignable cell.cls c = b) :
    wp (findHandler.go f a (x :: t)) Q E e d acts s ↔ if b = true then Q (.found x.handlerPc) d acts (s.setVm (s.vm.noted f.method.cls x.catchType (.cls c))) else wp (findHandler.go f a t) Q E e d acts (s.setVm (s.vm.noted f.method.cls x.catchType (.cls c))) := by
  simp only [covers] at hx
  obtain ⟨ha, ht⟩ := (resolveClass_links e.toSetting hl).op (op := VmOp.resolveClass f.method.cls x.catchType) rfl
  have hal : s.vm.Alike (s.vm.noted f.method.cls x.catchType (.cls c)) := (Vm.Alike.refl s.vm).noted _ _ _
  obtain ⟨k1, hk1⟩ := hk
  obtain ⟨k2, hk2⟩ := hc
  obtain ⟨k1', hk1', -⟩ := hal.2.2 _ _ hk1
  obtain ⟨k2', hk2', -⟩ := hal.2.2 _ _ hk2
  have hb' : (s.vm.noted f.method.cls x.catchType (.cls c)).assignable cell.cls c = b := by rw [hal.assignable]; exact hb
  cases b <;> simp [findHandler.go, hx, h0, ha, ht, hcell, hobj, hk1', hk2', hb', VmOp.dirties, VmOp.acts]
theorem th_go {e : Env} {s₀ : State} {f : JFrame} {a : Addr} {cell : Cell} (hobj : ∀ k, cell.vm ≠ .statics k) (hk0 : ∃ k, s₀.vm.classes[cell.cls]? = some k)
    (x : ExceptionTableEntry) (rest : List ExceptionTableEntry) (hx : covers x f.pc = true) (h0 : x.catchType ≠ 0) {cx : ClassId} (hlx : s₀.vm.ClassLinks e.platform f.method.cls x.catchType cx) (hfx : s₀.vm.assignable cell.cls cx = true) :
    ∀ (pre : List ExceptionTableEntry) (S : State), s₀.WarmedH S.vm → S.heap[a]? = some cell → (∀ y ∈ pre, covers y f.pc = true ∧ y.catchType ≠ 0 ∧ ∃ cy, s₀.vm.ClassLinks e.platform f.method.cls y.catchType cy ∧ s₀.vm.assignable cell.cls cy = false) →
      ∃ vm', s₀.WarmedH vm' ∧ ∀ (Q : Handler → Pre) (E : CtlPost) (d : Bool) (acts : List Action), wp (findHandler.go f a (pre ++ x :: rest)) Q E e d acts S ↔ Q (.found x.handlerPc) d acts (S.setVm vm') := by
  obtain ⟨k0, hk0⟩ := hk0
  intro pre
  induction pre with
  | nil =>
    intro S hW hcell _
    obtain ⟨k0', hk0', -⟩ := hW.alike.2.2 _ _ hk0
    obtain ⟨dk, _, _, kt, hd, _, _, _, _, hkt, _, hop⟩ := hlx.here
    obtain ⟨kt', hkt', -⟩ := hW.alike.2.2 _ _ hkt
    refine ⟨_, hW.noted hd hop (State.rightAt_cls hlx), fun Q E d acts => ?_⟩
    rw [List.nil_append, th_one true hx h0 (hW.classLinks hlx) hcell hobj ⟨k0', hk0'⟩ ⟨kt', hkt'⟩ (by rw [hW.alike.assignable]; exact hfx), if_pos rfl]
  | cons y ys ih =>
    intro S hW hcell hpass
    obtain ⟨k0', hk0', -⟩ := hW.alike.2.2 _ _ hk0
    obtain ⟨hy, hy0, cy, hly, hfy⟩ := hpass y List.mem_cons_self
    obtain ⟨dk, _, _, kt, hd, _, _, _, _, hkt, _, hop⟩ := hly.here
    obtain ⟨kt', hkt', -⟩ := hW.alike.2.2 _ _ hkt
    obtain ⟨vm', hW', hq⟩ := ih (S.setVm (S.vm.noted f.method.cls y.catchType (.cls cy))) (hW.noted hd hop (State.rightAt_cls hly)) hcell (fun z hz => hpass z (List.mem_cons_of_mem _ hz))
    refine ⟨vm', hW', fun Q E d acts => ?_⟩
    rw [List.cons_append, th_one false hy hy0 (hW.classLinks hly) hcell hobj ⟨k0', hk0'⟩ ⟨kt', hkt'⟩ (by rw [hW.alike.assignable]; exact hfy), if_neg (by decide)]
    exact hq Q E d acts
theorem th_step {e : Env} {s : State} {a : Addr} {f : JFrame} {r : List Frame} {pc : Nat} {vm' : Vm} (hfind : ∀ (Q : Handler → Pre) (E : CtlPost) (d : Bool) (acts : List Action), wp (findHandler f a) Q E e d acts s ↔ Q (.found pc) d acts (s.setVm vm')) :
    (stepThrowing e s a (.java f :: r)).Is ((s.setVm vm').setFrames (.java { f with pc := pc, stack := [.ref a] } :: r)) [] := by
  simp only [stepThrowing, searchFrame, vmDo]
  generalize hr : Sem.go _ e false [] s = res
  obtain ⟨as, rfl, ha⟩ := Sem.eq_ok_of hr (a := Handler.found pc) (s' := s.setVm vm') (acts' := []) (by simp [hfind _ _ _ _])
  exact ⟨rfl, ha⟩
theorem th_caught {tbl : Tables} {e : Env} {s target : State} {g : JFrame} {c : Code} {below : List Frame} {a : Addr} (h : At s g.method c below) {pc : Nat} {vm' : Vm}
    (hfind : ∀ (Q : Handler → Pre) (E : CtlPost) (d : Bool) (acts : List Action), wp (findHandler g a) Q E e d acts ((s.setTop g).pushFrame (.throwing a)) ↔ Q (.found pc) d acts (((s.setTop g).pushFrame (.throwing a)).setVm vm'))
    (hrest : Steps tbl e below ((s.setVm vm').setTop { g with pc := pc, stack := [.ref a] }) target) : Steps tbl e below ((s.setTop g).pushFrame (.throwing a)) target := by
  have hsf : ∀ (u : State) (v : Vm) (F G : List Frame), ((u.setFrames F).setVm v).setFrames G = (u.setVm v).setFrames G := fun u v F G => by
    have h1 : (u.setFrames F).setVm v = (u.setVm v).setFrames F := rfl
    rw [h1, State.setFrames_setFrames]
  obtain ⟨hgo, hw⟩ := h.throwing a
  refine Steps.head hgo hw ?_
  rw [stepThread_throwing (frames_entered h.top _), (th_step (s := (s.setTop g).pushFrame (.throwing a)) hfind).1]
  obtain ⟨g₀, hg⟩ := Option.isSome_iff_exists.mp h.top
  obtain ⟨r, hr⟩ := State.topJava?_eq_some.mp hg
  have hr' : (s.setVm vm').frames = .java g₀ :: r := hr
  rw [State.setTop_of_frames _ hr'] at hrest
  rw [hr, List.tail_cons, State.pushFrame, hsf, State.setTop_of_frames _ hr, hsf]
  exact hrest
/-- what a caller with handlers knows: the statics, the tables' words, its own table -/
def Zh (x : Cx) (hh : List (Nat × Nat × Nat × Nat)) : Prop :=
  match x with
  | (_, l, _, _, s, _, _, _, _, c, _, _, A, _, _) => zh A s s.heap ∧ zk s ∧ zn s ∧ c.exceptionTable.toList = tb hh ∧ l.stackTraces = false
def mm_un (M : Mm) : Mm := (mm_z M, 0, mm_s M, mm_i M, mm_r M, mm_l M)
def fo_try (M : Mm) (ci b : Nat) (o0 o1 : Rr) (K : Int32 → Mm → Rr) (Kx : Nat → Mm → Rr) : Rr := if mm_s M b = (1, ci) then (match o0 with | some (r, M1) => K r M1 | none => match o1 with | some (_, M1) => Kx (mm_e M1) (mm_un M1) | none => none) else none
/-- the table hh takes kind j at pc, by the row with the handler hp: the rows ahead name other kinds -/
def th_ok (own : String) (hh : List (Nat × Nat × Nat × Nat)) (pc j hp : Nat) : Prop := ∃ (pre : List (Nat × Nat × Nat × Nat)) (x : Nat × Nat × Nat × Nat) (suf : List (Nat × Nat × Nat × Nat)), hh = pre ++ x :: suf ∧ x.2.2.1 = hp ∧ (x.1 ≤ pc ∧ pc < x.2.1 ∧ x.2.2.2 ≠ 0 ∧ Cond.classLink own x.2.2.2 (ex_n j) ∈ gw) ∧ ∀ y ∈ pre, y.1 ≤ pc ∧ pc < y.2.1 ∧ y.2.2.2 ≠ 0 ∧ ∃ i, Cond.classLink own y.2.2.2 (ex_n i) ∈ gw ∧ (ex_n j, ex_n i) ∈ ex_p
section VTR
variable {x : Cx} {l0 : Launch} {cc : ByteArray} {nL0 : Nat} {own mn : String} {rm : Room} {rt : Option FieldType} {q0 : List Frame → va_G → (Nat → ClassId) → (Nat → Prop) → Array Value → State → Int32 → Mm → State → Prop} {vo0 : Int32 → Option Value} {mc0 ms0 : Nat} {n k pc : Nat} {lv : List (Nat × Value)} {st : List Value} {M : Mm} {o : Rr}
theorem vj_wid {n2 k2 : Nat} (h1 : n ≤ n2) (h2 : k ≤ k2) (h : Vj x n2 k2 pc lv st M o) : Vj x n k pc lv st M o := by
  obtain ⟨p, l, e, R, s, m, args, below, meth, c, D, cA, A, QQ, nL⟩ := x
  intro r M' ho H locs ls hW hG hS hl
  exact W.widen h1 h2 (h r M' ho H locs ls hW hG hS hl)
theorem mm_W.un {D : va_G} {cA : Nat → ClassId} {M : Mm} {H : Heap} (h : mm_W D cA M H) : mm_W D cA (mm_un M) H := ⟨h.1, fun q => (h.2 q).to rfl rfl rfl rfl (fun _ => rfl)⟩
set_option maxHeartbeats 4000000 in
/-- the throwing call: behind it the handler stands on the exception alone -/
theorem th_call {p : Program} {l : Launch} {e : Env} {R : Room} {s : State} {m : MethodId} {args : Array Value} {below : List Frame} {meth : Method} {c : Code} {H : Heap} {locs : List Loc} {ls : Array Slot} {D : va_G} {cA : Nat → ClassId} {A : Nat → Prop} {Q : State → Prop}
    {y : MethodName} {bytes : ByteArray} {maxL idx a1 : Nat} {ret : Option FieldType} {ws ws' : List Cond} {rm1 : Room} {o1 : Rr} {As st0 : List Value} {ci b : Nat} {Cn : String} {Tt : u_T} {N : Nat} {hh : List (Nat × Nat × Nat × Nat)} {hp : Nat} {r1 : Int32} {M1 : Mm}
    (hx : p.tables.exec = Jvm.exec) (hb : c.code = cc) (hml : c.maxLocals = ls.size) (hown : s.vm.findClass own = some m.cls) (hts : ∀ w ∈ gw, w.before args s = true) (hK : mm_K D cA s) (hA : ∀ q, s.heap.size ≤ q → A q)
    (hzh : zh A s s.heap) (hzk : zk s) (hzn : zn s) (htab : c.exceptionTable.toList = tb hh)
    (d : decode cc pc = .ok (.invokevirtual idx, 3)) (hX : cx l y ws rm1 1 6 (.ref b :: As) M o1) (hcl : vwCl[ci]? = some (Cn, Tt, N)) (hG1 : GoodIn gw (wsV own idx Cn y ws)) (hw : ws = Cond.code y bytes maxL ret :: ws') (hrc : rm1.cells = 1) (hrs : rm1.slots = 6)
    (hd : y.cls = Cn ∧ y.cls ≠ "java/lang/invoke/MethodHandle" ∧ y.cls ≠ "java/lang/invoke/VarHandle" ∧ (parseMethodDescriptor y.desc).map (fun d => d.parameters.length) = some a1) (hR2 : rm1.frames + 1 ≤ R.frames ∧ 8 + (maxL + 11) + rm1.locals ≤ R.locals) (hlen : As.length = a1)
    (hst : st0 = As.reverse ++ .ref b :: st) (hcat : (st.map fun v => v.category).sum ≤ 8) (hf : n + 1 ≤ R.cells ∧ k + 6 ≤ R.slots)
    (hW : mm_W D cA M H) (hG : mm_G A M) (hS : va_S A s.heap H locs) (hs : mm_s M b = (1, ci)) (ho : o1 = some (r1, M1)) (hok : th_ok own hh pc (mm_e M1) hp)
    (kk : ∀ (q : Nat) (H1 : Heap) (locs1 : List Loc), mm_W D cA (mm_un M1) H1 → mm_G A (mm_un M1) → va_S A s.heap H1 locs1 → W p l e R s m args below meth c H1 locs1 (n + 1) (k + 6) Q (F0 m hp ls [.ref q])) : W p l e R s m args below meth c H locs n k Q (F0 m pc ls st0) := by
  intro T hT X
  obtain ⟨hC, hy1, hy2, hpar⟩ := hd
  have ok : ∀ w ∈ wsV own idx Cn y ws, w.before args s = true := fun w h => hts w (hG1 w h).1
  have hlink : (Cond.methodLink own idx y).before args s = true := ok _ (by simp [wsV])
  have hinst : (Cond.instanceMethod y).before args s = true := ok _ (by simp [wsV])
  have hsel : (Cond.selects Cn y y).before args s = true := ok _ (by simp [wsV])
  have hini : (Cond.initialized y.cls).before args s = true := by rw [hC]; exact ok _ (by simp [wsV])
  have hcode : (Cond.code y bytes maxL ret).before args s = true := ok _ (by rw [hw]; simp [wsV])
  obtain ⟨cellB, hcB, hoB, hclB⟩ := hW.recv hK hs hcl
  obtain ⟨mk, methM, hnamed, hmethM, hstM, habM⟩ := Cond.instanceMethod_spec hinst
  obtain ⟨methM', cM, hmethM', -, -, -, -, -, -, hsigM⟩ := Cond.code_spec hnamed hcode
  cases hmethM.symm.trans hmethM'
  obtain ⟨c2, r2, m2, q1, q2, q3, q4, kP, hkP, hkPi⟩ := Cond.selects_spec hsel
  cases hclB.symm.trans q1
  cases (State.methodFound?_of_named hnamed ⟨hy1, hy2⟩).symm.trans q2
  cases hnamed.symm.trans q3
  have hselP : selectMethod e.platform s.vm cellB.cls mk = .method mk := by rw [Launch.admits_selectMethod X.admits]; exact q4
  have hal : As.length = methM.sig.parameters.length := by
    rw [hsigM] at hpar
    exact hlen.trans (Option.some.inj hpar).symm
  obtain ⟨vm₁, X₁, hstep₁⟩ := X.invokevirtual hx hown hlink hnamed hmethM hstM hkP hkPi ⟨hy1, hy2⟩ (a := b) (cell := cellB) (by rw [hT]; exact hcB)
    (fun z h => by rw [h] at hoB; cases hoB) hselP hmethM habM hkP hkPi (g := F0 m pc ls st0) rfl (argsL := As) (rest := st) hal hst (by rw [hb]; exact d)
  -- the callee's own road
  have hpl : e.platform.magicAccessors = ({} : Platform).magicAccessors := by rw [X.admits.platform]
  have hW₁ : s.WarmedH (T.setVm vm₁).vm := X₁.warmed
  have hall : ∀ w ∈ ws, w.before (Value.ref b :: As).toArray (T.setVm vm₁) = true := fun w h => word_at hW₁ (hG1 w (List.mem_append_right _ h)).2 (hts w (hG1 w (List.mem_append_right _ h)).1)
  have hn₁ := X₁.named hnamed
  have h2 : (Cond.code y bytes maxL ret).before (Value.ref b :: As).toArray (T.setVm vm₁) = true := hall _ (by rw [hw]; exact List.mem_cons_self)
  obtain ⟨methY, cY, hmY, hcY, -, hlY, -, -, -, -⟩ := Cond.code_spec hn₁ h2
  obtain ⟨kY, hkY, -⟩ := className_of_methodNamed hn₁
  have h3 : (Cond.initialized y.cls).before (Value.ref b :: As).toArray (T.setVm vm₁) = true := word_at hW₁ (Or.inl (by first | rfl | simp [Cond.onTables, Cond.keeps, Cond.steady])) hini
  have hinitY : kY.init = .initialized := Cond.initialized_spec (findClass_of_methodNamed hn₁) hkY h3
  have hat : At (T.setVm vm₁) m c below := X₁.here
  have hmon : 2 * (F0 m pc ls st).monitorRoom + ((F0 m pc ls st).stack.map fun v => v.category).sum ≤ 8 := lv_room (rest := st) hcat
  have happ : (headSpec ws rm1).appliesLoose y e.platform ((T.setVm vm₁).calling (F0 m pc ls st) mk (Value.ref b :: As).toArray) = true :=
    Spec.appliesLoose_calling (g := F0 m pc ls st) hat (by rw [hb]; exact d) hn₁ hkY hinitY
      (X₁.room_calling (g := F0 m pc ls st) (R' := rm1) hml.symm hmY hcY hR2.1 (by rw [hlY]; omega) (by rw [hrc]; exact hf.1) (by rw [hrs]; exact hf.2)) (atoms_intro hall)
  obtain ⟨mid, hmid⟩ := hat.above
  have hfr : ((T.setVm vm₁).setTop (F0 m pc ls st)).frames = (.java (F0 m pc ls st) :: mid) ++ below := by rw [State.frames_setTop' _ hat.top, hmid]; rfl
  have hmove : ∀ q, mm_A M H.size q → A q := by
    intro q hq
    rcases hq with hq | hq
    · exact hG q hq
    · exact hA q (Nat.le_trans hS.1 hq)
  have hPc : va_Pc (Value.ref b :: As) (fun U => U.heap.size = H.size ∧ mm_W D cA M U.heap ∧ mm_K D cA U ∧ zh (mm_A M H.size) U U.heap ∧ zk U) (Value.ref b :: As).toArray ((T.setVm vm₁).calling (F0 m pc ls st) mk (Value.ref b :: As).toArray) := by
    have eh : ((T.setVm vm₁).calling (F0 m pc ls st) mk (Value.ref b :: As).toArray).heap = H := hT
    have ev : (T.setVm vm₁).vm = ((T.setVm vm₁).calling (F0 m pc ls st) mk (Value.ref b :: As).toArray).vm := rfl
    refine ⟨rfl, by rw [eh], by rw [eh]; exact hW, mm_K.same ev (mm_K.warm hW₁ hK), ?_, zk.same ev (zk.warm hW₁ hzk)⟩
    rw [eh]
    exact ((hzh.kept hS.2.1).moved hW₁.alike).narrow (fun q _ hq => hmove q hq)
  obtain ⟨oc, s₂, hsteps, -, hend, hq⟩ := Steps.callFree (hX r1 M1 ho D cA H.size) p X₁.admits X₁.cas X₁.clock (acts := []) hfr happ hPc trivial
  obtain ⟨q, ce, L, rfl, hce, hcv, hcf, hWd, hsm, hL, hW2, hG2, hF2⟩ := hq
  have e9 : (((T.setVm vm₁).setTop (F0 m pc ls st)).pushFrame (Frame.invoking mk (Value.ref b :: As).toArray)).heap = H := hT
  have hF1 : H.size ≤ s₂.heap.size := by
    have h := hF2.1
    rw [e9] at h
    exact h
  have hF3 : ∀ w : Nat, w < H.size → ¬ mm_A M H.size w → s₂.heap[w]? = H[w]? := fun w h1 h2 => by
    have h := hF2.2 w (by rw [e9]; exact h1) h2
    rw [e9] at h
    exact h
  rw [State.frames_setTop' _ hat.top] at hend
  have htl : (T.setVm vm₁).frames.tail = below := X₁.tail
  rw [htl] at hend
  obtain ⟨T', X', hW', hB', hs₂⟩ := X₁.outOfThrown (g := F0 m pc ls st) rfl hend hWd hsm
  have hh2 : T'.heap = s₂.heap := by rw [hs₂]; exact (throwing_heap T' (F0 m pc ls st) q).symm
  -- the table
  obtain ⟨pre, z, suf, hsplit, hhp, ⟨hz1, hz2, hz0, hzl⟩, hpre⟩ := hok
  have hcfs : s.vm.findClass (ex_n (mm_e M1)) = some ce.cls := by
    have h9 : ((T.setVm vm₁).calling (F0 m pc ls st) mk (Value.ref b :: As).toArray).vm.findClass (ex_n (mm_e M1)) = some ce.cls := hcf
    rw [← hW₁.alike.findClass]
    exact h9
  obtain ⟨k9, h9, -⟩ := Vm.findClass_spec hcfs
  have hcastE : (Cond.castable (ex_n (mm_e M1)) (ex_n (mm_e M1))).before args s = true := by
    refine va_Nw.use rfl (hzk.1 _ ?_)
    show ex_n (mm_e M1) ∈ ex_c
    unfold ex_n
    split <;> simp [ex_c]
  obtain ⟨c3, c4, hc3, hc4, hasg⟩ := Cond.castable_spec hcastE
  cases hcfs.symm.trans hc3
  cases hcfs.symm.trans hc4
  obtain ⟨c5, hc5, hcl5⟩ := Cond.classLink_spec hown (hts _ hzl) e.platform hpl
  cases hcfs.symm.trans hc5
  obtain ⟨vm', hWf, hfind⟩ := th_go (e := e) (s₀ := s) (f := F0 m pc ls st) (a := q) (cell := ce) (fun kz hz => by rw [hcv] at hz; cases hz) ⟨k9, h9⟩ ⟨z.1, z.2.1, z.2.2.1, z.2.2.2⟩ (tb suf) (by simp [covers, hz1, hz2]) hz0 hcl5 hasg (tb pre) ((T'.setTop (F0 m pc ls st)).pushFrame (.throwing q)) (by rw [throwing_vm]; exact X'.warmed) (by rw [throwing_heap, hh2]; exact hce) (by
      intro yy hyy
      obtain ⟨q9, hq9, rfl⟩ := List.mem_map.mp hyy
      obtain ⟨g1, g2, g3, i, g4, g5⟩ := hpre q9 hq9
      obtain ⟨c6, hc6, hcl6⟩ := Cond.classLink_spec hown (hts _ g4) e.platform hpl
      obtain ⟨ca, cb, w1, w2, w3⟩ := hzn _ g5
      cases hcfs.symm.trans w1
      cases hc6.symm.trans w2
      exact ⟨by simp [covers, g1, g2], g3, c6, hcl6, w3⟩)
  have hmeth' : ((T'.setTop (F0 m pc ls st)).pushFrame (.throwing q)).vm.method? (F0 m pc ls st).method = some meth := by rw [throwing_vm]; exact X'.method'
  have X2 := X'.noted hWf
  obtain ⟨t2, a1, b1⟩ := kk q T'.heap (locs ++ L) (by rw [hh2]; exact hW2.un) ((fun w hw => hmove w (hG2 w hw)) : mm_G A (mm_un M1))
    ⟨by rw [hh2]; exact Nat.le_trans hS.1 hF1, fun w h1 h2 => by
      rw [hh2, hF3 w (Nat.lt_of_lt_of_le h1 hS.1) (fun z9 => h2 (hmove w z9))]
      exact hS.2.1 w h1 h2, fun w hw => by
      rcases List.mem_append.mp hw with h | h
      · exact hS.2.2 w h
      · exact hmove _ (hL w h)⟩ (T'.setVm vm') rfl X2
  refine ⟨t2, ?_, b1⟩
  refine hstep₁ _ fun acts => ?_
  rw [doInvoke_state]
  refine hsteps.trans ?_
  rw [hs₂]
  refine th_caught X'.here (pc := hp) (vm' := vm') ?_ a1
  intro Q9 E9 d9 acts9
  rw [W.findHandler_eq hmeth' X'.code, htab, hsplit]
  have ea : tb (pre ++ z :: suf) = tb pre ++ ⟨z.1, z.2.1, z.2.2.1, z.2.2.2⟩ :: tb suf := by simp [tb]
  rw [ea, ← hhp]
  exact hfind Q9 E9 d9 acts9
end VTR
