/-! what throws: the kinds are numbered, 1 IllegalStateException, 2 IllegalArgumentException, 3 UnsupportedOperationException -/
def ex_n : Nat → String := fun k => match k with
  | 1 => "java/lang/IllegalStateException"
  | 2 => "java/lang/IllegalArgumentException"
  | _ => "java/lang/UnsupportedOperationException"
def ex_up : List String := ["java/lang/RuntimeException", "java/lang/Exception"]
/-- words of the tables that ride by laws of their own -/
def ex_c : List String := ["java/lang/IllegalStateException", "java/lang/IllegalArgumentException", "java/lang/UnsupportedOperationException"]
def ex_d : List MethodName := [Bundle.init0 "java/lang/RuntimeException", Bundle.init0 "java/lang/Exception", Bundle.init0 Bundle.tN]
/-- words that speak of the heap -/
def ex_h : List Cond := [.isRef (.static Bundle.tN "UNASSIGNED_STACK" Bundle.steD), .isRef (.static Bundle.tN "SUPPRESSED_SENTINEL" Bundle.listD), .laysStatic Bundle.tN "UNASSIGNED_STACK" Bundle.steD, .laysStatic Bundle.tN "SUPPRESSED_SENTINEL" Bundle.listD]
def ex_ok (w : Cond) : Prop := w ∈ gw ∨ w ∈ ex_h ∨ w ∈ ex_c.map (fun q => Cond.castable q q) ∨ w ∈ ex_d.map (fun y => Cond.declares y)
theorem ex_w1 : ∀ w ∈ Bundle.ownAtoms0 "PledgeMonitor" 105 (ex_n 1) ex_up, w ∈ gw ∨ w ∈ ex_h ∨ w ∈ ex_c.map (fun q => Cond.castable q q) ∨ w ∈ ex_d.map (fun y => Cond.declares y) := by decide +kernel
theorem ex_w2 : ∀ w ∈ Bundle.ownAtoms0 "PledgeMonitor" 82 (ex_n 2) ex_up, w ∈ gw ∨ w ∈ ex_h ∨ w ∈ ex_c.map (fun q => Cond.castable q q) ∨ w ∈ ex_d.map (fun y => Cond.declares y) := by decide +kernel
theorem ex_w3 : ∀ w ∈ Bundle.ownAtoms0 "PledgeMonitor" 92 (ex_n 3) ex_up, w ∈ gw ∨ w ∈ ex_h ∨ w ∈ ex_c.map (fun q => Cond.castable q q) ∨ w ∈ ex_d.map (fun y => Cond.declares y) := by decide +kernel
theorem ex_k1 : Cond.classLink "PledgeMonitor" 103 (ex_n 1) ∈ gw ∧ Cond.initialized (ex_n 1) ∈ gw := by decide +kernel
theorem ex_k2 : Cond.classLink "PledgeMonitor" 80 (ex_n 2) ∈ gw ∧ Cond.initialized (ex_n 2) ∈ gw := by decide +kernel
theorem ex_k3 : Cond.classLink "PledgeMonitor" 90 (ex_n 3) ∈ gw ∧ Cond.initialized (ex_n 3) ∈ gw := by decide +kernel
def zk (U : State) : Prop := (∀ q ∈ ex_c, va_Nw (.castable q q) U) ∧ ∀ y ∈ ex_d, va_Nw (.declares y) U
theorem zk.warm {u U : State} (hW : u.WarmedH U.vm) (h : zk u) : zk U := ⟨fun q hq => va_Nw.warmC hW (h.1 q hq), fun y hy => va_Nw.warmD hW (h.2 y hy)⟩
theorem zk.same {u U : State} (hv : u.vm = U.vm) (h : zk u) : zk U := ⟨fun q hq => va_Nw.same rfl hv (h.1 q hq), fun y hy => va_Nw.same rfl hv (h.2 y hy)⟩
/-- a static field of Throwable, that holds a reference or null, in a cell that nobody of ours writes -/
def zh1 (n d : String) (A : Nat → Prop) (U : State) (H : Heap) : Prop := ∃ (c : ClassId) (k : Class) (i : Nat) (f : Field) (a : Nat) (cell : Cell) (v : Value), U.vm.findClass Bundle.tN = some c ∧ U.fieldFound? Bundle.tN n d = some (c, k, i, f) ∧ f.isStatic = true ∧ k.statics = some a ∧ H[a]? = some cell ∧ cell.vm.isStatics = true ∧ cell.cls = c ∧ f.slot < cell.slots.size ∧ k.staticTypes[f.slot]? = some f.type ∧ cell.slots[f.slot]? = some v ∧ v.isRef = true ∧ ¬ A a
theorem zh1.moved {n d : String} {A : Nat → Prop} {u U : State} {H : Heap} (hvm : u.vm.Alike U.vm) (h : zh1 n d A u H) : zh1 n d A U H := by
  obtain ⟨c, k, i, f, a, cell, v, h1, h2, h3, h4, h5, h6, h7, h8, h9, h10⟩ := h
  obtain ⟨k', hi', he⟩ := State.fieldFound?_setVm hvm h2
  exact ⟨c, k', i, f, a, cell, v, by rw [hvm.findClass]; exact h1, hi', h3, by rw [he]; exact h4, h5, h6, h7, h8, by rw [he]; exact h9, h10⟩
theorem zh1.kept {n d : String} {A : Nat → Prop} {U : State} {H H1 : Heap} (h : zh1 n d A U H) (hq : ∀ a : Nat, a < H.size → ¬ A a → H1[a]? = H[a]?) : zh1 n d A U H1 := by
  obtain ⟨c, k, i, f, a, cell, v, h1, h2, h3, h4, h5, h6, h7, h8, h9, h10, h11, h12⟩ := h
  exact ⟨c, k, i, f, a, cell, v, h1, h2, h3, h4, by rw [hq a (Array.getElem?_eq_some_iff.mp h5).1 h12]; exact h5, h6, h7, h8, h9, h10, h11, h12⟩
theorem zh1.narrow {n d : String} {A B : Nat → Prop} {U : State} {H : Heap} (h : zh1 n d A U H) (hAB : ∀ q, q < H.size → B q → A q) : zh1 n d B U H := by
  obtain ⟨c, k, i, f, a, cell, v, h1, h2, h3, h4, h5, h6, h7, h8, h9, h10, h11, h12⟩ := h
  exact ⟨c, k, i, f, a, cell, v, h1, h2, h3, h4, h5, h6, h7, h8, h9, h10, h11, fun z => h12 (hAB a (Array.getElem?_eq_some_iff.mp h5).1 z)⟩
theorem zh1.lays {n d : String} {A : Nat → Prop} {s : State} {args : Array Value} (h : zh1 n d A s s.heap) : (Cond.laysStatic Bundle.tN n d).before args s = true := by
  obtain ⟨c, k, i, f, a, cell, v, h1, h2, h3, h4, h5, h6, h7, h8, h9, -⟩ := h
  show (Cond.laysStatic Bundle.tN n d).holds args s none s [] = true
  exact Cond.laysStatic_of h1 h2 h3 h4 h5 h6 h7 h8 h9
theorem zh1.isref {n d : String} {A : Nat → Prop} {s : State} {args : Array Value} (h : zh1 n d A s s.heap) : (Cond.isRef (.static Bundle.tN n d)).before args s = true := by
  obtain ⟨c, k, i, f, a, cell, v, h1, h2, h3, h4, h5, h6, h7, h8, h9, h10, h11, -⟩ := h
  have he : (Term.static Bundle.tN n d).eval args s none [] s = some v := by
    simp [Term.eval, State.fieldNamed?, h2, h3, h4, h5, h6, h10]
  simp only [Cond.before, Cond.holds, Cond.value, he]
  cases v <;> simp_all [Value.isRef]
def zh (A : Nat → Prop) (U : State) (H : Heap) : Prop := zh1 "UNASSIGNED_STACK" Bundle.steD A U H ∧ zh1 "SUPPRESSED_SENTINEL" Bundle.listD A U H
theorem zh.moved {A : Nat → Prop} {u U : State} {H : Heap} (hvm : u.vm.Alike U.vm) (h : zh A u H) : zh A U H := ⟨h.1.moved hvm, h.2.moved hvm⟩
theorem zh.kept {A : Nat → Prop} {U : State} {H H1 : Heap} (h : zh A U H) (hq : ∀ a : Nat, a < H.size → ¬ A a → H1[a]? = H[a]?) : zh A U H1 := ⟨h.1.kept hq, h.2.kept hq⟩
theorem zh.narrow {A B : Nat → Prop} {U : State} {H : Heap} (h : zh A U H) (hAB : ∀ q, q < H.size → B q → A q) : zh B U H := ⟨h.1.narrow hAB, h.2.narrow hAB⟩
theorem zh.words {A : Nat → Prop} {s : State} {args : Array Value} (h : zh A s s.heap) : ∀ w ∈ ex_h, w.before args s = true := by
  intro w hw
  rcases List.mem_cons.mp hw with e | hw
  · rw [e]; exact h.1.isref
  rcases List.mem_cons.mp hw with e | hw
  · rw [e]; exact h.2.isref
  rcases List.mem_cons.mp hw with e | hw
  · rw [e]; exact h.1.lays
  rcases List.mem_cons.mp hw with e | hw
  · rw [e]; exact h.2.lays
  cases hw
section TH
variable {p : Program} {l : Launch} {e : Env} {R : Room} {s : State} {m : MethodId} {args : Array Value} {below : List Frame} {meth : Method} {c : Code} {T : State} {locs : List Loc} {cells slots : Nat}
/-- the method's frame as if it had been called in the heap as it is now -/
theorem th_base (X : Stand p l e R s m args below meth c T locs cells slots) {R' : Room} (hf : R'.frames ≤ R.frames) (hl : R'.locals ≤ R.locals) (hc : cells + R'.cells ≤ R.cells) (hs : slots + R'.slots ≤ R.slots) :
    Stand p l e R' ((T.setVm s.vm).setFrames (.invoking m args :: below)) m args below meth c T [] 0 0 := by
  have htop : (T.setVm s.vm).topJava?.isSome := X.here.top
  have hF : ((T.setVm s.vm).setFrames (.invoking m args :: below)).frames = .invoking m args :: below := State.frames_setFrames _ (State.cur_lt_of_top htop)
  have hU : ((T.setVm s.vm).setFrames (.invoking m args :: below)).localsInUse = s.localsInUse := by
    rw [State.localsInUse_invoking hF (meth := meth) (c := c) X.method X.code, State.localsInUse_invoking X.frames X.method X.code]
  have hl9 : e.platform.stackLimits (T.setVm s.vm).me = e.platform.stackLimits s.me := X.limits
  have hb9 : (T.setVm s.vm).me.stackBytes = s.me.stackBytes := X.bytes
  have hroom : ((T.setVm s.vm).setFrames (.invoking m args :: below)).hasRoom e.platform R' = true := by
    have h := X.room
    simp only [State.hasRoom, Bool.and_eq_true, decide_eq_true_eq] at h ⊢
    obtain ⟨⟨⟨⟨h1, h2, h3, h4, h5, h6⟩, h7⟩, h8⟩, h9⟩ := h
    rw [X.frames, List.length_cons] at h2 h3
    have q1 := X.heapSize
    have q2 := X.used
    simp only [hF, hU, List.length_cons, State.stackLimits_setFrames, State.stackBytes_setFrames, hl9, hb9]
    refine ⟨⟨⟨⟨by omega, by omega, by omega, by omega, by omega, h6⟩, ?_⟩, ?_⟩, X.book⟩
    · show T.heap.size + R'.cells ≤ e.platform.maxCells
      omega
    · show T.slotsUsed + R'.slots ≤ e.platform.maxSlots
      omega
  have hsame : ((T.setVm s.vm).setFrames (.invoking m args :: below)).sameButNew (T.setVm ((T.setVm s.vm).setFrames (.invoking m args :: below)).vm) [] 0 0 := by
    obtain ⟨g₀, hg0⟩ := Option.isSome_iff_exists.mp htop
    obtain ⟨r, hr⟩ := State.topJava?_eq_some.mp hg0
    obtain ⟨t, ht, -⟩ := State.frames_cons hr
    have hd : T.heap.toList.drop T.heap.size = [] := List.drop_eq_nil_of_le (Nat.le_of_eq Array.length_toList)
    refine ⟨?_, Nat.le_refl _, Nat.le_refl _, ?_, ?_, fun a c9 h9 => ⟨c9, h9, rfl, rfl, fun _ _ => rfl⟩⟩
    · show T.setVm s.vm = { ((T.setVm s.vm).setFrames (.invoking m args :: below)).setFrames (T.setVm s.vm).frames with heap := T.heap, slotsUsed := T.slotsUsed }
      rw [State.setFrames_setFrames, State.setFrames_self ht]
      rfl
    · show T.slotsUsed = T.slotsUsed + ((T.heap.toList.drop T.heap.size).map (·.slots.size)).sum
      rw [hd]
      rfl
    · show ((T.heap.toList.drop T.heap.size).map (·.slots.size)).sum ≤ 0
      rw [hd]
      exact Nat.le_refl _
  exact ⟨X.admits, X.cas, X.clock, hF, hroom, X.hears, X.method, X.code, X.here, X.tail, X.warmed, by rw [State.stackLimits_setFrames]; rfl, by rw [State.stackBytes_setFrames]; rfl, hsame⟩
theorem th_frame {s' U : State} {k n : Nat} (h : s'.sameButNew U [] k n) : s'.heap.size ≤ U.heap.size ∧ ∀ q : Nat, q < s'.heap.size → U.heap[q]? = s'.heap[q]? := by
  obtain ⟨-, h2, -, -, -, h6⟩ := h
  refine ⟨h2, fun q hq => ?_⟩
  obtain ⟨c', e1, e2, e3, e4⟩ := h6 q s'.heap[q] (Array.getElem?_eq_getElem hq)
  have e5 : c'.slots = s'.heap[q].slots := by
    apply Array.ext_getElem?
    intro i
    exact e4 i (by simp)
  rw [e1, Array.getElem?_eq_getElem hq, e2, e5]
end TH
/-- what a method that throws owes at its end -/
def xq (mc ms : Nat) : List Frame → va_G → (Nat → ClassId) → (Nat → Prop) → Array Value → State → Int32 → Mm → State → Prop := fun below D cA A args s _ M' t =>
  ∃ (q : Addr) (ce : Cell) (L : List Loc), t.status = .running ∧ Ended t below (.threw q) ∧ t.heap[q]? = some ce ∧ ce.vm = .none ∧ s.vm.findClass (ex_n (mm_e M')) = some ce.cls ∧ s.WarmedH t.vm ∧ s.sameButNew ({ t with vm := s.vm } : State) L mc ms ∧ (∀ z ∈ L, A z.base) ∧ mm_W D cA M' t.heap ∧ mm_G A M' ∧ va_F A s t
def Zj (x : Cx) : Prop :=
  match x with
  | (_, l, _, _, s, _, _, _, _, c, _, _, A, _, _) => zh A s s.heap ∧ zk s ∧ (∀ z ∈ c.exceptionTable.toList, False) ∧ l.stackTraces = false
def fo_rt (th : Bool) (v : Int32) (M : Mm) : Rr := if th = true then none else some (v, M)
def fo_th (th : Bool) (k : Nat) (M : Mm) : Rr := if th = true then some (0, mm_th M k) else none
section VT
variable {x : Cx} {l0 : Launch} {cc : ByteArray} {nL0 : Nat} {own mn : String} {rm : Room} {rt : Option FieldType} {q0 : List Frame → va_G → (Nat → ClassId) → (Nat → Prop) → Array Value → State → Int32 → Mm → State → Prop} {mc0 ms0 : Nat} {n k pc : Nat} {lv : List (Nat × Value)} {st : List Value} {M : Mm} {o : Rr}
theorem vj_rtN {v : Int32} : Vj x n k pc lv st M (fo_rt true v M) := Vj_none
theorem vj_thN {j : Nat} : Vj x n k pc lv st M (fo_th false j M) := Vj_none
theorem mm_W.thr {D : va_G} {cA : Nat → ClassId} {M : Mm} {H H1 : Heap} (hW : mm_W D cA M H) (j : Nat) (ho : ∀ q : Nat, q < H.size → H1[q]? = H[q]?) : mm_W D cA (mm_th M j) H1 := by
  refine ⟨fun h => absurd rfl h, fun q => (hW.2 q).to rfl rfl rfl rfl (fun hk => ho q ((hW.2 q).lt hk))⟩
set_option maxHeartbeats 4000000 in
theorem vj_thr (C : Fj x l0 cc nL0 gw "PledgeMonitor" mn rm rt (xq mc0 ms0)) (Z : Zj x) (j : Nat) {ik ic : Nat} (hw : ∀ w ∈ Bundle.ownAtoms0 "PledgeMonitor" ic (ex_n j) ex_up, w ∈ gw ∨ w ∈ ex_h ∨ w ∈ ex_c.map (fun q => Cond.castable q q) ∨ w ∈ ex_d.map (fun y => Cond.declares y)) (hk : Cond.classLink "PledgeMonitor" ik (ex_n j) ∈ gw ∧ Cond.initialized (ex_n j) ∈ gw) (hfit : Bundle.fit (ex_n j) = true)
    (d0 : decode cc pc = .ok (.new ik, 3)) (d3 : decode cc (pc + 3) = .ok (.dup, 1)) (d4 : decode cc (pc + 4) = .ok (.invokespecial ic, 3)) (d7 : decode cc (pc + 7) = .ok (.athrow, 1)) (hR1 : 5 < rm.frames) (hR2 : (st.map fun v => v.category).sum + 81 ≤ rm.locals) (hR3 : n + 1 ≤ rm.cells ∧ k + 6 ≤ rm.slots) (hm : n + 1 ≤ mc0 ∧ k + 6 ≤ ms0) : Vj x n k pc lv st M (fo_th true j M) := by
  obtain ⟨p, l, e, R, s, m, args, below, meth, c, D, cA, A, QQ, nL⟩ := x
  obtain ⟨⟨hx, hb, hml, hown, hts⟩, hK, hR, hlo, hrt, hmn, hA, hl0, hnL, hQQ⟩ := C
  obtain ⟨hzh, hzk, hout, hl9⟩ := Z
  subst hl0; subst hnL; subst hR; subst hQQ
  intro r M' ho H locs ls hW hG hS hl
  cases ho
  intro T hT X
  have htr : e.platform.stackTraces = false := (show e.platform.stackTraces = l.stackTraces by rw [X.admits.platform]).trans hl9
  have Y := th_base X (R' := { frames := R.frames, locals := R.locals, cells := 1, slots := 6 }) (Nat.le_refl _) (Nat.le_refl _) hR3.1 hR3.2
  obtain ⟨s', hs'⟩ : ∃ z, z = (T.setVm s.vm).setFrames (.invoking m args :: below) := ⟨_, rfl⟩
  rw [← hs'] at Y
  have hvm : s.vm = s'.vm := by rw [hs']; rfl
  have hhp : s'.heap = H := by rw [hs']; exact hT
  have hW0 : s.WarmedH s'.vm := by rw [← hvm]; exact State.WarmedH.refl s
  have hzh' : zh A s' s'.heap := by rw [hhp]; exact (hzh.kept hS.2.1).moved hW0.alike
  have hgw : ∀ w ∈ gw, w.before args s' = true := fun w h => word_at hW0 (good_of_word (gw_good h)) (hts w h)
  have hzk' := zk.same hvm hzk
  have h : ∀ w ∈ Bundle.ownAtoms0 "PledgeMonitor" ic (ex_n j) ex_up, w.before args s' = true := by
    intro w hw1
    rcases hw w hw1 with h1 | h1 | h1 | h1
    · exact hgw w h1
    · exact hzh'.words w h1
    · obtain ⟨q, hq, rfl⟩ := List.mem_map.mp h1
      exact va_Nw.use rfl (hzk'.1 q hq)
    · obtain ⟨q, hq, rfl⟩ := List.mem_map.mp h1
      exact va_Nw.use rfl (hzk'.2 q hq)
  have hown' : s'.vm.findClass "PledgeMonitor" = some m.cls := by rw [← hvm]; exact hown
  have hins : (Cond.instantiable (ex_n j) 6).before args s' = true := h _ (by simp [Bundle.ownAtoms0])
  obtain ⟨vm₁, cX, kX, hfX, hkX, -, -, X₁, st1⟩ := Y.newCold hx (own := "PledgeMonitor") (C := ex_n j) (index := ik) (n := 6) hown' (hgw _ hk.1) hins (hgw _ hk.2)
    (g := F0 m pc ls st) rfl (by rw [hb]; exact d0) (Nat.le_refl _) (Nat.le_refl _)
  generalize hT1 : (T.setVm vm₁).pushCell { cls := cX, slots := kX.instanceTypes.map defaultValue, vm := .none } = T1 at X₁ st1
  have hcat : (Value.ref T.heap.size).category = 1 := rfl
  have hcellA : T1.heap[T.heap.size]? = some (freshCell cX kX) := by rw [← hT1]; exact State.heap_pushCell_size _ _
  have d3' : decode c.code (pc + 3) = .ok (.dup, 1) := by rw [hb]; exact d3
  obtain ⟨U, hsteps, hrun, hend, hWU, hsame, ce, hce, hO⟩ := X₁.ctorThrow0 hx htr (own := "PledgeMonitor") (cls := ex_n j) (names := ex_up) (ic := ic) hown' hfit (by decide +kernel) h (fun z hz => nomatch hz) hfX hkX hcellA (by rw [hhp, hT]; exact Nat.le_refl _)
    (g := { method := m, pc := pc + 4, locals := ls, stack := .ref T.heap.size :: .ref T.heap.size :: st, locked := none }) rfl (hl.1.trans hml.symm) rfl rfl (rest := st) rfl
    (by rw [hb]; exact d4) (by rw [hb]; exact d7) (fun z hz => absurd hz (hout z)) (by show 2 + 3 < R.frames; omega) (by simp only [List.map_cons, List.sum_cons, hcat]; show 2 * 0 + _ + (13 * (2 + 1) + 41) ≤ R.locals; omega) hlo
  have hWs : s.WarmedH U.vm := State.WarmedH.trans hW0 hWU
  have hcl : s.vm.findClass (ex_n j) = some ce.cls := by rw [hvm]; exact hO.cls
  have hfr := th_frame hsame
  have hf1 : H.size ≤ U.heap.size := by rw [← hhp]; exact hfr.1
  have hf2 : ∀ q : Nat, q < H.size → U.heap[q]? = H[q]? := fun q hq => by rw [← hhp] at hq ⊢; exact hfr.2 q hq
  have hall : s.sameButNew ({ U with vm := s.vm } : State) locs mc0 ms0 := by
    subst hs'
    obtain ⟨e1, e2⟩ := hsame
    rw [State.setFrames_setFrames] at e1
    have h2 : (T.setVm s.vm).sameButNew ({ U with vm := s.vm } : State) [] (0 + 1) (0 + 6) := ⟨e1, e2⟩
    have h3 := X.same.trans h2
    rw [List.append_nil] at h3
    exact h3.mono hm.1 hm.2
  refine ⟨U, ?_, T.heap.size, ce, locs, hrun, hend, hce, hO.vm, hcl, hWs, hall, hS.2.2, hW.thr j hf2, ?_, Nat.le_trans hS.1 hf1, fun q h1 h2 => by rw [hf2 q (Nat.lt_of_lt_of_le h1 hS.1)]; exact hS.2.1 q h1 h2⟩
  · refine st1 _ ?_
    show Steps p.tables e below (T1.setTop { method := m, pc := pc + 3, locals := ls, stack := .ref T.heap.size :: st, locked := none }) _
    jvm_step X₁.here [X₁.here.top, hx, d3', Value.category]
    exact hsteps
  · exact hG.set rfl
end VT
/-- the contract of a method that throws -/
def cx (l : Launch) (y : MethodName) (ws : List Cond) (rm : Room) (mc ms : Nat) (av : List Value) (M : Mm) (o : Rr) : Prop :=
  ∀ (r : Int32) (M' : Mm), o = some (r, M') → ∀ (D : va_G) (cA : Nat → ClassId) (sz : Nat), MetFree l y (headSpec ws rm) (va_Pc av (fun U => U.heap.size = sz ∧ mm_W D cA M U.heap ∧ mm_K D cA U ∧ zh (mm_A M sz) U U.heap ∧ zk U)) (fun _ _ _ _ _ => True)
    (fun _ st oc t => ∃ (q : Addr) (ce : Cell) (L : List Loc), oc = .threw q ∧ t.heap[q]? = some ce ∧ ce.vm = .none ∧ st.vm.findClass (ex_n (mm_e M')) = some ce.cls ∧ st.WarmedH t.vm ∧ st.sameButNew ({ t with vm := st.vm } : State) L mc ms ∧ (∀ z ∈ L, mm_A M sz z.base) ∧ mm_W D cA M' t.heap ∧ mm_G (mm_A M sz) M' ∧ va_F (mm_A M sz) st t)
theorem cx_of {l : Launch} {y : MethodName} {ws ws' : List Cond} {rm : Room} {mc ms : Nat} {av : List Value} {M : Mm} {o : Rr} {cc : ByteArray} {maxL : Nat} {ret : Option FieldType} {lv0 : List (Nat × Value)} (hl9 : l.stackTraces = false)
    (hy : plainName y.cls = true) (hw0 : ws = Cond.code y cc maxL ret :: ws') (hlen : (lg_sl av).length ≤ maxL) (hlv : lv_args 0 av = lv0)
    (hws : ws' = gw) (body : ∀ x : Cx, Fj x l cc maxL gw y.cls y.name rm ret (xq mc ms) → Zj x → Vj x 0 0 0 lv0 [] M o) : cx l y ws rm mc ms av M o := by
  intro r M' ho D cA sz
  refine MetFree.of_bodyS (code := cc) (maxLocals := maxL) (ret := ret) hy ?_ ?_
  · intro args s m h hn
    obtain ⟨meth, c, h1, h2, h3, h4, h5, h6, -, -⟩ := Cond.code_spec hn (atoms_spec (ws := ws) h _ (by rw [hw0]; exact List.mem_cons_self))
    exact ⟨meth, c, h1, h2, h3, h4, h5, h6⟩
  · intro p e s m args below meth c s₁ B hml hP _
    obtain ⟨rfl, rfl, hW, hK, hzh, hzk⟩ := hP
    have hcode := atoms_spec (ws := ws) B.pre _ (by rw [hw0]; exact List.mem_cons_self)
    have hno : ∀ z ∈ c.exceptionTable.toList, False := by
      have h := B.noHandlers hcode
      intro z hz
      rw [Array.isEmpty_iff] at h
      rw [h] at hz
      cases hz
    have hts : ∀ w ∈ gw, w.before av.toArray s = true := fun w hw => atoms_spec (ws := ws) B.pre w (by rw [hw0, hws]; exact List.mem_cons_of_mem _ hw)
    have hA : ∀ q, s.heap.size ≤ q → mm_A M s.heap.size q := fun q h => Or.inr h
    have hb := body (p, l, e, (headSpec ws rm).room, s, m, av.toArray, below, meth, c, D, cA, mm_A M s.heap.size, xq mc ms below D cA (mm_A M s.heap.size) av.toArray s, maxL) ⟨⟨B.exec, B.bytes, hml, findClass_of_methodNamed B.named, hts⟩, hK, rfl, B.notSynchronized, B.returns, (name_of_methodNamed B.named B.method).1, hA, rfl, rfl, rfl⟩ ⟨hzh, hzk, hno, hl9⟩
    have hh0 : s₁.heap = s.heap := by rw [B.state]; rfl
    have hent : W p l e (headSpec ws rm).room s m av.toArray below meth c s.heap [] 0 0 (xq mc ms below D cA (mm_A M s.heap.size) av.toArray s r M') (entryFrame m av.toArray maxL) := by
      rw [lg_entry_eq]
      exact hb r M' ho s.heap [] _ hW (fun q h => Or.inl h) va_S.rf (hlv ▸ lv_entry av hlen)
    obtain ⟨t, a1, q, ce, L, b1, b2, b3, b4, b5, b6, b7, b8, b9, b10, b11⟩ := hent s₁ hh0 (Stand.of_body B)
    exact ⟨t, .threw q, a1, b1, b2, q, ce, L, rfl, b3, b4, b5, b6, b7, b8, b9, b10, b11⟩
