def R_law : String := "PledgeMonitorLaw"
def lw_P (b : Addr) (xs : List Int32) (args : Array Value) (s : State) : Prop := args = #[.ref b] ∧ s.IntsAt b xs ∧ xs.length ≤ 1536 ∧ (Jvm.Cond.and given_1 narrow_1).before args s = true
def lw_Q (_ : Array Value) (s : State) (o : Outcome) (t : State) : Prop := o = .returned (some (.int 1)) ∧ Framed s o t [] 601024 7293034
def lw_Z (below : List Frame) (a : Array Value) (s : State) : State → Prop := fun t => ∃ o, t.status = .running ∧ Ended t below o ∧ lw_Q a s o t
/-- the law's own end, with 1 on the stack, nothing written that was there before, its room as the claim has it -/
theorem lw_ret {p : Program} {l : Launch} {e : Env} {s : State} {m : MethodId} {below : List Frame} {meth : Method} {c : Code} {b : Nat} (hx : p.tables.exec = Jvm.exec) (hb : c.code = code) (hr : meth.sig.returnType = ret) (hlocks : meth.locks = false) {pc : Nat} {H : Heap} {ls : Array Slot} (hdg : decode code pc = .ok (.ireturn, 1)) : W p l e room_1 s m #[Value.ref b] below meth c H [] 601024 7293034 (lw_Z below #[Value.ref b] s) (F0 m pc ls [.int 1]) := by
  intro T hT X
  obtain ⟨fs, hret, hrun, hended, hW, hframe⟩ := X.leave (v := some (.int 1)) (hlocks := hlocks) (fun h => by rw [hr] at h; cases h)
  have hmeth' : T.vm.method? m = some meth := X.method'
  refine ⟨T.setFrames fs, ?_, .returned (some (.int 1)), hrun, hended, rfl, ⟨_, rfl⟩, hW, hframe⟩
  jvm_step X.here [X.here.top, hx, hb, hdg, hmeth', hr, ret, narrow_b1]
  (try refine ⟨rfl, ?_⟩); (try refine ⟨rfl, ?_⟩)
  first | (intro acts; rw [hret _ acts rfl rfl rfl]) | rw [hret _ _ rfl rfl rfl]
  exact Steps.refl _
/-- what holds at the law's entry: the machine, the code, the tables' words (any of lw_tbl by 'hts w (by decide +kernel)'), the script of L ints xs at the cell b, what the Statement gives of the start (any of its parts by flat_of_before) -/
def lw_At (p : Program) (s : State) (m : MethodId) (meth : Method) (c : Code) (b L : Nat) (xs : Nat → Int32) : Prop :=
  p.tables.exec = Jvm.exec ∧ c.code = code ∧ meth.sig.returnType = ret ∧ c.maxLocals = 7 ∧ s.vm.findClass R_law = some m.cls ∧ (∀ w ∈ lw_tbl, w.before #[Value.ref b] s = true) ∧ va_X b L xs s s.heap ∧ b < s.heap.size ∧ meth.locks = false ∧ (Jvm.Cond.and given_1 narrow_1).before #[Value.ref b] s = true

/-- the law's end -/
def lq : List Frame → va_G → (Nat → ClassId) → (Nat → Prop) → Array Value → State → Int32 → Mm → State → Prop := fun below _ _ _ args s r _ t => r = 1 → lw_Z below args s t
def Zw (x : Cx) : Prop :=
  match x with
  | (_, _, _, _, s, _, args, _, _, _, _, _, A, _, _) => (∃ b : Nat, args = #[Value.ref b]) ∧ ∀ q, A q → s.heap.size ≤ q
theorem vj_lw {x : Cx} {l0 : Launch} {n k pc : Nat} {lv : List (Nat × Value)} {M : Mm} {v : Int32} (C : Fj x l0 code 7 gw "PledgeMonitorLaw" "law" room_1 (some .boolean) lq) (Z : Zl x ∧ Zw x) (d : decode code pc = .ok (.ireturn, 1)) (hn : n ≤ 601024) (hk : k ≤ 7293034) : Vj x n k pc lv [.int v] M (some (v, M)) := by
  obtain ⟨p, l, e, R, s, m, args, below, meth, c, D, cA, A, QQ, nL⟩ := x
  obtain ⟨⟨hx, hb, hml, hown, hts⟩, hK, hR, hlo, hrt, hmn, hA, hl0, hnL, hQQ⟩ := C
  obtain ⟨-, ⟨b, hargs⟩, hZA⟩ := Z
  subst hl0; subst hnL; subst hR; subst hQQ; subst hargs
  intro r M' ho H locs ls hW hG hS hl
  cases ho
  intro T hT X
  by_cases hv : v = 1
  · subst hv
    obtain ⟨t, a1, b1⟩ := W.widen hn hk (va_forget (fun q hq => hZA _ (hS.2.2 q hq)) (lw_ret (pc := pc) (ls := ls) hx hb hrt hlo d)) T hT X
    exact ⟨t, a1, fun _ => b1⟩
  · exact ⟨T.setTop (F0 m pc ls [.int v]), Steps.refl _, fun h => absurd h hv⟩
theorem k_583 : (Jvm.Cond.classLink "PledgeMonitorLaw" (8 : Nat) "PledgeMonitor") ∈ gw := gw_at 83 (by decide +kernel) (by decide +kernel)
theorem k_584 : (Jvm.Cond.instantiable "PledgeMonitor" (10 : Nat)) ∈ gw := gw_at 84 (by decide +kernel) (by decide +kernel)
theorem k_585 : (Jvm.Cond.instanceMethod ({ cls := "PledgeMonitor", name := "<init>", desc := "()V" } : Jvm.MethodName)) ∈ gw := gw_at 86 (by decide +kernel) (by decide +kernel)
theorem k_586 : (Jvm.Cond.methodLink "PledgeMonitorLaw" (32 : Nat) ({ cls := "PledgeMonitor", name := "<init>", desc := "()V" } : Jvm.MethodName)) ∈ gw := gw_at 85 (by decide +kernel) (by decide +kernel)
theorem k_587 : (Jvm.Cond.code ({ cls := "PledgeMonitor", name := "<init>", desc := "()V" } : Jvm.MethodName) prog_1_method_1_code (1 : Nat) (Option.none : Option Jvm.ClassFile.FieldType)) ∈ gw := gw_at 87 (by decide +kernel) (by decide +kernel)
theorem k_588 : (Jvm.Cond.classLink "PledgeMonitorLaw" (33 : Nat) "PledgeMonitorModel") ∈ gw := gw_at 786 (by decide +kernel) (by decide +kernel)
theorem k_589 : (Jvm.Cond.instantiable "PledgeMonitorModel" (26 : Nat)) ∈ gw := gw_at 787 (by decide +kernel) (by decide +kernel)
theorem k_590 : (Jvm.Cond.instanceMethod ({ cls := "PledgeMonitorModel", name := "<init>", desc := "()V" } : Jvm.MethodName)) ∈ gw := gw_at 789 (by decide +kernel) (by decide +kernel)
theorem k_591 : (Jvm.Cond.methodLink "PledgeMonitorLaw" (35 : Nat) ({ cls := "PledgeMonitorModel", name := "<init>", desc := "()V" } : Jvm.MethodName)) ∈ gw := gw_at 788 (by decide +kernel) (by decide +kernel)
theorem k_592 : (Jvm.Cond.code ({ cls := "PledgeMonitorModel", name := "<init>", desc := "()V" } : Jvm.MethodName) prog_11_method_1_code (1 : Nat) (Option.none : Option Jvm.ClassFile.FieldType)) ∈ gw := gw_at 790 (by decide +kernel) (by decide +kernel)
theorem k_593 : (Jvm.Cond.arrayClass Jvm.ClassFile.FieldType.long) ∈ gw := gw_at 1087 (by decide +kernel) (by decide +kernel)
theorem k_594 : (Jvm.Cond.constantLong "PledgeMonitorLaw" (36 : Nat) (4294967295 : Int64)) ∈ gw := gw_at 1086 (by decide +kernel) (by decide +kernel)
theorem k_595 : (Jvm.Cond.methodLink "PledgeMonitorLaw" (38 : Nat) ({ cls := "PledgeMonitor", name := "type", desc := "(J)Z" } : Jvm.MethodName)) ∈ gw := gw_at 352 (by decide +kernel) (by decide +kernel)
theorem k_596 : (Jvm.Cond.instanceMethod ({ cls := "PledgeMonitor", name := "type", desc := "(J)Z" } : Jvm.MethodName)) ∈ gw := gw_at 353 (by decide +kernel) (by decide +kernel)
theorem k_597 : (Jvm.Cond.selects "PledgeMonitor" ({ cls := "PledgeMonitor", name := "type", desc := "(J)Z" } : Jvm.MethodName) ({ cls := "PledgeMonitor", name := "type", desc := "(J)Z" } : Jvm.MethodName)) ∈ gw := gw_at 354 (by decide +kernel) (by decide +kernel)
theorem k_598 : (Jvm.Cond.code ({ cls := "PledgeMonitor", name := "type", desc := "(J)Z" } : Jvm.MethodName) prog_1_method_2_code (3 : Nat) (Option.some Jvm.ClassFile.FieldType.boolean)) ∈ gw := gw_at 355 (by decide +kernel) (by decide +kernel)
theorem k_599 : (Jvm.Cond.methodLink "PledgeMonitorLaw" (42 : Nat) ({ cls := "PledgeMonitorModel", name := "type", desc := "(J)Z" } : Jvm.MethodName)) ∈ gw := gw_at 875 (by decide +kernel) (by decide +kernel)
theorem k_600 : (Jvm.Cond.instanceMethod ({ cls := "PledgeMonitorModel", name := "type", desc := "(J)Z" } : Jvm.MethodName)) ∈ gw := gw_at 876 (by decide +kernel) (by decide +kernel)
theorem k_601 : (Jvm.Cond.selects "PledgeMonitorModel" ({ cls := "PledgeMonitorModel", name := "type", desc := "(J)Z" } : Jvm.MethodName) ({ cls := "PledgeMonitorModel", name := "type", desc := "(J)Z" } : Jvm.MethodName)) ∈ gw := gw_at 877 (by decide +kernel) (by decide +kernel)
theorem k_602 : (Jvm.Cond.code ({ cls := "PledgeMonitorModel", name := "type", desc := "(J)Z" } : Jvm.MethodName) prog_11_method_3_code (6 : Nat) (Option.some Jvm.ClassFile.FieldType.boolean)) ∈ gw := gw_at 878 (by decide +kernel) (by decide +kernel)
theorem k_603 : (Jvm.Cond.methodLink "PledgeMonitorLaw" (43 : Nat) ({ cls := "PledgeMonitor", name := "erase", desc := "()I" } : Jvm.MethodName)) ∈ gw := gw_at 363 (by decide +kernel) (by decide +kernel)
theorem k_604 : (Jvm.Cond.instanceMethod ({ cls := "PledgeMonitor", name := "erase", desc := "()I" } : Jvm.MethodName)) ∈ gw := gw_at 364 (by decide +kernel) (by decide +kernel)
theorem k_605 : (Jvm.Cond.selects "PledgeMonitor" ({ cls := "PledgeMonitor", name := "erase", desc := "()I" } : Jvm.MethodName) ({ cls := "PledgeMonitor", name := "erase", desc := "()I" } : Jvm.MethodName)) ∈ gw := gw_at 365 (by decide +kernel) (by decide +kernel)
theorem k_606 : (Jvm.Cond.code ({ cls := "PledgeMonitor", name := "erase", desc := "()I" } : Jvm.MethodName) prog_1_method_3_code (2 : Nat) (Option.some Jvm.ClassFile.FieldType.int)) ∈ gw := gw_at 366 (by decide +kernel) (by decide +kernel)
theorem k_607 : (Jvm.Cond.methodLink "PledgeMonitorLaw" (46 : Nat) ({ cls := "PledgeMonitorModel", name := "erase", desc := "()I" } : Jvm.MethodName)) ∈ gw := gw_at 880 (by decide +kernel) (by decide +kernel)
theorem k_608 : (Jvm.Cond.instanceMethod ({ cls := "PledgeMonitorModel", name := "erase", desc := "()I" } : Jvm.MethodName)) ∈ gw := gw_at 881 (by decide +kernel) (by decide +kernel)
theorem k_609 : (Jvm.Cond.selects "PledgeMonitorModel" ({ cls := "PledgeMonitorModel", name := "erase", desc := "()I" } : Jvm.MethodName) ({ cls := "PledgeMonitorModel", name := "erase", desc := "()I" } : Jvm.MethodName)) ∈ gw := gw_at 882 (by decide +kernel) (by decide +kernel)
theorem k_610 : (Jvm.Cond.code ({ cls := "PledgeMonitorModel", name := "erase", desc := "()I" } : Jvm.MethodName) prog_11_method_4_code (2 : Nat) (Option.some Jvm.ClassFile.FieldType.int)) ∈ gw := gw_at 883 (by decide +kernel) (by decide +kernel)
theorem k_611 : (Jvm.Cond.methodLink "PledgeMonitorLaw" (47 : Nat) ({ cls := "PledgeMonitor", name := "free", desc := "(I)Z" } : Jvm.MethodName)) ∈ gw := gw_at 367 (by decide +kernel) (by decide +kernel)
theorem k_612 : (Jvm.Cond.instanceMethod ({ cls := "PledgeMonitor", name := "free", desc := "(I)Z" } : Jvm.MethodName)) ∈ gw := gw_at 368 (by decide +kernel) (by decide +kernel)
theorem k_613 : (Jvm.Cond.selects "PledgeMonitor" ({ cls := "PledgeMonitor", name := "free", desc := "(I)Z" } : Jvm.MethodName) ({ cls := "PledgeMonitor", name := "free", desc := "(I)Z" } : Jvm.MethodName)) ∈ gw := gw_at 369 (by decide +kernel) (by decide +kernel)
theorem k_614 : (Jvm.Cond.code ({ cls := "PledgeMonitor", name := "free", desc := "(I)Z" } : Jvm.MethodName) prog_1_method_4_code (2 : Nat) (Option.some Jvm.ClassFile.FieldType.boolean)) ∈ gw := gw_at 370 (by decide +kernel) (by decide +kernel)
theorem k_615 : (Jvm.Cond.methodLink "PledgeMonitorLaw" (51 : Nat) ({ cls := "PledgeMonitorModel", name := "free", desc := "(I)Z" } : Jvm.MethodName)) ∈ gw := gw_at 884 (by decide +kernel) (by decide +kernel)
theorem k_616 : (Jvm.Cond.instanceMethod ({ cls := "PledgeMonitorModel", name := "free", desc := "(I)Z" } : Jvm.MethodName)) ∈ gw := gw_at 885 (by decide +kernel) (by decide +kernel)
theorem k_617 : (Jvm.Cond.selects "PledgeMonitorModel" ({ cls := "PledgeMonitorModel", name := "free", desc := "(I)Z" } : Jvm.MethodName) ({ cls := "PledgeMonitorModel", name := "free", desc := "(I)Z" } : Jvm.MethodName)) ∈ gw := gw_at 886 (by decide +kernel) (by decide +kernel)
theorem k_618 : (Jvm.Cond.code ({ cls := "PledgeMonitorModel", name := "free", desc := "(I)Z" } : Jvm.MethodName) prog_11_method_5_code (2 : Nat) (Option.some Jvm.ClassFile.FieldType.boolean)) ∈ gw := gw_at 887 (by decide +kernel) (by decide +kernel)
theorem k_619 : (Jvm.Cond.methodLink "PledgeMonitorLaw" (52 : Nat) ({ cls := "PledgeMonitorLaw", name := "begin", desc := "(LPledgeMonitor;[J)I" } : Jvm.MethodName)) ∈ gw := gw_at 449 (by decide +kernel) (by decide +kernel)
theorem k_620 : (Jvm.Cond.codeWith ({ cls := "PledgeMonitorLaw", name := "begin", desc := "(LPledgeMonitor;[J)I" } : Jvm.MethodName) method_3_code (3 : Nat) (Option.some Jvm.ClassFile.FieldType.int) [((0 : Nat), (8 : Nat), (11 : Nat), (13 : Nat)), ((0 : Nat), (8 : Nat), (14 : Nat), (15 : Nat))]) ∈ gw := gw_at 451 (by decide +kernel) (by decide +kernel)
theorem k_621 : (Jvm.Cond.initialized "PledgeMonitorLaw") ∈ gw := gw_at 64 (by decide +kernel) (by decide +kernel)
theorem k_622 : (Jvm.Cond.static ({ cls := "PledgeMonitorLaw", name := "begin", desc := "(LPledgeMonitor;[J)I" } : Jvm.MethodName)) ∈ gw := gw_at 450 (by decide +kernel) (by decide +kernel)
theorem k_623 : (Jvm.Cond.methodLink "PledgeMonitorLaw" (57 : Nat) ({ cls := "PledgeMonitorModel", name := "begin", desc := "()I" } : Jvm.MethodName)) ∈ gw := gw_at 888 (by decide +kernel) (by decide +kernel)
theorem k_624 : (Jvm.Cond.instanceMethod ({ cls := "PledgeMonitorModel", name := "begin", desc := "()I" } : Jvm.MethodName)) ∈ gw := gw_at 889 (by decide +kernel) (by decide +kernel)
theorem k_625 : (Jvm.Cond.selects "PledgeMonitorModel" ({ cls := "PledgeMonitorModel", name := "begin", desc := "()I" } : Jvm.MethodName) ({ cls := "PledgeMonitorModel", name := "begin", desc := "()I" } : Jvm.MethodName)) ∈ gw := gw_at 890 (by decide +kernel) (by decide +kernel)
theorem k_626 : (Jvm.Cond.code ({ cls := "PledgeMonitorModel", name := "begin", desc := "()I" } : Jvm.MethodName) prog_11_method_35_code (5 : Nat) (Option.some Jvm.ClassFile.FieldType.int)) ∈ gw := gw_at 891 (by decide +kernel) (by decide +kernel)
theorem k_627 : (Jvm.Cond.methodLink "PledgeMonitorLaw" (58 : Nat) ({ cls := "PledgeMonitorModel", name := "thrown", desc := "()I" } : Jvm.MethodName)) ∈ gw := gw_at 871 (by decide +kernel) (by decide +kernel)
theorem k_628 : (Jvm.Cond.instanceMethod ({ cls := "PledgeMonitorModel", name := "thrown", desc := "()I" } : Jvm.MethodName)) ∈ gw := gw_at 872 (by decide +kernel) (by decide +kernel)
theorem k_629 : (Jvm.Cond.selects "PledgeMonitorModel" ({ cls := "PledgeMonitorModel", name := "thrown", desc := "()I" } : Jvm.MethodName) ({ cls := "PledgeMonitorModel", name := "thrown", desc := "()I" } : Jvm.MethodName)) ∈ gw := gw_at 873 (by decide +kernel) (by decide +kernel)
theorem k_630 : (Jvm.Cond.code ({ cls := "PledgeMonitorModel", name := "thrown", desc := "()I" } : Jvm.MethodName) prog_11_method_2_code (1 : Nat) (Option.some Jvm.ClassFile.FieldType.int)) ∈ gw := gw_at 874 (by decide +kernel) (by decide +kernel)
theorem k_631 : (Jvm.Cond.methodLink "PledgeMonitorLaw" (61 : Nat) ({ cls := "PledgeMonitor", name := "stop", desc := "()Z" } : Jvm.MethodName)) ∈ gw := gw_at 371 (by decide +kernel) (by decide +kernel)
theorem k_632 : (Jvm.Cond.instanceMethod ({ cls := "PledgeMonitor", name := "stop", desc := "()Z" } : Jvm.MethodName)) ∈ gw := gw_at 372 (by decide +kernel) (by decide +kernel)
theorem k_633 : (Jvm.Cond.selects "PledgeMonitor" ({ cls := "PledgeMonitor", name := "stop", desc := "()Z" } : Jvm.MethodName) ({ cls := "PledgeMonitor", name := "stop", desc := "()Z" } : Jvm.MethodName)) ∈ gw := gw_at 373 (by decide +kernel) (by decide +kernel)
theorem k_634 : (Jvm.Cond.code ({ cls := "PledgeMonitor", name := "stop", desc := "()Z" } : Jvm.MethodName) prog_1_method_6_code (2 : Nat) (Option.some Jvm.ClassFile.FieldType.boolean)) ∈ gw := gw_at 374 (by decide +kernel) (by decide +kernel)
theorem k_635 : (Jvm.Cond.methodLink "PledgeMonitorLaw" (65 : Nat) ({ cls := "PledgeMonitorModel", name := "stop", desc := "()Z" } : Jvm.MethodName)) ∈ gw := gw_at 972 (by decide +kernel) (by decide +kernel)
theorem k_636 : (Jvm.Cond.instanceMethod ({ cls := "PledgeMonitorModel", name := "stop", desc := "()Z" } : Jvm.MethodName)) ∈ gw := gw_at 973 (by decide +kernel) (by decide +kernel)
theorem k_637 : (Jvm.Cond.selects "PledgeMonitorModel" ({ cls := "PledgeMonitorModel", name := "stop", desc := "()Z" } : Jvm.MethodName) ({ cls := "PledgeMonitorModel", name := "stop", desc := "()Z" } : Jvm.MethodName)) ∈ gw := gw_at 974 (by decide +kernel) (by decide +kernel)
theorem k_638 : (Jvm.Cond.code ({ cls := "PledgeMonitorModel", name := "stop", desc := "()Z" } : Jvm.MethodName) prog_11_method_36_code (2 : Nat) (Option.some Jvm.ClassFile.FieldType.boolean)) ∈ gw := gw_at 975 (by decide +kernel) (by decide +kernel)
theorem k_639 : (Jvm.Cond.methodLink "PledgeMonitorLaw" (66 : Nat) ({ cls := "PledgeMonitor", name := "fault", desc := "()I" } : Jvm.MethodName)) ∈ gw := gw_at 379 (by decide +kernel) (by decide +kernel)
theorem k_640 : (Jvm.Cond.instanceMethod ({ cls := "PledgeMonitor", name := "fault", desc := "()I" } : Jvm.MethodName)) ∈ gw := gw_at 380 (by decide +kernel) (by decide +kernel)
theorem k_641 : (Jvm.Cond.selects "PledgeMonitor" ({ cls := "PledgeMonitor", name := "fault", desc := "()I" } : Jvm.MethodName) ({ cls := "PledgeMonitor", name := "fault", desc := "()I" } : Jvm.MethodName)) ∈ gw := gw_at 381 (by decide +kernel) (by decide +kernel)
theorem k_642 : (Jvm.Cond.code ({ cls := "PledgeMonitor", name := "fault", desc := "()I" } : Jvm.MethodName) prog_1_method_7_code (1 : Nat) (Option.some Jvm.ClassFile.FieldType.int)) ∈ gw := gw_at 382 (by decide +kernel) (by decide +kernel)
theorem k_643 : (Jvm.Cond.methodLink "PledgeMonitorLaw" (69 : Nat) ({ cls := "PledgeMonitorModel", name := "fault", desc := "()I" } : Jvm.MethodName)) ∈ gw := gw_at 976 (by decide +kernel) (by decide +kernel)
theorem k_644 : (Jvm.Cond.instanceMethod ({ cls := "PledgeMonitorModel", name := "fault", desc := "()I" } : Jvm.MethodName)) ∈ gw := gw_at 977 (by decide +kernel) (by decide +kernel)
theorem k_645 : (Jvm.Cond.selects "PledgeMonitorModel" ({ cls := "PledgeMonitorModel", name := "fault", desc := "()I" } : Jvm.MethodName) ({ cls := "PledgeMonitorModel", name := "fault", desc := "()I" } : Jvm.MethodName)) ∈ gw := gw_at 978 (by decide +kernel) (by decide +kernel)
theorem k_646 : (Jvm.Cond.code ({ cls := "PledgeMonitorModel", name := "fault", desc := "()I" } : Jvm.MethodName) prog_11_method_37_code (1 : Nat) (Option.some Jvm.ClassFile.FieldType.int)) ∈ gw := gw_at 979 (by decide +kernel) (by decide +kernel)
theorem k_647 : (Jvm.Cond.methodLink "PledgeMonitorLaw" (70 : Nat) ({ cls := "PledgeMonitorLaw", name := "event", desc := "(LPledgeMonitor;II[J)I" } : Jvm.MethodName)) ∈ gw := gw_at 650 (by decide +kernel) (by decide +kernel)
theorem k_648 : (Jvm.Cond.codeWith ({ cls := "PledgeMonitorLaw", name := "event", desc := "(LPledgeMonitor;II[J)I" } : Jvm.MethodName) method_4_code (5 : Nat) (Option.some Jvm.ClassFile.FieldType.int) [((0 : Nat), (10 : Nat), (13 : Nat), (21 : Nat)), ((0 : Nat), (10 : Nat), (17 : Nat), (13 : Nat)), ((0 : Nat), (10 : Nat), (21 : Nat), (15 : Nat))]) ∈ gw := gw_at 652 (by decide +kernel) (by decide +kernel)
theorem k_649 : (Jvm.Cond.static ({ cls := "PledgeMonitorLaw", name := "event", desc := "(LPledgeMonitor;II[J)I" } : Jvm.MethodName)) ∈ gw := gw_at 651 (by decide +kernel) (by decide +kernel)
theorem k_650 : (Jvm.Cond.methodLink "PledgeMonitorLaw" (73 : Nat) ({ cls := "PledgeMonitorModel", name := "event", desc := "(II)I" } : Jvm.MethodName)) ∈ gw := gw_at 980 (by decide +kernel) (by decide +kernel)
theorem k_651 : (Jvm.Cond.instanceMethod ({ cls := "PledgeMonitorModel", name := "event", desc := "(II)I" } : Jvm.MethodName)) ∈ gw := gw_at 981 (by decide +kernel) (by decide +kernel)
theorem k_652 : (Jvm.Cond.selects "PledgeMonitorModel" ({ cls := "PledgeMonitorModel", name := "event", desc := "(II)I" } : Jvm.MethodName) ({ cls := "PledgeMonitorModel", name := "event", desc := "(II)I" } : Jvm.MethodName)) ∈ gw := gw_at 982 (by decide +kernel) (by decide +kernel)
theorem k_653 : (Jvm.Cond.code ({ cls := "PledgeMonitorModel", name := "event", desc := "(II)I" } : Jvm.MethodName) prog_11_method_41_code (3 : Nat) (Option.some Jvm.ClassFile.FieldType.int)) ∈ gw := gw_at 983 (by decide +kernel) (by decide +kernel)
theorem k_654 : (Jvm.Cond.methodLink "PledgeMonitorLaw" (74 : Nat) ({ cls := "PledgeMonitorLaw", name := "nextDay", desc := "(LPledgeMonitor;[J)I" } : Jvm.MethodName)) ∈ gw := gw_at 724 (by decide +kernel) (by decide +kernel)
theorem k_655 : (Jvm.Cond.codeWith ({ cls := "PledgeMonitorLaw", name := "nextDay", desc := "(LPledgeMonitor;[J)I" } : Jvm.MethodName) method_5_code (3 : Nat) (Option.some Jvm.ClassFile.FieldType.int) [((0 : Nat), (8 : Nat), (11 : Nat), (21 : Nat)), ((0 : Nat), (8 : Nat), (14 : Nat), (15 : Nat))]) ∈ gw := gw_at 726 (by decide +kernel) (by decide +kernel)
theorem k_656 : (Jvm.Cond.static ({ cls := "PledgeMonitorLaw", name := "nextDay", desc := "(LPledgeMonitor;[J)I" } : Jvm.MethodName)) ∈ gw := gw_at 725 (by decide +kernel) (by decide +kernel)
theorem k_657 : (Jvm.Cond.methodLink "PledgeMonitorLaw" (76 : Nat) ({ cls := "PledgeMonitorModel", name := "nextDay", desc := "()I" } : Jvm.MethodName)) ∈ gw := gw_at 1022 (by decide +kernel) (by decide +kernel)
theorem k_658 : (Jvm.Cond.instanceMethod ({ cls := "PledgeMonitorModel", name := "nextDay", desc := "()I" } : Jvm.MethodName)) ∈ gw := gw_at 1023 (by decide +kernel) (by decide +kernel)
theorem k_659 : (Jvm.Cond.selects "PledgeMonitorModel" ({ cls := "PledgeMonitorModel", name := "nextDay", desc := "()I" } : Jvm.MethodName) ({ cls := "PledgeMonitorModel", name := "nextDay", desc := "()I" } : Jvm.MethodName)) ∈ gw := gw_at 1024 (by decide +kernel) (by decide +kernel)
theorem k_660 : (Jvm.Cond.code ({ cls := "PledgeMonitorModel", name := "nextDay", desc := "()I" } : Jvm.MethodName) prog_11_method_42_code (2 : Nat) (Option.some Jvm.ClassFile.FieldType.int)) ∈ gw := gw_at 1025 (by decide +kernel) (by decide +kernel)
theorem k_661 : (Jvm.Cond.methodLink "PledgeMonitorLaw" (77 : Nat) ({ cls := "PledgeMonitor", name := "undo", desc := "()Z" } : Jvm.MethodName)) ∈ gw := gw_at 383 (by decide +kernel) (by decide +kernel)
theorem k_662 : (Jvm.Cond.instanceMethod ({ cls := "PledgeMonitor", name := "undo", desc := "()Z" } : Jvm.MethodName)) ∈ gw := gw_at 384 (by decide +kernel) (by decide +kernel)
theorem k_663 : (Jvm.Cond.selects "PledgeMonitor" ({ cls := "PledgeMonitor", name := "undo", desc := "()Z" } : Jvm.MethodName) ({ cls := "PledgeMonitor", name := "undo", desc := "()Z" } : Jvm.MethodName)) ∈ gw := gw_at 385 (by decide +kernel) (by decide +kernel)
theorem k_664 : (Jvm.Cond.code ({ cls := "PledgeMonitor", name := "undo", desc := "()Z" } : Jvm.MethodName) prog_1_method_10_code (1 : Nat) (Option.some Jvm.ClassFile.FieldType.boolean)) ∈ gw := gw_at 386 (by decide +kernel) (by decide +kernel)
theorem k_665 : (Jvm.Cond.methodLink "PledgeMonitorLaw" (80 : Nat) ({ cls := "PledgeMonitorModel", name := "undo", desc := "()Z" } : Jvm.MethodName)) ∈ gw := gw_at 1034 (by decide +kernel) (by decide +kernel)
theorem k_666 : (Jvm.Cond.instanceMethod ({ cls := "PledgeMonitorModel", name := "undo", desc := "()Z" } : Jvm.MethodName)) ∈ gw := gw_at 1035 (by decide +kernel) (by decide +kernel)
theorem k_667 : (Jvm.Cond.selects "PledgeMonitorModel" ({ cls := "PledgeMonitorModel", name := "undo", desc := "()Z" } : Jvm.MethodName) ({ cls := "PledgeMonitorModel", name := "undo", desc := "()Z" } : Jvm.MethodName)) ∈ gw := gw_at 1036 (by decide +kernel) (by decide +kernel)
theorem k_668 : (Jvm.Cond.code ({ cls := "PledgeMonitorModel", name := "undo", desc := "()Z" } : Jvm.MethodName) prog_11_method_43_code (2 : Nat) (Option.some Jvm.ClassFile.FieldType.boolean)) ∈ gw := gw_at 1037 (by decide +kernel) (by decide +kernel)
theorem k_669 : (Jvm.Cond.methodLink "PledgeMonitorLaw" (81 : Nat) ({ cls := "PledgeMonitor", name := "today", desc := "()I" } : Jvm.MethodName)) ∈ gw := gw_at 403 (by decide +kernel) (by decide +kernel)
theorem k_670 : (Jvm.Cond.instanceMethod ({ cls := "PledgeMonitor", name := "today", desc := "()I" } : Jvm.MethodName)) ∈ gw := gw_at 404 (by decide +kernel) (by decide +kernel)
theorem k_671 : (Jvm.Cond.selects "PledgeMonitor" ({ cls := "PledgeMonitor", name := "today", desc := "()I" } : Jvm.MethodName) ({ cls := "PledgeMonitor", name := "today", desc := "()I" } : Jvm.MethodName)) ∈ gw := gw_at 405 (by decide +kernel) (by decide +kernel)
theorem k_672 : (Jvm.Cond.code ({ cls := "PledgeMonitor", name := "today", desc := "()I" } : Jvm.MethodName) prog_1_method_11_code (1 : Nat) (Option.some Jvm.ClassFile.FieldType.int)) ∈ gw := gw_at 406 (by decide +kernel) (by decide +kernel)
theorem k_673 : (Jvm.Cond.methodLink "PledgeMonitorLaw" (84 : Nat) ({ cls := "PledgeMonitorModel", name := "today", desc := "()I" } : Jvm.MethodName)) ∈ gw := gw_at 1038 (by decide +kernel) (by decide +kernel)
theorem k_674 : (Jvm.Cond.instanceMethod ({ cls := "PledgeMonitorModel", name := "today", desc := "()I" } : Jvm.MethodName)) ∈ gw := gw_at 1039 (by decide +kernel) (by decide +kernel)
theorem k_675 : (Jvm.Cond.selects "PledgeMonitorModel" ({ cls := "PledgeMonitorModel", name := "today", desc := "()I" } : Jvm.MethodName) ({ cls := "PledgeMonitorModel", name := "today", desc := "()I" } : Jvm.MethodName)) ∈ gw := gw_at 1040 (by decide +kernel) (by decide +kernel)
theorem k_676 : (Jvm.Cond.code ({ cls := "PledgeMonitorModel", name := "today", desc := "()I" } : Jvm.MethodName) prog_11_method_44_code (1 : Nat) (Option.some Jvm.ClassFile.FieldType.int)) ∈ gw := gw_at 1041 (by decide +kernel) (by decide +kernel)
theorem k_677 : (Jvm.Cond.methodLink "PledgeMonitorLaw" (85 : Nat) ({ cls := "PledgeMonitor", name := "duty", desc := "(I)I" } : Jvm.MethodName)) ∈ gw := gw_at 407 (by decide +kernel) (by decide +kernel)
theorem k_678 : (Jvm.Cond.instanceMethod ({ cls := "PledgeMonitor", name := "duty", desc := "(I)I" } : Jvm.MethodName)) ∈ gw := gw_at 408 (by decide +kernel) (by decide +kernel)
theorem k_679 : (Jvm.Cond.selects "PledgeMonitor" ({ cls := "PledgeMonitor", name := "duty", desc := "(I)I" } : Jvm.MethodName) ({ cls := "PledgeMonitor", name := "duty", desc := "(I)I" } : Jvm.MethodName)) ∈ gw := gw_at 409 (by decide +kernel) (by decide +kernel)
theorem k_680 : (Jvm.Cond.code ({ cls := "PledgeMonitor", name := "duty", desc := "(I)I" } : Jvm.MethodName) prog_1_method_12_code (2 : Nat) (Option.some Jvm.ClassFile.FieldType.int)) ∈ gw := gw_at 410 (by decide +kernel) (by decide +kernel)
theorem k_681 : (Jvm.Cond.methodLink "PledgeMonitorLaw" (89 : Nat) ({ cls := "PledgeMonitorModel", name := "duty", desc := "(I)I" } : Jvm.MethodName)) ∈ gw := gw_at 1042 (by decide +kernel) (by decide +kernel)
theorem k_682 : (Jvm.Cond.instanceMethod ({ cls := "PledgeMonitorModel", name := "duty", desc := "(I)I" } : Jvm.MethodName)) ∈ gw := gw_at 1043 (by decide +kernel) (by decide +kernel)
theorem k_683 : (Jvm.Cond.selects "PledgeMonitorModel" ({ cls := "PledgeMonitorModel", name := "duty", desc := "(I)I" } : Jvm.MethodName) ({ cls := "PledgeMonitorModel", name := "duty", desc := "(I)I" } : Jvm.MethodName)) ∈ gw := gw_at 1044 (by decide +kernel) (by decide +kernel)
theorem k_684 : (Jvm.Cond.code ({ cls := "PledgeMonitorModel", name := "duty", desc := "(I)I" } : Jvm.MethodName) prog_11_method_45_code (8 : Nat) (Option.some Jvm.ClassFile.FieldType.int)) ∈ gw := gw_at 1045 (by decide +kernel) (by decide +kernel)
theorem k_685 : (Jvm.Cond.methodLink "PledgeMonitorLaw" (90 : Nat) ({ cls := "PledgeMonitor", name := "count", desc := "(I)I" } : Jvm.MethodName)) ∈ gw := gw_at 411 (by decide +kernel) (by decide +kernel)
theorem k_686 : (Jvm.Cond.instanceMethod ({ cls := "PledgeMonitor", name := "count", desc := "(I)I" } : Jvm.MethodName)) ∈ gw := gw_at 412 (by decide +kernel) (by decide +kernel)
theorem k_687 : (Jvm.Cond.selects "PledgeMonitor" ({ cls := "PledgeMonitor", name := "count", desc := "(I)I" } : Jvm.MethodName) ({ cls := "PledgeMonitor", name := "count", desc := "(I)I" } : Jvm.MethodName)) ∈ gw := gw_at 413 (by decide +kernel) (by decide +kernel)
theorem k_688 : (Jvm.Cond.code ({ cls := "PledgeMonitor", name := "count", desc := "(I)I" } : Jvm.MethodName) prog_1_method_13_code (2 : Nat) (Option.some Jvm.ClassFile.FieldType.int)) ∈ gw := gw_at 414 (by decide +kernel) (by decide +kernel)
theorem k_689 : (Jvm.Cond.methodLink "PledgeMonitorLaw" (93 : Nat) ({ cls := "PledgeMonitorModel", name := "count", desc := "(I)I" } : Jvm.MethodName)) ∈ gw := gw_at 1046 (by decide +kernel) (by decide +kernel)
theorem k_690 : (Jvm.Cond.instanceMethod ({ cls := "PledgeMonitorModel", name := "count", desc := "(I)I" } : Jvm.MethodName)) ∈ gw := gw_at 1047 (by decide +kernel) (by decide +kernel)
theorem k_691 : (Jvm.Cond.selects "PledgeMonitorModel" ({ cls := "PledgeMonitorModel", name := "count", desc := "(I)I" } : Jvm.MethodName) ({ cls := "PledgeMonitorModel", name := "count", desc := "(I)I" } : Jvm.MethodName)) ∈ gw := gw_at 1048 (by decide +kernel) (by decide +kernel)
theorem k_692 : (Jvm.Cond.code ({ cls := "PledgeMonitorModel", name := "count", desc := "(I)I" } : Jvm.MethodName) prog_11_method_46_code (2 : Nat) (Option.some Jvm.ClassFile.FieldType.int)) ∈ gw := gw_at 1049 (by decide +kernel) (by decide +kernel)
theorem k_693 : (Jvm.Cond.methodLink "PledgeMonitorLaw" (94 : Nat) ({ cls := "PledgeMonitor", name := "breaches", desc := "(I)I" } : Jvm.MethodName)) ∈ gw := gw_at 415 (by decide +kernel) (by decide +kernel)
theorem k_694 : (Jvm.Cond.instanceMethod ({ cls := "PledgeMonitor", name := "breaches", desc := "(I)I" } : Jvm.MethodName)) ∈ gw := gw_at 416 (by decide +kernel) (by decide +kernel)
theorem k_695 : (Jvm.Cond.selects "PledgeMonitor" ({ cls := "PledgeMonitor", name := "breaches", desc := "(I)I" } : Jvm.MethodName) ({ cls := "PledgeMonitor", name := "breaches", desc := "(I)I" } : Jvm.MethodName)) ∈ gw := gw_at 417 (by decide +kernel) (by decide +kernel)
theorem k_696 : (Jvm.Cond.code ({ cls := "PledgeMonitor", name := "breaches", desc := "(I)I" } : Jvm.MethodName) prog_1_method_14_code (2 : Nat) (Option.some Jvm.ClassFile.FieldType.int)) ∈ gw := gw_at 418 (by decide +kernel) (by decide +kernel)
theorem k_697 : (Jvm.Cond.methodLink "PledgeMonitorLaw" (97 : Nat) ({ cls := "PledgeMonitorModel", name := "breaches", desc := "(I)I" } : Jvm.MethodName)) ∈ gw := gw_at 1050 (by decide +kernel) (by decide +kernel)
theorem k_698 : (Jvm.Cond.instanceMethod ({ cls := "PledgeMonitorModel", name := "breaches", desc := "(I)I" } : Jvm.MethodName)) ∈ gw := gw_at 1051 (by decide +kernel) (by decide +kernel)
theorem k_699 : (Jvm.Cond.selects "PledgeMonitorModel" ({ cls := "PledgeMonitorModel", name := "breaches", desc := "(I)I" } : Jvm.MethodName) ({ cls := "PledgeMonitorModel", name := "breaches", desc := "(I)I" } : Jvm.MethodName)) ∈ gw := gw_at 1052 (by decide +kernel) (by decide +kernel)
theorem k_700 : (Jvm.Cond.code ({ cls := "PledgeMonitorModel", name := "breaches", desc := "(I)I" } : Jvm.MethodName) prog_11_method_47_code (2 : Nat) (Option.some Jvm.ClassFile.FieldType.int)) ∈ gw := gw_at 1053 (by decide +kernel) (by decide +kernel)
theorem k_701 : (Jvm.Cond.methodLink "PledgeMonitorLaw" (98 : Nat) ({ cls := "PledgeMonitor", name := "may", desc := "(II)I" } : Jvm.MethodName)) ∈ gw := gw_at 419 (by decide +kernel) (by decide +kernel)
theorem k_702 : (Jvm.Cond.instanceMethod ({ cls := "PledgeMonitor", name := "may", desc := "(II)I" } : Jvm.MethodName)) ∈ gw := gw_at 420 (by decide +kernel) (by decide +kernel)
theorem k_703 : (Jvm.Cond.selects "PledgeMonitor" ({ cls := "PledgeMonitor", name := "may", desc := "(II)I" } : Jvm.MethodName) ({ cls := "PledgeMonitor", name := "may", desc := "(II)I" } : Jvm.MethodName)) ∈ gw := gw_at 421 (by decide +kernel) (by decide +kernel)
theorem k_704 : (Jvm.Cond.code ({ cls := "PledgeMonitor", name := "may", desc := "(II)I" } : Jvm.MethodName) prog_1_method_15_code (3 : Nat) (Option.some Jvm.ClassFile.FieldType.int)) ∈ gw := gw_at 422 (by decide +kernel) (by decide +kernel)
theorem k_705 : (Jvm.Cond.methodLink "PledgeMonitorLaw" (101 : Nat) ({ cls := "PledgeMonitorModel", name := "may", desc := "(II)I" } : Jvm.MethodName)) ∈ gw := gw_at 1054 (by decide +kernel) (by decide +kernel)
theorem k_706 : (Jvm.Cond.instanceMethod ({ cls := "PledgeMonitorModel", name := "may", desc := "(II)I" } : Jvm.MethodName)) ∈ gw := gw_at 1055 (by decide +kernel) (by decide +kernel)
theorem k_707 : (Jvm.Cond.selects "PledgeMonitorModel" ({ cls := "PledgeMonitorModel", name := "may", desc := "(II)I" } : Jvm.MethodName) ({ cls := "PledgeMonitorModel", name := "may", desc := "(II)I" } : Jvm.MethodName)) ∈ gw := gw_at 1056 (by decide +kernel) (by decide +kernel)
theorem k_708 : (Jvm.Cond.code ({ cls := "PledgeMonitorModel", name := "may", desc := "(II)I" } : Jvm.MethodName) prog_11_method_48_code (3 : Nat) (Option.some Jvm.ClassFile.FieldType.int)) ∈ gw := gw_at 1057 (by decide +kernel) (by decide +kernel)
theorem k_709 : (Jvm.Cond.methodLink "PledgeMonitorLaw" (102 : Nat) ({ cls := "PledgeMonitor", name := "owed", desc := "(II)I" } : Jvm.MethodName)) ∈ gw := gw_at 441 (by decide +kernel) (by decide +kernel)
theorem k_710 : (Jvm.Cond.instanceMethod ({ cls := "PledgeMonitor", name := "owed", desc := "(II)I" } : Jvm.MethodName)) ∈ gw := gw_at 442 (by decide +kernel) (by decide +kernel)
theorem k_711 : (Jvm.Cond.selects "PledgeMonitor" ({ cls := "PledgeMonitor", name := "owed", desc := "(II)I" } : Jvm.MethodName) ({ cls := "PledgeMonitor", name := "owed", desc := "(II)I" } : Jvm.MethodName)) ∈ gw := gw_at 443 (by decide +kernel) (by decide +kernel)
theorem k_712 : (Jvm.Cond.code ({ cls := "PledgeMonitor", name := "owed", desc := "(II)I" } : Jvm.MethodName) prog_1_method_16_code (3 : Nat) (Option.some Jvm.ClassFile.FieldType.int)) ∈ gw := gw_at 444 (by decide +kernel) (by decide +kernel)
theorem k_713 : (Jvm.Cond.methodLink "PledgeMonitorLaw" (105 : Nat) ({ cls := "PledgeMonitorModel", name := "owed", desc := "(II)I" } : Jvm.MethodName)) ∈ gw := gw_at 1058 (by decide +kernel) (by decide +kernel)
theorem k_714 : (Jvm.Cond.instanceMethod ({ cls := "PledgeMonitorModel", name := "owed", desc := "(II)I" } : Jvm.MethodName)) ∈ gw := gw_at 1059 (by decide +kernel) (by decide +kernel)
theorem k_715 : (Jvm.Cond.selects "PledgeMonitorModel" ({ cls := "PledgeMonitorModel", name := "owed", desc := "(II)I" } : Jvm.MethodName) ({ cls := "PledgeMonitorModel", name := "owed", desc := "(II)I" } : Jvm.MethodName)) ∈ gw := gw_at 1060 (by decide +kernel) (by decide +kernel)
theorem k_716 : (Jvm.Cond.code ({ cls := "PledgeMonitorModel", name := "owed", desc := "(II)I" } : Jvm.MethodName) prog_11_method_49_code (3 : Nat) (Option.some Jvm.ClassFile.FieldType.int)) ∈ gw := gw_at 1061 (by decide +kernel) (by decide +kernel)
theorem k_717 : (Jvm.Cond.methodLink "PledgeMonitorLaw" (106 : Nat) ({ cls := "PledgeMonitorLaw", name := "course", desc := "(LPledgeMonitor;II[J)I" } : Jvm.MethodName)) ∈ gw := gw_at 740 (by decide +kernel) (by decide +kernel)
theorem k_718 : (Jvm.Cond.codeWith ({ cls := "PledgeMonitorLaw", name := "course", desc := "(LPledgeMonitor;II[J)I" } : Jvm.MethodName) method_6_code (5 : Nat) (Option.some Jvm.ClassFile.FieldType.int) [((0 : Nat), (10 : Nat), (13 : Nat), (21 : Nat)), ((0 : Nat), (10 : Nat), (17 : Nat), (13 : Nat))]) ∈ gw := gw_at 742 (by decide +kernel) (by decide +kernel)
theorem k_719 : (Jvm.Cond.static ({ cls := "PledgeMonitorLaw", name := "course", desc := "(LPledgeMonitor;II[J)I" } : Jvm.MethodName)) ∈ gw := gw_at 741 (by decide +kernel) (by decide +kernel)
theorem k_720 : (Jvm.Cond.methodLink "PledgeMonitorLaw" (108 : Nat) ({ cls := "PledgeMonitorModel", name := "course", desc := "(II)I" } : Jvm.MethodName)) ∈ gw := gw_at 1062 (by decide +kernel) (by decide +kernel)
theorem k_721 : (Jvm.Cond.instanceMethod ({ cls := "PledgeMonitorModel", name := "course", desc := "(II)I" } : Jvm.MethodName)) ∈ gw := gw_at 1063 (by decide +kernel) (by decide +kernel)
theorem k_722 : (Jvm.Cond.selects "PledgeMonitorModel" ({ cls := "PledgeMonitorModel", name := "course", desc := "(II)I" } : Jvm.MethodName) ({ cls := "PledgeMonitorModel", name := "course", desc := "(II)I" } : Jvm.MethodName)) ∈ gw := gw_at 1064 (by decide +kernel) (by decide +kernel)
theorem k_723 : (Jvm.Cond.code ({ cls := "PledgeMonitorModel", name := "course", desc := "(II)I" } : Jvm.MethodName) prog_11_method_54_code (4 : Nat) (Option.some Jvm.ClassFile.FieldType.int)) ∈ gw := gw_at 1065 (by decide +kernel) (by decide +kernel)
theorem k_724 : (Jvm.Cond.methodLink "PledgeMonitorLaw" (109 : Nat) ({ cls := "PledgeMonitorLaw", name := "threat", desc := "(LPledgeMonitor;II[J)I" } : Jvm.MethodName)) ∈ gw := gw_at 778 (by decide +kernel) (by decide +kernel)
theorem k_725 : (Jvm.Cond.codeWith ({ cls := "PledgeMonitorLaw", name := "threat", desc := "(LPledgeMonitor;II[J)I" } : Jvm.MethodName) method_7_code (5 : Nat) (Option.some Jvm.ClassFile.FieldType.int) [((0 : Nat), (10 : Nat), (13 : Nat), (21 : Nat)), ((0 : Nat), (10 : Nat), (17 : Nat), (13 : Nat))]) ∈ gw := gw_at 780 (by decide +kernel) (by decide +kernel)
theorem k_726 : (Jvm.Cond.static ({ cls := "PledgeMonitorLaw", name := "threat", desc := "(LPledgeMonitor;II[J)I" } : Jvm.MethodName)) ∈ gw := gw_at 779 (by decide +kernel) (by decide +kernel)
theorem k_727 : (Jvm.Cond.methodLink "PledgeMonitorLaw" (111 : Nat) ({ cls := "PledgeMonitorModel", name := "threat", desc := "(II)I" } : Jvm.MethodName)) ∈ gw := gw_at 1082 (by decide +kernel) (by decide +kernel)
theorem k_728 : (Jvm.Cond.instanceMethod ({ cls := "PledgeMonitorModel", name := "threat", desc := "(II)I" } : Jvm.MethodName)) ∈ gw := gw_at 1083 (by decide +kernel) (by decide +kernel)
theorem k_729 : (Jvm.Cond.selects "PledgeMonitorModel" ({ cls := "PledgeMonitorModel", name := "threat", desc := "(II)I" } : Jvm.MethodName) ({ cls := "PledgeMonitorModel", name := "threat", desc := "(II)I" } : Jvm.MethodName)) ∈ gw := gw_at 1084 (by decide +kernel) (by decide +kernel)
theorem k_730 : (Jvm.Cond.code ({ cls := "PledgeMonitorModel", name := "threat", desc := "(II)I" } : Jvm.MethodName) prog_11_method_55_code (5 : Nat) (Option.some Jvm.ClassFile.FieldType.int)) ∈ gw := gw_at 1085 (by decide +kernel) (by decide +kernel)
theorem hn_Pm_init : zyPm_init.cls ≠ "java/lang/invoke/MethodHandle" ∧ zyPm_init.cls ≠ "java/lang/invoke/VarHandle" ∧ (parseMethodDescriptor zyPm_init.desc).map (fun d => d.parameters.length) = some 0 := by decide +kernel
theorem hn_Mo_init : zyMo_init.cls ≠ "java/lang/invoke/MethodHandle" ∧ zyMo_init.cls ≠ "java/lang/invoke/VarHandle" ∧ (parseMethodDescriptor zyMo_init.desc).map (fun d => d.parameters.length) = some 0 := by decide +kernel
theorem hv_Pm_type : zyPm_type.cls = zR8 ∧ zyPm_type.cls ≠ "java/lang/invoke/MethodHandle" ∧ zyPm_type.cls ≠ "java/lang/invoke/VarHandle" ∧ (parseMethodDescriptor zyPm_type.desc).map (fun d => d.parameters.length) = some 1 := by decide +kernel
theorem gv_Lw_38 : GoodIn gw (wsV "PledgeMonitorLaw" 38 zR8 zyPm_type (ws_Pm_type)) := gd_V k_595 k_596 k_597 k_347 k_598
theorem hv_Mo_type : zyMo_type.cls = zR9 ∧ zyMo_type.cls ≠ "java/lang/invoke/MethodHandle" ∧ zyMo_type.cls ≠ "java/lang/invoke/VarHandle" ∧ (parseMethodDescriptor zyMo_type.desc).map (fun d => d.parameters.length) = some 1 := by decide +kernel
theorem gv_Lw_42 : GoodIn gw (wsV "PledgeMonitorLaw" 42 zR9 zyMo_type (ws_Mo_type)) := gd_V k_599 k_600 k_601 k_394 k_602
theorem hv_Pm_erase : zyPm_erase.cls = zR8 ∧ zyPm_erase.cls ≠ "java/lang/invoke/MethodHandle" ∧ zyPm_erase.cls ≠ "java/lang/invoke/VarHandle" ∧ (parseMethodDescriptor zyPm_erase.desc).map (fun d => d.parameters.length) = some 0 := by decide +kernel
theorem gv_Lw_43 : GoodIn gw (wsV "PledgeMonitorLaw" 43 zR8 zyPm_erase (ws_Pm_erase)) := gd_V k_603 k_604 k_605 k_347 k_606
theorem hv_Mo_erase : zyMo_erase.cls = zR9 ∧ zyMo_erase.cls ≠ "java/lang/invoke/MethodHandle" ∧ zyMo_erase.cls ≠ "java/lang/invoke/VarHandle" ∧ (parseMethodDescriptor zyMo_erase.desc).map (fun d => d.parameters.length) = some 0 := by decide +kernel
theorem gv_Lw_46 : GoodIn gw (wsV "PledgeMonitorLaw" 46 zR9 zyMo_erase (ws_Mo_erase)) := gd_V k_607 k_608 k_609 k_394 k_610
theorem hv_Pm_free : zyPm_free.cls = zR8 ∧ zyPm_free.cls ≠ "java/lang/invoke/MethodHandle" ∧ zyPm_free.cls ≠ "java/lang/invoke/VarHandle" ∧ (parseMethodDescriptor zyPm_free.desc).map (fun d => d.parameters.length) = some 1 := by decide +kernel
theorem gv_Lw_47 : GoodIn gw (wsV "PledgeMonitorLaw" 47 zR8 zyPm_free (ws_Pm_free)) := gd_V k_611 k_612 k_613 k_347 k_614
theorem hv_Mo_free : zyMo_free.cls = zR9 ∧ zyMo_free.cls ≠ "java/lang/invoke/MethodHandle" ∧ zyMo_free.cls ≠ "java/lang/invoke/VarHandle" ∧ (parseMethodDescriptor zyMo_free.desc).map (fun d => d.parameters.length) = some 1 := by decide +kernel
theorem gv_Lw_51 : GoodIn gw (wsV "PledgeMonitorLaw" 51 zR9 zyMo_free (ws_Mo_free)) := gd_V k_615 k_616 k_617 k_394 k_618
theorem hn_Lw_begin : zyLw_begin.cls ≠ "java/lang/invoke/MethodHandle" ∧ zyLw_begin.cls ≠ "java/lang/invoke/VarHandle" ∧ (parseMethodDescriptor zyLw_begin.desc).map (fun d => d.parameters.length) = some 2 := by decide +kernel
theorem hv_Mo_begin : zyMo_begin.cls = zR9 ∧ zyMo_begin.cls ≠ "java/lang/invoke/MethodHandle" ∧ zyMo_begin.cls ≠ "java/lang/invoke/VarHandle" ∧ (parseMethodDescriptor zyMo_begin.desc).map (fun d => d.parameters.length) = some 0 := by decide +kernel
theorem gv_Lw_57 : GoodIn gw (wsV "PledgeMonitorLaw" 57 zR9 zyMo_begin (ws_Mo_begin)) := gd_V k_623 k_624 k_625 k_394 k_626
theorem hv_Mo_thrown : zyMo_thrown.cls = zR9 ∧ zyMo_thrown.cls ≠ "java/lang/invoke/MethodHandle" ∧ zyMo_thrown.cls ≠ "java/lang/invoke/VarHandle" ∧ (parseMethodDescriptor zyMo_thrown.desc).map (fun d => d.parameters.length) = some 0 := by decide +kernel
theorem gv_Lw_58 : GoodIn gw (wsV "PledgeMonitorLaw" 58 zR9 zyMo_thrown (ws_Mo_thrown)) := gd_V k_627 k_628 k_629 k_394 k_630
theorem hv_Pm_stop : zyPm_stop.cls = zR8 ∧ zyPm_stop.cls ≠ "java/lang/invoke/MethodHandle" ∧ zyPm_stop.cls ≠ "java/lang/invoke/VarHandle" ∧ (parseMethodDescriptor zyPm_stop.desc).map (fun d => d.parameters.length) = some 0 := by decide +kernel
theorem gv_Lw_61 : GoodIn gw (wsV "PledgeMonitorLaw" 61 zR8 zyPm_stop (ws_Pm_stop)) := gd_V k_631 k_632 k_633 k_347 k_634
theorem hv_Mo_stop : zyMo_stop.cls = zR9 ∧ zyMo_stop.cls ≠ "java/lang/invoke/MethodHandle" ∧ zyMo_stop.cls ≠ "java/lang/invoke/VarHandle" ∧ (parseMethodDescriptor zyMo_stop.desc).map (fun d => d.parameters.length) = some 0 := by decide +kernel
theorem gv_Lw_65 : GoodIn gw (wsV "PledgeMonitorLaw" 65 zR9 zyMo_stop (ws_Mo_stop)) := gd_V k_635 k_636 k_637 k_394 k_638
theorem hv_Pm_fault : zyPm_fault.cls = zR8 ∧ zyPm_fault.cls ≠ "java/lang/invoke/MethodHandle" ∧ zyPm_fault.cls ≠ "java/lang/invoke/VarHandle" ∧ (parseMethodDescriptor zyPm_fault.desc).map (fun d => d.parameters.length) = some 0 := by decide +kernel
theorem gv_Lw_66 : GoodIn gw (wsV "PledgeMonitorLaw" 66 zR8 zyPm_fault (ws_Pm_fault)) := gd_V k_639 k_640 k_641 k_347 k_642
theorem hv_Mo_fault : zyMo_fault.cls = zR9 ∧ zyMo_fault.cls ≠ "java/lang/invoke/MethodHandle" ∧ zyMo_fault.cls ≠ "java/lang/invoke/VarHandle" ∧ (parseMethodDescriptor zyMo_fault.desc).map (fun d => d.parameters.length) = some 0 := by decide +kernel
theorem gv_Lw_69 : GoodIn gw (wsV "PledgeMonitorLaw" 69 zR9 zyMo_fault (ws_Mo_fault)) := gd_V k_643 k_644 k_645 k_394 k_646
theorem hn_Lw_event : zyLw_event.cls ≠ "java/lang/invoke/MethodHandle" ∧ zyLw_event.cls ≠ "java/lang/invoke/VarHandle" ∧ (parseMethodDescriptor zyLw_event.desc).map (fun d => d.parameters.length) = some 4 := by decide +kernel
theorem hv_Mo_event : zyMo_event.cls = zR9 ∧ zyMo_event.cls ≠ "java/lang/invoke/MethodHandle" ∧ zyMo_event.cls ≠ "java/lang/invoke/VarHandle" ∧ (parseMethodDescriptor zyMo_event.desc).map (fun d => d.parameters.length) = some 2 := by decide +kernel
theorem gv_Lw_73 : GoodIn gw (wsV "PledgeMonitorLaw" 73 zR9 zyMo_event (ws_Mo_event)) := gd_V k_650 k_651 k_652 k_394 k_653
theorem hn_Lw_nextDay : zyLw_nextDay.cls ≠ "java/lang/invoke/MethodHandle" ∧ zyLw_nextDay.cls ≠ "java/lang/invoke/VarHandle" ∧ (parseMethodDescriptor zyLw_nextDay.desc).map (fun d => d.parameters.length) = some 2 := by decide +kernel
theorem hv_Mo_nextDay : zyMo_nextDay.cls = zR9 ∧ zyMo_nextDay.cls ≠ "java/lang/invoke/MethodHandle" ∧ zyMo_nextDay.cls ≠ "java/lang/invoke/VarHandle" ∧ (parseMethodDescriptor zyMo_nextDay.desc).map (fun d => d.parameters.length) = some 0 := by decide +kernel
theorem gv_Lw_76 : GoodIn gw (wsV "PledgeMonitorLaw" 76 zR9 zyMo_nextDay (ws_Mo_nextDay)) := gd_V k_657 k_658 k_659 k_394 k_660
theorem hv_Pm_undo : zyPm_undo.cls = zR8 ∧ zyPm_undo.cls ≠ "java/lang/invoke/MethodHandle" ∧ zyPm_undo.cls ≠ "java/lang/invoke/VarHandle" ∧ (parseMethodDescriptor zyPm_undo.desc).map (fun d => d.parameters.length) = some 0 := by decide +kernel
theorem gv_Lw_77 : GoodIn gw (wsV "PledgeMonitorLaw" 77 zR8 zyPm_undo (ws_Pm_undo)) := gd_V k_661 k_662 k_663 k_347 k_664
theorem hv_Mo_undo : zyMo_undo.cls = zR9 ∧ zyMo_undo.cls ≠ "java/lang/invoke/MethodHandle" ∧ zyMo_undo.cls ≠ "java/lang/invoke/VarHandle" ∧ (parseMethodDescriptor zyMo_undo.desc).map (fun d => d.parameters.length) = some 0 := by decide +kernel
theorem gv_Lw_80 : GoodIn gw (wsV "PledgeMonitorLaw" 80 zR9 zyMo_undo (ws_Mo_undo)) := gd_V k_665 k_666 k_667 k_394 k_668
theorem hv_Pm_today : zyPm_today.cls = zR8 ∧ zyPm_today.cls ≠ "java/lang/invoke/MethodHandle" ∧ zyPm_today.cls ≠ "java/lang/invoke/VarHandle" ∧ (parseMethodDescriptor zyPm_today.desc).map (fun d => d.parameters.length) = some 0 := by decide +kernel
theorem gv_Lw_81 : GoodIn gw (wsV "PledgeMonitorLaw" 81 zR8 zyPm_today (ws_Pm_today)) := gd_V k_669 k_670 k_671 k_347 k_672
theorem hv_Mo_today : zyMo_today.cls = zR9 ∧ zyMo_today.cls ≠ "java/lang/invoke/MethodHandle" ∧ zyMo_today.cls ≠ "java/lang/invoke/VarHandle" ∧ (parseMethodDescriptor zyMo_today.desc).map (fun d => d.parameters.length) = some 0 := by decide +kernel
theorem gv_Lw_84 : GoodIn gw (wsV "PledgeMonitorLaw" 84 zR9 zyMo_today (ws_Mo_today)) := gd_V k_673 k_674 k_675 k_394 k_676
theorem hv_Pm_duty : zyPm_duty.cls = zR8 ∧ zyPm_duty.cls ≠ "java/lang/invoke/MethodHandle" ∧ zyPm_duty.cls ≠ "java/lang/invoke/VarHandle" ∧ (parseMethodDescriptor zyPm_duty.desc).map (fun d => d.parameters.length) = some 1 := by decide +kernel
theorem gv_Lw_85 : GoodIn gw (wsV "PledgeMonitorLaw" 85 zR8 zyPm_duty (ws_Pm_duty)) := gd_V k_677 k_678 k_679 k_347 k_680
theorem hv_Mo_duty : zyMo_duty.cls = zR9 ∧ zyMo_duty.cls ≠ "java/lang/invoke/MethodHandle" ∧ zyMo_duty.cls ≠ "java/lang/invoke/VarHandle" ∧ (parseMethodDescriptor zyMo_duty.desc).map (fun d => d.parameters.length) = some 1 := by decide +kernel
theorem gv_Lw_89 : GoodIn gw (wsV "PledgeMonitorLaw" 89 zR9 zyMo_duty (ws_Mo_duty)) := gd_V k_681 k_682 k_683 k_394 k_684
theorem hv_Pm_count : zyPm_count.cls = zR8 ∧ zyPm_count.cls ≠ "java/lang/invoke/MethodHandle" ∧ zyPm_count.cls ≠ "java/lang/invoke/VarHandle" ∧ (parseMethodDescriptor zyPm_count.desc).map (fun d => d.parameters.length) = some 1 := by decide +kernel
theorem gv_Lw_90 : GoodIn gw (wsV "PledgeMonitorLaw" 90 zR8 zyPm_count (ws_Pm_count)) := gd_V k_685 k_686 k_687 k_347 k_688
theorem hv_Mo_count : zyMo_count.cls = zR9 ∧ zyMo_count.cls ≠ "java/lang/invoke/MethodHandle" ∧ zyMo_count.cls ≠ "java/lang/invoke/VarHandle" ∧ (parseMethodDescriptor zyMo_count.desc).map (fun d => d.parameters.length) = some 1 := by decide +kernel
theorem gv_Lw_93 : GoodIn gw (wsV "PledgeMonitorLaw" 93 zR9 zyMo_count (ws_Mo_count)) := gd_V k_689 k_690 k_691 k_394 k_692
theorem hv_Pm_breaches : zyPm_breaches.cls = zR8 ∧ zyPm_breaches.cls ≠ "java/lang/invoke/MethodHandle" ∧ zyPm_breaches.cls ≠ "java/lang/invoke/VarHandle" ∧ (parseMethodDescriptor zyPm_breaches.desc).map (fun d => d.parameters.length) = some 1 := by decide +kernel
theorem gv_Lw_94 : GoodIn gw (wsV "PledgeMonitorLaw" 94 zR8 zyPm_breaches (ws_Pm_breaches)) := gd_V k_693 k_694 k_695 k_347 k_696
theorem hv_Mo_breaches : zyMo_breaches.cls = zR9 ∧ zyMo_breaches.cls ≠ "java/lang/invoke/MethodHandle" ∧ zyMo_breaches.cls ≠ "java/lang/invoke/VarHandle" ∧ (parseMethodDescriptor zyMo_breaches.desc).map (fun d => d.parameters.length) = some 1 := by decide +kernel
theorem gv_Lw_97 : GoodIn gw (wsV "PledgeMonitorLaw" 97 zR9 zyMo_breaches (ws_Mo_breaches)) := gd_V k_697 k_698 k_699 k_394 k_700
theorem hv_Pm_may : zyPm_may.cls = zR8 ∧ zyPm_may.cls ≠ "java/lang/invoke/MethodHandle" ∧ zyPm_may.cls ≠ "java/lang/invoke/VarHandle" ∧ (parseMethodDescriptor zyPm_may.desc).map (fun d => d.parameters.length) = some 2 := by decide +kernel
theorem gv_Lw_98 : GoodIn gw (wsV "PledgeMonitorLaw" 98 zR8 zyPm_may (ws_Pm_may)) := gd_V k_701 k_702 k_703 k_347 k_704
theorem hv_Mo_may : zyMo_may.cls = zR9 ∧ zyMo_may.cls ≠ "java/lang/invoke/MethodHandle" ∧ zyMo_may.cls ≠ "java/lang/invoke/VarHandle" ∧ (parseMethodDescriptor zyMo_may.desc).map (fun d => d.parameters.length) = some 2 := by decide +kernel
theorem gv_Lw_101 : GoodIn gw (wsV "PledgeMonitorLaw" 101 zR9 zyMo_may (ws_Mo_may)) := gd_V k_705 k_706 k_707 k_394 k_708
theorem hv_Pm_owed : zyPm_owed.cls = zR8 ∧ zyPm_owed.cls ≠ "java/lang/invoke/MethodHandle" ∧ zyPm_owed.cls ≠ "java/lang/invoke/VarHandle" ∧ (parseMethodDescriptor zyPm_owed.desc).map (fun d => d.parameters.length) = some 2 := by decide +kernel
theorem gv_Lw_102 : GoodIn gw (wsV "PledgeMonitorLaw" 102 zR8 zyPm_owed (ws_Pm_owed)) := gd_V k_709 k_710 k_711 k_347 k_712
theorem hv_Mo_owed : zyMo_owed.cls = zR9 ∧ zyMo_owed.cls ≠ "java/lang/invoke/MethodHandle" ∧ zyMo_owed.cls ≠ "java/lang/invoke/VarHandle" ∧ (parseMethodDescriptor zyMo_owed.desc).map (fun d => d.parameters.length) = some 2 := by decide +kernel
theorem gv_Lw_105 : GoodIn gw (wsV "PledgeMonitorLaw" 105 zR9 zyMo_owed (ws_Mo_owed)) := gd_V k_713 k_714 k_715 k_394 k_716
theorem hn_Lw_course : zyLw_course.cls ≠ "java/lang/invoke/MethodHandle" ∧ zyLw_course.cls ≠ "java/lang/invoke/VarHandle" ∧ (parseMethodDescriptor zyLw_course.desc).map (fun d => d.parameters.length) = some 4 := by decide +kernel
theorem hv_Mo_course : zyMo_course.cls = zR9 ∧ zyMo_course.cls ≠ "java/lang/invoke/MethodHandle" ∧ zyMo_course.cls ≠ "java/lang/invoke/VarHandle" ∧ (parseMethodDescriptor zyMo_course.desc).map (fun d => d.parameters.length) = some 2 := by decide +kernel
theorem gv_Lw_108 : GoodIn gw (wsV "PledgeMonitorLaw" 108 zR9 zyMo_course (ws_Mo_course)) := gd_V k_720 k_721 k_722 k_394 k_723
theorem hn_Lw_threat : zyLw_threat.cls ≠ "java/lang/invoke/MethodHandle" ∧ zyLw_threat.cls ≠ "java/lang/invoke/VarHandle" ∧ (parseMethodDescriptor zyLw_threat.desc).map (fun d => d.parameters.length) = some 4 := by decide +kernel
theorem hv_Mo_threat : zyMo_threat.cls = zR9 ∧ zyMo_threat.cls ≠ "java/lang/invoke/MethodHandle" ∧ zyMo_threat.cls ≠ "java/lang/invoke/VarHandle" ∧ (parseMethodDescriptor zyMo_threat.desc).map (fun d => d.parameters.length) = some 2 := by decide +kernel
theorem gv_Lw_111 : GoodIn gw (wsV "PledgeMonitorLaw" 111 zR9 zyMo_threat (ws_Mo_threat)) := gd_V k_727 k_728 k_729 k_394 k_730
def lp_Lw_law_23 (p0 : Nat) (a0_0 : Nat) (a8_1 : Nat) (a17_2 : Nat) (g23 : Mm → Int32 → Rr) (Mh23 : Mm) (w23_4 : Int32) : Rr := fo_an Mh23 6 p0 fun v26 => if (v26 - 3) < w23_4 then some (1, Mh23) else fo_ai Mh23 6 p0 w23_4 fun v35 => fo_jp (fun (Mj708 : Mm) => g23 Mj708 (w23_4 + 3)) (fun j708 => if (v35 &&& 31) = 0 then fo_ai Mh23 6 p0 (w23_4 + 1) fun v126 => fo_ai Mh23 6 p0 (w23_4 + 2) fun v136 => fo_cv Mh23 8 a0_0 (fn_Pm_type Mh23 a0_0 (((v126.toInt64) <<< ((32 : Int32).toInt64 &&& 63)) ||| ((v136.toInt64) &&& 4294967295))) fun v143 M143 => fo_ai M143 6 p0 (w23_4 + 1) fun v152 => fo_ai M143 6 p0 (w23_4 + 2) fun v162 => fo_cv M143 9 a8_1 (fn_Mo_type M143 a8_1 (((v152.toInt64) <<< ((32 : Int32).toInt64 &&& 63)) ||| ((v162.toInt64) &&& 4294967295))) fun v169 M169 => if v143 = v169 then j708 M169 else some (0, M169) else if (v35 &&& 31) = 1 then fo_cv Mh23 8 a0_0 (fn_Pm_erase Mh23 a0_0) fun v178 M178 => fo_cv M178 9 a8_1 (fn_Mo_erase M178 a8_1) fun v182 M182 => if v178 = v182 then j708 M182 else some (0, M182) else if (v35 &&& 31) = 2 then fo_ai Mh23 6 p0 (w23_4 + 1) fun v196 => fo_cv Mh23 8 a0_0 (fn_Pm_free Mh23 a0_0 v196) fun v197 M197 => fo_ai M197 6 p0 (w23_4 + 1) fun v206 => fo_cv M197 9 a8_1 (fn_Mo_free M197 a8_1 v206) fun v207 M207 => if v197 = v207 then j708 M207 else some (0, M207) else if (v35 &&& 31) = 3 then fo_cl (fn_Lw_begin Mh23 a0_0 a17_2) fun v217 M217 => fo_cv M217 9 a8_1 (fn_Mo_begin M217 a8_1) fun v223 M223 => fo_cv M223 9 a8_1 (fn_Mo_thrown M223 a8_1) fun v229 M229 => if v229 = v217 then fo_jp (j708 M229) (fun j256 => if v217 = 0 then fo_al M229 a17_2 0 fun v246 => if (lg_cmp v246 (v223.toInt64)) = 0 then j256 else some (0, M229) else j256) else some (0, M229) else if (v35 &&& 31) = 4 then fo_cv Mh23 8 a0_0 (fn_Pm_stop Mh23 a0_0) fun v260 M260 => fo_cv M260 9 a8_1 (fn_Mo_stop M260 a8_1) fun v264 M264 => if v260 = v264 then j708 M264 else some (0, M264) else if (v35 &&& 31) = 5 then fo_cv Mh23 8 a0_0 (fn_Pm_fault Mh23 a0_0) fun v273 M273 => fo_cv M273 9 a8_1 (fn_Mo_fault M273 a8_1) fun v277 M277 => if v273 = v277 then j708 M277 else some (0, M277) else if (v35 &&& 31) = 6 then fo_ai Mh23 6 p0 (w23_4 + 1) fun v291 => fo_ai Mh23 6 p0 (w23_4 + 2) fun v297 => fo_cl (fn_Lw_event Mh23 a0_0 v291 v297 a17_2) fun v299 M299 => fo_ai M299 6 p0 (w23_4 + 1) fun v310 => fo_ai M299 6 p0 (w23_4 + 2) fun v316 => fo_cv M299 9 a8_1 (fn_Mo_event M299 a8_1 v310 v316) fun v317 M317 => fo_cv M317 9 a8_1 (fn_Mo_thrown M317 a8_1) fun v323 M323 => if v323 = v299 then fo_jp (j708 M323) (fun j350 => if v299 = 0 then fo_al M323 a17_2 0 fun v340 => if (lg_cmp v340 (v317.toInt64)) = 0 then j350 else some (0, M323) else j350) else some (0, M323) else if (v35 &&& 31) = 7 then fo_cl (fn_Lw_nextDay Mh23 a0_0 a17_2) fun v355 M355 => fo_cv M355 9 a8_1 (fn_Mo_nextDay M355 a8_1) fun v361 M361 => fo_cv M361 9 a8_1 (fn_Mo_thrown M361 a8_1) fun v367 M367 => if v367 = v355 then fo_jp (j708 M367) (fun j394 => if v355 = 0 then fo_al M367 a17_2 0 fun v384 => if (lg_cmp v384 (v361.toInt64)) = 0 then j394 else some (0, M367) else j394) else some (0, M367) else if (v35 &&& 31) = 8 then fo_cv Mh23 8 a0_0 (fn_Pm_undo Mh23 a0_0) fun v398 M398 => fo_cv M398 9 a8_1 (fn_Mo_undo M398 a8_1) fun v402 M402 => if v398 = v402 then j708 M402 else some (0, M402) else if (v35 &&& 31) = 9 then fo_cv Mh23 8 a0_0 (fn_Pm_today Mh23 a0_0) fun v411 M411 => fo_cv M411 9 a8_1 (fn_Mo_today M411 a8_1) fun v415 M415 => if v411 = v415 then j708 M415 else some (0, M415) else if (v35 &&& 31) = 10 then fo_ai Mh23 6 p0 (w23_4 + 1) fun v429 => fo_cv Mh23 8 a0_0 (fn_Pm_duty Mh23 a0_0 v429) fun v430 M430 => fo_ai M430 6 p0 (w23_4 + 1) fun v439 => fo_cv M430 9 a8_1 (fn_Mo_duty M430 a8_1 v439) fun v440 M440 => if v430 = v440 then j708 M440 else some (0, M440) else if (v35 &&& 31) = 11 then fo_ai Mh23 6 p0 (w23_4 + 1) fun v454 => fo_cv Mh23 8 a0_0 (fn_Pm_count Mh23 a0_0 v454) fun v455 M455 => fo_ai M455 6 p0 (w23_4 + 1) fun v464 => fo_cv M455 9 a8_1 (fn_Mo_count M455 a8_1 v464) fun v465 M465 => if v455 = v465 then j708 M465 else some (0, M465) else if (v35 &&& 31) = 12 then fo_ai Mh23 6 p0 (w23_4 + 1) fun v479 => fo_cv Mh23 8 a0_0 (fn_Pm_breaches Mh23 a0_0 v479) fun v480 M480 => fo_ai M480 6 p0 (w23_4 + 1) fun v489 => fo_cv M480 9 a8_1 (fn_Mo_breaches M480 a8_1 v489) fun v490 M490 => if v480 = v490 then j708 M490 else some (0, M490) else if (v35 &&& 31) = 13 then fo_ai Mh23 6 p0 (w23_4 + 1) fun v504 => fo_ai Mh23 6 p0 (w23_4 + 2) fun v510 => fo_cv Mh23 8 a0_0 (fn_Pm_may Mh23 a0_0 v504 v510) fun v511 M511 => fo_ai M511 6 p0 (w23_4 + 1) fun v520 => fo_ai M511 6 p0 (w23_4 + 2) fun v526 => fo_cv M511 9 a8_1 (fn_Mo_may M511 a8_1 v520 v526) fun v527 M527 => if v511 = v527 then j708 M527 else some (0, M527) else if (v35 &&& 31) = 14 then fo_ai Mh23 6 p0 (w23_4 + 1) fun v541 => fo_ai Mh23 6 p0 (w23_4 + 2) fun v547 => fo_cv Mh23 8 a0_0 (fn_Pm_owed Mh23 a0_0 v541 v547) fun v548 M548 => fo_ai M548 6 p0 (w23_4 + 1) fun v557 => fo_ai M548 6 p0 (w23_4 + 2) fun v563 => fo_cv M548 9 a8_1 (fn_Mo_owed M548 a8_1 v557 v563) fun v564 M564 => if v548 = v564 then j708 M564 else some (0, M564) else if (v35 &&& 31) = 15 then fo_ai Mh23 6 p0 (w23_4 + 1) fun v578 => fo_ai Mh23 6 p0 (w23_4 + 2) fun v584 => fo_cl (fn_Lw_course Mh23 a0_0 v578 v584 a17_2) fun v586 M586 => fo_ai M586 6 p0 (w23_4 + 1) fun v597 => fo_ai M586 6 p0 (w23_4 + 2) fun v603 => fo_cv M586 9 a8_1 (fn_Mo_course M586 a8_1 v597 v603) fun v604 M604 => fo_cv M604 9 a8_1 (fn_Mo_thrown M604 a8_1) fun v610 M610 => if v610 = v586 then fo_jp (j708 M610) (fun j637 => if v586 = 0 then fo_al M610 a17_2 0 fun v627 => if (lg_cmp v627 (v604.toInt64)) = 0 then j637 else some (0, M610) else j637) else some (0, M610) else if (v35 &&& 31) = 16 then fo_ai Mh23 6 p0 (w23_4 + 1) fun v646 => fo_ai Mh23 6 p0 (w23_4 + 2) fun v652 => fo_cl (fn_Lw_threat Mh23 a0_0 v646 v652 a17_2) fun v654 M654 => fo_ai M654 6 p0 (w23_4 + 1) fun v665 => fo_ai M654 6 p0 (w23_4 + 2) fun v671 => fo_cv M654 9 a8_1 (fn_Mo_threat M654 a8_1 v665 v671) fun v672 M672 => fo_cv M672 9 a8_1 (fn_Mo_thrown M672 a8_1) fun v678 M678 => if v678 = v654 then fo_jp (j708 M678) (fun j705 => if v654 = 0 then fo_al M678 a17_2 0 fun v695 => if (lg_cmp v695 (v672.toInt64)) = 0 then j705 else some (0, M678) else j705) else some (0, M678) else j708 Mh23)
def fn_Lw_law (M : Mm) (p0 : Nat) : Rr := fo_nw M (1, 8) fun a0_0 M0_0 => fo_cl (fn_Pm_init M0_0 a0_0) fun _ M4 => fo_nw M4 (1, 9) fun a8_1 M8_1 => fo_cl (fn_Mo_init M8_1 a8_1) fun _ M12 => fo_nw M12 (5, 1) fun a17_2 M17_2 => fo_fx (fun _ _ => none) (lp_Lw_law_23 p0 a0_0 a8_1 a17_2) fo_N M17_2 0
set_option maxHeartbeats 8000000 in
set_option maxRecDepth 100000 in
theorem lw_loop {x : Cx} {l0 : Launch} {p0 : Nat} {a0_0 : Nat} {a8_1 : Nat} {a17_2 : Nat} (C : Fj x l0 code 7 gw "PledgeMonitorLaw" "law" room_1 (some .boolean) lq) (Z : Zl x ∧ Zw x) (hl9 : l0.stackTraces = false) : ∀ nf n k Mh23 w23_4, n + nf ≤ 601024 → k + 6 * nf ≤ 7293034 → Vj x n k 23 [(0, .ref p0), (1, .ref a0_0), (2, .ref a8_1), (3, .ref a17_2), (4, .int w23_4)] [] Mh23 (fo_fx (fun _ _ => none) (lp_Lw_law_23 p0 a0_0 a8_1 a17_2) nf Mh23 w23_4) := by
  intro nf
  induction nf with
  | zero => intro n k Mh23 w23_4 _ _; exact Vj_none
  | succ nf ih =>
    intro n k Mh23 w23_4 hn hk
    show Vj x n k 23 [(0, .ref p0), (1, .ref a0_0), (2, .ref a8_1), (3, .ref a17_2), (4, .int w23_4)] [] Mh23 (lp_Lw_law_23 p0 a0_0 a8_1 a17_2 (fo_fx (fun _ _ => none) (lp_Lw_law_23 p0 a0_0 a8_1 a17_2) nf) Mh23 w23_4)
    have hg23 : ∀ Mh23 w23_4, Vj x (n + 1) (k + 6) 23 [(0, .ref p0), (1, .ref a0_0), (2, .ref a8_1), (3, .ref a17_2), (4, .int w23_4)] [] Mh23 (fo_fx (fun _ _ => none) (lp_Lw_law_23 p0 a0_0 a8_1 a17_2) nf Mh23 w23_4) := fun Mh23 w23_4 => ih (n + 1) (k + 6) Mh23 w23_4 (by omega) (by omega)
    generalize fo_fx (fun _ _ => none) (lp_Lw_law_23 p0 a0_0 a8_1 a17_2) nf = g23 at hg23 ⊢
    unfold lp_Lw_law_23
    refine vj_iload (j := 4) C dLw_law_23 rfl ?_
    refine vj_aload_n (j := 0) C dLw_law_25 rfl rfl ?_
    refine vj_alen (t := 6) C dLw_law_26 (by decide) (fun v26 => ?_)
    refine vj_iconst (v := 3) C dLw_law_27 (by decide) ?_
    refine vj_isub C dLw_law_28 ?_
    refine vj_icmp_gt (tgt := 714) C dLw_law_29 rfl ?_ ?_
    · skip
      refine vj_iconst (v := 1) C dLw_law_714 (by decide) ?_
      exact vj_lw C Z dLw_law_715 (by omega) (by omega)
    · skip
      refine vj_aload_n (j := 0) C dLw_law_32 rfl rfl ?_
      refine vj_iload (j := 4) C dLw_law_33 rfl ?_
      refine vj_iald C dLw_law_35 (by decide) (fun v35 => ?_)
      refine vj_bipush (v := 31) C dLw_law_36 (by decide) ?_
      refine vj_iand C dLw_law_38 ?_
      refine vj_jp (fun (j : Mm → Rr) => ∀ Mj708, Vj x (n + 1) (k + 6) 708 [(0, .ref p0), (1, .ref a0_0), (2, .ref a8_1), (3, .ref a17_2), (4, .int w23_4)] [] Mj708 (j Mj708)) ?_ ?_
      · intro Mj708
        refine vj_iinc (j := 4) (b := 3) (lv' := [(0, .ref p0), (1, .ref a0_0), (2, .ref a8_1), (3, .ref a17_2), (4, .int (w23_4 + 3))]) C dLw_law_708 rfl (by decide) (by decide) [1, 2, 3, 4, 0] rfl ?_
        refine vj_goto (tgt := 23) C dLw_law_711 rfl ?_
        exact hg23 _ _
      · intro j708 hj708
        refine vj_ts (cs := 0) (off := 81) (tgt := 120) C dLw_law_39 (by decide +kernel) rfl ?_ (fun hc0 => ?_)
        · skip
          refine vj_aload_n (j := 1) C dLw_law_120 rfl rfl ?_
          refine vj_aload_n (j := 0) C dLw_law_121 rfl rfl ?_
          refine vj_iload (j := 4) C dLw_law_122 rfl ?_
          refine vj_iconst (v := 1) C dLw_law_124 (by decide) ?_
          refine vj_iadd C dLw_law_125 ?_
          refine vj_iald C dLw_law_126 (by decide) (fun v126 => ?_)
          refine vj_i2l C dLw_law_127 ?_
          refine vj_bipush (v := 32) C dLw_law_128 (by decide) ?_
          refine vj_lshl C dLw_law_130 ?_
          refine vj_aload_n (j := 0) C dLw_law_131 rfl rfl ?_
          refine vj_iload (j := 4) C dLw_law_132 rfl ?_
          refine vj_iconst (v := 2) C dLw_law_134 (by decide) ?_
          refine vj_iadd C dLw_law_135 ?_
          refine vj_iald C dLw_law_136 (by decide) (fun v136 => ?_)
          refine vj_i2l C dLw_law_137 ?_
          refine vj_ldc2 (v := 4294967295) C dLw_law_138 k_594 ?_
          refine vj_land C dLw_law_141 ?_
          refine vj_lor C dLw_law_142 ?_
          refine vj_cV (ci := 8) (As := [.long (((v126.toInt64) <<< ((32 : Int32).toInt64 &&& 63)) ||| ((v136.toInt64) &&& 4294967295))]) (st := []) (b := a0_0) (a1 := 1) C dLw_law_143 (cm_Pm_type _ _ _ _) rfl gv_Lw_38 rfl rfl rfl hv_Pm_type ⟨Nat.le_of_ble_eq_true rfl, Nat.le_of_ble_eq_true rfl⟩ rfl rfl (Nat.le_of_ble_eq_true rfl) ⟨(by show _ ≤ 601024; omega), (by show _ ≤ 7293034; omega)⟩ (fun v143 M143 => ?_)
          show Vj x n k 146 [(0, .ref p0), (1, .ref a0_0), (2, .ref a8_1), (3, .ref a17_2), (4, .int w23_4)] [.int v143] M143 _
          refine vj_aload_n (j := 2) C dLw_law_146 rfl rfl ?_
          refine vj_aload_n (j := 0) C dLw_law_147 rfl rfl ?_
          refine vj_iload (j := 4) C dLw_law_148 rfl ?_
          refine vj_iconst (v := 1) C dLw_law_150 (by decide) ?_
          refine vj_iadd C dLw_law_151 ?_
          refine vj_iald C dLw_law_152 (by decide) (fun v152 => ?_)
          refine vj_i2l C dLw_law_153 ?_
          refine vj_bipush (v := 32) C dLw_law_154 (by decide) ?_
          refine vj_lshl C dLw_law_156 ?_
          refine vj_aload_n (j := 0) C dLw_law_157 rfl rfl ?_
          refine vj_iload (j := 4) C dLw_law_158 rfl ?_
          refine vj_iconst (v := 2) C dLw_law_160 (by decide) ?_
          refine vj_iadd C dLw_law_161 ?_
          refine vj_iald C dLw_law_162 (by decide) (fun v162 => ?_)
          refine vj_i2l C dLw_law_163 ?_
          refine vj_ldc2 (v := 4294967295) C dLw_law_164 k_594 ?_
          refine vj_land C dLw_law_167 ?_
          refine vj_lor C dLw_law_168 ?_
          refine vj_cV (ci := 9) (As := [.long (((v152.toInt64) <<< ((32 : Int32).toInt64 &&& 63)) ||| ((v162.toInt64) &&& 4294967295))]) (st := [.int v143]) (b := a8_1) (a1 := 1) C dLw_law_169 (cm_Mo_type _ _ _ _) rfl gv_Lw_42 rfl rfl rfl hv_Mo_type ⟨Nat.le_of_ble_eq_true rfl, Nat.le_of_ble_eq_true rfl⟩ rfl rfl (Nat.le_of_ble_eq_true rfl) ⟨(by show _ ≤ 601024; omega), (by show _ ≤ 7293034; omega)⟩ (fun v169 M169 => ?_)
          show Vj x n k 172 [(0, .ref p0), (1, .ref a0_0), (2, .ref a8_1), (3, .ref a17_2), (4, .int w23_4)] [.int v169, .int v143] M169 _
          refine vj_icmp_eq (tgt := 708) C dLw_law_172 rfl ?_ ?_
          · skip
            refine vj_wid (n2 := n + 1) (k2 := k + 6) (Nat.le_add_right _ _) (Nat.le_add_right _ _) ?_
            exact hj708 _
          · skip
            refine vj_iconst (v := 0) C dLw_law_175 (by decide) ?_
            exact vj_lw C Z dLw_law_176 (by omega) (by omega)
        refine vj_ts (cs := 1) (off := 138) (tgt := 177) C dLw_law_39 (by decide +kernel) rfl ?_ (fun hc1 => ?_)
        · skip
          refine vj_aload_n (j := 1) C dLw_law_177 rfl rfl ?_
          refine vj_cV (ci := 8) (As := []) (st := []) (b := a0_0) (a1 := 0) C dLw_law_178 (cm_Pm_erase _ _ _) rfl gv_Lw_43 rfl rfl rfl hv_Pm_erase ⟨Nat.le_of_ble_eq_true rfl, Nat.le_of_ble_eq_true rfl⟩ rfl rfl (Nat.le_of_ble_eq_true rfl) ⟨(by show _ ≤ 601024; omega), (by show _ ≤ 7293034; omega)⟩ (fun v178 M178 => ?_)
          show Vj x n k 181 [(0, .ref p0), (1, .ref a0_0), (2, .ref a8_1), (3, .ref a17_2), (4, .int w23_4)] [.int v178] M178 _
          refine vj_aload_n (j := 2) C dLw_law_181 rfl rfl ?_
          refine vj_cV (ci := 9) (As := []) (st := [.int v178]) (b := a8_1) (a1 := 0) C dLw_law_182 (cm_Mo_erase _ _ _) rfl gv_Lw_46 rfl rfl rfl hv_Mo_erase ⟨Nat.le_of_ble_eq_true rfl, Nat.le_of_ble_eq_true rfl⟩ rfl rfl (Nat.le_of_ble_eq_true rfl) ⟨(by show _ ≤ 601024; omega), (by show _ ≤ 7293034; omega)⟩ (fun v182 M182 => ?_)
          show Vj x n k 185 [(0, .ref p0), (1, .ref a0_0), (2, .ref a8_1), (3, .ref a17_2), (4, .int w23_4)] [.int v182, .int v178] M182 _
          refine vj_icmp_eq (tgt := 708) C dLw_law_185 rfl ?_ ?_
          · skip
            refine vj_wid (n2 := n + 1) (k2 := k + 6) (Nat.le_add_right _ _) (Nat.le_add_right _ _) ?_
            exact hj708 _
          · skip
            refine vj_iconst (v := 0) C dLw_law_188 (by decide) ?_
            exact vj_lw C Z dLw_law_189 (by omega) (by omega)
        refine vj_ts (cs := 2) (off := 151) (tgt := 190) C dLw_law_39 (by decide +kernel) rfl ?_ (fun hc2 => ?_)
        · skip
          refine vj_aload_n (j := 1) C dLw_law_190 rfl rfl ?_
          refine vj_aload_n (j := 0) C dLw_law_191 rfl rfl ?_
          refine vj_iload (j := 4) C dLw_law_192 rfl ?_
          refine vj_iconst (v := 1) C dLw_law_194 (by decide) ?_
          refine vj_iadd C dLw_law_195 ?_
          refine vj_iald C dLw_law_196 (by decide) (fun v196 => ?_)
          refine vj_cV (ci := 8) (As := [.int v196]) (st := []) (b := a0_0) (a1 := 1) C dLw_law_197 (cm_Pm_free _ _ _ _) rfl gv_Lw_47 rfl rfl rfl hv_Pm_free ⟨Nat.le_of_ble_eq_true rfl, Nat.le_of_ble_eq_true rfl⟩ rfl rfl (Nat.le_of_ble_eq_true rfl) ⟨(by show _ ≤ 601024; omega), (by show _ ≤ 7293034; omega)⟩ (fun v197 M197 => ?_)
          show Vj x n k 200 [(0, .ref p0), (1, .ref a0_0), (2, .ref a8_1), (3, .ref a17_2), (4, .int w23_4)] [.int v197] M197 _
          refine vj_aload_n (j := 2) C dLw_law_200 rfl rfl ?_
          refine vj_aload_n (j := 0) C dLw_law_201 rfl rfl ?_
          refine vj_iload (j := 4) C dLw_law_202 rfl ?_
          refine vj_iconst (v := 1) C dLw_law_204 (by decide) ?_
          refine vj_iadd C dLw_law_205 ?_
          refine vj_iald C dLw_law_206 (by decide) (fun v206 => ?_)
          refine vj_cV (ci := 9) (As := [.int v206]) (st := [.int v197]) (b := a8_1) (a1 := 1) C dLw_law_207 (cm_Mo_free _ _ _ _) rfl gv_Lw_51 rfl rfl rfl hv_Mo_free ⟨Nat.le_of_ble_eq_true rfl, Nat.le_of_ble_eq_true rfl⟩ rfl rfl (Nat.le_of_ble_eq_true rfl) ⟨(by show _ ≤ 601024; omega), (by show _ ≤ 7293034; omega)⟩ (fun v207 M207 => ?_)
          show Vj x n k 210 [(0, .ref p0), (1, .ref a0_0), (2, .ref a8_1), (3, .ref a17_2), (4, .int w23_4)] [.int v207, .int v197] M207 _
          refine vj_icmp_eq (tgt := 708) C dLw_law_210 rfl ?_ ?_
          · skip
            refine vj_wid (n2 := n + 1) (k2 := k + 6) (Nat.le_add_right _ _) (Nat.le_add_right _ _) ?_
            exact hj708 _
          · skip
            refine vj_iconst (v := 0) C dLw_law_213 (by decide) ?_
            exact vj_lw C Z dLw_law_214 (by omega) (by omega)
        refine vj_ts (cs := 3) (off := 176) (tgt := 215) C dLw_law_39 (by decide +kernel) rfl ?_ (fun hc3 => ?_)
        · skip
          refine vj_aload_n (j := 1) C dLw_law_215 rfl rfl ?_
          refine vj_aload_n (j := 3) C dLw_law_216 rfl rfl ?_
          refine vj_cH (As := [.ref a0_0, .ref a17_2]) (st := []) (a1 := 2) C Z.1 dLw_law_217 (ch_Lw_begin _ hl9 _ _ _) ⟨⟨k_619, k_622⟩, k_621, k_620⟩ rfl rfl rfl rfl hn_Lw_begin ⟨Nat.le_of_ble_eq_true rfl, Nat.le_of_ble_eq_true rfl⟩ rfl rfl (Nat.le_of_ble_eq_true rfl) ⟨(by show _ ≤ 601024; omega), (by show _ ≤ 7293034; omega)⟩ (fun v217 M217 => ?_)
          show Vj x (n + 1) (k + 6) 220 [(0, .ref p0), (1, .ref a0_0), (2, .ref a8_1), (3, .ref a17_2), (4, .int w23_4)] [.int v217] M217 _
          refine vj_istore (lv' := [(0, .ref p0), (1, .ref a0_0), (2, .ref a8_1), (3, .ref a17_2), (4, .int w23_4), (5, .int v217)]) C dLw_law_220 (by decide) [1, 2, 3, 4, 5, 0] rfl ?_
          refine vj_aload_n (j := 2) C dLw_law_222 rfl rfl ?_
          refine vj_cV (ci := 9) (As := []) (st := []) (b := a8_1) (a1 := 0) C dLw_law_223 (cm_Mo_begin _ _ _) rfl gv_Lw_57 rfl rfl rfl hv_Mo_begin ⟨Nat.le_of_ble_eq_true rfl, Nat.le_of_ble_eq_true rfl⟩ rfl rfl (Nat.le_of_ble_eq_true rfl) ⟨(by show _ ≤ 601024; omega), (by show _ ≤ 7293034; omega)⟩ (fun v223 M223 => ?_)
          show Vj x (n + 1) (k + 6) 226 [(0, .ref p0), (1, .ref a0_0), (2, .ref a8_1), (3, .ref a17_2), (4, .int w23_4), (5, .int v217)] [.int v223] M223 _
          refine vj_istore (lv' := [(0, .ref p0), (1, .ref a0_0), (2, .ref a8_1), (3, .ref a17_2), (4, .int w23_4), (5, .int v217), (6, .int v223)]) C dLw_law_226 (by decide) [1, 2, 3, 4, 5, 6, 0] rfl ?_
          refine vj_aload_n (j := 2) C dLw_law_228 rfl rfl ?_
          refine vj_cV (ci := 9) (As := []) (st := []) (b := a8_1) (a1 := 0) C dLw_law_229 (cm_Mo_thrown _ _ _) rfl gv_Lw_58 rfl rfl rfl hv_Mo_thrown ⟨Nat.le_of_ble_eq_true rfl, Nat.le_of_ble_eq_true rfl⟩ rfl rfl (Nat.le_of_ble_eq_true rfl) ⟨(by show _ ≤ 601024; omega), (by show _ ≤ 7293034; omega)⟩ (fun v229 M229 => ?_)
          show Vj x (n + 1) (k + 6) 232 [(0, .ref p0), (1, .ref a0_0), (2, .ref a8_1), (3, .ref a17_2), (4, .int w23_4), (5, .int v217), (6, .int v223)] [.int v229] M229 _
          refine vj_iload (j := 5) C dLw_law_232 rfl ?_
          refine vj_icmp_eq (tgt := 239) C dLw_law_234 rfl ?_ ?_
          · skip
            refine vj_iload (j := 5) C dLw_law_239 rfl ?_
            refine vj_jp (fun (j : Rr) => Vj x (n + 1) (k + 6) 256 [(0, .ref p0), (1, .ref a0_0), (2, .ref a8_1), (3, .ref a17_2), (4, .int w23_4)] [] M229 j) ?_ ?_
            · skip
              refine vj_goto (tgt := 708) C dLw_law_256 rfl ?_
              exact hj708 _
            · intro j256 hj256
              refine vj_if_ne (tgt := 256) C dLw_law_241 rfl ?_ ?_
              · skip
                refine vj_lk (lv' := [(0, .ref p0), (1, .ref a0_0), (2, .ref a8_1), (3, .ref a17_2), (4, .int w23_4)]) [0, 1, 2, 3, 4] rfl ?_
                exact hj256
              · skip
                refine vj_aload_n (j := 3) C dLw_law_244 rfl rfl ?_
                refine vj_iconst (v := 0) C dLw_law_245 (by decide) ?_
                refine vj_lald C dLw_law_246 (fun v246 => ?_)
                refine vj_iload (j := 6) C dLw_law_247 rfl ?_
                refine vj_i2l C dLw_law_249 ?_
                refine vj_lcmp C dLw_law_250 ?_
                refine vj_if_eq (tgt := 256) C dLw_law_251 rfl ?_ ?_
                · skip
                  refine vj_lk (lv' := [(0, .ref p0), (1, .ref a0_0), (2, .ref a8_1), (3, .ref a17_2), (4, .int w23_4)]) [0, 1, 2, 3, 4] rfl ?_
                  exact hj256
                · skip
                  refine vj_iconst (v := 0) C dLw_law_254 (by decide) ?_
                  exact vj_lw C Z dLw_law_255 (by omega) (by omega)
          · skip
            refine vj_iconst (v := 0) C dLw_law_237 (by decide) ?_
            exact vj_lw C Z dLw_law_238 (by omega) (by omega)
        refine vj_ts (cs := 4) (off := 220) (tgt := 259) C dLw_law_39 (by decide +kernel) rfl ?_ (fun hc4 => ?_)
        · skip
          refine vj_aload_n (j := 1) C dLw_law_259 rfl rfl ?_
          refine vj_cV (ci := 8) (As := []) (st := []) (b := a0_0) (a1 := 0) C dLw_law_260 (cm_Pm_stop _ _ _) rfl gv_Lw_61 rfl rfl rfl hv_Pm_stop ⟨Nat.le_of_ble_eq_true rfl, Nat.le_of_ble_eq_true rfl⟩ rfl rfl (Nat.le_of_ble_eq_true rfl) ⟨(by show _ ≤ 601024; omega), (by show _ ≤ 7293034; omega)⟩ (fun v260 M260 => ?_)
          show Vj x n k 263 [(0, .ref p0), (1, .ref a0_0), (2, .ref a8_1), (3, .ref a17_2), (4, .int w23_4)] [.int v260] M260 _
          refine vj_aload_n (j := 2) C dLw_law_263 rfl rfl ?_
          refine vj_cV (ci := 9) (As := []) (st := [.int v260]) (b := a8_1) (a1 := 0) C dLw_law_264 (cm_Mo_stop _ _ _) rfl gv_Lw_65 rfl rfl rfl hv_Mo_stop ⟨Nat.le_of_ble_eq_true rfl, Nat.le_of_ble_eq_true rfl⟩ rfl rfl (Nat.le_of_ble_eq_true rfl) ⟨(by show _ ≤ 601024; omega), (by show _ ≤ 7293034; omega)⟩ (fun v264 M264 => ?_)
          show Vj x n k 267 [(0, .ref p0), (1, .ref a0_0), (2, .ref a8_1), (3, .ref a17_2), (4, .int w23_4)] [.int v264, .int v260] M264 _
          refine vj_icmp_eq (tgt := 708) C dLw_law_267 rfl ?_ ?_
          · skip
            refine vj_wid (n2 := n + 1) (k2 := k + 6) (Nat.le_add_right _ _) (Nat.le_add_right _ _) ?_
            exact hj708 _
          · skip
            refine vj_iconst (v := 0) C dLw_law_270 (by decide) ?_
            exact vj_lw C Z dLw_law_271 (by omega) (by omega)
        refine vj_ts (cs := 5) (off := 233) (tgt := 272) C dLw_law_39 (by decide +kernel) rfl ?_ (fun hc5 => ?_)
        · skip
          refine vj_aload_n (j := 1) C dLw_law_272 rfl rfl ?_
          refine vj_cV (ci := 8) (As := []) (st := []) (b := a0_0) (a1 := 0) C dLw_law_273 (cm_Pm_fault _ _ _) rfl gv_Lw_66 rfl rfl rfl hv_Pm_fault ⟨Nat.le_of_ble_eq_true rfl, Nat.le_of_ble_eq_true rfl⟩ rfl rfl (Nat.le_of_ble_eq_true rfl) ⟨(by show _ ≤ 601024; omega), (by show _ ≤ 7293034; omega)⟩ (fun v273 M273 => ?_)
          show Vj x n k 276 [(0, .ref p0), (1, .ref a0_0), (2, .ref a8_1), (3, .ref a17_2), (4, .int w23_4)] [.int v273] M273 _
          refine vj_aload_n (j := 2) C dLw_law_276 rfl rfl ?_
          refine vj_cV (ci := 9) (As := []) (st := [.int v273]) (b := a8_1) (a1 := 0) C dLw_law_277 (cm_Mo_fault _ _ _) rfl gv_Lw_69 rfl rfl rfl hv_Mo_fault ⟨Nat.le_of_ble_eq_true rfl, Nat.le_of_ble_eq_true rfl⟩ rfl rfl (Nat.le_of_ble_eq_true rfl) ⟨(by show _ ≤ 601024; omega), (by show _ ≤ 7293034; omega)⟩ (fun v277 M277 => ?_)
          show Vj x n k 280 [(0, .ref p0), (1, .ref a0_0), (2, .ref a8_1), (3, .ref a17_2), (4, .int w23_4)] [.int v277, .int v273] M277 _
          refine vj_icmp_eq (tgt := 708) C dLw_law_280 rfl ?_ ?_
          · skip
            refine vj_wid (n2 := n + 1) (k2 := k + 6) (Nat.le_add_right _ _) (Nat.le_add_right _ _) ?_
            exact hj708 _
          · skip
            refine vj_iconst (v := 0) C dLw_law_283 (by decide) ?_
            exact vj_lw C Z dLw_law_284 (by omega) (by omega)
        refine vj_ts (cs := 6) (off := 246) (tgt := 285) C dLw_law_39 (by decide +kernel) rfl ?_ (fun hc6 => ?_)
        · skip
          refine vj_aload_n (j := 1) C dLw_law_285 rfl rfl ?_
          refine vj_aload_n (j := 0) C dLw_law_286 rfl rfl ?_
          refine vj_iload (j := 4) C dLw_law_287 rfl ?_
          refine vj_iconst (v := 1) C dLw_law_289 (by decide) ?_
          refine vj_iadd C dLw_law_290 ?_
          refine vj_iald C dLw_law_291 (by decide) (fun v291 => ?_)
          refine vj_aload_n (j := 0) C dLw_law_292 rfl rfl ?_
          refine vj_iload (j := 4) C dLw_law_293 rfl ?_
          refine vj_iconst (v := 2) C dLw_law_295 (by decide) ?_
          refine vj_iadd C dLw_law_296 ?_
          refine vj_iald C dLw_law_297 (by decide) (fun v297 => ?_)
          refine vj_aload_n (j := 3) C dLw_law_298 rfl rfl ?_
          refine vj_cH (As := [.ref a0_0, .int v291, .int v297, .ref a17_2]) (st := []) (a1 := 4) C Z.1 dLw_law_299 (ch_Lw_event _ hl9 _ _ _ _ _) ⟨⟨k_647, k_649⟩, k_621, k_648⟩ rfl rfl rfl rfl hn_Lw_event ⟨Nat.le_of_ble_eq_true rfl, Nat.le_of_ble_eq_true rfl⟩ rfl rfl (Nat.le_of_ble_eq_true rfl) ⟨(by show _ ≤ 601024; omega), (by show _ ≤ 7293034; omega)⟩ (fun v299 M299 => ?_)
          show Vj x (n + 1) (k + 6) 302 [(0, .ref p0), (1, .ref a0_0), (2, .ref a8_1), (3, .ref a17_2), (4, .int w23_4)] [.int v299] M299 _
          refine vj_istore (lv' := [(0, .ref p0), (1, .ref a0_0), (2, .ref a8_1), (3, .ref a17_2), (4, .int w23_4), (5, .int v299)]) C dLw_law_302 (by decide) [1, 2, 3, 4, 5, 0] rfl ?_
          refine vj_aload_n (j := 2) C dLw_law_304 rfl rfl ?_
          refine vj_aload_n (j := 0) C dLw_law_305 rfl rfl ?_
          refine vj_iload (j := 4) C dLw_law_306 rfl ?_
          refine vj_iconst (v := 1) C dLw_law_308 (by decide) ?_
          refine vj_iadd C dLw_law_309 ?_
          refine vj_iald C dLw_law_310 (by decide) (fun v310 => ?_)
          refine vj_aload_n (j := 0) C dLw_law_311 rfl rfl ?_
          refine vj_iload (j := 4) C dLw_law_312 rfl ?_
          refine vj_iconst (v := 2) C dLw_law_314 (by decide) ?_
          refine vj_iadd C dLw_law_315 ?_
          refine vj_iald C dLw_law_316 (by decide) (fun v316 => ?_)
          refine vj_cV (ci := 9) (As := [.int v310, .int v316]) (st := []) (b := a8_1) (a1 := 2) C dLw_law_317 (cm_Mo_event _ _ _ _ _) rfl gv_Lw_73 rfl rfl rfl hv_Mo_event ⟨Nat.le_of_ble_eq_true rfl, Nat.le_of_ble_eq_true rfl⟩ rfl rfl (Nat.le_of_ble_eq_true rfl) ⟨(by show _ ≤ 601024; omega), (by show _ ≤ 7293034; omega)⟩ (fun v317 M317 => ?_)
          show Vj x (n + 1) (k + 6) 320 [(0, .ref p0), (1, .ref a0_0), (2, .ref a8_1), (3, .ref a17_2), (4, .int w23_4), (5, .int v299)] [.int v317] M317 _
          refine vj_istore (lv' := [(0, .ref p0), (1, .ref a0_0), (2, .ref a8_1), (3, .ref a17_2), (4, .int w23_4), (5, .int v299), (6, .int v317)]) C dLw_law_320 (by decide) [1, 2, 3, 4, 5, 6, 0] rfl ?_
          refine vj_aload_n (j := 2) C dLw_law_322 rfl rfl ?_
          refine vj_cV (ci := 9) (As := []) (st := []) (b := a8_1) (a1 := 0) C dLw_law_323 (cm_Mo_thrown _ _ _) rfl gv_Lw_58 rfl rfl rfl hv_Mo_thrown ⟨Nat.le_of_ble_eq_true rfl, Nat.le_of_ble_eq_true rfl⟩ rfl rfl (Nat.le_of_ble_eq_true rfl) ⟨(by show _ ≤ 601024; omega), (by show _ ≤ 7293034; omega)⟩ (fun v323 M323 => ?_)
          show Vj x (n + 1) (k + 6) 326 [(0, .ref p0), (1, .ref a0_0), (2, .ref a8_1), (3, .ref a17_2), (4, .int w23_4), (5, .int v299), (6, .int v317)] [.int v323] M323 _
          refine vj_iload (j := 5) C dLw_law_326 rfl ?_
          refine vj_icmp_eq (tgt := 333) C dLw_law_328 rfl ?_ ?_
          · skip
            refine vj_iload (j := 5) C dLw_law_333 rfl ?_
            refine vj_jp (fun (j : Rr) => Vj x (n + 1) (k + 6) 350 [(0, .ref p0), (1, .ref a0_0), (2, .ref a8_1), (3, .ref a17_2), (4, .int w23_4)] [] M323 j) ?_ ?_
            · skip
              refine vj_goto (tgt := 708) C dLw_law_350 rfl ?_
              exact hj708 _
            · intro j350 hj350
              refine vj_if_ne (tgt := 350) C dLw_law_335 rfl ?_ ?_
              · skip
                refine vj_lk (lv' := [(0, .ref p0), (1, .ref a0_0), (2, .ref a8_1), (3, .ref a17_2), (4, .int w23_4)]) [0, 1, 2, 3, 4] rfl ?_
                exact hj350
              · skip
                refine vj_aload_n (j := 3) C dLw_law_338 rfl rfl ?_
                refine vj_iconst (v := 0) C dLw_law_339 (by decide) ?_
                refine vj_lald C dLw_law_340 (fun v340 => ?_)
                refine vj_iload (j := 6) C dLw_law_341 rfl ?_
                refine vj_i2l C dLw_law_343 ?_
                refine vj_lcmp C dLw_law_344 ?_
                refine vj_if_eq (tgt := 350) C dLw_law_345 rfl ?_ ?_
                · skip
                  refine vj_lk (lv' := [(0, .ref p0), (1, .ref a0_0), (2, .ref a8_1), (3, .ref a17_2), (4, .int w23_4)]) [0, 1, 2, 3, 4] rfl ?_
                  exact hj350
                · skip
                  refine vj_iconst (v := 0) C dLw_law_348 (by decide) ?_
                  exact vj_lw C Z dLw_law_349 (by omega) (by omega)
          · skip
            refine vj_iconst (v := 0) C dLw_law_331 (by decide) ?_
            exact vj_lw C Z dLw_law_332 (by omega) (by omega)
        refine vj_ts (cs := 7) (off := 314) (tgt := 353) C dLw_law_39 (by decide +kernel) rfl ?_ (fun hc7 => ?_)
        · skip
          refine vj_aload_n (j := 1) C dLw_law_353 rfl rfl ?_
          refine vj_aload_n (j := 3) C dLw_law_354 rfl rfl ?_
          refine vj_cH (As := [.ref a0_0, .ref a17_2]) (st := []) (a1 := 2) C Z.1 dLw_law_355 (ch_Lw_nextDay _ hl9 _ _ _) ⟨⟨k_654, k_656⟩, k_621, k_655⟩ rfl rfl rfl rfl hn_Lw_nextDay ⟨Nat.le_of_ble_eq_true rfl, Nat.le_of_ble_eq_true rfl⟩ rfl rfl (Nat.le_of_ble_eq_true rfl) ⟨(by show _ ≤ 601024; omega), (by show _ ≤ 7293034; omega)⟩ (fun v355 M355 => ?_)
          show Vj x (n + 1) (k + 6) 358 [(0, .ref p0), (1, .ref a0_0), (2, .ref a8_1), (3, .ref a17_2), (4, .int w23_4)] [.int v355] M355 _
          refine vj_istore (lv' := [(0, .ref p0), (1, .ref a0_0), (2, .ref a8_1), (3, .ref a17_2), (4, .int w23_4), (5, .int v355)]) C dLw_law_358 (by decide) [1, 2, 3, 4, 5, 0] rfl ?_
          refine vj_aload_n (j := 2) C dLw_law_360 rfl rfl ?_
          refine vj_cV (ci := 9) (As := []) (st := []) (b := a8_1) (a1 := 0) C dLw_law_361 (cm_Mo_nextDay _ _ _) rfl gv_Lw_76 rfl rfl rfl hv_Mo_nextDay ⟨Nat.le_of_ble_eq_true rfl, Nat.le_of_ble_eq_true rfl⟩ rfl rfl (Nat.le_of_ble_eq_true rfl) ⟨(by show _ ≤ 601024; omega), (by show _ ≤ 7293034; omega)⟩ (fun v361 M361 => ?_)
          show Vj x (n + 1) (k + 6) 364 [(0, .ref p0), (1, .ref a0_0), (2, .ref a8_1), (3, .ref a17_2), (4, .int w23_4), (5, .int v355)] [.int v361] M361 _
          refine vj_istore (lv' := [(0, .ref p0), (1, .ref a0_0), (2, .ref a8_1), (3, .ref a17_2), (4, .int w23_4), (5, .int v355), (6, .int v361)]) C dLw_law_364 (by decide) [1, 2, 3, 4, 5, 6, 0] rfl ?_
          refine vj_aload_n (j := 2) C dLw_law_366 rfl rfl ?_
          refine vj_cV (ci := 9) (As := []) (st := []) (b := a8_1) (a1 := 0) C dLw_law_367 (cm_Mo_thrown _ _ _) rfl gv_Lw_58 rfl rfl rfl hv_Mo_thrown ⟨Nat.le_of_ble_eq_true rfl, Nat.le_of_ble_eq_true rfl⟩ rfl rfl (Nat.le_of_ble_eq_true rfl) ⟨(by show _ ≤ 601024; omega), (by show _ ≤ 7293034; omega)⟩ (fun v367 M367 => ?_)
          show Vj x (n + 1) (k + 6) 370 [(0, .ref p0), (1, .ref a0_0), (2, .ref a8_1), (3, .ref a17_2), (4, .int w23_4), (5, .int v355), (6, .int v361)] [.int v367] M367 _
          refine vj_iload (j := 5) C dLw_law_370 rfl ?_
          refine vj_icmp_eq (tgt := 377) C dLw_law_372 rfl ?_ ?_
          · skip
            refine vj_iload (j := 5) C dLw_law_377 rfl ?_
            refine vj_jp (fun (j : Rr) => Vj x (n + 1) (k + 6) 394 [(0, .ref p0), (1, .ref a0_0), (2, .ref a8_1), (3, .ref a17_2), (4, .int w23_4)] [] M367 j) ?_ ?_
            · skip
              refine vj_goto (tgt := 708) C dLw_law_394 rfl ?_
              exact hj708 _
            · intro j394 hj394
              refine vj_if_ne (tgt := 394) C dLw_law_379 rfl ?_ ?_
              · skip
                refine vj_lk (lv' := [(0, .ref p0), (1, .ref a0_0), (2, .ref a8_1), (3, .ref a17_2), (4, .int w23_4)]) [0, 1, 2, 3, 4] rfl ?_
                exact hj394
              · skip
                refine vj_aload_n (j := 3) C dLw_law_382 rfl rfl ?_
                refine vj_iconst (v := 0) C dLw_law_383 (by decide) ?_
                refine vj_lald C dLw_law_384 (fun v384 => ?_)
                refine vj_iload (j := 6) C dLw_law_385 rfl ?_
                refine vj_i2l C dLw_law_387 ?_
                refine vj_lcmp C dLw_law_388 ?_
                refine vj_if_eq (tgt := 394) C dLw_law_389 rfl ?_ ?_
                · skip
                  refine vj_lk (lv' := [(0, .ref p0), (1, .ref a0_0), (2, .ref a8_1), (3, .ref a17_2), (4, .int w23_4)]) [0, 1, 2, 3, 4] rfl ?_
                  exact hj394
                · skip
                  refine vj_iconst (v := 0) C dLw_law_392 (by decide) ?_
                  exact vj_lw C Z dLw_law_393 (by omega) (by omega)
          · skip
            refine vj_iconst (v := 0) C dLw_law_375 (by decide) ?_
            exact vj_lw C Z dLw_law_376 (by omega) (by omega)
        refine vj_ts (cs := 8) (off := 358) (tgt := 397) C dLw_law_39 (by decide +kernel) rfl ?_ (fun hc8 => ?_)
        · skip
          refine vj_aload_n (j := 1) C dLw_law_397 rfl rfl ?_
          refine vj_cV (ci := 8) (As := []) (st := []) (b := a0_0) (a1 := 0) C dLw_law_398 (cm_Pm_undo _ _ _) rfl gv_Lw_77 rfl rfl rfl hv_Pm_undo ⟨Nat.le_of_ble_eq_true rfl, Nat.le_of_ble_eq_true rfl⟩ rfl rfl (Nat.le_of_ble_eq_true rfl) ⟨(by show _ ≤ 601024; omega), (by show _ ≤ 7293034; omega)⟩ (fun v398 M398 => ?_)
          show Vj x n k 401 [(0, .ref p0), (1, .ref a0_0), (2, .ref a8_1), (3, .ref a17_2), (4, .int w23_4)] [.int v398] M398 _
          refine vj_aload_n (j := 2) C dLw_law_401 rfl rfl ?_
          refine vj_cV (ci := 9) (As := []) (st := [.int v398]) (b := a8_1) (a1 := 0) C dLw_law_402 (cm_Mo_undo _ _ _) rfl gv_Lw_80 rfl rfl rfl hv_Mo_undo ⟨Nat.le_of_ble_eq_true rfl, Nat.le_of_ble_eq_true rfl⟩ rfl rfl (Nat.le_of_ble_eq_true rfl) ⟨(by show _ ≤ 601024; omega), (by show _ ≤ 7293034; omega)⟩ (fun v402 M402 => ?_)
          show Vj x n k 405 [(0, .ref p0), (1, .ref a0_0), (2, .ref a8_1), (3, .ref a17_2), (4, .int w23_4)] [.int v402, .int v398] M402 _
          refine vj_icmp_eq (tgt := 708) C dLw_law_405 rfl ?_ ?_
          · skip
            refine vj_wid (n2 := n + 1) (k2 := k + 6) (Nat.le_add_right _ _) (Nat.le_add_right _ _) ?_
            exact hj708 _
          · skip
            refine vj_iconst (v := 0) C dLw_law_408 (by decide) ?_
            exact vj_lw C Z dLw_law_409 (by omega) (by omega)
        refine vj_ts (cs := 9) (off := 371) (tgt := 410) C dLw_law_39 (by decide +kernel) rfl ?_ (fun hc9 => ?_)
        · skip
          refine vj_aload_n (j := 1) C dLw_law_410 rfl rfl ?_
          refine vj_cV (ci := 8) (As := []) (st := []) (b := a0_0) (a1 := 0) C dLw_law_411 (cm_Pm_today _ _ _) rfl gv_Lw_81 rfl rfl rfl hv_Pm_today ⟨Nat.le_of_ble_eq_true rfl, Nat.le_of_ble_eq_true rfl⟩ rfl rfl (Nat.le_of_ble_eq_true rfl) ⟨(by show _ ≤ 601024; omega), (by show _ ≤ 7293034; omega)⟩ (fun v411 M411 => ?_)
          show Vj x n k 414 [(0, .ref p0), (1, .ref a0_0), (2, .ref a8_1), (3, .ref a17_2), (4, .int w23_4)] [.int v411] M411 _
          refine vj_aload_n (j := 2) C dLw_law_414 rfl rfl ?_
          refine vj_cV (ci := 9) (As := []) (st := [.int v411]) (b := a8_1) (a1 := 0) C dLw_law_415 (cm_Mo_today _ _ _) rfl gv_Lw_84 rfl rfl rfl hv_Mo_today ⟨Nat.le_of_ble_eq_true rfl, Nat.le_of_ble_eq_true rfl⟩ rfl rfl (Nat.le_of_ble_eq_true rfl) ⟨(by show _ ≤ 601024; omega), (by show _ ≤ 7293034; omega)⟩ (fun v415 M415 => ?_)
          show Vj x n k 418 [(0, .ref p0), (1, .ref a0_0), (2, .ref a8_1), (3, .ref a17_2), (4, .int w23_4)] [.int v415, .int v411] M415 _
          refine vj_icmp_eq (tgt := 708) C dLw_law_418 rfl ?_ ?_
          · skip
            refine vj_wid (n2 := n + 1) (k2 := k + 6) (Nat.le_add_right _ _) (Nat.le_add_right _ _) ?_
            exact hj708 _
          · skip
            refine vj_iconst (v := 0) C dLw_law_421 (by decide) ?_
            exact vj_lw C Z dLw_law_422 (by omega) (by omega)
        refine vj_ts (cs := 10) (off := 384) (tgt := 423) C dLw_law_39 (by decide +kernel) rfl ?_ (fun hc10 => ?_)
        · skip
          refine vj_aload_n (j := 1) C dLw_law_423 rfl rfl ?_
          refine vj_aload_n (j := 0) C dLw_law_424 rfl rfl ?_
          refine vj_iload (j := 4) C dLw_law_425 rfl ?_
          refine vj_iconst (v := 1) C dLw_law_427 (by decide) ?_
          refine vj_iadd C dLw_law_428 ?_
          refine vj_iald C dLw_law_429 (by decide) (fun v429 => ?_)
          refine vj_cV (ci := 8) (As := [.int v429]) (st := []) (b := a0_0) (a1 := 1) C dLw_law_430 (cm_Pm_duty _ _ _ _) rfl gv_Lw_85 rfl rfl rfl hv_Pm_duty ⟨Nat.le_of_ble_eq_true rfl, Nat.le_of_ble_eq_true rfl⟩ rfl rfl (Nat.le_of_ble_eq_true rfl) ⟨(by show _ ≤ 601024; omega), (by show _ ≤ 7293034; omega)⟩ (fun v430 M430 => ?_)
          show Vj x n k 433 [(0, .ref p0), (1, .ref a0_0), (2, .ref a8_1), (3, .ref a17_2), (4, .int w23_4)] [.int v430] M430 _
          refine vj_aload_n (j := 2) C dLw_law_433 rfl rfl ?_
          refine vj_aload_n (j := 0) C dLw_law_434 rfl rfl ?_
          refine vj_iload (j := 4) C dLw_law_435 rfl ?_
          refine vj_iconst (v := 1) C dLw_law_437 (by decide) ?_
          refine vj_iadd C dLw_law_438 ?_
          refine vj_iald C dLw_law_439 (by decide) (fun v439 => ?_)
          refine vj_cV (ci := 9) (As := [.int v439]) (st := [.int v430]) (b := a8_1) (a1 := 1) C dLw_law_440 (cm_Mo_duty _ _ _ _) rfl gv_Lw_89 rfl rfl rfl hv_Mo_duty ⟨Nat.le_of_ble_eq_true rfl, Nat.le_of_ble_eq_true rfl⟩ rfl rfl (Nat.le_of_ble_eq_true rfl) ⟨(by show _ ≤ 601024; omega), (by show _ ≤ 7293034; omega)⟩ (fun v440 M440 => ?_)
          show Vj x n k 443 [(0, .ref p0), (1, .ref a0_0), (2, .ref a8_1), (3, .ref a17_2), (4, .int w23_4)] [.int v440, .int v430] M440 _
          refine vj_icmp_eq (tgt := 708) C dLw_law_443 rfl ?_ ?_
          · skip
            refine vj_wid (n2 := n + 1) (k2 := k + 6) (Nat.le_add_right _ _) (Nat.le_add_right _ _) ?_
            exact hj708 _
          · skip
            refine vj_iconst (v := 0) C dLw_law_446 (by decide) ?_
            exact vj_lw C Z dLw_law_447 (by omega) (by omega)
        refine vj_ts (cs := 11) (off := 409) (tgt := 448) C dLw_law_39 (by decide +kernel) rfl ?_ (fun hc11 => ?_)
        · skip
          refine vj_aload_n (j := 1) C dLw_law_448 rfl rfl ?_
          refine vj_aload_n (j := 0) C dLw_law_449 rfl rfl ?_
          refine vj_iload (j := 4) C dLw_law_450 rfl ?_
          refine vj_iconst (v := 1) C dLw_law_452 (by decide) ?_
          refine vj_iadd C dLw_law_453 ?_
          refine vj_iald C dLw_law_454 (by decide) (fun v454 => ?_)
          refine vj_cV (ci := 8) (As := [.int v454]) (st := []) (b := a0_0) (a1 := 1) C dLw_law_455 (cm_Pm_count _ _ _ _) rfl gv_Lw_90 rfl rfl rfl hv_Pm_count ⟨Nat.le_of_ble_eq_true rfl, Nat.le_of_ble_eq_true rfl⟩ rfl rfl (Nat.le_of_ble_eq_true rfl) ⟨(by show _ ≤ 601024; omega), (by show _ ≤ 7293034; omega)⟩ (fun v455 M455 => ?_)
          show Vj x n k 458 [(0, .ref p0), (1, .ref a0_0), (2, .ref a8_1), (3, .ref a17_2), (4, .int w23_4)] [.int v455] M455 _
          refine vj_aload_n (j := 2) C dLw_law_458 rfl rfl ?_
          refine vj_aload_n (j := 0) C dLw_law_459 rfl rfl ?_
          refine vj_iload (j := 4) C dLw_law_460 rfl ?_
          refine vj_iconst (v := 1) C dLw_law_462 (by decide) ?_
          refine vj_iadd C dLw_law_463 ?_
          refine vj_iald C dLw_law_464 (by decide) (fun v464 => ?_)
          refine vj_cV (ci := 9) (As := [.int v464]) (st := [.int v455]) (b := a8_1) (a1 := 1) C dLw_law_465 (cm_Mo_count _ _ _ _) rfl gv_Lw_93 rfl rfl rfl hv_Mo_count ⟨Nat.le_of_ble_eq_true rfl, Nat.le_of_ble_eq_true rfl⟩ rfl rfl (Nat.le_of_ble_eq_true rfl) ⟨(by show _ ≤ 601024; omega), (by show _ ≤ 7293034; omega)⟩ (fun v465 M465 => ?_)
          show Vj x n k 468 [(0, .ref p0), (1, .ref a0_0), (2, .ref a8_1), (3, .ref a17_2), (4, .int w23_4)] [.int v465, .int v455] M465 _
          refine vj_icmp_eq (tgt := 708) C dLw_law_468 rfl ?_ ?_
          · skip
            refine vj_wid (n2 := n + 1) (k2 := k + 6) (Nat.le_add_right _ _) (Nat.le_add_right _ _) ?_
            exact hj708 _
          · skip
            refine vj_iconst (v := 0) C dLw_law_471 (by decide) ?_
            exact vj_lw C Z dLw_law_472 (by omega) (by omega)
        refine vj_ts (cs := 12) (off := 434) (tgt := 473) C dLw_law_39 (by decide +kernel) rfl ?_ (fun hc12 => ?_)
        · skip
          refine vj_aload_n (j := 1) C dLw_law_473 rfl rfl ?_
          refine vj_aload_n (j := 0) C dLw_law_474 rfl rfl ?_
          refine vj_iload (j := 4) C dLw_law_475 rfl ?_
          refine vj_iconst (v := 1) C dLw_law_477 (by decide) ?_
          refine vj_iadd C dLw_law_478 ?_
          refine vj_iald C dLw_law_479 (by decide) (fun v479 => ?_)
          refine vj_cV (ci := 8) (As := [.int v479]) (st := []) (b := a0_0) (a1 := 1) C dLw_law_480 (cm_Pm_breaches _ _ _ _) rfl gv_Lw_94 rfl rfl rfl hv_Pm_breaches ⟨Nat.le_of_ble_eq_true rfl, Nat.le_of_ble_eq_true rfl⟩ rfl rfl (Nat.le_of_ble_eq_true rfl) ⟨(by show _ ≤ 601024; omega), (by show _ ≤ 7293034; omega)⟩ (fun v480 M480 => ?_)
          show Vj x n k 483 [(0, .ref p0), (1, .ref a0_0), (2, .ref a8_1), (3, .ref a17_2), (4, .int w23_4)] [.int v480] M480 _
          refine vj_aload_n (j := 2) C dLw_law_483 rfl rfl ?_
          refine vj_aload_n (j := 0) C dLw_law_484 rfl rfl ?_
          refine vj_iload (j := 4) C dLw_law_485 rfl ?_
          refine vj_iconst (v := 1) C dLw_law_487 (by decide) ?_
          refine vj_iadd C dLw_law_488 ?_
          refine vj_iald C dLw_law_489 (by decide) (fun v489 => ?_)
          refine vj_cV (ci := 9) (As := [.int v489]) (st := [.int v480]) (b := a8_1) (a1 := 1) C dLw_law_490 (cm_Mo_breaches _ _ _ _) rfl gv_Lw_97 rfl rfl rfl hv_Mo_breaches ⟨Nat.le_of_ble_eq_true rfl, Nat.le_of_ble_eq_true rfl⟩ rfl rfl (Nat.le_of_ble_eq_true rfl) ⟨(by show _ ≤ 601024; omega), (by show _ ≤ 7293034; omega)⟩ (fun v490 M490 => ?_)
          show Vj x n k 493 [(0, .ref p0), (1, .ref a0_0), (2, .ref a8_1), (3, .ref a17_2), (4, .int w23_4)] [.int v490, .int v480] M490 _
          refine vj_icmp_eq (tgt := 708) C dLw_law_493 rfl ?_ ?_
          · skip
            refine vj_wid (n2 := n + 1) (k2 := k + 6) (Nat.le_add_right _ _) (Nat.le_add_right _ _) ?_
            exact hj708 _
          · skip
            refine vj_iconst (v := 0) C dLw_law_496 (by decide) ?_
            exact vj_lw C Z dLw_law_497 (by omega) (by omega)
        refine vj_ts (cs := 13) (off := 459) (tgt := 498) C dLw_law_39 (by decide +kernel) rfl ?_ (fun hc13 => ?_)
        · skip
          refine vj_aload_n (j := 1) C dLw_law_498 rfl rfl ?_
          refine vj_aload_n (j := 0) C dLw_law_499 rfl rfl ?_
          refine vj_iload (j := 4) C dLw_law_500 rfl ?_
          refine vj_iconst (v := 1) C dLw_law_502 (by decide) ?_
          refine vj_iadd C dLw_law_503 ?_
          refine vj_iald C dLw_law_504 (by decide) (fun v504 => ?_)
          refine vj_aload_n (j := 0) C dLw_law_505 rfl rfl ?_
          refine vj_iload (j := 4) C dLw_law_506 rfl ?_
          refine vj_iconst (v := 2) C dLw_law_508 (by decide) ?_
          refine vj_iadd C dLw_law_509 ?_
          refine vj_iald C dLw_law_510 (by decide) (fun v510 => ?_)
          refine vj_cV (ci := 8) (As := [.int v504, .int v510]) (st := []) (b := a0_0) (a1 := 2) C dLw_law_511 (cm_Pm_may _ _ _ _ _) rfl gv_Lw_98 rfl rfl rfl hv_Pm_may ⟨Nat.le_of_ble_eq_true rfl, Nat.le_of_ble_eq_true rfl⟩ rfl rfl (Nat.le_of_ble_eq_true rfl) ⟨(by show _ ≤ 601024; omega), (by show _ ≤ 7293034; omega)⟩ (fun v511 M511 => ?_)
          show Vj x n k 514 [(0, .ref p0), (1, .ref a0_0), (2, .ref a8_1), (3, .ref a17_2), (4, .int w23_4)] [.int v511] M511 _
          refine vj_aload_n (j := 2) C dLw_law_514 rfl rfl ?_
          refine vj_aload_n (j := 0) C dLw_law_515 rfl rfl ?_
          refine vj_iload (j := 4) C dLw_law_516 rfl ?_
          refine vj_iconst (v := 1) C dLw_law_518 (by decide) ?_
          refine vj_iadd C dLw_law_519 ?_
          refine vj_iald C dLw_law_520 (by decide) (fun v520 => ?_)
          refine vj_aload_n (j := 0) C dLw_law_521 rfl rfl ?_
          refine vj_iload (j := 4) C dLw_law_522 rfl ?_
          refine vj_iconst (v := 2) C dLw_law_524 (by decide) ?_
          refine vj_iadd C dLw_law_525 ?_
          refine vj_iald C dLw_law_526 (by decide) (fun v526 => ?_)
          refine vj_cV (ci := 9) (As := [.int v520, .int v526]) (st := [.int v511]) (b := a8_1) (a1 := 2) C dLw_law_527 (cm_Mo_may _ _ _ _ _) rfl gv_Lw_101 rfl rfl rfl hv_Mo_may ⟨Nat.le_of_ble_eq_true rfl, Nat.le_of_ble_eq_true rfl⟩ rfl rfl (Nat.le_of_ble_eq_true rfl) ⟨(by show _ ≤ 601024; omega), (by show _ ≤ 7293034; omega)⟩ (fun v527 M527 => ?_)
          show Vj x n k 530 [(0, .ref p0), (1, .ref a0_0), (2, .ref a8_1), (3, .ref a17_2), (4, .int w23_4)] [.int v527, .int v511] M527 _
          refine vj_icmp_eq (tgt := 708) C dLw_law_530 rfl ?_ ?_
          · skip
            refine vj_wid (n2 := n + 1) (k2 := k + 6) (Nat.le_add_right _ _) (Nat.le_add_right _ _) ?_
            exact hj708 _
          · skip
            refine vj_iconst (v := 0) C dLw_law_533 (by decide) ?_
            exact vj_lw C Z dLw_law_534 (by omega) (by omega)
        refine vj_ts (cs := 14) (off := 496) (tgt := 535) C dLw_law_39 (by decide +kernel) rfl ?_ (fun hc14 => ?_)
        · skip
          refine vj_aload_n (j := 1) C dLw_law_535 rfl rfl ?_
          refine vj_aload_n (j := 0) C dLw_law_536 rfl rfl ?_
          refine vj_iload (j := 4) C dLw_law_537 rfl ?_
          refine vj_iconst (v := 1) C dLw_law_539 (by decide) ?_
          refine vj_iadd C dLw_law_540 ?_
          refine vj_iald C dLw_law_541 (by decide) (fun v541 => ?_)
          refine vj_aload_n (j := 0) C dLw_law_542 rfl rfl ?_
          refine vj_iload (j := 4) C dLw_law_543 rfl ?_
          refine vj_iconst (v := 2) C dLw_law_545 (by decide) ?_
          refine vj_iadd C dLw_law_546 ?_
          refine vj_iald C dLw_law_547 (by decide) (fun v547 => ?_)
          refine vj_cV (ci := 8) (As := [.int v541, .int v547]) (st := []) (b := a0_0) (a1 := 2) C dLw_law_548 (cm_Pm_owed _ _ _ _ _) rfl gv_Lw_102 rfl rfl rfl hv_Pm_owed ⟨Nat.le_of_ble_eq_true rfl, Nat.le_of_ble_eq_true rfl⟩ rfl rfl (Nat.le_of_ble_eq_true rfl) ⟨(by show _ ≤ 601024; omega), (by show _ ≤ 7293034; omega)⟩ (fun v548 M548 => ?_)
          show Vj x n k 551 [(0, .ref p0), (1, .ref a0_0), (2, .ref a8_1), (3, .ref a17_2), (4, .int w23_4)] [.int v548] M548 _
          refine vj_aload_n (j := 2) C dLw_law_551 rfl rfl ?_
          refine vj_aload_n (j := 0) C dLw_law_552 rfl rfl ?_
          refine vj_iload (j := 4) C dLw_law_553 rfl ?_
          refine vj_iconst (v := 1) C dLw_law_555 (by decide) ?_
          refine vj_iadd C dLw_law_556 ?_
          refine vj_iald C dLw_law_557 (by decide) (fun v557 => ?_)
          refine vj_aload_n (j := 0) C dLw_law_558 rfl rfl ?_
          refine vj_iload (j := 4) C dLw_law_559 rfl ?_
          refine vj_iconst (v := 2) C dLw_law_561 (by decide) ?_
          refine vj_iadd C dLw_law_562 ?_
          refine vj_iald C dLw_law_563 (by decide) (fun v563 => ?_)
          refine vj_cV (ci := 9) (As := [.int v557, .int v563]) (st := [.int v548]) (b := a8_1) (a1 := 2) C dLw_law_564 (cm_Mo_owed _ _ _ _ _) rfl gv_Lw_105 rfl rfl rfl hv_Mo_owed ⟨Nat.le_of_ble_eq_true rfl, Nat.le_of_ble_eq_true rfl⟩ rfl rfl (Nat.le_of_ble_eq_true rfl) ⟨(by show _ ≤ 601024; omega), (by show _ ≤ 7293034; omega)⟩ (fun v564 M564 => ?_)
          show Vj x n k 567 [(0, .ref p0), (1, .ref a0_0), (2, .ref a8_1), (3, .ref a17_2), (4, .int w23_4)] [.int v564, .int v548] M564 _
          refine vj_icmp_eq (tgt := 708) C dLw_law_567 rfl ?_ ?_
          · skip
            refine vj_wid (n2 := n + 1) (k2 := k + 6) (Nat.le_add_right _ _) (Nat.le_add_right _ _) ?_
            exact hj708 _
          · skip
            refine vj_iconst (v := 0) C dLw_law_570 (by decide) ?_
            exact vj_lw C Z dLw_law_571 (by omega) (by omega)
        refine vj_ts (cs := 15) (off := 533) (tgt := 572) C dLw_law_39 (by decide +kernel) rfl ?_ (fun hc15 => ?_)
        · skip
          refine vj_aload_n (j := 1) C dLw_law_572 rfl rfl ?_
          refine vj_aload_n (j := 0) C dLw_law_573 rfl rfl ?_
          refine vj_iload (j := 4) C dLw_law_574 rfl ?_
          refine vj_iconst (v := 1) C dLw_law_576 (by decide) ?_
          refine vj_iadd C dLw_law_577 ?_
          refine vj_iald C dLw_law_578 (by decide) (fun v578 => ?_)
          refine vj_aload_n (j := 0) C dLw_law_579 rfl rfl ?_
          refine vj_iload (j := 4) C dLw_law_580 rfl ?_
          refine vj_iconst (v := 2) C dLw_law_582 (by decide) ?_
          refine vj_iadd C dLw_law_583 ?_
          refine vj_iald C dLw_law_584 (by decide) (fun v584 => ?_)
          refine vj_aload_n (j := 3) C dLw_law_585 rfl rfl ?_
          refine vj_cH (As := [.ref a0_0, .int v578, .int v584, .ref a17_2]) (st := []) (a1 := 4) C Z.1 dLw_law_586 (ch_Lw_course _ hl9 _ _ _ _ _) ⟨⟨k_717, k_719⟩, k_621, k_718⟩ rfl rfl rfl rfl hn_Lw_course ⟨Nat.le_of_ble_eq_true rfl, Nat.le_of_ble_eq_true rfl⟩ rfl rfl (Nat.le_of_ble_eq_true rfl) ⟨(by show _ ≤ 601024; omega), (by show _ ≤ 7293034; omega)⟩ (fun v586 M586 => ?_)
          show Vj x (n + 1) (k + 6) 589 [(0, .ref p0), (1, .ref a0_0), (2, .ref a8_1), (3, .ref a17_2), (4, .int w23_4)] [.int v586] M586 _
          refine vj_istore (lv' := [(0, .ref p0), (1, .ref a0_0), (2, .ref a8_1), (3, .ref a17_2), (4, .int w23_4), (5, .int v586)]) C dLw_law_589 (by decide) [1, 2, 3, 4, 5, 0] rfl ?_
          refine vj_aload_n (j := 2) C dLw_law_591 rfl rfl ?_
          refine vj_aload_n (j := 0) C dLw_law_592 rfl rfl ?_
          refine vj_iload (j := 4) C dLw_law_593 rfl ?_
          refine vj_iconst (v := 1) C dLw_law_595 (by decide) ?_
          refine vj_iadd C dLw_law_596 ?_
          refine vj_iald C dLw_law_597 (by decide) (fun v597 => ?_)
          refine vj_aload_n (j := 0) C dLw_law_598 rfl rfl ?_
          refine vj_iload (j := 4) C dLw_law_599 rfl ?_
          refine vj_iconst (v := 2) C dLw_law_601 (by decide) ?_
          refine vj_iadd C dLw_law_602 ?_
          refine vj_iald C dLw_law_603 (by decide) (fun v603 => ?_)
          refine vj_cV (ci := 9) (As := [.int v597, .int v603]) (st := []) (b := a8_1) (a1 := 2) C dLw_law_604 (cm_Mo_course _ _ _ _ _) rfl gv_Lw_108 rfl rfl rfl hv_Mo_course ⟨Nat.le_of_ble_eq_true rfl, Nat.le_of_ble_eq_true rfl⟩ rfl rfl (Nat.le_of_ble_eq_true rfl) ⟨(by show _ ≤ 601024; omega), (by show _ ≤ 7293034; omega)⟩ (fun v604 M604 => ?_)
          show Vj x (n + 1) (k + 6) 607 [(0, .ref p0), (1, .ref a0_0), (2, .ref a8_1), (3, .ref a17_2), (4, .int w23_4), (5, .int v586)] [.int v604] M604 _
          refine vj_istore (lv' := [(0, .ref p0), (1, .ref a0_0), (2, .ref a8_1), (3, .ref a17_2), (4, .int w23_4), (5, .int v586), (6, .int v604)]) C dLw_law_607 (by decide) [1, 2, 3, 4, 5, 6, 0] rfl ?_
          refine vj_aload_n (j := 2) C dLw_law_609 rfl rfl ?_
          refine vj_cV (ci := 9) (As := []) (st := []) (b := a8_1) (a1 := 0) C dLw_law_610 (cm_Mo_thrown _ _ _) rfl gv_Lw_58 rfl rfl rfl hv_Mo_thrown ⟨Nat.le_of_ble_eq_true rfl, Nat.le_of_ble_eq_true rfl⟩ rfl rfl (Nat.le_of_ble_eq_true rfl) ⟨(by show _ ≤ 601024; omega), (by show _ ≤ 7293034; omega)⟩ (fun v610 M610 => ?_)
          show Vj x (n + 1) (k + 6) 613 [(0, .ref p0), (1, .ref a0_0), (2, .ref a8_1), (3, .ref a17_2), (4, .int w23_4), (5, .int v586), (6, .int v604)] [.int v610] M610 _
          refine vj_iload (j := 5) C dLw_law_613 rfl ?_
          refine vj_icmp_eq (tgt := 620) C dLw_law_615 rfl ?_ ?_
          · skip
            refine vj_iload (j := 5) C dLw_law_620 rfl ?_
            refine vj_jp (fun (j : Rr) => Vj x (n + 1) (k + 6) 637 [(0, .ref p0), (1, .ref a0_0), (2, .ref a8_1), (3, .ref a17_2), (4, .int w23_4)] [] M610 j) ?_ ?_
            · skip
              refine vj_goto (tgt := 708) C dLw_law_637 rfl ?_
              exact hj708 _
            · intro j637 hj637
              refine vj_if_ne (tgt := 637) C dLw_law_622 rfl ?_ ?_
              · skip
                refine vj_lk (lv' := [(0, .ref p0), (1, .ref a0_0), (2, .ref a8_1), (3, .ref a17_2), (4, .int w23_4)]) [0, 1, 2, 3, 4] rfl ?_
                exact hj637
              · skip
                refine vj_aload_n (j := 3) C dLw_law_625 rfl rfl ?_
                refine vj_iconst (v := 0) C dLw_law_626 (by decide) ?_
                refine vj_lald C dLw_law_627 (fun v627 => ?_)
                refine vj_iload (j := 6) C dLw_law_628 rfl ?_
                refine vj_i2l C dLw_law_630 ?_
                refine vj_lcmp C dLw_law_631 ?_
                refine vj_if_eq (tgt := 637) C dLw_law_632 rfl ?_ ?_
                · skip
                  refine vj_lk (lv' := [(0, .ref p0), (1, .ref a0_0), (2, .ref a8_1), (3, .ref a17_2), (4, .int w23_4)]) [0, 1, 2, 3, 4] rfl ?_
                  exact hj637
                · skip
                  refine vj_iconst (v := 0) C dLw_law_635 (by decide) ?_
                  exact vj_lw C Z dLw_law_636 (by omega) (by omega)
          · skip
            refine vj_iconst (v := 0) C dLw_law_618 (by decide) ?_
            exact vj_lw C Z dLw_law_619 (by omega) (by omega)
        refine vj_ts (cs := 16) (off := 601) (tgt := 640) C dLw_law_39 (by decide +kernel) rfl ?_ (fun hc16 => ?_)
        · skip
          refine vj_aload_n (j := 1) C dLw_law_640 rfl rfl ?_
          refine vj_aload_n (j := 0) C dLw_law_641 rfl rfl ?_
          refine vj_iload (j := 4) C dLw_law_642 rfl ?_
          refine vj_iconst (v := 1) C dLw_law_644 (by decide) ?_
          refine vj_iadd C dLw_law_645 ?_
          refine vj_iald C dLw_law_646 (by decide) (fun v646 => ?_)
          refine vj_aload_n (j := 0) C dLw_law_647 rfl rfl ?_
          refine vj_iload (j := 4) C dLw_law_648 rfl ?_
          refine vj_iconst (v := 2) C dLw_law_650 (by decide) ?_
          refine vj_iadd C dLw_law_651 ?_
          refine vj_iald C dLw_law_652 (by decide) (fun v652 => ?_)
          refine vj_aload_n (j := 3) C dLw_law_653 rfl rfl ?_
          refine vj_cH (As := [.ref a0_0, .int v646, .int v652, .ref a17_2]) (st := []) (a1 := 4) C Z.1 dLw_law_654 (ch_Lw_threat _ hl9 _ _ _ _ _) ⟨⟨k_724, k_726⟩, k_621, k_725⟩ rfl rfl rfl rfl hn_Lw_threat ⟨Nat.le_of_ble_eq_true rfl, Nat.le_of_ble_eq_true rfl⟩ rfl rfl (Nat.le_of_ble_eq_true rfl) ⟨(by show _ ≤ 601024; omega), (by show _ ≤ 7293034; omega)⟩ (fun v654 M654 => ?_)
          show Vj x (n + 1) (k + 6) 657 [(0, .ref p0), (1, .ref a0_0), (2, .ref a8_1), (3, .ref a17_2), (4, .int w23_4)] [.int v654] M654 _
          refine vj_istore (lv' := [(0, .ref p0), (1, .ref a0_0), (2, .ref a8_1), (3, .ref a17_2), (4, .int w23_4), (5, .int v654)]) C dLw_law_657 (by decide) [1, 2, 3, 4, 5, 0] rfl ?_
          refine vj_aload_n (j := 2) C dLw_law_659 rfl rfl ?_
          refine vj_aload_n (j := 0) C dLw_law_660 rfl rfl ?_
          refine vj_iload (j := 4) C dLw_law_661 rfl ?_
          refine vj_iconst (v := 1) C dLw_law_663 (by decide) ?_
          refine vj_iadd C dLw_law_664 ?_
          refine vj_iald C dLw_law_665 (by decide) (fun v665 => ?_)
          refine vj_aload_n (j := 0) C dLw_law_666 rfl rfl ?_
          refine vj_iload (j := 4) C dLw_law_667 rfl ?_
          refine vj_iconst (v := 2) C dLw_law_669 (by decide) ?_
          refine vj_iadd C dLw_law_670 ?_
          refine vj_iald C dLw_law_671 (by decide) (fun v671 => ?_)
          refine vj_cV (ci := 9) (As := [.int v665, .int v671]) (st := []) (b := a8_1) (a1 := 2) C dLw_law_672 (cm_Mo_threat _ _ _ _ _) rfl gv_Lw_111 rfl rfl rfl hv_Mo_threat ⟨Nat.le_of_ble_eq_true rfl, Nat.le_of_ble_eq_true rfl⟩ rfl rfl (Nat.le_of_ble_eq_true rfl) ⟨(by show _ ≤ 601024; omega), (by show _ ≤ 7293034; omega)⟩ (fun v672 M672 => ?_)
          show Vj x (n + 1) (k + 6) 675 [(0, .ref p0), (1, .ref a0_0), (2, .ref a8_1), (3, .ref a17_2), (4, .int w23_4), (5, .int v654)] [.int v672] M672 _
          refine vj_istore (lv' := [(0, .ref p0), (1, .ref a0_0), (2, .ref a8_1), (3, .ref a17_2), (4, .int w23_4), (5, .int v654), (6, .int v672)]) C dLw_law_675 (by decide) [1, 2, 3, 4, 5, 6, 0] rfl ?_
          refine vj_aload_n (j := 2) C dLw_law_677 rfl rfl ?_
          refine vj_cV (ci := 9) (As := []) (st := []) (b := a8_1) (a1 := 0) C dLw_law_678 (cm_Mo_thrown _ _ _) rfl gv_Lw_58 rfl rfl rfl hv_Mo_thrown ⟨Nat.le_of_ble_eq_true rfl, Nat.le_of_ble_eq_true rfl⟩ rfl rfl (Nat.le_of_ble_eq_true rfl) ⟨(by show _ ≤ 601024; omega), (by show _ ≤ 7293034; omega)⟩ (fun v678 M678 => ?_)
          show Vj x (n + 1) (k + 6) 681 [(0, .ref p0), (1, .ref a0_0), (2, .ref a8_1), (3, .ref a17_2), (4, .int w23_4), (5, .int v654), (6, .int v672)] [.int v678] M678 _
          refine vj_iload (j := 5) C dLw_law_681 rfl ?_
          refine vj_icmp_eq (tgt := 688) C dLw_law_683 rfl ?_ ?_
          · skip
            refine vj_iload (j := 5) C dLw_law_688 rfl ?_
            refine vj_jp (fun (j : Rr) => Vj x (n + 1) (k + 6) 705 [(0, .ref p0), (1, .ref a0_0), (2, .ref a8_1), (3, .ref a17_2), (4, .int w23_4)] [] M678 j) ?_ ?_
            · skip
              refine vj_goto (tgt := 708) C dLw_law_705 rfl ?_
              exact hj708 _
            · intro j705 hj705
              refine vj_if_ne (tgt := 705) C dLw_law_690 rfl ?_ ?_
              · skip
                refine vj_lk (lv' := [(0, .ref p0), (1, .ref a0_0), (2, .ref a8_1), (3, .ref a17_2), (4, .int w23_4)]) [0, 1, 2, 3, 4] rfl ?_
                exact hj705
              · skip
                refine vj_aload_n (j := 3) C dLw_law_693 rfl rfl ?_
                refine vj_iconst (v := 0) C dLw_law_694 (by decide) ?_
                refine vj_lald C dLw_law_695 (fun v695 => ?_)
                refine vj_iload (j := 6) C dLw_law_696 rfl ?_
                refine vj_i2l C dLw_law_698 ?_
                refine vj_lcmp C dLw_law_699 ?_
                refine vj_if_eq (tgt := 705) C dLw_law_700 rfl ?_ ?_
                · skip
                  refine vj_lk (lv' := [(0, .ref p0), (1, .ref a0_0), (2, .ref a8_1), (3, .ref a17_2), (4, .int w23_4)]) [0, 1, 2, 3, 4] rfl ?_
                  exact hj705
                · skip
                  refine vj_iconst (v := 0) C dLw_law_703 (by decide) ?_
                  exact vj_lw C Z dLw_law_704 (by omega) (by omega)
          · skip
            refine vj_iconst (v := 0) C dLw_law_686 (by decide) ?_
            exact vj_lw C Z dLw_law_687 (by omega) (by omega)
        refine vj_tsd (tgt := 708) C dLw_law_39 (by have h0 := lv_neT hc0 (a := 0) rfl; have h1 := lv_neT hc1 (a := 1) rfl; have h2 := lv_neT hc2 (a := 2) rfl; have h3 := lv_neT hc3 (a := 3) rfl; have h4 := lv_neT hc4 (a := 4) rfl; have h5 := lv_neT hc5 (a := 5) rfl; have h6 := lv_neT hc6 (a := 6) rfl; have h7 := lv_neT hc7 (a := 7) rfl; have h8 := lv_neT hc8 (a := 8) rfl; have h9 := lv_neT hc9 (a := 9) rfl; have h10 := lv_neT hc10 (a := 10) rfl; have h11 := lv_neT hc11 (a := 11) rfl; have h12 := lv_neT hc12 (a := 12) rfl; have h13 := lv_neT hc13 (a := 13) rfl; have h14 := lv_neT hc14 (a := 14) rfl; have h15 := lv_neT hc15 (a := 15) rfl; have h16 := lv_neT hc16 (a := 16) rfl; omega) rfl ?_
        refine vj_wid (n2 := n + 1) (k2 := k + 6) (Nat.le_add_right _ _) (Nat.le_add_right _ _) ?_
        exact hj708 _
set_option maxHeartbeats 8000000 in
set_option maxRecDepth 100000 in
theorem lw_body {x : Cx} {l0 : Launch} (C : Fj x l0 code 7 gw "PledgeMonitorLaw" "law" room_1 (some .boolean) lq) (Z : Zl x ∧ Zw x) (hl9 : l0.stackTraces = false) (M : Mm) (p0 : Nat) : Vj x 0 0 0 [(0, .ref p0)] [] M (fn_Lw_law M p0) := by
  unfold fn_Lw_law
  refine vj_new C dLw_law_0 rfl rfl k_583 k_584 k_347 zin8 zt8 zty8 zdf8 (Nat.le_of_ble_eq_true rfl) (Nat.le_of_ble_eq_true rfl) (fun a0_0 M0_0 => ?_)
  refine vj_dup C dLw_law_3 rfl ?_
  refine vj_cI (ret := none) (As := []) (st := [.ref a0_0]) (b := a0_0) (a1 := 0) C dLw_law_4 (cm_Pm_init _ _ _) (gw_self k_587) k_586 k_585 k_347 rfl rfl rfl rfl hn_Pm_init ⟨Nat.le_of_ble_eq_true rfl, Nat.le_of_ble_eq_true rfl⟩ rfl rfl (Nat.le_of_ble_eq_true rfl) ⟨Nat.le_of_ble_eq_true rfl, Nat.le_of_ble_eq_true rfl⟩ (fun _ M4 => ?_)
  show Vj x 216 2409 7 [(0, .ref p0)] [.ref a0_0] M4 _
  refine vj_astore_n (lv' := [(0, .ref p0), (1, .ref a0_0)]) C dLw_law_7 rfl (by decide) [1, 0] rfl ?_
  refine vj_new C dLw_law_8 rfl rfl k_588 k_589 k_394 zin9 zt9 zty9 zdf9 (Nat.le_of_ble_eq_true rfl) (Nat.le_of_ble_eq_true rfl) (fun a8_1 M8_1 => ?_)
  refine vj_dup C dLw_law_11 rfl ?_
  refine vj_cI (ret := none) (As := []) (st := [.ref a8_1]) (b := a8_1) (a1 := 0) C dLw_law_12 (cm_Mo_init _ _ _) (gw_self k_592) k_591 k_590 k_394 rfl rfl rfl rfl hn_Mo_init ⟨Nat.le_of_ble_eq_true rfl, Nat.le_of_ble_eq_true rfl⟩ rfl rfl (Nat.le_of_ble_eq_true rfl) ⟨Nat.le_of_ble_eq_true rfl, Nat.le_of_ble_eq_true rfl⟩ (fun _ M12 => ?_)
  show Vj x 232 5244 15 [(0, .ref p0), (1, .ref a0_0)] [.ref a8_1] M12 _
  refine vj_astore_n (lv' := [(0, .ref p0), (1, .ref a0_0), (2, .ref a8_1)]) C dLw_law_15 rfl (by decide) [1, 2, 0] rfl ?_
  refine vj_iconst (v := 1) C dLw_law_16 (by decide) ?_
  refine vj_newa (t := 3) (N := 1) C dLw_law_17 ⟨by decide, rfl⟩ k_593 (by decide) (by decide) (by decide) (Nat.le_of_ble_eq_true rfl) (Nat.le_of_ble_eq_true rfl) (fun a17_2 M17_2 => ?_)
  refine vj_astore_n (lv' := [(0, .ref p0), (1, .ref a0_0), (2, .ref a8_1), (3, .ref a17_2)]) C dLw_law_19 rfl (by decide) [1, 2, 3, 0] rfl ?_
  refine vj_iconst (v := 0) C dLw_law_20 (by decide) ?_
  refine vj_istore (lv' := [(0, .ref p0), (1, .ref a0_0), (2, .ref a8_1), (3, .ref a17_2), (4, .int 0)]) C dLw_law_21 (by decide) [1, 2, 3, 4, 0] rfl ?_
  exact lw_loop C Z hl9 fo_N _ _ _ _ (by decide) (by decide)
