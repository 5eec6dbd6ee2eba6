theorem ki_0 : (Jvm.Cond.instantiable "PledgeMonitor$Agreement" (2 : Nat)) ∈ gw := gw_at 119 (by decide +kernel) (by decide +kernel)
theorem ki_1 : (Jvm.Cond.instantiable "PledgeMonitor$Clause" (13 : Nat)) ∈ gw := gw_at 126 (by decide +kernel) (by decide +kernel)
theorem ki_2 : (Jvm.Cond.instantiable "PledgeMonitor$History" (3 : Nat)) ∈ gw := gw_at 263 (by decide +kernel) (by decide +kernel)
theorem ki_3 : (Jvm.Cond.instantiable "PledgeMonitor$Runner" (3 : Nat)) ∈ gw := gw_at 288 (by decide +kernel) (by decide +kernel)
theorem ki_4 : (Jvm.Cond.instantiable "PledgeMonitor$Search" (4 : Nat)) ∈ gw := gw_at 282 (by decide +kernel) (by decide +kernel)
theorem ki_5 : (Jvm.Cond.instantiable "PledgeMonitor$State" (6 : Nat)) ∈ gw := gw_at 207 (by decide +kernel) (by decide +kernel)
theorem ki_6 : (Jvm.Cond.instantiable "PledgeMonitor$Terms" (2 : Nat)) ∈ gw := gw_at 213 (by decide +kernel) (by decide +kernel)
theorem ki_7 : (Jvm.Cond.instantiable "PledgeMonitor$Text" (6 : Nat)) ∈ gw := gw_at 92 (by decide +kernel) (by decide +kernel)
theorem ki_8 : (Jvm.Cond.instantiable "PledgeMonitor" (10 : Nat)) ∈ gw := gw_at 84 (by decide +kernel) (by decide +kernel)
theorem ki_9 : (Jvm.Cond.instantiable "PledgeMonitorModel" (26 : Nat)) ∈ gw := gw_at 787 (by decide +kernel) (by decide +kernel)
theorem ka_0 : (Jvm.Cond.arrayClass Jvm.ClassFile.FieldType.int) ∈ gw := gw_at 229 (by decide +kernel) (by decide +kernel)
theorem ka_1 : (Jvm.Cond.arrayClass Jvm.ClassFile.FieldType.boolean) ∈ gw := gw_at 304 (by decide +kernel) (by decide +kernel)
theorem ka_2 : (Jvm.Cond.arrayClass Jvm.ClassFile.FieldType.char) ∈ gw := gw_at 117 (by decide +kernel) (by decide +kernel)
theorem ka_3 : (Jvm.Cond.arrayClass Jvm.ClassFile.FieldType.long) ∈ gw := gw_at 1087 (by decide +kernel) (by decide +kernel)
theorem kx_nw : ∀ q ∈ nwT, Cond.methodLinkNest q.1 q.2.1 q.2.2.1 q.2.2.2 ∈ lw_tbl := by decide +kernel
theorem kx_ao : ∀ q ∈ aoT, Cond.arrayOver (.object q) ∈ lw_tbl := by decide +kernel
theorem kx_c : ∀ q ∈ ex_c, Cond.castable q q ∈ lw_tbl := by decide +kernel
theorem kx_d : ∀ y ∈ ex_d, Cond.declares y ∈ lw_tbl := by decide +kernel
theorem kx_h : Cond.laysStatic Bundle.tN "UNASSIGNED_STACK" Bundle.steD ∈ lw_tbl ∧ Cond.laysStatic Bundle.tN "SUPPRESSED_SENTINEL" Bundle.listD ∈ lw_tbl := by decide +kernel
theorem kx_g : Cond.isRef (.static Bundle.tN "UNASSIGNED_STACK" Bundle.steD) ∈ flatC (Jvm.Cond.and given_1 narrow_1) ∧ Cond.isRef (.static Bundle.tN "SUPPRESSED_SENTINEL" Bundle.listD) ∈ flatC (Jvm.Cond.and given_1 narrow_1) := by decide +kernel
theorem kx_p : ∀ q ∈ ex_p, Cond.not (.castable q.1 q.2) ∈ flatC (Jvm.Cond.and given_1 narrow_1) := by decide +kernel
theorem kn_all {args : Array Value} {s : State} (hts : ∀ w ∈ gw, w.before args s = true) : ∃ D : va_G, va_K D vwCl [] s := by
  obtain ⟨c0, i0, h0⟩ := u_known hts zin0 (hts _ ki_0)
  obtain ⟨c1, i1, h1⟩ := u_known hts zin1 (hts _ ki_1)
  obtain ⟨c2, i2, h2⟩ := u_known hts zin2 (hts _ ki_2)
  obtain ⟨c3, i3, h3⟩ := u_known hts zin3 (hts _ ki_3)
  obtain ⟨c4, i4, h4⟩ := u_known hts zin4 (hts _ ki_4)
  obtain ⟨c5, i5, h5⟩ := u_known hts zin5 (hts _ ki_5)
  obtain ⟨c6, i6, h6⟩ := u_known hts zin6 (hts _ ki_6)
  obtain ⟨c7, i7, h7⟩ := u_known hts zin7 (hts _ ki_7)
  obtain ⟨c8, i8, h8⟩ := u_known hts zin8 (hts _ ki_8)
  obtain ⟨c9, i9, h9⟩ := u_known hts zin9 (hts _ ki_9)
  refine ⟨(fun c => match c with | 0 => c0 | 1 => c1 | 2 => c2 | 3 => c3 | 4 => c4 | 5 => c5 | 6 => c6 | 7 => c7 | 8 => c8 | _ => c9, fun c => match c with | 0 => i0 | 1 => i1 | 2 => i2 | 3 => i3 | 4 => i4 | 5 => i5 | 6 => i6 | 7 => i7 | 8 => i8 | _ => i9), ?_, fun k q hk => by simp at hk⟩
  intro c q hq
  rcases (show c = 0 ∨ c = 1 ∨ c = 2 ∨ c = 3 ∨ c = 4 ∨ c = 5 ∨ c = 6 ∨ c = 7 ∨ c = 8 ∨ c = 9 ∨ 10 ≤ c by omega) with rfl | rfl | rfl | rfl | rfl | rfl | rfl | rfl | rfl | rfl | hc
  · cases hq; exact h0
  · cases hq; exact h1
  · cases hq; exact h2
  · cases hq; exact h3
  · cases hq; exact h4
  · cases hq; exact h5
  · cases hq; exact h6
  · cases hq; exact h7
  · cases hq; exact h8
  · cases hq; exact h9
  · exfalso
    have h9 := (List.getElem?_eq_some_iff.mp hq).1
    have h8 : vwCl.length = 10 := rfl
    omega
/-- the memory at the law's start: the script alone -/
def mm_0 (sz b L : Nat) (xs : Nat → Int32) : Mm := (sz, 0, fun q => if q = b then (8, L) else (0, 0), fun q j => if q = b then xs j else 0, fun _ _ => none, fun _ _ => 0)
theorem kn_arr {args : Array Value} {s : State} (hts : ∀ w ∈ lw_tbl, w.before args s = true) (hgw : ∀ w ∈ gw, w.before args s = true) {scr : Cell} (hscr : s.isArrayOf scr .int) : ∃ cA : Nat → ClassId, cA 6 = scr.cls ∧ ∀ t : Nat, t < 7 → ∃ (k : Class) (comp : ClassId), s.vm.classes[cA t]? = some k ∧ k.kind = .array comp (tg_ty t) ∧ (t < 6 → s.vm.findClass ("[" ++ (tg_ty t).toString) = some (cA t)) ∧ ∀ C : String, tg_ty t = .object C → s.vm.findClass C = some comp := by
  obtain ⟨a0, k0, m0, x0, y0, z0⟩ := Cond.arrayClass_spec (hgw _ ka_0)
  obtain ⟨a1, k1, m1, x1, y1, z1⟩ := Cond.arrayClass_spec (hgw _ ka_1)
  obtain ⟨a2, k2, m2, x2, y2, z2⟩ := Cond.arrayClass_spec (hgw _ ka_2)
  obtain ⟨a3, k3, m3, x3, y3, z3⟩ := Cond.arrayClass_spec (hgw _ ka_3)
  obtain ⟨m4, a4, k4, u4, -, y4, z4, x4⟩ := Cond.arrayOver_spec (hts _ (kx_ao "PledgeMonitor$Clause" (by decide)))
  obtain ⟨m5, a5, k5, u5, -, y5, z5, x5⟩ := Cond.arrayOver_spec (hts _ (kx_ao "PledgeMonitor$State" (by decide)))
  obtain ⟨-, k6, y6, m6, z6⟩ := hscr
  refine ⟨fun t => match t with | 0 => a0 | 1 => a1 | 2 => a2 | 3 => a3 | 4 => a4 | 5 => a5 | _ => scr.cls, rfl, fun t ht => ?_⟩
  rcases (show t = 0 ∨ t = 1 ∨ t = 2 ∨ t = 3 ∨ t = 4 ∨ t = 5 ∨ t = 6 by omega) with rfl | rfl | rfl | rfl | rfl | rfl | rfl
  · exact ⟨k0, m0, y0, z0, fun _ => x0, fun C hC => by cases hC⟩
  · exact ⟨k1, m1, y1, z1, fun _ => x1, fun C hC => by cases hC⟩
  · exact ⟨k2, m2, y2, z2, fun _ => x2, fun C hC => by cases hC⟩
  · exact ⟨k3, m3, y3, z3, fun _ => x3, fun C hC => by cases hC⟩
  · exact ⟨k4, m4, y4, z4, fun _ => x4, fun C hC => by cases hC; exact u4⟩
  · exact ⟨k5, m5, y5, z5, fun _ => x5, fun C hC => by cases hC; exact u5⟩
  · exact ⟨k6, m6, y6, z6, fun h => absurd h (by decide), fun C hC => by cases hC⟩
theorem zh1_of {args : Array Value} {s : State} {n d : String} (hl : (Cond.laysStatic Bundle.tN n d).before args s = true) (hr : (Cond.isRef (.static Bundle.tN n d)).before args s = true) : zh1 n d (fun q => s.heap.size ≤ q) s s.heap := by
  obtain ⟨c, k, i, f, a, cell, h1, h2, h3, h4, h5, h6, h7, h8, h9⟩ := Cond.laysStatic_spec hl
  obtain ⟨v, hv, hvr⟩ := Cond.isRef_spec hr
  obtain ⟨hst', a', cell', ha', hcell', -, hslot⟩ := Term.static_spec h2 hv
  cases h4.symm.trans ha'
  cases h5.symm.trans hcell'
  exact ⟨c, k, i, f, a, cell, v, h1, h2, h3, h4, h5, h6, h7, h8, h9, hslot, hvr, Nat.not_le.mpr (Array.getElem?_eq_some_iff.mp h5).1⟩
set_option maxHeartbeats 4000000 in
/-- the claim's walk, out of what the functional word of the law answers -/
theorem whole_fn {p : Program} {e : Env} {s : State} {m : MethodId} {below : List Frame} {meth : Method} {c : Code} (l : Launch) (hl9 : l.stackTraces = false) {b L : Nat} {xs : Nat → Int32} (C0 : lw_At p s m meth c b L xs) (hmn : meth.name = "law") {M' : Mm} (hF : fn_Lw_law (mm_0 s.heap.size b L xs) b = some (1, M')) : W p l e room_1 s m #[Value.ref b] below meth c s.heap [] 0 0 (lw_Z below #[Value.ref b] s) (entryFrame m ([Value.ref b] : List Value).toArray 7) := by
  obtain ⟨hx, hb, hr, hml, hown, hts, hX, hbl, hlo, hgv⟩ := C0
  have hgw : ∀ w ∈ gw, w.before #[Value.ref b] s = true := fun w h => hts w (gw_in h)
  have hfl := flat_of_before _ hgv
  obtain ⟨scr, hscr, harr, hkn, hsz, hsl⟩ := hX
  obtain ⟨D, hD⟩ := kn_all hgw
  obtain ⟨cA, hc6, hcA⟩ := kn_arr hts hgw harr
  have hK : mm_K D cA s := ⟨hD, hcA, fun q hq => va_Nw.of rfl (hts _ (kx_nw q hq)), fun q hq => va_AO.of (hts _ (kx_ao q hq))⟩
  have hzh : zh (fun q => s.heap.size ≤ q) s s.heap := ⟨zh1_of (hts _ kx_h.1) (hfl _ kx_g.1), zh1_of (hts _ kx_h.2) (hfl _ kx_g.2)⟩
  have hzk : zk s := ⟨fun q hq => va_Nw.of rfl (hts _ (kx_c q hq)), fun y hy => va_Nw.of rfl (hts _ (kx_d y hy))⟩
  have hzn : zn s := fun q hq => va_Nc.of (hfl _ (kx_p q hq))
  have hW : mm_W D cA (mm_0 s.heap.size b L xs) s.heap := by
    refine ⟨fun _ => rfl, fun q => ?_⟩
    by_cases hq : q = b
    · subst hq
      have es : mm_s (mm_0 s.heap.size q L xs) q = (8, L) := by simp [mm_s, mm_0]
      unfold mm_at
      rw [es]
      show if 6 = 6 then ar_ok (cA 6) L (mm_av (mm_0 s.heap.size q L xs) 6 q) q s.heap else _
      rw [if_pos rfl]
      refine ⟨scr, hscr, hc6.symm, harr.1, hkn, hsz, fun j hj => ?_⟩
      rw [hsl j hj]
      simp [mm_av, mm_i, mm_0]
    · have es : mm_s (mm_0 s.heap.size b L xs) q = (0, 0) := by simp [mm_s, mm_0, hq]
      unfold mm_at
      rw [es]
      exact trivial
  have hG : mm_G (fun q => s.heap.size ≤ q) (mm_0 s.heap.size b L xs) := by
    intro q hq
    exfalso
    unfold mm_w at hq
    by_cases hqb : q = b
    · subst hqb
      have es : mm_s (mm_0 s.heap.size q L xs) q = (8, L) := by simp [mm_s, mm_0]
      rw [es] at hq
      exact hq.2 rfl
    · have es : mm_s (mm_0 s.heap.size b L xs) q = (0, 0) := by simp [mm_s, mm_0, hqb]
      rw [es] at hq
      exact hq.1 rfl
  have hbody := lw_body (x := (p, l, e, room_1, s, m, #[Value.ref b], below, meth, c, D, cA, (fun q => s.heap.size ≤ q), lq below D cA (fun q => s.heap.size ≤ q) #[Value.ref b] s, 7)) (l0 := l) ⟨⟨hx, hb, hml, hown, hgw⟩, hK, rfl, hlo, hr, hmn, fun q h => h, rfl, rfl, rfl⟩ ⟨⟨hzh, hzk, hzn⟩, ⟨b, rfl⟩, fun q h => h⟩ hl9 (mm_0 s.heap.size b L xs) b
  have hl := lv_entry ([Value.ref b]) (n := 7) (Nat.le_of_ble_eq_true rfl)
  rw [lg_entry_eq]
  have hw := hbody 1 M' hF s.heap [] _ hW hG va_S.rf hl
  intro T hT X
  obtain ⟨t, a1, b1⟩ := hw T hT X
  exact ⟨t, a1, b1 rfl⟩

