/-! memory pictures: one function a kind of slot; the shape of each address: (0,_) not ours, (1,c) an object of class c, (t+2,n) an array of kind t with n places -/
abbrev Mm : Type := Nat × Nat × (Nat → Nat × Nat) × (Nat → Nat → Int32) × (Nat → Nat → Option Nat) × (Nat → Nat → Int64)
def mm_z (M : Mm) : Nat := M.1
def mm_e (M : Mm) : Nat := M.2.1
def mm_s (M : Mm) : Nat → Nat × Nat := M.2.2.1
def mm_i (M : Mm) : Nat → Nat → Int32 := M.2.2.2.1
def mm_r (M : Mm) : Nat → Nat → Option Nat := M.2.2.2.2.1
def mm_l (M : Mm) : Nat → Nat → Int64 := M.2.2.2.2.2
def up_2 {α : Type} (f : Nat → Nat → α) (q k : Nat) (v : α) : Nat → Nat → α := fun a b => if a = q ∧ b = k then v else f a b
def mm_pi (M : Mm) (q k : Nat) (v : Int32) : Mm := (mm_z M, mm_e M, mm_s M, up_2 (mm_i M) q k v, mm_r M, mm_l M)
def mm_pr (M : Mm) (q k : Nat) (v : Option Nat) : Mm := (mm_z M, mm_e M, mm_s M, mm_i M, up_2 (mm_r M) q k v, mm_l M)
def mm_pl (M : Mm) (q k : Nat) (v : Int64) : Mm := (mm_z M, mm_e M, mm_s M, mm_i M, mm_r M, up_2 (mm_l M) q k v)
def mm_pc (M : Mm) (q : Nat) (f : Nat → Int32) : Mm := (mm_z M, mm_e M, mm_s M, fun a b => if a = q then f b else mm_i M a b, mm_r M, mm_l M)
def mm_nw (M : Mm) (d : Nat × Nat) : Mm := (mm_z M + 1, mm_e M, fun a => if a = mm_z M then d else mm_s M a, fun a b => if a = mm_z M then 0 else mm_i M a b, fun a b => if a = mm_z M then none else mm_r M a b, fun a b => if a = mm_z M then 0 else mm_l M a b)
/-- an exception of kind x has been thrown: what the heap's size is, isn't known any more -/
def mm_th (M : Mm) (x : Nat) : Mm := (0, x, mm_s M, mm_i M, mm_r M, mm_l M)
def mm_fv (M : Mm) (ci q k : Nat) : Value := if cl_r ci k = true then va_rf (mm_r M q k) else .int (mm_i M q k)
def mm_av (M : Mm) (t q : Nat) : Nat → Value := fun j => if t = 3 then .long (mm_l M q j) else if t = 4 ∨ t = 5 then va_rf (mm_r M q j) else .int (mm_i M q j)
def ar_ok (cA : ClassId) (n : Nat) (f : Nat → Value) (q : Nat) (H : Heap) : Prop := ∃ cell : Cell, H[q]? = some cell ∧ cell.cls = cA ∧ (∀ k, cell.vm ≠ .statics k) ∧ cell.vm ≠ .unknown ∧ cell.slots.size = n ∧ ∀ j : Nat, j < n → cell.slots[j]? = some (f j)
theorem ar_ok.kept {cA : ClassId} {n : Nat} {f : Nat → Value} {q : Nat} {H H1 : Heap} (h : ar_ok cA n f q H) (h1 : H1[q]? = H[q]?) : ar_ok cA n f q H1 := by
  obtain ⟨cell, a, b⟩ := h
  exact ⟨cell, by rw [h1]; exact a, b⟩
def mm_at (D : va_G) (cA : Nat → ClassId) (M : Mm) (q : Nat) (H : Heap) : Prop :=
  match mm_s M q with
  | (0, _) => True
  | (1, ci) => t_OB q (D.1 ci) (cl_n ci) (D.2 ci) H (mm_fv M ci q)
  | (t + 2, n) => if t = 6 then ar_ok (cA t) n (mm_av M t q) q H else H[q]? = some (arrV (cA t) n (mm_av M t q))
def mm_W (D : va_G) (cA : Nat → ClassId) (M : Mm) (H : Heap) : Prop := (mm_z M ≠ 0 → H.size = mm_z M) ∧ ∀ q : Nat, mm_at D cA M q H
/-- what may be written: not the script (kind 6) -/
def mm_w (M : Mm) (q : Nat) : Prop := (mm_s M q).1 ≠ 0 ∧ (mm_s M q).1 ≠ 8
def mm_G (A : Nat → Prop) (M : Mm) : Prop := ∀ q, mm_w M q → A q
def mm_A (M : Mm) (sz : Nat) : Nat → Prop := fun q => mm_w M q ∨ sz ≤ q
def mm_K (D : va_G) (cA : Nat → ClassId) (U : State) : Prop := va_K D vwCl [] U ∧ (∀ t : Nat, t < 7 → ∃ (k : Class) (comp : ClassId), U.vm.classes[cA t]? = some k ∧ k.kind = .array comp (tg_ty t) ∧ (t < 6 → U.vm.findClass ("[" ++ (tg_ty t).toString) = some (cA t)) ∧ ∀ C : String, tg_ty t = .object C → U.vm.findClass C = some comp) ∧ (∀ q ∈ nwT, va_Nw (.methodLinkNest q.1 q.2.1 q.2.2.1 q.2.2.2) U) ∧ ∀ C ∈ aoT, va_AO C U
theorem mm_K.arrs {cA : Nat → ClassId} {u U : State} (hvm : u.vm.Alike U.vm) (h : ∀ t : Nat, t < 7 → ∃ (k : Class) (comp : ClassId), u.vm.classes[cA t]? = some k ∧ k.kind = .array comp (tg_ty t) ∧ (t < 6 → u.vm.findClass ("[" ++ (tg_ty t).toString) = some (cA t)) ∧ ∀ C : String, tg_ty t = .object C → u.vm.findClass C = some comp) : ∀ t : Nat, t < 7 → ∃ (k : Class) (comp : ClassId), U.vm.classes[cA t]? = some k ∧ k.kind = .array comp (tg_ty t) ∧ (t < 6 → U.vm.findClass ("[" ++ (tg_ty t).toString) = some (cA t)) ∧ ∀ C : String, tg_ty t = .object C → U.vm.findClass C = some comp := by
  intro t ht
  obtain ⟨k, comp, h1, h2, h3, h4⟩ := h t ht
  obtain ⟨k', hk', he⟩ := hvm.2.2 _ _ h1
  exact ⟨k', comp, hk', by rw [he]; exact h2, fun h6 => by rw [hvm.findClass]; exact h3 h6, fun C hC => by rw [hvm.findClass]; exact h4 C hC⟩
theorem mm_K.warm {D : va_G} {cA : Nat → ClassId} {u U : State} (hW : u.WarmedH U.vm) (h : mm_K D cA u) : mm_K D cA U := ⟨va_K.moved hW.alike h.1, mm_K.arrs hW.alike h.2.1, fun q hq => va_Nw.warmM hW (h.2.2.1 q hq), fun C hC => va_AO.moved hW.alike (h.2.2.2 C hC)⟩
theorem mm_K.same {D : va_G} {cA : Nat → ClassId} {u U : State} (hv : u.vm = U.vm) (h : mm_K D cA u) : mm_K D cA U := ⟨va_K.moved (by rw [hv]; exact Vm.Alike.refl _) h.1, mm_K.arrs (by rw [hv]; exact Vm.Alike.refl _) h.2.1, fun q hq => va_Nw.same rfl hv (h.2.2.1 q hq), fun C hC => va_AO.moved (by rw [hv]; exact Vm.Alike.refl _) (h.2.2.2 C hC)⟩
def mm_Q (D : va_G) (cA : Nat → ClassId) (A : Nat → Prop) (vo : Int32 → Option Value) (r : Int32) (M' : Mm) : Array Value → State → Outcome → State → Prop := fun _ st oc t => oc = .returned (vo r) ∧ mm_W D cA M' t.heap ∧ mm_G A M' ∧ va_F A st t
/-- the same but for what lies at q -/
def mm_eo (M M2 : Mm) (q : Nat) : Prop := mm_z M2 = mm_z M ∧ mm_s M2 = mm_s M ∧ ∀ a, a ≠ q → mm_i M2 a = mm_i M a ∧ mm_r M2 a = mm_r M a ∧ mm_l M2 a = mm_l M a
theorem ar_of {cA : ClassId} {n : Nat} {f : Nat → Value} {q : Nat} {H : Heap} (h : H[q]? = some (arrV cA n f)) : ar_ok cA n f q H := ⟨_, h, rfl, (fun _ z => by cases z), (fun z => by cases z), arrV_size _ _ _, fun _ hj => arrV_read _ _ hj⟩
theorem mm_at.lt {D : va_G} {cA : Nat → ClassId} {M : Mm} {q : Nat} {H : Heap} (h : mm_at D cA M q H) (hk : (mm_s M q).1 ≠ 0) : q < H.size := by
  unfold mm_at at h
  split at h
  · next e => rw [e] at hk; exact absurd rfl hk
  · obtain ⟨cell, h2, -⟩ := h
    exact (Array.getElem?_eq_some_iff.mp h2).1
  · split at h
    · obtain ⟨cell, h2, -⟩ := h
      exact (Array.getElem?_eq_some_iff.mp h2).1
    · exact (Array.getElem?_eq_some_iff.mp h).1
theorem mm_at.to {D : va_G} {cA : Nat → ClassId} {M M2 : Mm} {q : Nat} {H H2 : Heap} (h : mm_at D cA M q H) (hs : mm_s M2 q = mm_s M q) (hi : mm_i M2 q = mm_i M q) (hr : mm_r M2 q = mm_r M q) (hl : mm_l M2 q = mm_l M q) (hH : (mm_s M q).1 ≠ 0 → H2[q]? = H[q]?) : mm_at D cA M2 q H2 := by
  unfold mm_at at h ⊢
  rw [hs]
  split at h
  · exact trivial
  · next ci e =>
    refine (h.kept (hH (by rw [e]; exact Nat.one_ne_zero))).to fun k _ => ?_
    unfold mm_fv
    rw [hi, hr]
  · next t n e =>
    show if t = 6 then ar_ok (cA t) n (mm_av M2 t q) q H2 else H2[q]? = some (arrV (cA t) n (mm_av M2 t q))
    have e2 : mm_av M2 t q = mm_av M t q := by unfold mm_av; rw [hi, hr, hl]
    rw [e2]
    have hh := hH (by rw [e]; exact Nat.succ_ne_zero _)
    split at h
    · next e6 => rw [if_pos e6]; exact h.kept hh
    · next e6 => rw [if_neg e6, hh]; exact h
theorem mm_W.set {D : va_G} {cA : Nat → ClassId} {M M2 : Mm} {q : Nat} {H H2 : Heap} (h : mm_W D cA M H) (he : mm_eo M M2 q) (hz : H2.size = H.size) (ho : ∀ a : Nat, a ≠ q → H2[a]? = H[a]?) (hq : mm_at D cA M2 q H2) : mm_W D cA M2 H2 := by
  refine ⟨fun hm => by rw [hz, he.1]; exact h.1 (by rw [← he.1]; exact hm), fun a => ?_⟩
  by_cases ha : a = q
  · rw [ha]; exact hq
  · obtain ⟨e1, e2, e3⟩ := he.2.2 a ha
    exact (h.2 a).to (by rw [he.2.1]) e1 e2 e3 (fun _ => ho a ha)
theorem mm_G.set {A : Nat → Prop} {M M2 : Mm} (h : mm_G A M) (he : mm_s M2 = mm_s M) : mm_G A M2 := fun q hq => h q (by unfold mm_w at hq ⊢; rw [he] at hq; exact hq)
theorem mm_W.ob {D : va_G} {cA : Nat → ClassId} {M : Mm} {q ci : Nat} {H : Heap} (h : mm_W D cA M H) (hs : mm_s M q = (1, ci)) : t_OB q (D.1 ci) (cl_n ci) (D.2 ci) H (mm_fv M ci q) := by
  have h2 := h.2 q
  unfold mm_at at h2
  rw [hs] at h2
  exact h2
theorem mm_W.ar {D : va_G} {cA : Nat → ClassId} {M : Mm} {q t n : Nat} {H : Heap} (h : mm_W D cA M H) (hs : mm_s M q = (t + 2, n)) : ar_ok (cA t) n (mm_av M t q) q H := by
  have h2 := h.2 q
  unfold mm_at at h2
  rw [hs] at h2
  simp only at h2
  split at h2
  · exact h2
  · exact ar_of h2
theorem mm_W.av {D : va_G} {cA : Nat → ClassId} {M : Mm} {q t n : Nat} {H : Heap} (h : mm_W D cA M H) (hs : mm_s M q = (t + 2, n)) (h6 : t ≠ 6) : H[q]? = some (arrV (cA t) n (mm_av M t q)) := by
  have h2 := h.2 q
  unfold mm_at at h2
  rw [hs] at h2
  simp only at h2
  rw [if_neg h6] at h2
  exact h2
theorem up_2_row {α : Type} {f : Nat → Nat → α} {q k a : Nat} {v : α} (h : a ≠ q) : up_2 f q k v a = f a := by
  funext b
  simp [up_2, h]
theorem mm_eo_pi (M : Mm) (q k : Nat) (v : Int32) : mm_eo M (mm_pi M q k v) q := ⟨rfl, rfl, fun _ h => ⟨up_2_row h, rfl, rfl⟩⟩
theorem mm_eo_pr (M : Mm) (q k : Nat) (v : Option Nat) : mm_eo M (mm_pr M q k v) q := ⟨rfl, rfl, fun _ h => ⟨rfl, up_2_row h, rfl⟩⟩
theorem mm_eo_pl (M : Mm) (q k : Nat) (v : Int64) : mm_eo M (mm_pl M q k v) q := ⟨rfl, rfl, fun _ h => ⟨rfl, rfl, up_2_row h⟩⟩
theorem mm_eo_pc (M : Mm) (q : Nat) (f : Nat → Int32) : mm_eo M (mm_pc M q f) q := ⟨rfl, rfl, fun a h => ⟨by funext b; simp [mm_pc, mm_i, h], rfl, rfl⟩⟩
/-! the functional words -/
abbrev Rr : Type := Option (Int32 × Mm)
def fo_gi (M : Mm) (ci q k : Nat) (K : Int32 → Rr) : Rr := if mm_s M q = (1, ci) then K (mm_i M q k) else none
def fo_gr (M : Mm) (ci q k : Nat) (K : Nat → Rr) : Rr := if mm_s M q = (1, ci) then (match mm_r M q k with | some a => K a | none => none) else none
def fo_pi (M : Mm) (ci q k : Nat) (v : Int32) (K : Mm → Rr) : Rr := if mm_s M q = (1, ci) then K (mm_pi M q k v) else none
def fo_pz (M : Mm) (ci q k : Nat) (v : Int32) (K : Mm → Rr) : Rr := if mm_s M q = (1, ci) ∧ (v = 0 ∨ v = 1) then K (mm_pi M q k v) else none
def fo_pr (M : Mm) (ci q k : Nat) (v : Nat) (K : Mm → Rr) : Rr := if mm_s M q = (1, ci) then K (mm_pr M q k (some v)) else none
def fo_ai (M : Mm) (t q : Nat) (i : Int32) (K : Int32 → Rr) : Rr := if (mm_s M q).1 = t + 2 ∧ ¬ (i < 0 ∨ (mm_s M q).2 ≤ i.toNatClampNeg) then K (mm_i M q i.toNatClampNeg) else none
def fo_ar (M : Mm) (t q : Nat) (i : Int32) (K : Nat → Rr) : Rr := if (mm_s M q).1 = t + 2 ∧ ¬ (i < 0 ∨ (mm_s M q).2 ≤ i.toNatClampNeg) then (match mm_r M q i.toNatClampNeg with | some a => K a | none => none) else none
def fo_al (M : Mm) (q : Nat) (i : Int32) (K : Int64 → Rr) : Rr := if (mm_s M q).1 = 5 ∧ ¬ (i < 0 ∨ (mm_s M q).2 ≤ i.toNatClampNeg) then K (mm_l M q i.toNatClampNeg) else none
def fo_an (M : Mm) (t q : Nat) (K : Int32 → Rr) : Rr := if (mm_s M q).1 = t + 2 then K (Int32.ofNat (mm_s M q).2) else none
def fo_si (M : Mm) (q : Nat) (i v : Int32) (K : Mm → Rr) : Rr := if (mm_s M q).1 = 2 ∧ ¬ (i < 0 ∨ (mm_s M q).2 ≤ i.toNatClampNeg) then K (mm_pi M q i.toNatClampNeg v) else none
def fo_sz (M : Mm) (q : Nat) (i v : Int32) (K : Mm → Rr) : Rr := if (mm_s M q).1 = 3 ∧ ¬ (i < 0 ∨ (mm_s M q).2 ≤ i.toNatClampNeg) then K (mm_pi M q i.toNatClampNeg (vp_nar .boolean v)) else none
def fo_sc (M : Mm) (q : Nat) (i v : Int32) (K : Mm → Rr) : Rr := if (mm_s M q).1 = 4 ∧ ¬ (i < 0 ∨ (mm_s M q).2 ≤ i.toNatClampNeg) then K (mm_pi M q i.toNatClampNeg (vp_nar .char v)) else none
def fo_sl (M : Mm) (q : Nat) (i : Int32) (v : Int64) (K : Mm → Rr) : Rr := if (mm_s M q).1 = 5 ∧ ¬ (i < 0 ∨ (mm_s M q).2 ≤ i.toNatClampNeg) then K (mm_pl M q i.toNatClampNeg v) else none
def fo_sr (M : Mm) (t ci q : Nat) (i : Int32) (v : Nat) (K : Mm → Rr) : Rr := if (mm_s M q).1 = t + 2 ∧ ¬ (i < 0 ∨ (mm_s M q).2 ≤ i.toNatClampNeg) ∧ mm_s M v = (1, ci) then K (mm_pr M q i.toNatClampNeg (some v)) else none
def fo_nw (M : Mm) (d : Nat × Nat) (K : Nat → Mm → Rr) : Rr := if mm_z M ≠ 0 then K (mm_z M) (mm_nw M d) else none
def fo_cl (o : Rr) (K : Int32 → Mm → Rr) : Rr := match o with | some (r, M) => K r M | none => none
theorem fo_cl_some {o : Rr} {K : Int32 → Mm → Rr} {v : Int32 × Mm} (h : fo_cl o K = some v) : ∃ r1 M1, o = some (r1, M1) ∧ K r1 M1 = some v := by
  unfold fo_cl at h
  cases o with
  | none => cases h
  | some w => exact ⟨w.1, w.2, rfl, h⟩
def fo_cv (M : Mm) (ci b : Nat) (o : Rr) (K : Int32 → Mm → Rr) : Rr := if mm_s M b = (1, ci) then fo_cl o K else none
def fo_cp (M : Mm) (a b : Nat) (i j n : Int32) (K : Mm → Rr) : Rr := if (mm_s M a).1 = 2 ∧ (mm_s M b).1 = 2 ∧ ¬ i < 0 ∧ ¬ j < 0 ∧ ¬ n < 0 ∧ i.toNatClampNeg + n.toNatClampNeg ≤ (mm_s M a).2 ∧ j.toNatClampNeg + n.toNatClampNeg ≤ (mm_s M b).2 then K (mm_pc M b (va_cpy (mm_i M a) (mm_i M b) i.toNatClampNeg j.toNatClampNeg n.toNatClampNeg)) else none
def fo_nm (v : Int32) (K : Int32 → Rr) : Rr := K v
def fo_nl (v : Int64) (K : Int64 → Rr) : Rr := K v
def fo_rz (v : Int32) (M : Mm) : Rr := if v = 0 ∨ v = 1 then some (v, M) else none
def fo_jp {α : Type} (k : α) (b : α → Rr) : Rr := b k
def fo_fx {α : Type} (z : α) (F : α → α) : Nat → α
  | 0 => z
  | n + 1 => F (fo_fx z F n)
theorem fo_fx_P {α : Type} {z : α} {F : α → α} (P : α → Prop) (h0 : P z) (hs : ∀ a, P a → P (F a)) : ∀ n, P (fo_fx z F n)
  | 0 => h0
  | n + 1 => hs _ (fo_fx_P P h0 hs n)
/-! the judgement -/
abbrev Cx : Type := Program × Launch × Env × Room × State × MethodId × Array Value × List Frame × Method × Code × va_G × (Nat → ClassId) × (Nat → Prop) × (Int32 → Mm → State → Prop) × Nat
/-- what a method that returns owes at its end -/
def nq (vo : Int32 → Option Value) (mc ms : Nat) : List Frame → va_G → (Nat → ClassId) → (Nat → Prop) → Array Value → State → Int32 → Mm → State → Prop := fun below D cA A args s r M' => MQ below (mm_Q D cA A vo r M') args s mc ms A
def Vj (x : Cx) (n k pc : Nat) (lv : List (Nat × Value)) (st : List Value) (M : Mm) (o : Rr) : Prop :=
  match x with
  | (p, l, e, R, s, m, args, below, meth, c, D, cA, A, QQ, nL) => ∀ (r : Int32) (M' : Mm), o = some (r, M') → ∀ (H : Heap) (locs : List Loc) (ls : Array Slot), mm_W D cA M H → mm_G A M → va_S A s.heap H locs → lv_has ls nL lv →
    W p l e R s m args below meth c H locs n k (QQ r M') (F0 m pc ls st)
def Fj (x : Cx) (l0 : Launch) (cc : ByteArray) (nL0 : Nat) (Ts : List Cond) (own mn : String) (rm : Room) (rt : Option FieldType) (q0 : List Frame → va_G → (Nat → ClassId) → (Nat → Prop) → Array Value → State → Int32 → Mm → State → Prop) : Prop :=
  match x with
  | (p, l, _, R, s, m, args, below, meth, c, D, cA, A, QQ, nL) => (p.tables.exec = Jvm.exec ∧ c.code = cc ∧ c.maxLocals = nL0 ∧ s.vm.findClass own = some m.cls ∧ ∀ w ∈ Ts, w.before args s = true) ∧ mm_K D cA s ∧ R = rm ∧ meth.locks = false ∧ meth.sig.returnType = rt ∧ meth.name = mn ∧ (∀ q, s.heap.size ≤ q → A q) ∧ l = l0 ∧ nL = nL0 ∧ QQ = q0 below D cA A args s
theorem Vj_none {x : Cx} {n k pc : Nat} {lv : List (Nat × Value)} {st : List Value} {M : Mm} : Vj x n k pc lv st M none := by
  obtain ⟨p, l, e, R, s, m, args, below, meth, c, D, cA, A, QQ, nL⟩ := x
  intro r M' ho
  cases ho
section VJ
variable {x : Cx} {l0 : Launch} {cc : ByteArray} {nL0 : Nat} {Ts : List Cond} {own mn : String} {rm : Room} {rt : Option FieldType} {q0 : List Frame → va_G → (Nat → ClassId) → (Nat → Prop) → Array Value → State → Int32 → Mm → State → Prop} {vo0 : Int32 → Option Value} {mc0 ms0 : Nat} {n k pc : Nat} {lv : List (Nat × Value)} {st : List Value} {M : Mm} {o : Rr}
theorem vj_jp {α : Type} {K : α} {B : α → Rr} (P : α → Prop) (h1 : P K) (h2 : ∀ j, P j → Vj x n k pc lv st M (B j)) : Vj x n k pc lv st M (fo_jp K B) := h2 K h1
theorem vj_nm {v : Int32} {K : Int32 → Rr} (h : ∀ w, Vj x n k pc lv (.int w :: st) M (K w)) : Vj x n k pc lv (.int v :: st) M (fo_nm v K) := h v
theorem vj_nl {v : Int64} {K : Int64 → Rr} (h : ∀ w, Vj x n k pc lv (.long w :: st) M (K w)) : Vj x n k pc lv (.long v :: st) M (fo_nl v K) := h v
theorem vj_lk {lv' : List (Nat × Value)} (ks : List Nat) (hk : lv_pick lv ks = lv') (h : Vj x n k pc lv' st M o) : Vj x n k pc lv st M o := by
  obtain ⟨p, l, e, R, s, m, args, below, meth, c, D, cA, A, QQ, nL⟩ := x
  intro r M' ho H locs ls hW hG hS hl
  exact h r M' ho H locs ls hW hG hS (lv_sub hl ks hk)
theorem vj_iconst (C : Fj x l0 cc nL0 Ts own mn rm rt q0) {a : Int} {v : Int32} (d : decode cc pc = .ok (.iconst a, 1)) (hv : Int32.ofInt a = v) (h : Vj x n k (pc + 1) lv (.int v :: st) M o) : Vj x n k pc lv (st) M o := by
  obtain ⟨p, l, e, R, s, m, args, below, meth, c, D, cA, A, QQ, nL⟩ := x
  obtain ⟨⟨hx, hb, hml, hown, hts⟩, hK, hR, hlo, hrt, hmn, hA, hl0, hnL, hQQ⟩ := C
  subst hl0; subst hnL; subst hR
  intro r M' ho H locs ls hW hG hS hl
  exact lv_iconst hx hb d hv (h r M' ho H locs ls hW hG hS hl)
theorem vj_bipush (C : Fj x l0 cc nL0 Ts own mn rm rt q0) {a : Int} {v : Int32} (d : decode cc pc = .ok (.bipush a, 2)) (hv : (Int8.ofInt a).toInt32 = v) (h : Vj x n k (pc + 2) lv (.int v :: st) M o) : Vj x n k pc lv (st) M o := by
  obtain ⟨p, l, e, R, s, m, args, below, meth, c, D, cA, A, QQ, nL⟩ := x
  obtain ⟨⟨hx, hb, hml, hown, hts⟩, hK, hR, hlo, hrt, hmn, hA, hl0, hnL, hQQ⟩ := C
  subst hl0; subst hnL; subst hR
  intro r M' ho H locs ls hW hG hS hl
  exact lv_bipush hx hb d hv (h r M' ho H locs ls hW hG hS hl)
theorem vj_sipush (C : Fj x l0 cc nL0 Ts own mn rm rt q0) {a : Int} {v : Int32} (d : decode cc pc = .ok (.sipush a, 3)) (hv : (Int16.ofInt a).toInt32 = v) (h : Vj x n k (pc + 3) lv (.int v :: st) M o) : Vj x n k pc lv (st) M o := by
  obtain ⟨p, l, e, R, s, m, args, below, meth, c, D, cA, A, QQ, nL⟩ := x
  obtain ⟨⟨hx, hb, hml, hown, hts⟩, hK, hR, hlo, hrt, hmn, hA, hl0, hnL, hQQ⟩ := C
  subst hl0; subst hnL; subst hR
  intro r M' ho H locs ls hW hG hS hl
  exact lv_sipush hx hb d hv (h r M' ho H locs ls hW hG hS hl)
theorem vj_iload_n (C : Fj x l0 cc nL0 Ts own mn rm rt q0) {f : Fin 4} {i j : Nat} {v : Int32} (d : decode cc pc = .ok (.iload_n f, 1)) (hf : (f : Nat) = i) (hj : lv[j]? = some (i, .int v)) (h : Vj x n k (pc + 1) lv (.int v :: st) M o) : Vj x n k pc lv (st) M o := by
  obtain ⟨p, l, e, R, s, m, args, below, meth, c, D, cA, A, QQ, nL⟩ := x
  obtain ⟨⟨hx, hb, hml, hown, hts⟩, hK, hR, hlo, hrt, hmn, hA, hl0, hnL, hQQ⟩ := C
  subst hl0; subst hnL; subst hR
  intro r M' ho H locs ls hW hG hS hl
  exact lv_iload_n hx hb d hf (lv_at hl j hj) (h r M' ho H locs ls hW hG hS hl)
theorem vj_iload (C : Fj x l0 cc nL0 Ts own mn rm rt q0) {i j : Nat} {v : Int32} (d : decode cc pc = .ok (.iload i, 2)) (hj : lv[j]? = some (i, .int v)) (h : Vj x n k (pc + 2) lv (.int v :: st) M o) : Vj x n k pc lv (st) M o := by
  obtain ⟨p, l, e, R, s, m, args, below, meth, c, D, cA, A, QQ, nL⟩ := x
  obtain ⟨⟨hx, hb, hml, hown, hts⟩, hK, hR, hlo, hrt, hmn, hA, hl0, hnL, hQQ⟩ := C
  subst hl0; subst hnL; subst hR
  intro r M' ho H locs ls hW hG hS hl
  exact lv_iload hx hb d (lv_at hl j hj) (h r M' ho H locs ls hW hG hS hl)
theorem vj_aload_n (C : Fj x l0 cc nL0 Ts own mn rm rt q0) {f : Fin 4} {i j : Nat} {v : Nat} (d : decode cc pc = .ok (.aload_n f, 1)) (hf : (f : Nat) = i) (hj : lv[j]? = some (i, .ref v)) (h : Vj x n k (pc + 1) lv (.ref v :: st) M o) : Vj x n k pc lv (st) M o := by
  obtain ⟨p, l, e, R, s, m, args, below, meth, c, D, cA, A, QQ, nL⟩ := x
  obtain ⟨⟨hx, hb, hml, hown, hts⟩, hK, hR, hlo, hrt, hmn, hA, hl0, hnL, hQQ⟩ := C
  subst hl0; subst hnL; subst hR
  intro r M' ho H locs ls hW hG hS hl
  exact lv_aload_n hx hb d hf (lv_at hl j hj) (h r M' ho H locs ls hW hG hS hl)
theorem vj_aload (C : Fj x l0 cc nL0 Ts own mn rm rt q0) {i j : Nat} {v : Nat} (d : decode cc pc = .ok (.aload i, 2)) (hj : lv[j]? = some (i, .ref v)) (h : Vj x n k (pc + 2) lv (.ref v :: st) M o) : Vj x n k pc lv (st) M o := by
  obtain ⟨p, l, e, R, s, m, args, below, meth, c, D, cA, A, QQ, nL⟩ := x
  obtain ⟨⟨hx, hb, hml, hown, hts⟩, hK, hR, hlo, hrt, hmn, hA, hl0, hnL, hQQ⟩ := C
  subst hl0; subst hnL; subst hR
  intro r M' ho H locs ls hW hG hS hl
  exact lv_aload hx hb d (lv_at hl j hj) (h r M' ho H locs ls hW hG hS hl)
theorem vj_lload_n (C : Fj x l0 cc nL0 Ts own mn rm rt q0) {f : Fin 4} {i j : Nat} {v : Int64} (d : decode cc pc = .ok (.lload_n f, 1)) (hf : (f : Nat) = i) (hj : lv[j]? = some (i, .long v)) (h : Vj x n k (pc + 1) lv (.long v :: st) M o) : Vj x n k pc lv (st) M o := by
  obtain ⟨p, l, e, R, s, m, args, below, meth, c, D, cA, A, QQ, nL⟩ := x
  obtain ⟨⟨hx, hb, hml, hown, hts⟩, hK, hR, hlo, hrt, hmn, hA, hl0, hnL, hQQ⟩ := C
  subst hl0; subst hnL; subst hR
  intro r M' ho H locs ls hW hG hS hl
  exact lv_lload_n hx hb d hf (lv_at hl j hj) (h r M' ho H locs ls hW hG hS hl)
theorem vj_lload (C : Fj x l0 cc nL0 Ts own mn rm rt q0) {i j : Nat} {v : Int64} (d : decode cc pc = .ok (.lload i, 2)) (hj : lv[j]? = some (i, .long v)) (h : Vj x n k (pc + 2) lv (.long v :: st) M o) : Vj x n k pc lv (st) M o := by
  obtain ⟨p, l, e, R, s, m, args, below, meth, c, D, cA, A, QQ, nL⟩ := x
  obtain ⟨⟨hx, hb, hml, hown, hts⟩, hK, hR, hlo, hrt, hmn, hA, hl0, hnL, hQQ⟩ := C
  subst hl0; subst hnL; subst hR
  intro r M' ho H locs ls hW hG hS hl
  exact lv_lload hx hb d (lv_at hl j hj) (h r M' ho H locs ls hW hG hS hl)
theorem vj_istore_n (C : Fj x l0 cc nL0 Ts own mn rm rt q0) {f : Fin 4} {i : Nat} {v : Int32} {lv' : List (Nat × Value)} (d : decode cc pc = .ok (.istore_n f, 1)) (hf : (f : Nat) = i) (hi : i < nL0) (ks : List Nat) (hk : lv_pick ((i, .int v) :: lv.filter (fun q => !(q.1 == i) && !(q.1 + 1 == i && q.2.category == 2))) ks = lv') (h : Vj x n k (pc + 1) lv' st M o) : Vj x n k pc lv (.int v :: st) M o := by
  obtain ⟨p, l, e, R, s, m, args, below, meth, c, D, cA, A, QQ, nL⟩ := x
  obtain ⟨⟨hx, hb, hml, hown, hts⟩, hK, hR, hlo, hrt, hmn, hA, hl0, hnL, hQQ⟩ := C
  subst hl0; subst hnL; subst hR
  intro r M' ho H locs ls hW hG hS hl
  exact lv_istore_n hx hb d hf hl hi rfl (fun ls' hl' => h r M' ho H locs ls' hW hG hS (lv_sub hl' ks hk))
theorem vj_istore (C : Fj x l0 cc nL0 Ts own mn rm rt q0) {i : Nat} {v : Int32} {lv' : List (Nat × Value)} (d : decode cc pc = .ok (.istore i, 2)) (hi : i < nL0) (ks : List Nat) (hk : lv_pick ((i, .int v) :: lv.filter (fun q => !(q.1 == i) && !(q.1 + 1 == i && q.2.category == 2))) ks = lv') (h : Vj x n k (pc + 2) lv' st M o) : Vj x n k pc lv (.int v :: st) M o := by
  obtain ⟨p, l, e, R, s, m, args, below, meth, c, D, cA, A, QQ, nL⟩ := x
  obtain ⟨⟨hx, hb, hml, hown, hts⟩, hK, hR, hlo, hrt, hmn, hA, hl0, hnL, hQQ⟩ := C
  subst hl0; subst hnL; subst hR
  intro r M' ho H locs ls hW hG hS hl
  exact lv_istore hx hb d hl hi rfl (fun ls' hl' => h r M' ho H locs ls' hW hG hS (lv_sub hl' ks hk))
theorem vj_astore_n (C : Fj x l0 cc nL0 Ts own mn rm rt q0) {f : Fin 4} {i : Nat} {v : Nat} {lv' : List (Nat × Value)} (d : decode cc pc = .ok (.astore_n f, 1)) (hf : (f : Nat) = i) (hi : i < nL0) (ks : List Nat) (hk : lv_pick ((i, .ref v) :: lv.filter (fun q => !(q.1 == i) && !(q.1 + 1 == i && q.2.category == 2))) ks = lv') (h : Vj x n k (pc + 1) lv' st M o) : Vj x n k pc lv (.ref v :: st) M o := by
  obtain ⟨p, l, e, R, s, m, args, below, meth, c, D, cA, A, QQ, nL⟩ := x
  obtain ⟨⟨hx, hb, hml, hown, hts⟩, hK, hR, hlo, hrt, hmn, hA, hl0, hnL, hQQ⟩ := C
  subst hl0; subst hnL; subst hR
  intro r M' ho H locs ls hW hG hS hl
  exact lv_astore_n hx hb d hf hl hi rfl (fun ls' hl' => h r M' ho H locs ls' hW hG hS (lv_sub hl' ks hk))
theorem vj_astore (C : Fj x l0 cc nL0 Ts own mn rm rt q0) {i : Nat} {v : Nat} {lv' : List (Nat × Value)} (d : decode cc pc = .ok (.astore i, 2)) (hi : i < nL0) (ks : List Nat) (hk : lv_pick ((i, .ref v) :: lv.filter (fun q => !(q.1 == i) && !(q.1 + 1 == i && q.2.category == 2))) ks = lv') (h : Vj x n k (pc + 2) lv' st M o) : Vj x n k pc lv (.ref v :: st) M o := by
  obtain ⟨p, l, e, R, s, m, args, below, meth, c, D, cA, A, QQ, nL⟩ := x
  obtain ⟨⟨hx, hb, hml, hown, hts⟩, hK, hR, hlo, hrt, hmn, hA, hl0, hnL, hQQ⟩ := C
  subst hl0; subst hnL; subst hR
  intro r M' ho H locs ls hW hG hS hl
  exact lv_astore hx hb d hl hi rfl (fun ls' hl' => h r M' ho H locs ls' hW hG hS (lv_sub hl' ks hk))
theorem vj_iinc (C : Fj x l0 cc nL0 Ts own mn rm rt q0) {i j : Nat} {a : Int} {v b : Int32} {lv' : List (Nat × Value)} (d : decode cc pc = .ok (.iinc i a, 3)) (hj : lv[j]? = some (i, .int v)) (ha : Int32.ofInt a = b) (hi : i < nL0) (ks : List Nat) (hk : lv_pick ((i, .int (v + b)) :: lv.filter (fun q => !(q.1 == i) && !(q.1 + 1 == i && q.2.category == 2))) ks = lv') (h : Vj x n k (pc + 3) lv' st M o) : Vj x n k pc lv st M o := by
  obtain ⟨p, l, e, R, s, m, args, below, meth, c, D, cA, A, QQ, nL⟩ := x
  obtain ⟨⟨hx, hb, hml, hown, hts⟩, hK, hR, hlo, hrt, hmn, hA, hl0, hnL, hQQ⟩ := C
  subst hl0; subst hnL; subst hR
  intro r M' ho H locs ls hW hG hS hl
  exact lv_iinc hx hb d hl hj (by rw [ha]) hi rfl (fun ls' hl' => h r M' ho H locs ls' hW hG hS (lv_sub hl' ks hk))
theorem vj_iincC (C : Fj x l0 cc nL0 Ts own mn rm rt q0) {i j : Nat} {a : Int} {v b w : Int32} {lv' : List (Nat × Value)} (d : decode cc pc = .ok (.iinc i a, 3)) (hj : lv[j]? = some (i, .int v)) (ha : Int32.ofInt a = b) (hw : v + b = w) (hi : i < nL0) (ks : List Nat) (hk : lv_pick ((i, .int w) :: lv.filter (fun q => !(q.1 == i) && !(q.1 + 1 == i && q.2.category == 2))) ks = lv') (h : Vj x n k (pc + 3) lv' st M o) : Vj x n k pc lv st M o := by
  obtain ⟨p, l, e, R, s, m, args, below, meth, c, D, cA, A, QQ, nL⟩ := x
  obtain ⟨⟨hx, hb, hml, hown, hts⟩, hK, hR, hlo, hrt, hmn, hA, hl0, hnL, hQQ⟩ := C
  subst hl0; subst hnL; subst hR
  intro r M' ho H locs ls hW hG hS hl
  exact lv_iinc hx hb d hl hj (by rw [ha, hw]) hi rfl (fun ls' hl' => h r M' ho H locs ls' hW hG hS (lv_sub hl' ks hk))
theorem vj_iadd (C : Fj x l0 cc nL0 Ts own mn rm rt q0) {a b : Int32} (d : decode cc pc = .ok (.iadd, 1))  (h : Vj x n k (pc + 1) lv (.int (a + b) :: st) M o) : Vj x n k pc lv (.int b :: .int a :: st) M o := by
  obtain ⟨p, l, e, R, s, m, args, below, meth, c, D, cA, A, QQ, nL⟩ := x
  obtain ⟨⟨hx, hb, hml, hown, hts⟩, hK, hR, hlo, hrt, hmn, hA, hl0, hnL, hQQ⟩ := C
  subst hl0; subst hnL; subst hR
  intro r M' ho H locs ls hW hG hS hl
  exact lv_iadd hx hb d (h r M' ho H locs ls hW hG hS hl)
theorem vj_isub (C : Fj x l0 cc nL0 Ts own mn rm rt q0) {a b : Int32} (d : decode cc pc = .ok (.isub, 1))  (h : Vj x n k (pc + 1) lv (.int (a - b) :: st) M o) : Vj x n k pc lv (.int b :: .int a :: st) M o := by
  obtain ⟨p, l, e, R, s, m, args, below, meth, c, D, cA, A, QQ, nL⟩ := x
  obtain ⟨⟨hx, hb, hml, hown, hts⟩, hK, hR, hlo, hrt, hmn, hA, hl0, hnL, hQQ⟩ := C
  subst hl0; subst hnL; subst hR
  intro r M' ho H locs ls hW hG hS hl
  exact lv_isub hx hb d (h r M' ho H locs ls hW hG hS hl)
theorem vj_imul (C : Fj x l0 cc nL0 Ts own mn rm rt q0) {a b : Int32} (d : decode cc pc = .ok (.imul, 1))  (h : Vj x n k (pc + 1) lv (.int (a * b) :: st) M o) : Vj x n k pc lv (.int b :: .int a :: st) M o := by
  obtain ⟨p, l, e, R, s, m, args, below, meth, c, D, cA, A, QQ, nL⟩ := x
  obtain ⟨⟨hx, hb, hml, hown, hts⟩, hK, hR, hlo, hrt, hmn, hA, hl0, hnL, hQQ⟩ := C
  subst hl0; subst hnL; subst hR
  intro r M' ho H locs ls hW hG hS hl
  exact lv_imul hx hb d (h r M' ho H locs ls hW hG hS hl)
theorem vj_iand (C : Fj x l0 cc nL0 Ts own mn rm rt q0) {a b : Int32} (d : decode cc pc = .ok (.iand, 1))  (h : Vj x n k (pc + 1) lv (.int (a &&& b) :: st) M o) : Vj x n k pc lv (.int b :: .int a :: st) M o := by
  obtain ⟨p, l, e, R, s, m, args, below, meth, c, D, cA, A, QQ, nL⟩ := x
  obtain ⟨⟨hx, hb, hml, hown, hts⟩, hK, hR, hlo, hrt, hmn, hA, hl0, hnL, hQQ⟩ := C
  subst hl0; subst hnL; subst hR
  intro r M' ho H locs ls hW hG hS hl
  exact lv_iand hx hb d (h r M' ho H locs ls hW hG hS hl)
theorem vj_ior (C : Fj x l0 cc nL0 Ts own mn rm rt q0) {a b : Int32} (d : decode cc pc = .ok (.ior, 1))  (h : Vj x n k (pc + 1) lv (.int (a ||| b) :: st) M o) : Vj x n k pc lv (.int b :: .int a :: st) M o := by
  obtain ⟨p, l, e, R, s, m, args, below, meth, c, D, cA, A, QQ, nL⟩ := x
  obtain ⟨⟨hx, hb, hml, hown, hts⟩, hK, hR, hlo, hrt, hmn, hA, hl0, hnL, hQQ⟩ := C
  subst hl0; subst hnL; subst hR
  intro r M' ho H locs ls hW hG hS hl
  exact lv_ior hx hb d (h r M' ho H locs ls hW hG hS hl)
theorem vj_ishl (C : Fj x l0 cc nL0 Ts own mn rm rt q0) {a b : Int32} (d : decode cc pc = .ok (.ishl, 1))  (h : Vj x n k (pc + 1) lv (.int (a <<< (b &&& 31)) :: st) M o) : Vj x n k pc lv (.int b :: .int a :: st) M o := by
  obtain ⟨p, l, e, R, s, m, args, below, meth, c, D, cA, A, QQ, nL⟩ := x
  obtain ⟨⟨hx, hb, hml, hown, hts⟩, hK, hR, hlo, hrt, hmn, hA, hl0, hnL, hQQ⟩ := C
  subst hl0; subst hnL; subst hR
  intro r M' ho H locs ls hW hG hS hl
  exact lv_ishl hx hb d (h r M' ho H locs ls hW hG hS hl)
theorem vj_ishr (C : Fj x l0 cc nL0 Ts own mn rm rt q0) {a b : Int32} (d : decode cc pc = .ok (.ishr, 1))  (h : Vj x n k (pc + 1) lv (.int (a >>> (b &&& 31)) :: st) M o) : Vj x n k pc lv (.int b :: .int a :: st) M o := by
  obtain ⟨p, l, e, R, s, m, args, below, meth, c, D, cA, A, QQ, nL⟩ := x
  obtain ⟨⟨hx, hb, hml, hown, hts⟩, hK, hR, hlo, hrt, hmn, hA, hl0, hnL, hQQ⟩ := C
  subst hl0; subst hnL; subst hR
  intro r M' ho H locs ls hW hG hS hl
  exact lv_ishr hx hb d (h r M' ho H locs ls hW hG hS hl)
theorem vj_idiv (C : Fj x l0 cc nL0 Ts own mn rm rt q0) {a b : Int32} (d : decode cc pc = .ok (.idiv, 1)) (hne : ¬ b = 0) (h : Vj x n k (pc + 1) lv (.int (a / b) :: st) M o) : Vj x n k pc lv (.int b :: .int a :: st) M o := by
  obtain ⟨p, l, e, R, s, m, args, below, meth, c, D, cA, A, QQ, nL⟩ := x
  obtain ⟨⟨hx, hb, hml, hown, hts⟩, hK, hR, hlo, hrt, hmn, hA, hl0, hnL, hQQ⟩ := C
  subst hl0; subst hnL; subst hR
  intro r M' ho H locs ls hW hG hS hl
  exact lv_idiv hx hb d hne (h r M' ho H locs ls hW hG hS hl)
theorem vj_irem (C : Fj x l0 cc nL0 Ts own mn rm rt q0) {a b : Int32} (d : decode cc pc = .ok (.irem, 1)) (hne : ¬ b = 0) (h : Vj x n k (pc + 1) lv (.int (a - a / b * b) :: st) M o) : Vj x n k pc lv (.int b :: .int a :: st) M o := by
  obtain ⟨p, l, e, R, s, m, args, below, meth, c, D, cA, A, QQ, nL⟩ := x
  obtain ⟨⟨hx, hb, hml, hown, hts⟩, hK, hR, hlo, hrt, hmn, hA, hl0, hnL, hQQ⟩ := C
  subst hl0; subst hnL; subst hR
  intro r M' ho H locs ls hW hG hS hl
  exact lv_irem hx hb d hne (h r M' ho H locs ls hW hG hS hl)
theorem vj_land (C : Fj x l0 cc nL0 Ts own mn rm rt q0) {a b : Int64} (d : decode cc pc = .ok (.land, 1))  (h : Vj x n k (pc + 1) lv (.long (a &&& b) :: st) M o) : Vj x n k pc lv (.long b :: .long a :: st) M o := by
  obtain ⟨p, l, e, R, s, m, args, below, meth, c, D, cA, A, QQ, nL⟩ := x
  obtain ⟨⟨hx, hb, hml, hown, hts⟩, hK, hR, hlo, hrt, hmn, hA, hl0, hnL, hQQ⟩ := C
  subst hl0; subst hnL; subst hR
  intro r M' ho H locs ls hW hG hS hl
  exact lv_land hx hb d (h r M' ho H locs ls hW hG hS hl)
theorem vj_lor (C : Fj x l0 cc nL0 Ts own mn rm rt q0) {a b : Int64} (d : decode cc pc = .ok (.lor, 1))  (h : Vj x n k (pc + 1) lv (.long (a ||| b) :: st) M o) : Vj x n k pc lv (.long b :: .long a :: st) M o := by
  obtain ⟨p, l, e, R, s, m, args, below, meth, c, D, cA, A, QQ, nL⟩ := x
  obtain ⟨⟨hx, hb, hml, hown, hts⟩, hK, hR, hlo, hrt, hmn, hA, hl0, hnL, hQQ⟩ := C
  subst hl0; subst hnL; subst hR
  intro r M' ho H locs ls hW hG hS hl
  exact lv_lor hx hb d (h r M' ho H locs ls hW hG hS hl)
theorem vj_lushr (C : Fj x l0 cc nL0 Ts own mn rm rt q0) {a : Int64} {b : Int32} (d : decode cc pc = .ok (.lushr, 1))  (h : Vj x n k (pc + 1) lv (.long ((a.toUInt64 >>> (b.toInt64.toUInt64 &&& Int64.toUInt64 63)).toInt64) :: st) M o) : Vj x n k pc lv (.int b :: .long a :: st) M o := by
  obtain ⟨p, l, e, R, s, m, args, below, meth, c, D, cA, A, QQ, nL⟩ := x
  obtain ⟨⟨hx, hb, hml, hown, hts⟩, hK, hR, hlo, hrt, hmn, hA, hl0, hnL, hQQ⟩ := C
  subst hl0; subst hnL; subst hR
  intro r M' ho H locs ls hW hG hS hl
  exact lv_lushr hx hb d rfl (h r M' ho H locs ls hW hG hS hl)
theorem vj_lshr (C : Fj x l0 cc nL0 Ts own mn rm rt q0) {a : Int64} {b : Int32} (d : decode cc pc = .ok (.lshr, 1))  (h : Vj x n k (pc + 1) lv (.long (a >>> (b.toInt64 &&& 63)) :: st) M o) : Vj x n k pc lv (.int b :: .long a :: st) M o := by
  obtain ⟨p, l, e, R, s, m, args, below, meth, c, D, cA, A, QQ, nL⟩ := x
  obtain ⟨⟨hx, hb, hml, hown, hts⟩, hK, hR, hlo, hrt, hmn, hA, hl0, hnL, hQQ⟩ := C
  subst hl0; subst hnL; subst hR
  intro r M' ho H locs ls hW hG hS hl
  exact lv_lshr hx hb d rfl (h r M' ho H locs ls hW hG hS hl)
theorem vj_lshl (C : Fj x l0 cc nL0 Ts own mn rm rt q0) {a : Int64} {b : Int32} (d : decode cc pc = .ok (.lshl, 1))  (h : Vj x n k (pc + 1) lv (.long (a <<< (b.toInt64 &&& 63)) :: st) M o) : Vj x n k pc lv (.int b :: .long a :: st) M o := by
  obtain ⟨p, l, e, R, s, m, args, below, meth, c, D, cA, A, QQ, nL⟩ := x
  obtain ⟨⟨hx, hb, hml, hown, hts⟩, hK, hR, hlo, hrt, hmn, hA, hl0, hnL, hQQ⟩ := C
  subst hl0; subst hnL; subst hR
  intro r M' ho H locs ls hW hG hS hl
  exact lv_lshl hx hb d rfl (h r M' ho H locs ls hW hG hS hl)
theorem vj_i2l (C : Fj x l0 cc nL0 Ts own mn rm rt q0) {a : Int32} (d : decode cc pc = .ok (.i2l, 1))  (h : Vj x n k (pc + 1) lv (.long a.toInt64 :: st) M o) : Vj x n k pc lv (.int a :: st) M o := by
  obtain ⟨p, l, e, R, s, m, args, below, meth, c, D, cA, A, QQ, nL⟩ := x
  obtain ⟨⟨hx, hb, hml, hown, hts⟩, hK, hR, hlo, hrt, hmn, hA, hl0, hnL, hQQ⟩ := C
  subst hl0; subst hnL; subst hR
  intro r M' ho H locs ls hW hG hS hl
  exact lv_i2l hx hb d rfl (h r M' ho H locs ls hW hG hS hl)
theorem vj_l2i (C : Fj x l0 cc nL0 Ts own mn rm rt q0) {a : Int64} (d : decode cc pc = .ok (.l2i, 1))  (h : Vj x n k (pc + 1) lv (.int a.toInt32 :: st) M o) : Vj x n k pc lv (.long a :: st) M o := by
  obtain ⟨p, l, e, R, s, m, args, below, meth, c, D, cA, A, QQ, nL⟩ := x
  obtain ⟨⟨hx, hb, hml, hown, hts⟩, hK, hR, hlo, hrt, hmn, hA, hl0, hnL, hQQ⟩ := C
  subst hl0; subst hnL; subst hR
  intro r M' ho H locs ls hW hG hS hl
  exact lv_l2i hx hb d rfl (h r M' ho H locs ls hW hG hS hl)
theorem vj_i2c (C : Fj x l0 cc nL0 Ts own mn rm rt q0) {a : Int32} (d : decode cc pc = .ok (.i2c, 1))  (h : Vj x n k (pc + 1) lv (.int (a.toUInt32 % 65536).toInt32 :: st) M o) : Vj x n k pc lv (.int a :: st) M o := by
  obtain ⟨p, l, e, R, s, m, args, below, meth, c, D, cA, A, QQ, nL⟩ := x
  obtain ⟨⟨hx, hb, hml, hown, hts⟩, hK, hR, hlo, hrt, hmn, hA, hl0, hnL, hQQ⟩ := C
  subst hl0; subst hnL; subst hR
  intro r M' ho H locs ls hW hG hS hl
  exact lv_i2c hx hb d rfl (h r M' ho H locs ls hW hG hS hl)
theorem vj_lcmp (C : Fj x l0 cc nL0 Ts own mn rm rt q0) {a b : Int64} (d : decode cc pc = .ok (.lcmp, 1))  (h : Vj x n k (pc + 1) lv (.int (lg_cmp a b) :: st) M o) : Vj x n k pc lv (.long b :: .long a :: st) M o := by
  obtain ⟨p, l, e, R, s, m, args, below, meth, c, D, cA, A, QQ, nL⟩ := x
  obtain ⟨⟨hx, hb, hml, hown, hts⟩, hK, hR, hlo, hrt, hmn, hA, hl0, hnL, hQQ⟩ := C
  subst hl0; subst hnL; subst hR
  intro r M' ho H locs ls hW hG hS hl
  exact W.lcmp hx hb d (h r M' ho H locs ls hW hG hS hl)
theorem vj_dup (C : Fj x l0 cc nL0 Ts own mn rm rt q0) {va : Value} (d : decode cc pc = .ok (.dup, 1)) (hc : va.category = 1) (h : Vj x n k (pc + 1) lv (va :: va :: st) M o) : Vj x n k pc lv (va :: st) M o := by
  obtain ⟨p, l, e, R, s, m, args, below, meth, c, D, cA, A, QQ, nL⟩ := x
  obtain ⟨⟨hx, hb, hml, hown, hts⟩, hK, hR, hlo, hrt, hmn, hA, hl0, hnL, hQQ⟩ := C
  subst hl0; subst hnL; subst hR
  intro r M' ho H locs ls hW hG hS hl
  exact lv_dup hx hb d hc (h r M' ho H locs ls hW hG hS hl)
theorem vj_dup2 (C : Fj x l0 cc nL0 Ts own mn rm rt q0) {va vb : Value} (d : decode cc pc = .ok (.dup2, 1)) (hc : va.category = 1) (hc2 : vb.category = 1) (h : Vj x n k (pc + 1) lv (va :: vb :: va :: vb :: st) M o) : Vj x n k pc lv (va :: vb :: st) M o := by
  obtain ⟨p, l, e, R, s, m, args, below, meth, c, D, cA, A, QQ, nL⟩ := x
  obtain ⟨⟨hx, hb, hml, hown, hts⟩, hK, hR, hlo, hrt, hmn, hA, hl0, hnL, hQQ⟩ := C
  subst hl0; subst hnL; subst hR
  intro r M' ho H locs ls hW hG hS hl
  exact lv_dup2_11 hx hb d hc hc2 (h r M' ho H locs ls hW hG hS hl)
theorem vj_pop (C : Fj x l0 cc nL0 Ts own mn rm rt q0) {va : Value} (d : decode cc pc = .ok (.pop, 1)) (hc : va.category = 1) (h : Vj x n k (pc + 1) lv (st) M o) : Vj x n k pc lv (va :: st) M o := by
  obtain ⟨p, l, e, R, s, m, args, below, meth, c, D, cA, A, QQ, nL⟩ := x
  obtain ⟨⟨hx, hb, hml, hown, hts⟩, hK, hR, hlo, hrt, hmn, hA, hl0, hnL, hQQ⟩ := C
  subst hl0; subst hnL; subst hR
  intro r M' ho H locs ls hW hG hS hl
  exact lv_pop hx hb d hc (h r M' ho H locs ls hW hG hS hl)
theorem vj_lconst (C : Fj x l0 cc nL0 Ts own mn rm rt q0) {a : Fin 2} {v : Int64} (d : decode cc pc = .ok (.lconst a, 1)) (hv : Int64.ofNat (a : Nat) = v) (h : Vj x n k (pc + 1) lv (.long v :: st) M o) : Vj x n k pc lv (st) M o := by
  obtain ⟨p, l, e, R, s, m, args, below, meth, c, D, cA, A, QQ, nL⟩ := x
  obtain ⟨⟨hx, hb, hml, hown, hts⟩, hK, hR, hlo, hrt, hmn, hA, hl0, hnL, hQQ⟩ := C
  subst hl0; subst hnL; subst hR
  intro r M' ho H locs ls hW hG hS hl
  exact lv_lconst hx hb d hv (h r M' ho H locs ls hW hG hS hl)
theorem vj_ldc2 (C : Fj x l0 cc nL0 Ts own mn rm rt q0) {idx : Nat} {v : Int64} (d : decode cc pc = .ok (.ldc2_w idx, 3)) (hm : Cond.constantLong own idx v ∈ Ts) (h : Vj x n k (pc + 3) lv (.long v :: st) M o) : Vj x n k pc lv (st) M o := by
  obtain ⟨p, l, e, R, s, m, args, below, meth, c, D, cA, A, QQ, nL⟩ := x
  obtain ⟨⟨hx, hb, hml, hown, hts⟩, hK, hR, hlo, hrt, hmn, hA, hl0, hnL, hQQ⟩ := C
  subst hl0; subst hnL; subst hR
  intro r M' ho H locs ls hW hG hS hl
  exact lv_ldc2 hx hb hown (hts _ hm) d (h r M' ho H locs ls hW hG hS hl)
theorem vj_goto (C : Fj x l0 cc nL0 Ts own mn rm rt q0) {off : Int} {tgt : Nat} (d : decode cc pc = .ok (.goto off, 3)) (ht : (pc : Int) + off = (tgt : Int)) (h : Vj x n k tgt lv st M o) : Vj x n k pc lv st M o := by
  obtain ⟨p, l, e, R, s, m, args, below, meth, c, D, cA, A, QQ, nL⟩ := x
  obtain ⟨⟨hx, hb, hml, hown, hts⟩, hK, hR, hlo, hrt, hmn, hA, hl0, hnL, hQQ⟩ := C
  subst hl0; subst hnL; subst hR
  intro r M' ho H locs ls hW hG hS hl
  exact lv_goto hx hb d ht (h r M' ho H locs ls hW hG hS hl)
theorem vj_if_eq (C : Fj x l0 cc nL0 Ts own mn rm rt q0) {a : Int32} {off : Int} {tgt : Nat} {o1 o2 : Rr} (d : decode cc pc = .ok (.ifCond .eq off, 3)) (ht : (pc : Int) + off = (tgt : Int)) (h1 : Vj x n k tgt lv st M o1) (h2 : Vj x n k (pc + 3) lv st M o2) : Vj x n k pc lv (.int a :: st) M (if a = 0 then o1 else o2) := by
  obtain ⟨p, l, e, R, s, m, args, below, meth, c, D, cA, A, QQ, nL⟩ := x
  obtain ⟨⟨hx, hb, hml, hown, hts⟩, hK, hR, hlo, hrt, hmn, hA, hl0, hnL, hQQ⟩ := C
  subst hl0; subst hnL; subst hR
  intro r M' ho H locs ls hW hG hS hl
  refine lv_if_eq hx hb d ht (fun q => h1 r M' ?_ H locs ls hW hG hS hl) (fun q => h2 r M' ?_ H locs ls hW hG hS hl)
  · rw [if_pos q] at ho; exact ho
  · rw [if_neg q] at ho; exact ho
theorem vj_if_lt (C : Fj x l0 cc nL0 Ts own mn rm rt q0) {a : Int32} {off : Int} {tgt : Nat} {o1 o2 : Rr} (d : decode cc pc = .ok (.ifCond .lt off, 3)) (ht : (pc : Int) + off = (tgt : Int)) (h1 : Vj x n k tgt lv st M o1) (h2 : Vj x n k (pc + 3) lv st M o2) : Vj x n k pc lv (.int a :: st) M (if a < 0 then o1 else o2) := by
  obtain ⟨p, l, e, R, s, m, args, below, meth, c, D, cA, A, QQ, nL⟩ := x
  obtain ⟨⟨hx, hb, hml, hown, hts⟩, hK, hR, hlo, hrt, hmn, hA, hl0, hnL, hQQ⟩ := C
  subst hl0; subst hnL; subst hR
  intro r M' ho H locs ls hW hG hS hl
  refine lv_if_lt hx hb d ht (fun q => h1 r M' ?_ H locs ls hW hG hS hl) (fun q => h2 r M' ?_ H locs ls hW hG hS hl)
  · rw [if_pos q] at ho; exact ho
  · rw [if_neg q] at ho; exact ho
theorem vj_if_ge (C : Fj x l0 cc nL0 Ts own mn rm rt q0) {a : Int32} {off : Int} {tgt : Nat} {o1 o2 : Rr} (d : decode cc pc = .ok (.ifCond .ge off, 3)) (ht : (pc : Int) + off = (tgt : Int)) (h1 : Vj x n k tgt lv st M o1) (h2 : Vj x n k (pc + 3) lv st M o2) : Vj x n k pc lv (.int a :: st) M (if 0 ≤ a then o1 else o2) := by
  obtain ⟨p, l, e, R, s, m, args, below, meth, c, D, cA, A, QQ, nL⟩ := x
  obtain ⟨⟨hx, hb, hml, hown, hts⟩, hK, hR, hlo, hrt, hmn, hA, hl0, hnL, hQQ⟩ := C
  subst hl0; subst hnL; subst hR
  intro r M' ho H locs ls hW hG hS hl
  refine lv_if_ge hx hb d ht (fun q => h1 r M' ?_ H locs ls hW hG hS hl) (fun q => h2 r M' ?_ H locs ls hW hG hS hl)
  · rw [if_pos q] at ho; exact ho
  · rw [if_neg q] at ho; exact ho
theorem vj_if_gt (C : Fj x l0 cc nL0 Ts own mn rm rt q0) {a : Int32} {off : Int} {tgt : Nat} {o1 o2 : Rr} (d : decode cc pc = .ok (.ifCond .gt off, 3)) (ht : (pc : Int) + off = (tgt : Int)) (h1 : Vj x n k tgt lv st M o1) (h2 : Vj x n k (pc + 3) lv st M o2) : Vj x n k pc lv (.int a :: st) M (if 0 < a then o1 else o2) := by
  obtain ⟨p, l, e, R, s, m, args, below, meth, c, D, cA, A, QQ, nL⟩ := x
  obtain ⟨⟨hx, hb, hml, hown, hts⟩, hK, hR, hlo, hrt, hmn, hA, hl0, hnL, hQQ⟩ := C
  subst hl0; subst hnL; subst hR
  intro r M' ho H locs ls hW hG hS hl
  refine lv_if_gt hx hb d ht (fun q => h1 r M' ?_ H locs ls hW hG hS hl) (fun q => h2 r M' ?_ H locs ls hW hG hS hl)
  · rw [if_pos q] at ho; exact ho
  · rw [if_neg q] at ho; exact ho
theorem vj_if_le (C : Fj x l0 cc nL0 Ts own mn rm rt q0) {a : Int32} {off : Int} {tgt : Nat} {o1 o2 : Rr} (d : decode cc pc = .ok (.ifCond .le off, 3)) (ht : (pc : Int) + off = (tgt : Int)) (h1 : Vj x n k tgt lv st M o1) (h2 : Vj x n k (pc + 3) lv st M o2) : Vj x n k pc lv (.int a :: st) M (if a ≤ 0 then o1 else o2) := by
  obtain ⟨p, l, e, R, s, m, args, below, meth, c, D, cA, A, QQ, nL⟩ := x
  obtain ⟨⟨hx, hb, hml, hown, hts⟩, hK, hR, hlo, hrt, hmn, hA, hl0, hnL, hQQ⟩ := C
  subst hl0; subst hnL; subst hR
  intro r M' ho H locs ls hW hG hS hl
  refine lv_if_le hx hb d ht (fun q => h1 r M' ?_ H locs ls hW hG hS hl) (fun q => h2 r M' ?_ H locs ls hW hG hS hl)
  · rw [if_pos q] at ho; exact ho
  · rw [if_neg q] at ho; exact ho
theorem vj_if_ne (C : Fj x l0 cc nL0 Ts own mn rm rt q0) {a : Int32} {off : Int} {tgt : Nat} {o1 o2 : Rr} (d : decode cc pc = .ok (.ifCond .ne off, 3)) (ht : (pc : Int) + off = (tgt : Int)) (h1 : Vj x n k tgt lv st M o1) (h2 : Vj x n k (pc + 3) lv st M o2) : Vj x n k pc lv (.int a :: st) M (if a = 0 then o2 else o1) := by
  obtain ⟨p, l, e, R, s, m, args, below, meth, c, D, cA, A, QQ, nL⟩ := x
  obtain ⟨⟨hx, hb, hml, hown, hts⟩, hK, hR, hlo, hrt, hmn, hA, hl0, hnL, hQQ⟩ := C
  subst hl0; subst hnL; subst hR
  intro r M' ho H locs ls hW hG hS hl
  refine lv_if_ne hx hb d ht (fun q => h1 r M' ?_ H locs ls hW hG hS hl) (fun q => h2 r M' ?_ H locs ls hW hG hS hl)
  · rw [if_neg q] at ho; exact ho
  · rw [if_pos q] at ho; exact ho
theorem vj_icmp_eq (C : Fj x l0 cc nL0 Ts own mn rm rt q0) {a b : Int32} {off : Int} {tgt : Nat} {o1 o2 : Rr} (d : decode cc pc = .ok (.if_icmp .eq off, 3)) (ht : (pc : Int) + off = (tgt : Int)) (h1 : Vj x n k tgt lv st M o1) (h2 : Vj x n k (pc + 3) lv st M o2) : Vj x n k pc lv (.int b :: .int a :: st) M (if a = b then o1 else o2) := by
  obtain ⟨p, l, e, R, s, m, args, below, meth, c, D, cA, A, QQ, nL⟩ := x
  obtain ⟨⟨hx, hb, hml, hown, hts⟩, hK, hR, hlo, hrt, hmn, hA, hl0, hnL, hQQ⟩ := C
  subst hl0; subst hnL; subst hR
  intro r M' ho H locs ls hW hG hS hl
  refine lv_icmp_eq hx hb d ht (fun q => h1 r M' ?_ H locs ls hW hG hS hl) (fun q => h2 r M' ?_ H locs ls hW hG hS hl)
  · rw [if_pos q] at ho; exact ho
  · rw [if_neg q] at ho; exact ho
theorem vj_icmp_lt (C : Fj x l0 cc nL0 Ts own mn rm rt q0) {a b : Int32} {off : Int} {tgt : Nat} {o1 o2 : Rr} (d : decode cc pc = .ok (.if_icmp .lt off, 3)) (ht : (pc : Int) + off = (tgt : Int)) (h1 : Vj x n k tgt lv st M o1) (h2 : Vj x n k (pc + 3) lv st M o2) : Vj x n k pc lv (.int b :: .int a :: st) M (if a < b then o1 else o2) := by
  obtain ⟨p, l, e, R, s, m, args, below, meth, c, D, cA, A, QQ, nL⟩ := x
  obtain ⟨⟨hx, hb, hml, hown, hts⟩, hK, hR, hlo, hrt, hmn, hA, hl0, hnL, hQQ⟩ := C
  subst hl0; subst hnL; subst hR
  intro r M' ho H locs ls hW hG hS hl
  refine lv_icmp_lt hx hb d ht (fun q => h1 r M' ?_ H locs ls hW hG hS hl) (fun q => h2 r M' ?_ H locs ls hW hG hS hl)
  · rw [if_pos q] at ho; exact ho
  · rw [if_neg q] at ho; exact ho
theorem vj_icmp_ge (C : Fj x l0 cc nL0 Ts own mn rm rt q0) {a b : Int32} {off : Int} {tgt : Nat} {o1 o2 : Rr} (d : decode cc pc = .ok (.if_icmp .ge off, 3)) (ht : (pc : Int) + off = (tgt : Int)) (h1 : Vj x n k tgt lv st M o1) (h2 : Vj x n k (pc + 3) lv st M o2) : Vj x n k pc lv (.int b :: .int a :: st) M (if b ≤ a then o1 else o2) := by
  obtain ⟨p, l, e, R, s, m, args, below, meth, c, D, cA, A, QQ, nL⟩ := x
  obtain ⟨⟨hx, hb, hml, hown, hts⟩, hK, hR, hlo, hrt, hmn, hA, hl0, hnL, hQQ⟩ := C
  subst hl0; subst hnL; subst hR
  intro r M' ho H locs ls hW hG hS hl
  refine lv_icmp_ge hx hb d ht (fun q => h1 r M' ?_ H locs ls hW hG hS hl) (fun q => h2 r M' ?_ H locs ls hW hG hS hl)
  · rw [if_pos q] at ho; exact ho
  · rw [if_neg q] at ho; exact ho
theorem vj_icmp_gt (C : Fj x l0 cc nL0 Ts own mn rm rt q0) {a b : Int32} {off : Int} {tgt : Nat} {o1 o2 : Rr} (d : decode cc pc = .ok (.if_icmp .gt off, 3)) (ht : (pc : Int) + off = (tgt : Int)) (h1 : Vj x n k tgt lv st M o1) (h2 : Vj x n k (pc + 3) lv st M o2) : Vj x n k pc lv (.int b :: .int a :: st) M (if b < a then o1 else o2) := by
  obtain ⟨p, l, e, R, s, m, args, below, meth, c, D, cA, A, QQ, nL⟩ := x
  obtain ⟨⟨hx, hb, hml, hown, hts⟩, hK, hR, hlo, hrt, hmn, hA, hl0, hnL, hQQ⟩ := C
  subst hl0; subst hnL; subst hR
  intro r M' ho H locs ls hW hG hS hl
  refine lv_icmp_gt hx hb d ht (fun q => h1 r M' ?_ H locs ls hW hG hS hl) (fun q => h2 r M' ?_ H locs ls hW hG hS hl)
  · rw [if_pos q] at ho; exact ho
  · rw [if_neg q] at ho; exact ho
theorem vj_icmp_le (C : Fj x l0 cc nL0 Ts own mn rm rt q0) {a b : Int32} {off : Int} {tgt : Nat} {o1 o2 : Rr} (d : decode cc pc = .ok (.if_icmp .le off, 3)) (ht : (pc : Int) + off = (tgt : Int)) (h1 : Vj x n k tgt lv st M o1) (h2 : Vj x n k (pc + 3) lv st M o2) : Vj x n k pc lv (.int b :: .int a :: st) M (if a ≤ b then o1 else o2) := by
  obtain ⟨p, l, e, R, s, m, args, below, meth, c, D, cA, A, QQ, nL⟩ := x
  obtain ⟨⟨hx, hb, hml, hown, hts⟩, hK, hR, hlo, hrt, hmn, hA, hl0, hnL, hQQ⟩ := C
  subst hl0; subst hnL; subst hR
  intro r M' ho H locs ls hW hG hS hl
  refine lv_icmp_le hx hb d ht (fun q => h1 r M' ?_ H locs ls hW hG hS hl) (fun q => h2 r M' ?_ H locs ls hW hG hS hl)
  · rw [if_pos q] at ho; exact ho
  · rw [if_neg q] at ho; exact ho
theorem vj_icmp_ne (C : Fj x l0 cc nL0 Ts own mn rm rt q0) {a b : Int32} {off : Int} {tgt : Nat} {o1 o2 : Rr} (d : decode cc pc = .ok (.if_icmp .ne off, 3)) (ht : (pc : Int) + off = (tgt : Int)) (h1 : Vj x n k tgt lv st M o1) (h2 : Vj x n k (pc + 3) lv st M o2) : Vj x n k pc lv (.int b :: .int a :: st) M (if a = b then o2 else o1) := by
  obtain ⟨p, l, e, R, s, m, args, below, meth, c, D, cA, A, QQ, nL⟩ := x
  obtain ⟨⟨hx, hb, hml, hown, hts⟩, hK, hR, hlo, hrt, hmn, hA, hl0, hnL, hQQ⟩ := C
  subst hl0; subst hnL; subst hR
  intro r M' ho H locs ls hW hG hS hl
  refine lv_icmp_ne hx hb d ht (fun q => h1 r M' ?_ H locs ls hW hG hS hl) (fun q => h2 r M' ?_ H locs ls hW hG hS hl)
  · rw [if_neg q] at ho; exact ho
  · rw [if_pos q] at ho; exact ho
theorem vj_if {q : Prop} [Decidable q] {o1 o2 : Rr} (hq : q) (h : Vj x n k pc lv st M (if q then o1 else o2)) : Vj x n k pc lv st M o1 := by
  rw [if_pos hq] at h; exact h
theorem vj_ifn {q : Prop} [Decidable q] {o1 o2 : Rr} (hq : ¬ q) (h : Vj x n k pc lv st M (if q then o1 else o2)) : Vj x n k pc lv st M o2 := by
  rw [if_neg hq] at h; exact h
/-- a field's link: place idx in own's pool is field kk of class ci -/
def lk_f (Ts : List Cond) (own : String) (idx ci kk : Nat) : Prop := ∃ (Cn : String) (T : u_T) (N : Nat), vwCl[ci]? = some (Cn, T, N) ∧ kk < N ∧ Cond.fieldLink own idx Cn (T kk).2.1 (T kk).2.2.1 ∈ Ts ∧ (T kk).1 = Cn ∧ (∀ w ∈ u_ws Cn T N, w ∈ Ts) ∧ N = cl_n ci
/-- and what may be stored: its type, not final, or in the class's own constructor; the slots are apart -/
def lk_p (own mn : String) (ci kk : Nat) (ty : FieldType) : Prop := ∃ (Cn : String) (T : u_T) (N : Nat) (ty0 : Nat → FieldType), vwCl[ci]? = some (Cn, T, N) ∧ parseFieldDescriptor (T kk).2.2.1 = some ty ∧ ((T kk).2.2.2 = false ∨ ((T kk).2.2.2 = true ∧ mn = "<init>" ∧ (T kk).1 = own)) ∧ (∀ j, j < N → parseFieldDescriptor (T j).2.2.1 = some (ty0 j)) ∧ ∀ a, a < N → ∀ b, b < N → a ≠ b → (T a).2.1 ≠ (T b).2.1
theorem vj_gi (C : Fj x l0 cc nL0 Ts own mn rm rt q0) {idx ci q kk : Nat} {K : Int32 → Rr} (d : decode cc pc = .ok (.getfield idx, 3)) (L : lk_f Ts own idx ci kk) (hr : cl_r ci kk = false) (h : ∀ v, Vj x n k (pc + 3) lv (.int v :: st) M (K v)) : Vj x n k pc lv (.ref q :: st) M (fo_gi M ci q kk K) := by
  obtain ⟨p, l, e, R, s, m, args, below, meth, c, D, cA, A, QQ, nL⟩ := x
  obtain ⟨⟨hx, hb, hml, hown, hts⟩, hK, hR, hlo, hrt, hmn, hA, hl0, hnL, hQQ⟩ := C
  subst hl0; subst hnL; subst hR
  intro r M' ho H locs ls hW hG hS hl
  obtain ⟨Cn, T, N, hc, hk, hm, hd, hin, hN⟩ := L
  unfold fo_gi at ho
  split at ho
  · next h1 =>
    obtain ⟨cell, q1, q2, q3, q4⟩ := hW.ob h1
    obtain ⟨hS', hfc, kC, hkC, hkind⟩ := hK.1.1 ci _ hc
    obtain ⟨cf, kf, fi, f, hi, hsl⟩ := hS' kk hk
    refine W.getf hx hb hown (hts _ hm) (by rw [← hd]; exact hi) (u_facts hfc hkC (u_lays hts hin hk) hi).1 q1 (by rw [q3]; exact fun z => by cases z) (v := .int (mm_i M q kk)) ?_ rfl rfl d (h _ r M' ho H locs ls hW hG hS hl)
    rw [hsl, q4 kk (by rw [← hN]; exact hk)]
    simp [mm_fv, hr]
  · cases ho
theorem vj_gr (C : Fj x l0 cc nL0 Ts own mn rm rt q0) {idx ci q kk : Nat} {K : Nat → Rr} (d : decode cc pc = .ok (.getfield idx, 3)) (L : lk_f Ts own idx ci kk) (hr : cl_r ci kk = true) (h : ∀ v, Vj x n k (pc + 3) lv (.ref v :: st) M (K v)) : Vj x n k pc lv (.ref q :: st) M (fo_gr M ci q kk K) := by
  obtain ⟨p, l, e, R, s, m, args, below, meth, c, D, cA, A, QQ, nL⟩ := x
  obtain ⟨⟨hx, hb, hml, hown, hts⟩, hK, hR, hlo, hrt, hmn, hA, hl0, hnL, hQQ⟩ := C
  subst hl0; subst hnL; subst hR
  intro r M' ho H locs ls hW hG hS hl
  obtain ⟨Cn, T, N, hc, hk, hm, hd, hin, hN⟩ := L
  unfold fo_gr at ho
  split at ho
  · next h1 =>
    split at ho
    · next a ha =>
      obtain ⟨cell, q1, q2, q3, q4⟩ := hW.ob h1
      obtain ⟨hS', hfc, kC, hkC, hkind⟩ := hK.1.1 ci _ hc
      obtain ⟨cf, kf, fi, f, hi, hsl⟩ := hS' kk hk
      refine W.getf hx hb hown (hts _ hm) (by rw [← hd]; exact hi) (u_facts hfc hkC (u_lays hts hin hk) hi).1 q1 (by rw [q3]; exact fun z => by cases z) (v := .ref a) ?_ rfl rfl d (h _ r M' ho H locs ls hW hG hS hl)
      rw [hsl, q4 kk (by rw [← hN]; exact hk)]
      simp [mm_fv, hr, ha, va_rf]
    · cases ho
  · cases ho
/-- the core of a store into a field -/
theorem vj_p0 (C : Fj x l0 cc nL0 Ts own mn rm rt q0) {idx ci q kk : Nat} {v : Value} {ty : FieldType} {M2 : Mm} (d : decode cc pc = .ok (.putfield idx, 3)) (L : lk_f Ts own idx ci kk) (L2 : lk_p own mn ci kk ty) (hs : mm_s M q = (1, ci)) (hn : narrow ty v = v) (hf : fits ty v = true) (he : mm_eo M M2 q) (hv : ∀ j, mm_fv M2 ci q j = updV (mm_fv M ci q) kk v j) (h : Vj x n k (pc + 3) lv st M2 o) : Vj x n k pc lv (v :: .ref q :: st) M o := by
  obtain ⟨p, l, e, R, s, m, args, below, meth, c, D, cA, A, QQ, nL⟩ := x
  obtain ⟨⟨hx, hb, hml, hown, hts⟩, hK, hR, hlo, hrt, hmn, hA, hl0, hnL, hQQ⟩ := C
  subst hl0; subst hnL; subst hR
  intro r M' ho H locs ls hW hG hS hl
  obtain ⟨Cn, T, N, hc, hk, hm, hd, hin, hN⟩ := L
  obtain ⟨Cn', T', N', ty0, hc', hty, hfin, htys, hnm⟩ := L2
  cases hc.symm.trans hc'
  have hap := va_apart (own := own) hts hin ty0 htys hnm hK.1 hc
  obtain ⟨cell, q1, q2, q3, q4⟩ := hW.ob hs
  rw [← hN] at q4
  obtain ⟨hS', hfc, kC, hkC, hkind⟩ := hK.1.1 ci _ hc
  obtain ⟨cf, kf, fi, f, hi, hsl⟩ := hS' kk hk
  have hlay := hts _ (hin _ (u_in_lay hk))
  unfold u_lay at hlay
  have hst := (u_facts hfc hkC (u_lays hts hin hk) hi).1
  have hw : mm_w M q := by unfold mm_w; rw [hs]; simp
  have fin : ∀ H' : Heap, H'[q]? = some (cell.setSlot f.slot v) → H'.size = H.size → (∀ a, a ≠ q → H'[a]? = H[a]?) → W p l e R s m args below meth c H' (locs ++ [⟨q, f.slot⟩]) n k (QQ r M') (F0 m (pc + 3) ls st) := by
    intro H' e1 e2 e3
    rw [hsl] at e1
    refine h r M' ho H' _ ls (hW.set he e2 e3 ?_) (hG.set he.2.1) (hS.put e2 e3 (hG q hw)) hl
    unfold mm_at
    rw [he.2.1, hs]
    refine t_OB.to (V := updV (mm_fv M ci q) kk v) ⟨_, e1, q2, q3, ?_⟩ (fun j _ => (hv j).symm)
    rw [← hN]
    exact t_set q4 hap hk v
  rcases hfin with hfin | ⟨hfin, hmn2, hdecl⟩
  · rw [if_neg (by rw [hfin]; decide)] at hlay
    have h6 := u_store hfc hkC hkind hlay hi hty hn hf
    exact W.putK hx hb (f := f) ⟨hown, hts _ hm, ⟨_, _, _, by rw [← hd]; exact hi⟩, hst⟩ (by rw [q2]; exact h6) q1 q3 (by rw [hsl]; exact k2_hasslot (q4 kk hk)) rfl rfl d fin
  · rw [if_pos hfin] at hlay
    have hcf : m.cls = cf := by
      obtain ⟨_, _, c', _, _, _, -, -, hf', -, -, -, hown2, -⟩ := Cond.laysFinal_spec hlay
      have e1 : c' = cf := by have := hi.symm.trans hf'; simp at this; exact this.1.symm
      rw [hdecl] at hown2
      rw [← e1]; exact Option.some.inj (hown.symm.trans hown2)
    have h6 := u_fits hfc hkC hkind (Or.inr hlay) hi hty hn hf
    exact W.putFinK hx hb hown (hts _ hm) (by rw [← hd]; exact hi) hst hcf (hmn.trans hmn2) (by rw [q2]; exact h6) q1 q3 (by rw [hsl]; exact k2_hasslot (q4 kk hk)) rfl rfl d fin
theorem mm_fv_pi {M : Mm} {ci q kk : Nat} {v : Int32} (hr : cl_r ci kk = false) (j : Nat) : mm_fv (mm_pi M q kk v) ci q j = updV (mm_fv M ci q) kk (.int v) j := by
  by_cases h : j = kk
  · subst h; simp [mm_fv, hr, updV, mm_pi, mm_i, up_2]
  · simp [mm_fv, updV, mm_pi, mm_i, mm_r, up_2, h]
theorem mm_fv_pr {M : Mm} {ci q kk a : Nat} (hr : cl_r ci kk = true) (j : Nat) : mm_fv (mm_pr M q kk (some a)) ci q j = updV (mm_fv M ci q) kk (.ref a) j := by
  by_cases h : j = kk
  · subst h; simp [mm_fv, hr, updV, mm_pr, mm_r, up_2, va_rf]
  · simp [mm_fv, updV, mm_pr, mm_i, mm_r, up_2, h]
theorem vj_of {o2 : Rr} (h : ∀ r M', o2 = some (r, M') → o = some (r, M')) (hv : Vj x n k pc lv st M o) : Vj x n k pc lv st M o2 := by
  obtain ⟨p, l, e, R, s, m, args, below, meth, c, D, cA, A, QQ, nL⟩ := x
  intro r M' ho
  exact hv r M' (h r M' ho)
theorem vj_ite {q : Prop} [Decidable q] {o1 : Rr} (h : q → Vj x n k pc lv st M o1) : Vj x n k pc lv st M (if q then o1 else none) := by
  by_cases hq : q
  · rw [if_pos hq]; exact h hq
  · rw [if_neg hq]; exact Vj_none
theorem vj_pi (C : Fj x l0 cc nL0 Ts own mn rm rt q0) {idx ci q kk : Nat} {v : Int32} {K : Mm → Rr} (d : decode cc pc = .ok (.putfield idx, 3)) (L : lk_f Ts own idx ci kk) (L2 : lk_p own mn ci kk .int) (hr : cl_r ci kk = false) (h : ∀ M2, Vj x n k (pc + 3) lv st M2 (K M2)) : Vj x n k pc lv (.int v :: .ref q :: st) M (fo_pi M ci q kk v K) :=
  vj_ite fun h1 => vj_p0 C d L L2 h1 rfl rfl (mm_eo_pi M q kk v) (mm_fv_pi hr) (h _)
theorem vj_pz (C : Fj x l0 cc nL0 Ts own mn rm rt q0) {idx ci q kk : Nat} {v : Int32} {K : Mm → Rr} (d : decode cc pc = .ok (.putfield idx, 3)) (L : lk_f Ts own idx ci kk) (L2 : lk_p own mn ci kk .boolean) (hr : cl_r ci kk = false) (h : ∀ M2, Vj x n k (pc + 3) lv st M2 (K M2)) : Vj x n k pc lv (.int v :: .ref q :: st) M (fo_pz M ci q kk v K) :=
  vj_ite fun h1 => vj_p0 C d L L2 h1.1 (by rcases h1.2 with e | e <;> rw [e] <;> decide) (by rcases h1.2 with e | e <;> rw [e] <;> decide) (mm_eo_pi M q kk v) (mm_fv_pi hr) (h _)
theorem vj_pr (C : Fj x l0 cc nL0 Ts own mn rm rt q0) {idx ci q kk a : Nat} {ty : FieldType} {K : Mm → Rr} (d : decode cc pc = .ok (.putfield idx, 3)) (L : lk_f Ts own idx ci kk) (L2 : lk_p own mn ci kk ty) (hr : cl_r ci kk = true) (hn : narrow ty (.ref a) = .ref a) (hf : fits ty (.ref a) = true) (h : ∀ M2, Vj x n k (pc + 3) lv st M2 (K M2)) : Vj x n k pc lv (.ref a :: .ref q :: st) M (fo_pr M ci q kk a K) :=
  vj_ite fun h1 => vj_p0 C d L L2 h1 hn hf (mm_eo_pr M q kk (some a)) (mm_fv_pr hr) (h _)
theorem vj_iald (C : Fj x l0 cc nL0 Ts own mn rm rt q0) {t q : Nat} {i : Int32} {K : Int32 → Rr} (d : decode cc pc = .ok (.iaload, 1)) (ht : t < 7 ∧ t ≠ 3 ∧ t ≠ 4 ∧ t ≠ 5 ∧ tg_ty t = .int) (h : ∀ v, Vj x n k (pc + 1) lv (.int v :: st) M (K v)) : Vj x n k pc lv (.int i :: .ref q :: st) M (fo_ai M t q i K) := by
  obtain ⟨p, l, e, R, s, m, args, below, meth, c, D, cA, A, QQ, nL⟩ := x
  obtain ⟨⟨hx, hb, hml, hown, hts⟩, hK, hR, hlo, hrt, hmn, hA, hl0, hnL, hQQ⟩ := C
  subst hl0; subst hnL; subst hR
  intro r M' ho H locs ls hW hG hS hl
  unfold fo_ai at ho
  split at ho
  · next h1 =>
    obtain ⟨cell, q1, q2, q3, q4, q5, q6⟩ := hW.ar (t := t) (n := (mm_s M q).2) (Prod.ext h1.1 rfl)
    obtain ⟨kA, comp, k1, k2, -, -⟩ := hK.2.1 t ht.1
    have hlt : i.toNatClampNeg < (mm_s M q).2 := Nat.not_le.mp fun z => h1.2 (Or.inr z)
    refine W.iald (v := .int (mm_i M q i.toNatClampNeg)) hx hb q1 ⟨q3, kA, by rw [q2]; exact k1, comp, by rw [k2, ht.2.2.2.2]⟩ q4 (by rw [q5]; exact h1.2) ?_ rfl rfl d (h _ r M' ho H locs ls hW hG hS hl)
    rw [q6 _ hlt]
    simp [mm_av, ht.2.1, ht.2.2.1, ht.2.2.2.1]
  · cases ho
theorem vj_zald (C : Fj x l0 cc nL0 Ts own mn rm rt q0) {t q : Nat} {i : Int32} {K : Int32 → Rr} (d : decode cc pc = .ok (.baload, 1)) (ht : t < 7 ∧ t ≠ 3 ∧ t ≠ 4 ∧ t ≠ 5 ∧ tg_ty t = .boolean) (h : ∀ v, Vj x n k (pc + 1) lv (.int v :: st) M (K v)) : Vj x n k pc lv (.int i :: .ref q :: st) M (fo_ai M t q i K) := by
  obtain ⟨p, l, e, R, s, m, args, below, meth, c, D, cA, A, QQ, nL⟩ := x
  obtain ⟨⟨hx, hb, hml, hown, hts⟩, hK, hR, hlo, hrt, hmn, hA, hl0, hnL, hQQ⟩ := C
  subst hl0; subst hnL; subst hR
  intro r M' ho H locs ls hW hG hS hl
  unfold fo_ai at ho
  split at ho
  · next h1 =>
    obtain ⟨cell, q1, q2, q3, q4, q5, q6⟩ := hW.ar (t := t) (n := (mm_s M q).2) (Prod.ext h1.1 rfl)
    obtain ⟨kA, comp, k1, k2, -, -⟩ := hK.2.1 t ht.1
    have hlt : i.toNatClampNeg < (mm_s M q).2 := Nat.not_le.mp fun z => h1.2 (Or.inr z)
    refine W.zald (v := .int (mm_i M q i.toNatClampNeg)) hx hb q1 ⟨q3, kA, by rw [q2]; exact k1, comp, by rw [k2, ht.2.2.2.2]⟩ q4 (by rw [q5]; exact h1.2) ?_ rfl rfl d (h _ r M' ho H locs ls hW hG hS hl)
    rw [q6 _ hlt]
    simp [mm_av, ht.2.1, ht.2.2.1, ht.2.2.2.1]
  · cases ho
theorem vj_cald (C : Fj x l0 cc nL0 Ts own mn rm rt q0) {t q : Nat} {i : Int32} {K : Int32 → Rr} (d : decode cc pc = .ok (.caload, 1)) (ht : t < 7 ∧ t ≠ 3 ∧ t ≠ 4 ∧ t ≠ 5 ∧ tg_ty t = .char) (h : ∀ v, Vj x n k (pc + 1) lv (.int v :: st) M (K v)) : Vj x n k pc lv (.int i :: .ref q :: st) M (fo_ai M t q i K) := by
  obtain ⟨p, l, e, R, s, m, args, below, meth, c, D, cA, A, QQ, nL⟩ := x
  obtain ⟨⟨hx, hb, hml, hown, hts⟩, hK, hR, hlo, hrt, hmn, hA, hl0, hnL, hQQ⟩ := C
  subst hl0; subst hnL; subst hR
  intro r M' ho H locs ls hW hG hS hl
  unfold fo_ai at ho
  split at ho
  · next h1 =>
    obtain ⟨cell, q1, q2, q3, q4, q5, q6⟩ := hW.ar (t := t) (n := (mm_s M q).2) (Prod.ext h1.1 rfl)
    obtain ⟨kA, comp, k1, k2, -, -⟩ := hK.2.1 t ht.1
    have hlt : i.toNatClampNeg < (mm_s M q).2 := Nat.not_le.mp fun z => h1.2 (Or.inr z)
    refine W.cald (v := .int (mm_i M q i.toNatClampNeg)) hx hb q1 ⟨q3, kA, by rw [q2]; exact k1, comp, by rw [k2, ht.2.2.2.2]⟩ q4 (by rw [q5]; exact h1.2) ?_ rfl rfl d (h _ r M' ho H locs ls hW hG hS hl)
    rw [q6 _ hlt]
    simp [mm_av, ht.2.1, ht.2.2.1, ht.2.2.2.1]
  · cases ho
theorem vj_lald (C : Fj x l0 cc nL0 Ts own mn rm rt q0) {q : Nat} {i : Int32} {K : Int64 → Rr} (d : decode cc pc = .ok (.laload, 1)) (h : ∀ v, Vj x n k (pc + 1) lv (.long v :: st) M (K v)) : Vj x n k pc lv (.int i :: .ref q :: st) M (fo_al M q i K) := by
  obtain ⟨p, l, e, R, s, m, args, below, meth, c, D, cA, A, QQ, nL⟩ := x
  obtain ⟨⟨hx, hb, hml, hown, hts⟩, hK, hR, hlo, hrt, hmn, hA, hl0, hnL, hQQ⟩ := C
  subst hl0; subst hnL; subst hR
  intro r M' ho H locs ls hW hG hS hl
  unfold fo_al at ho
  split at ho
  · next h1 =>
    obtain ⟨cell, q1, q2, q3, q4, q5, q6⟩ := hW.ar (t := 3) (n := (mm_s M q).2) (Prod.ext h1.1 rfl)
    obtain ⟨kA, comp, k1, k2, -, -⟩ := hK.2.1 3 (by decide)
    have hlt : i.toNatClampNeg < (mm_s M q).2 := Nat.not_le.mp fun z => h1.2 (Or.inr z)
    refine W.lald (v := .long (mm_l M q i.toNatClampNeg)) hx hb q1 ⟨q3, kA, by rw [q2]; exact k1, comp, k2⟩ q4 (by rw [q5]; exact h1.2) ?_ rfl rfl d (h _ r M' ho H locs ls hW hG hS hl)
    rw [q6 _ hlt]
    simp [mm_av]
  · cases ho
theorem vj_aald (C : Fj x l0 cc nL0 Ts own mn rm rt q0) {t q : Nat} {i : Int32} {K : Nat → Rr} (d : decode cc pc = .ok (.aaload, 1)) (ht : t = 4 ∨ t = 5) (h : ∀ v, Vj x n k (pc + 1) lv (.ref v :: st) M (K v)) : Vj x n k pc lv (.int i :: .ref q :: st) M (fo_ar M t q i K) := by
  obtain ⟨p, l, e, R, s, m, args, below, meth, c, D, cA, A, QQ, nL⟩ := x
  obtain ⟨⟨hx, hb, hml, hown, hts⟩, hK, hR, hlo, hrt, hmn, hA, hl0, hnL, hQQ⟩ := C
  subst hl0; subst hnL; subst hR
  intro r M' ho H locs ls hW hG hS hl
  unfold fo_ar at ho
  split at ho
  · next h1 =>
    split at ho
    · next a ha =>
      obtain ⟨cell, q1, q2, q3, q4, q5, q6⟩ := hW.ar (t := t) (n := (mm_s M q).2) (Prod.ext h1.1 rfl)
      obtain ⟨kA, comp, k1, k2, -, -⟩ := hK.2.1 t (by omega)
      have hlt : i.toNatClampNeg < (mm_s M q).2 := Nat.not_le.mp fun z => h1.2 (Or.inr z)
      refine W.aald (v := .ref a) (ty := tg_ty t) hx hb q1 ⟨q3, kA, by rw [q2]; exact k1, comp, k2⟩ (by rcases ht with e | e <;> rw [e] <;> rfl) q4 (by rw [q5]; exact h1.2) ?_ rfl rfl d (h _ r M' ho H locs ls hW hG hS hl)
      rw [q6 _ hlt]
      have h3 : t ≠ 3 := by omega
      simp [mm_av, ha, ht, h3, va_rf]
    · cases ho
  · cases ho
theorem vj_alen (C : Fj x l0 cc nL0 Ts own mn rm rt q0) {t q : Nat} {K : Int32 → Rr} (d : decode cc pc = .ok (.arraylength, 1)) (ht : t < 7) (h : ∀ v, Vj x n k (pc + 1) lv (.int v :: st) M (K v)) : Vj x n k pc lv (.ref q :: st) M (fo_an M t q K) := by
  obtain ⟨p, l, e, R, s, m, args, below, meth, c, D, cA, A, QQ, nL⟩ := x
  obtain ⟨⟨hx, hb, hml, hown, hts⟩, hK, hR, hlo, hrt, hmn, hA, hl0, hnL, hQQ⟩ := C
  subst hl0; subst hnL; subst hR
  intro r M' ho H locs ls hW hG hS hl
  unfold fo_an at ho
  split at ho
  · next h1 =>
    obtain ⟨cell, q1, q2, q3, q4, q5, q6⟩ := hW.ar (t := t) (n := (mm_s M q).2) (Prod.ext h1 rfl)
    obtain ⟨kA, comp, k1, k2, -, -⟩ := hK.2.1 t ht
    exact W.alen (n := Int32.ofNat (mm_s M q).2) hx hb q1 ⟨q3, kA, by rw [q2]; exact k1, comp, k2⟩ (by rw [q5]) rfl rfl d (h _ r M' ho H locs ls hW hG hS hl)
  · cases ho
/-- the core of a store into an array -/
theorem ar_set {D : va_G} {cA : Nat → ClassId} {M M2 : Mm} {q t j n0 : Nat} {H H2 : Heap} {v : Value} (hW : mm_W D cA M H) (hs : mm_s M q = (t + 2, n0)) (h6 : t ≠ 6) (he : mm_eo M M2 q) (hv : ∀ b, mm_av M2 t q b = updV (mm_av M t q) j v b)
    (e1 : H2[q]? = some ((arrV (cA t) n0 (mm_av M t q)).setSlot j v)) (e2 : H2.size = H.size) (e3 : ∀ a : Nat, a ≠ q → H2[a]? = H[a]?) : mm_W D cA M2 H2 := by
  refine hW.set he e2 e3 ?_
  unfold mm_at
  rw [he.2.1, hs]
  simp only
  rw [if_neg h6, e1, arrV_store, funext hv]
theorem vj_iast (C : Fj x l0 cc nL0 Ts own mn rm rt q0) {q : Nat} {i v : Int32} {K : Mm → Rr} (d : decode cc pc = .ok (.iastore, 1)) (h : ∀ M2, Vj x n k (pc + 1) lv st M2 (K M2)) : Vj x n k pc lv (.int v :: .int i :: .ref q :: st) M (fo_si M q i v K) := by
  obtain ⟨p, l, e, R, s, m, args, below, meth, c, D, cA, A, QQ, nL⟩ := x
  obtain ⟨⟨hx, hb, hml, hown, hts⟩, hK, hR, hlo, hrt, hmn, hA, hl0, hnL, hQQ⟩ := C
  subst hl0; subst hnL; subst hR
  intro r M' ho H locs ls hW hG hS hl
  unfold fo_si at ho
  split at ho
  · next h1 =>
    have hs : mm_s M q = (0 + 2, (mm_s M q).2) := Prod.ext h1.1 rfl
    have q1 := hW.av hs (by decide)
    obtain ⟨kA, comp, k1, k2, -, -⟩ := hK.2.1 0 (by decide)
    have hw : mm_w M q := by unfold mm_w; rw [hs]; simp
    refine W.iast hx hb q1 ⟨(fun _ z => by cases z), kA, k1, comp, k2⟩ (fun z => by cases z) (by rw [arrV_size]; exact h1.2) rfl rfl d fun H2 e1 e2 e3 => ?_
    refine h _ r M' ho H2 _ ls (ar_set hW hs (by decide) (mm_eo_pi M q _ _) (fun b => ?_) e1 e2 e3) (hG.set rfl) (hS.put e2 e3 (hG q hw)) hl
    by_cases hb2 : b = i.toNatClampNeg
    · subst hb2; simp [mm_av, updV, mm_pi, mm_i, up_2]; try rfl
    · simp [mm_av, updV, mm_pi, mm_i, mm_r, mm_l, up_2, hb2]
  · cases ho
theorem vj_zast (C : Fj x l0 cc nL0 Ts own mn rm rt q0) {q : Nat} {i v : Int32} {K : Mm → Rr} (d : decode cc pc = .ok (.bastore, 1)) (h : ∀ M2, Vj x n k (pc + 1) lv st M2 (K M2)) : Vj x n k pc lv (.int v :: .int i :: .ref q :: st) M (fo_sz M q i v K) := by
  obtain ⟨p, l, e, R, s, m, args, below, meth, c, D, cA, A, QQ, nL⟩ := x
  obtain ⟨⟨hx, hb, hml, hown, hts⟩, hK, hR, hlo, hrt, hmn, hA, hl0, hnL, hQQ⟩ := C
  subst hl0; subst hnL; subst hR
  intro r M' ho H locs ls hW hG hS hl
  unfold fo_sz at ho
  split at ho
  · next h1 =>
    have hs : mm_s M q = (1 + 2, (mm_s M q).2) := Prod.ext h1.1 rfl
    have q1 := hW.av hs (by decide)
    obtain ⟨kA, comp, k1, k2, -, -⟩ := hK.2.1 1 (by decide)
    have hw : mm_w M q := by unfold mm_w; rw [hs]; simp
    refine W.zast hx hb q1 ⟨(fun _ z => by cases z), kA, k1, comp, k2⟩ (fun z => by cases z) (by rw [arrV_size]; exact h1.2) rfl rfl d fun H2 e1 e2 e3 => ?_
    refine h _ r M' ho H2 _ ls (ar_set hW hs (by decide) (mm_eo_pi M q _ _) (fun b => ?_) e1 e2 e3) (hG.set rfl) (hS.put e2 e3 (hG q hw)) hl
    by_cases hb2 : b = i.toNatClampNeg
    · subst hb2; simp [mm_av, updV, mm_pi, mm_i, up_2]; try rfl
    · simp [mm_av, updV, mm_pi, mm_i, mm_r, mm_l, up_2, hb2]
  · cases ho
theorem vj_cast (C : Fj x l0 cc nL0 Ts own mn rm rt q0) {q : Nat} {i v : Int32} {K : Mm → Rr} (d : decode cc pc = .ok (.castore, 1)) (h : ∀ M2, Vj x n k (pc + 1) lv st M2 (K M2)) : Vj x n k pc lv (.int v :: .int i :: .ref q :: st) M (fo_sc M q i v K) := by
  obtain ⟨p, l, e, R, s, m, args, below, meth, c, D, cA, A, QQ, nL⟩ := x
  obtain ⟨⟨hx, hb, hml, hown, hts⟩, hK, hR, hlo, hrt, hmn, hA, hl0, hnL, hQQ⟩ := C
  subst hl0; subst hnL; subst hR
  intro r M' ho H locs ls hW hG hS hl
  unfold fo_sc at ho
  split at ho
  · next h1 =>
    have hs : mm_s M q = (2 + 2, (mm_s M q).2) := Prod.ext h1.1 rfl
    have q1 := hW.av hs (by decide)
    obtain ⟨kA, comp, k1, k2, -, -⟩ := hK.2.1 2 (by decide)
    have hw : mm_w M q := by unfold mm_w; rw [hs]; simp
    refine W.cast hx hb q1 ⟨(fun _ z => by cases z), kA, k1, comp, k2⟩ (fun z => by cases z) (by rw [arrV_size]; exact h1.2) rfl rfl d fun H2 e1 e2 e3 => ?_
    refine h _ r M' ho H2 _ ls (ar_set hW hs (by decide) (mm_eo_pi M q _ _) (fun b => ?_) e1 e2 e3) (hG.set rfl) (hS.put e2 e3 (hG q hw)) hl
    by_cases hb2 : b = i.toNatClampNeg
    · subst hb2; simp [mm_av, updV, mm_pi, mm_i, up_2]; try rfl
    · simp [mm_av, updV, mm_pi, mm_i, mm_r, mm_l, up_2, hb2]
  · cases ho
theorem vj_last (C : Fj x l0 cc nL0 Ts own mn rm rt q0) {q : Nat} {i : Int32} {v : Int64} {K : Mm → Rr} (d : decode cc pc = .ok (.lastore, 1)) (h : ∀ M2, Vj x n k (pc + 1) lv st M2 (K M2)) : Vj x n k pc lv (.long v :: .int i :: .ref q :: st) M (fo_sl M q i v K) := by
  obtain ⟨p, l, e, R, s, m, args, below, meth, c, D, cA, A, QQ, nL⟩ := x
  obtain ⟨⟨hx, hb, hml, hown, hts⟩, hK, hR, hlo, hrt, hmn, hA, hl0, hnL, hQQ⟩ := C
  subst hl0; subst hnL; subst hR
  intro r M' ho H locs ls hW hG hS hl
  unfold fo_sl at ho
  split at ho
  · next h1 =>
    have hs : mm_s M q = (3 + 2, (mm_s M q).2) := Prod.ext h1.1 rfl
    have q1 := hW.av hs (by decide)
    obtain ⟨kA, comp, k1, k2, -, -⟩ := hK.2.1 3 (by decide)
    have hw : mm_w M q := by unfold mm_w; rw [hs]; simp
    refine W.last hx hb q1 ⟨(fun _ z => by cases z), kA, k1, comp, k2⟩ (fun z => by cases z) (by rw [arrV_size]; exact h1.2) rfl rfl d fun H2 e1 e2 e3 => ?_
    refine h _ r M' ho H2 _ ls (ar_set hW hs (by decide) (mm_eo_pl M q _ _) (fun b => ?_) e1 e2 e3) (hG.set rfl) (hS.put e2 e3 (hG q hw)) hl
    by_cases hb2 : b = i.toNatClampNeg
    · subst hb2; simp [mm_av, updV, mm_pl, mm_l, up_2]
    · simp [mm_av, updV, mm_pl, mm_i, mm_r, mm_l, up_2, hb2]
  · cases ho
theorem vj_aast (C : Fj x l0 cc nL0 Ts own mn rm rt q0) {t ci q a : Nat} {i : Int32} {K : Mm → Rr} (d : decode cc pc = .ok (.aastore, 1)) (ht : t = 4 ∨ t = 5) (hcl : ∃ (T : u_T) (N : Nat) (Cn : String), vwCl[ci]? = some (Cn, T, N) ∧ tg_ty t = .object Cn) (h : ∀ M2, Vj x n k (pc + 1) lv st M2 (K M2)) : Vj x n k pc lv (.ref a :: .int i :: .ref q :: st) M (fo_sr M t ci q i a K) := by
  obtain ⟨p, l, e, R, s, m, args, below, meth, c, D, cA, A, QQ, nL⟩ := x
  obtain ⟨⟨hx, hb, hml, hown, hts⟩, hK, hR, hlo, hrt, hmn, hA, hl0, hnL, hQQ⟩ := C
  subst hl0; subst hnL; subst hR
  intro r M' ho H locs ls hW hG hS hl
  unfold fo_sr at ho
  split at ho
  · next h1 =>
    obtain ⟨T, N, Cn, hc, hty⟩ := hcl
    have hs : mm_s M q = (t + 2, (mm_s M q).2) := Prod.ext h1.1 rfl
    have q1 := hW.av hs (by omega)
    obtain ⟨kA, comp, k1, k2, k3, k4⟩ := hK.2.1 t (by omega)
    obtain ⟨cellV, g1, g2, g3, -⟩ := hW.ob h1.2.2
    have hcls := (hK.1.1 ci _ hc).2
    have hcomp : comp = D.1 ci := Option.some.inj ((k4 Cn hty).symm.trans hcls.1)
    subst hcomp
    obtain ⟨kC, hkC, -⟩ := hcls.2
    have hw : mm_w M q := by unfold mm_w; rw [hs]; simp; omega
    have hlt : i.toNatClampNeg < (mm_s M q).2 := Nat.not_le.mp fun z => h1.2.1 (Or.inr z)
    have h0 : ¬ i < 0 := fun z => h1.2.1 (Or.inl z)
    refine W.aast hx hb q1 (fun _ z => by cases z) (fun z => by cases z) k1 k2 (by rw [hty]; rfl) hkC ⟨h0, by rw [arrV_size]; exact hlt⟩ g1 (fun z hz => by rw [g3] at hz; cases hz) (by rw [g2]; exact hkC) (by rw [g2]; exact va_assign hcls) rfl rfl d fun H2 e1 e2 e3 => ?_
    refine h _ r M' ho H2 _ ls (ar_set hW hs (by omega) (mm_eo_pr M q _ _) (fun b => ?_) e1 e2 e3) (hG.set rfl) (hS.put e2 e3 (hG q hw)) hl
    have h3 : t ≠ 3 := by omega
    by_cases hb2 : b = i.toNatClampNeg
    · subst hb2; simp [mm_av, updV, mm_pr, mm_r, up_2, ht, h3, va_rf]
    · simp [mm_av, updV, mm_pr, mm_i, mm_r, mm_l, up_2, hb2]
  · cases ho
theorem vj_ret (C : Fj x l0 cc nL0 Ts own mn rm rt (nq vo0 mc0 ms0)) {v : Int32} (d : decode cc pc = .ok (.ireturn, 1)) (hrt2 : rt = some .int) (hv : vo0 = fun w => some (.int w)) (hn : n ≤ mc0) (hk : k ≤ ms0) : Vj x n k pc lv [.int v] M (some (v, M)) := by
  obtain ⟨p, l, e, R, s, m, args, below, meth, c, D, cA, A, QQ, nL⟩ := x
  obtain ⟨⟨hx, hb, hml, hown, hts⟩, hK, hR, hlo, hrt, hmn, hA, hl0, hnL, hQQ⟩ := C
  subst hl0; subst hnL; subst hR
  intro r M' ho H locs ls hW hG hS hl
  cases ho
  subst hQQ
  refine W.widen hn hk ?_
  exact W.iret hx hb (hrt.trans hrt2) (fun t ht hWm => ⟨by rw [hv], by rw [ht]; exact hW, hG, hS.F ht⟩) hS.2.2 d hlo
theorem vj_retz (C : Fj x l0 cc nL0 Ts own mn rm rt (nq vo0 mc0 ms0)) {v : Int32} (d : decode cc pc = .ok (.ireturn, 1)) (hrt2 : rt = some .boolean) (hv : vo0 = fun w => some (.int w)) (hn : n ≤ mc0) (hk : k ≤ ms0) : Vj x n k pc lv [.int v] M (fo_rz v M) := by
  obtain ⟨p, l, e, R, s, m, args, below, meth, c, D, cA, A, QQ, nL⟩ := x
  obtain ⟨⟨hx, hb, hml, hown, hts⟩, hK, hR, hlo, hrt, hmn, hA, hl0, hnL, hQQ⟩ := C
  subst hl0; subst hnL; subst hR
  intro r M' ho H locs ls hW hG hS hl
  unfold fo_rz at ho
  split at ho
  · next h1 =>
    cases ho
    subst hQQ
    refine W.widen hn hk ?_
    exact W.zret hx hb (hrt.trans hrt2) (by rcases h1 with e | e <;> rw [e] <;> decide) (fun t ht hWm => ⟨by rw [hv], by rw [ht]; exact hW, hG, hS.F ht⟩) hS.2.2 d hlo
  · cases ho
theorem vj_retv (C : Fj x l0 cc nL0 Ts own mn rm rt (nq vo0 mc0 ms0)) (d : decode cc pc = .ok (.return_, 1)) (hrt2 : rt = none) (hv : vo0 = fun _ => none) (hn : n ≤ mc0) (hk : k ≤ ms0) : Vj x n k pc lv [] M (some (0, M)) := by
  obtain ⟨p, l, e, R, s, m, args, below, meth, c, D, cA, A, QQ, nL⟩ := x
  obtain ⟨⟨hx, hb, hml, hown, hts⟩, hK, hR, hlo, hrt, hmn, hA, hl0, hnL, hQQ⟩ := C
  subst hl0; subst hnL; subst hR
  intro r M' ho H locs ls hW hG hS hl
  cases ho
  subst hQQ
  refine W.widen hn hk ?_
  exact W.vret hx hb (hrt.trans hrt2) (fun t ht hWm => ⟨by rw [hv], by rw [ht]; exact hW, hG, hS.F ht⟩) hS.2.2 d hlo
theorem vj_ts (C : Fj x l0 cc nL0 Ts own mn rm rt q0) {dflt lo hi : Int} {offs : Array Int} {len : Nat} {v cs : Int32} {off : Int} {tgt : Nat} {o1 o2 : Rr} (d : decode cc pc = .ok (.tableswitch dflt lo hi offs, len)) (hq : lo ≤ cs.toInt ∧ cs.toInt ≤ hi ∧ offs[(cs.toInt - lo).toNat]? = some off) (ht : (pc : Int) + off = (tgt : Int)) (h1 : Vj x n k tgt lv st M o1) (h2 : ¬ v = cs → Vj x n k pc lv (.int v :: st) M o2) : Vj x n k pc lv (.int v :: st) M (if v = cs then o1 else o2) := by
  by_cases hv : v = cs
  · rw [if_pos hv]
    subst hv
    obtain ⟨p, l, e, R, s, m, args, below, meth, c, D, cA, A, QQ, nL⟩ := x
    obtain ⟨⟨hx, hb, hml, hown, hts⟩, hrest⟩ := C
    intro r M' ho H locs ls hW hG hS hl
    exact lv_tableIn hx hb d (by omega) (by omega) hq.2.2 ht (h1 r M' ho H locs ls hW hG hS hl)
  · rw [if_neg hv]
    exact h2 hv
theorem vj_tsd (C : Fj x l0 cc nL0 Ts own mn rm rt q0) {dflt lo hi : Int} {offs : Array Int} {len : Nat} {v : Int32} {tgt : Nat} (d : decode cc pc = .ok (.tableswitch dflt lo hi offs, len)) (hq : v.toInt < lo ∨ hi < v.toInt) (ht : (pc : Int) + dflt = (tgt : Int)) (h : Vj x n k tgt lv st M o) : Vj x n k pc lv (.int v :: st) M o := by
  obtain ⟨p, l, e, R, s, m, args, below, meth, c, D, cA, A, QQ, nL⟩ := x
  obtain ⟨⟨hx, hb, hml, hown, hts⟩, hK, hR, hlo, hrt, hmn, hA, hl0, hnL, hQQ⟩ := C
  subst hl0; subst hnL; subst hR
  intro r M' ho H locs ls hW hG hS hl
  exact lv_tableOut hx hb d hq ht (h r M' ho H locs ls hW hG hS hl)
theorem vj_ls (C : Fj x l0 cc nL0 Ts own mn rm rt q0) {dflt : Int} {ps : Array (Int × Int)} {len : Nat} {v cs : Int32} {off : Int} {tgt : Nat} {o1 o2 : Rr} (d : decode cc pc = .ok (.lookupswitch dflt ps, len)) (hq : (ps.toList.zip (ps.toList.drop 1)).all (fun (a, next) => a.1 < next.1) = true ∧ Op.lookupswitch.offset ps.toList dflt cs.toInt = off) (ht : (pc : Int) + off = (tgt : Int)) (h1 : Vj x n k tgt lv st M o1) (h2 : ¬ v = cs → Vj x n k pc lv (.int v :: st) M o2) : Vj x n k pc lv (.int v :: st) M (if v = cs then o1 else o2) := by
  by_cases hv : v = cs
  · rw [if_pos hv]
    subst hv
    obtain ⟨p, l, e, R, s, m, args, below, meth, c, D, cA, A, QQ, nL⟩ := x
    obtain ⟨⟨hx, hb, hml, hown, hts⟩, hrest⟩ := C
    intro r M' ho H locs ls hW hG hS hl
    exact lv_lookup hx hb d hq.1 hq.2 ht (h1 r M' ho H locs ls hW hG hS hl)
  · rw [if_neg hv]
    exact h2 hv
theorem vj_lsd (C : Fj x l0 cc nL0 Ts own mn rm rt q0) {dflt : Int} {ps : Array (Int × Int)} {len : Nat} {v : Int32} {off : Int} {tgt : Nat} (d : decode cc pc = .ok (.lookupswitch dflt ps, len)) (hq : (ps.toList.zip (ps.toList.drop 1)).all (fun (a, next) => a.1 < next.1) = true ∧ Op.lookupswitch.offset ps.toList dflt v.toInt = off) (ht : (pc : Int) + off = (tgt : Int)) (h : Vj x n k tgt lv st M o) : Vj x n k pc lv (.int v :: st) M o := by
  obtain ⟨p, l, e, R, s, m, args, below, meth, c, D, cA, A, QQ, nL⟩ := x
  obtain ⟨⟨hx, hb, hml, hown, hts⟩, hK, hR, hlo, hrt, hmn, hA, hl0, hnL, hQQ⟩ := C
  subst hl0; subst hnL; subst hR
  intro r M' ho H locs ls hW hG hS hl
  exact lv_lookup hx hb d hq.1 hq.2 ht (h r M' ho H locs ls hW hG hS hl)
theorem mm_W.new {D : va_G} {cA : Nat → ClassId} {M : Mm} {d : Nat × Nat} {H H1 : Heap} (hW : mm_W D cA M H) (hWz : H.size = mm_z M) (z1 : H1.size = mm_z M + 1) (o1 : ∀ q : Nat, q < mm_z M → H1[q]? = H[q]?) (hq : mm_at D cA (mm_nw M d) (mm_z M) H1) : mm_W D cA (mm_nw M d) H1 := by
  refine ⟨fun _ => z1, fun a => ?_⟩
  by_cases ha : a = mm_z M
  · rw [ha]; exact hq
  · refine (hW.2 a).to (by simp [mm_nw, mm_s, ha]) (by funext b; simp [mm_nw, mm_i, ha]) (by funext b; simp [mm_nw, mm_r, ha]) (by funext b; simp [mm_nw, mm_l, ha]) (fun hk => o1 a ?_)
    have h2 := (hW.2 a).lt hk
    rw [hWz] at h2
    exact h2
theorem mm_G.new {A : Nat → Prop} {M : Mm} {d : Nat × Nat} (hG : mm_G A M) (hz : A (mm_z M)) : mm_G A (mm_nw M d) := by
  intro q hq
  by_cases hqz : q = mm_z M
  · rw [hqz]; exact hz
  · refine hG q ?_
    unfold mm_w at hq ⊢
    have e : mm_s (mm_nw M d) q = mm_s M q := by simp [mm_nw, mm_s, hqz]
    rw [e] at hq
    exact hq
theorem vj_new (C : Fj x l0 cc nL0 Ts own mn rm rt q0) {idx ci Nf : Nat} {Cn : String} {T : u_T} {K : Nat → Mm → Rr} (d : decode cc pc = .ok (.new idx, 3)) (hc : vwCl[ci]? = some (Cn, T, Nf)) (hN : Nf = cl_n ci) (hcl : Cond.classLink own idx Cn ∈ Ts) (hins : Cond.instantiable Cn Nf ∈ Ts) (hini : Cond.initialized Cn ∈ Ts) (hin : ∀ w ∈ u_ws Cn T Nf, w ∈ Ts) (ty : Nat → FieldType) (hty : ∀ j, j < Nf → parseFieldDescriptor (T j).2.2.1 = some (ty j)) (hdf : ∀ j, j < Nf → defaultValue (ty j) = if cl_r ci j = true then .null else .int 0) (hcs : n + 1 ≤ rm.cells) (hss : k + Nf ≤ rm.slots) (h : ∀ q M2, Vj x (n + 1) (k + Nf) (pc + 3) lv (.ref q :: st) M2 (K q M2)) : Vj x n k pc lv st M (fo_nw M (1, ci) K) := by
  obtain ⟨p, l, e, R, s, m, args, below, meth, c, D, cA, A, QQ, nL⟩ := x
  obtain ⟨⟨hx, hb, hml, hown, hts⟩, hK, hR, hlo, hrt, hmn, hA, hl0, hnL, hQQ⟩ := C
  subst hl0; subst hnL; subst hR
  intro r M' ho H locs ls hW hG hS hl
  unfold fo_nw at ho
  split at ho
  case isFalse => cases ho
  rename_i hz
  have hWz := hW.1 hz
  have hKn := hK.1.1 ci _ hc
  have hle : s.heap.size ≤ mm_z M := by rw [← hWz]; exact hS.1
  refine W.newcK hx hb hown (hts _ hcl) (hts _ hins) (hts _ hini) rfl d hcs hss hKn.2.1 hWz fun H1 kC hkC e1 z1 o1 => ?_
  refine h (mm_z M) (mm_nw M (1, ci)) r M' ho H1 locs ls (hW.new hWz z1 o1 ?_) (hG.new (hA _ hle)) ⟨by omega, fun q h1 h2 => (o1 q (Nat.lt_of_lt_of_le h1 hle)).trans (hS.2.1 q h1 h2), hS.2.2⟩ hl
  have e0 : mm_s (mm_nw M (1, ci)) (mm_z M) = (1, ci) := by simp [mm_nw, mm_s]
  unfold mm_at
  rw [e0]
  simp only
  rw [← hN]
  refine (u_born ty hts hin hKn hkC e1 hty).to fun j hj => ?_
  rw [hdf j hj]
  simp [mm_fv, mm_nw, mm_i, mm_r, va_rf]
theorem vj_newa (C : Fj x l0 cc nL0 Ts own mn rm rt q0) {ay : ArrayType} {t N : Nat} {nn : Int32} {K : Nat → Mm → Rr} (d : decode cc pc = .ok (.newarray ay, 2)) (ht : t < 4 ∧ newarray.typeOf ay = tg_ty t) (harr : Cond.arrayClass (newarray.typeOf ay) ∈ Ts) (hn : ¬ nn < 0) (hN : nn.toNatClampNeg = N) (hby : N * componentBytes (newarray.typeOf ay) ≤ 536870912) (hcs : n + 1 ≤ rm.cells) (hss : k + N ≤ rm.slots) (h : ∀ q M2, Vj x (n + 1) (k + N) (pc + 2) lv (.ref q :: st) M2 (K q M2)) : Vj x n k pc lv (.int nn :: st) M (fo_nw M (t + 2, N) K) := by
  obtain ⟨p, l, e, R, s, m, args, below, meth, c, D, cA, A, QQ, nL⟩ := x
  obtain ⟨⟨hx, hb, hml, hown, hts⟩, hK, hR, hlo, hrt, hmn, hA, hl0, hnL, hQQ⟩ := C
  subst hl0; subst hnL; subst hR
  intro r M' ho H locs ls hW hG hS hl
  subst hN
  unfold fo_nw at ho
  split at ho
  case isFalse => cases ho
  rename_i hz
  have hWz := hW.1 hz
  have hle : s.heap.size ≤ mm_z M := by rw [← hWz]; exact hS.1
  refine W.newa hx hb (hts _ harr) rfl d rfl hn hby hcs hss fun cA' kA comp f1 f2 f3 => ?_
  obtain ⟨kA', comp', k1, k2, k3, -⟩ := hK.2.1 t (by omega)
  rw [ht.2] at f1 ⊢
  have ec : cA' = cA t := Option.some.inj (f1.symm.trans (k3 (by omega)))
  subst ec
  rw [hWz]
  refine h (mm_z M) (mm_nw M (t + 2, nn.toNatClampNeg)) r M' ho _ locs ls (hW.new hWz (by rw [Array.size_push, hWz]) (fun q hq => by rw [Array.getElem?_push, if_neg (by rw [hWz]; omega)]) ?_) (hG.new (hA _ hle)) ⟨by rw [Array.size_push]; have := hS.1; omega, fun q h1 h2 => by rw [Array.getElem?_push, if_neg (by have := hS.1; omega)]; exact hS.2.1 q h1 h2, hS.2.2⟩ hl
  have e0 : mm_s (mm_nw M (t + 2, nn.toNatClampNeg)) (mm_z M) = (t + 2, nn.toNatClampNeg) := by simp [mm_nw, mm_s]
  unfold mm_at
  rw [e0]
  simp only
  rw [if_neg (by omega), ← hWz, Array.getElem?_push_size, arrV_new]
  congr 2
  funext j
  have ht4 := ht.1
  rcases (show t = 0 ∨ t = 1 ∨ t = 2 ∨ t = 3 by omega) with e | e | e | e <;> subst e <;> simp [mm_av, mm_nw, mm_i, mm_l, hWz, tg_ty, defaultValue]
theorem vj_newq (C : Fj x l0 cc nL0 Ts own mn rm rt q0) {idx t N : Nat} {Cn : String} {nn : Int32} {K : Nat → Mm → Rr} (d : decode cc pc = .ok (.anewarray idx, 3)) (ht : (t = 4 ∨ t = 5) ∧ tg_ty t = .object Cn) (hcl : Cond.classLink own idx Cn ∈ Ts) (hov : Cn ∈ aoT) (hn : ¬ nn < 0) (hN : nn.toNatClampNeg = N) (hby : N * 4 ≤ 536870912) (hcs : n + 1 ≤ rm.cells) (hss : k + N ≤ rm.slots) (h : ∀ q M2, Vj x (n + 1) (k + N) (pc + 3) lv (.ref q :: st) M2 (K q M2)) : Vj x n k pc lv (.int nn :: st) M (fo_nw M (t + 2, N) K) := by
  obtain ⟨p, l, e, R, s, m, args, below, meth, c, D, cA, A, QQ, nL⟩ := x
  obtain ⟨⟨hx, hb, hml, hown, hts⟩, hK, hR, hlo, hrt, hmn, hA, hl0, hnL, hQQ⟩ := C
  subst hl0; subst hnL; subst hR
  intro r M' ho H locs ls hW hG hS hl
  subst hN
  unfold fo_nw at ho
  split at ho
  case isFalse => cases ho
  rename_i hz
  have hWz := hW.1 hz
  have hle : s.heap.size ≤ mm_z M := by rw [← hWz]; exact hS.1
  refine W.anew hx hb hown (hts _ hcl) (va_AO.use (hK.2.2.2 _ hov)) rfl d rfl hn hby hcs hss fun cA' kA comp f1 f2 f3 f4 => ?_
  obtain ⟨kA', comp', k1, k2, k3, -⟩ := hK.2.1 t (by omega)
  rw [← ht.2] at f1
  have ec : cA' = cA t := Option.some.inj (f1.symm.trans (k3 (by omega)))
  subst ec
  rw [hWz]
  refine h (mm_z M) (mm_nw M (t + 2, nn.toNatClampNeg)) r M' ho _ locs ls (hW.new hWz (by rw [Array.size_push, hWz]) (fun q hq => by rw [Array.getElem?_push, if_neg (by rw [hWz]; omega)]) ?_) (hG.new (hA _ hle)) ⟨by rw [Array.size_push]; have := hS.1; omega, fun q h1 h2 => by rw [Array.getElem?_push, if_neg (by have := hS.1; omega)]; exact hS.2.1 q h1 h2, hS.2.2⟩ hl
  have e0 : mm_s (mm_nw M (t + 2, nn.toNatClampNeg)) (mm_z M) = (t + 2, nn.toNatClampNeg) := by simp [mm_nw, mm_s]
  unfold mm_at
  rw [e0]
  simp only
  rw [if_neg (by omega), ← hWz, Array.getElem?_push_size, arrV_new]
  congr 2
  funext j
  have h3 : t ≠ 3 := by omega
  simp [mm_av, mm_nw, mm_r, hWz, ht.1, h3, va_rf]
theorem vj_oi (C : Fj x l0 cc nL0 Ts own mn rm rt q0) {idx q : Nat} (d : decode cc pc = .ok (.invokespecial idx, 3)) (hlk : Cond.methodLink own idx Lib.objectInit ∈ Ts) (hin : Cond.instanceMethod Lib.objectInit ∈ Ts) (hco : Cond.code Lib.objectInit ⟨#[0xb1]⟩ 1 none ∈ Ts) (hfr : 1 ≤ rm.frames) (hlo2 : (st.map fun v => v.category).sum + 12 ≤ rm.locals) (h : Vj x n k (pc + 3) lv st M o) : Vj x n k pc lv (.ref q :: st) M o := by
  obtain ⟨p, l, e, R, s, m, args, below, meth, c, D, cA, A, QQ, nL⟩ := x
  obtain ⟨⟨hx, hb, hml, hown, hts⟩, hK, hR, hlo, hrt, hmn, hA, hl0, hnL, hQQ⟩ := C
  subst hl0; subst hnL; subst hR
  intro r M' ho H locs ls hW hG hS hl
  exact W.objInit hx hb hown (hts _ hlk) (hts _ hin) (hts _ hco) rfl (hl.1.trans hml.symm) rfl d hfr (by show 2 * 0 + _ + 12 ≤ _; omega) (h r M' ho H locs ls hW hG hS hl)
theorem vj_min (C : Fj x l0 cc nL0 Ts own mn rm rt q0) {idx : Nat} {a b : Int32} (d : decode cc pc = .ok (.invokestatic idx, 3)) (hq : Cond.methodLink own idx Lib.Math.min.name ∈ Ts ∧ Cond.static Lib.Math.min.name ∈ Ts ∧ Cond.initialized "java/lang/Math" ∈ Ts ∧ Cond.code Lib.Math.min.name Lib.Math.min.code 2 (some .int) ∈ Ts) (hr : 1 ≤ rm.frames ∧ (st.map fun v => v.category).sum + 13 ≤ rm.locals ∧ n ≤ rm.cells ∧ k ≤ rm.slots) (h : Vj x n k (pc + 3) lv (.int (if b < a then b else a) :: st) M o) : Vj x n k pc lv (.int b :: .int a :: st) M o := by
  obtain ⟨p, l, e, R, s, m, args, below, meth, c, D, cA, A, QQ, nL⟩ := x
  obtain ⟨⟨hx, hb, hml, hown, hts⟩, hK, hR, hlo, hrt, hmn, hA, hl0, hnL, hQQ⟩ := C
  subst hl0; subst hnL; subst hR
  intro r M' ho H locs ls hW hG hS hl
  exact va_mmin hx hb (hml.trans hl.1.symm) hown (hts _ hq.1) (hts _ hq.2.1) (hts _ hq.2.2.1) (hts _ hq.2.2.2) hr.1 hr.2.1 hr.2.2.1 hr.2.2.2 d (h r M' ho H locs ls hW hG hS hl)
theorem vj_cp (C : Fj x l0 cc nL0 Ts own mn rm rt q0) {idx a b : Nat} {i j nn : Int32} {K : Mm → Rr} (d : decode cc pc = .ok (.invokestatic idx, 3)) (hq : Cond.methodLink own idx arraycopyName ∈ Ts ∧ Cond.native arraycopyName ∈ Ts ∧ Cond.static arraycopyName ∈ Ts ∧ Cond.initialized "java/lang/System" ∈ Ts) (hr : 1 ≤ rm.frames ∧ (st.map fun v => v.category).sum + (nativeFrameWords "java/lang/System" "arraycopy" 5 + 11) ≤ rm.locals) (h : ∀ M2, Vj x n k (pc + 3) lv st M2 (K M2)) : Vj x n k pc lv (.int nn :: .int j :: .ref b :: .int i :: .ref a :: st) M (fo_cp M a b i j nn K) := by
  obtain ⟨p, l, e, R, s, m, args, below, meth, c, D, cA, A, QQ, nL⟩ := x
  obtain ⟨⟨hx, hb, hml, hown, hts⟩, hK, hR, hlo, hrt, hmn, hA, hl0, hnL, hQQ⟩ := C
  subst hl0; subst hnL; subst hR
  intro r M' ho H locs ls hW hG hS hl
  unfold fo_cp at ho
  split at ho
  · next h1 =>
    obtain ⟨ta, tb, hi, hj, hn, hia, hjb⟩ := h1
    have hsa : mm_s M a = (0 + 2, (mm_s M a).2) := Prod.ext ta rfl
    have hsb : mm_s M b = (0 + 2, (mm_s M b).2) := Prod.ext tb rfl
    have av0 : ∀ q, mm_av M 0 q = fun z => .int (mm_i M q z) := fun q => by funext z; simp [mm_av]
    have qa := hW.av hsa (by decide)
    have qb := hW.av hsb (by decide)
    rw [av0] at qa qb
    obtain ⟨kA, comp, k1, k2, -, -⟩ := hK.2.1 0 (by decide)
    have nn0 : ∀ z : Int32, ¬ z < 0 → z.toInt = (z.toNatClampNeg : Int) := by
      intro z hz
      have hz0 : (0 : Int) ≤ z.toInt := by
        have := Int32.not_lt.mp hz
        simpa using Int32.le_iff_toInt_le.mp this
      show z.toInt = ((z.toInt.toNat : Nat) : Int)
      omega
    have hw : mm_w M b := by unfold mm_w; rw [hsb]; simp
    intro T hT X
    obtain ⟨vm', X', step⟩ := X.arraycopy hx hown (hts _ hq.1) (hts _ hq.2.1) (hts _ hq.2.2.1) (hts _ hq.2.2.2) (src := a) (dst := b) (srcPos := i) (destPos := j) (n := nn) (by rw [hT]; exact qa) (by rw [hT]; exact qb)
      (fun _ z => by cases z) (fun _ z => by cases z) (fun z => by cases z) (fun z => by cases z) k1 k1 k2 k2 (by simp [tg_ty, refKind]) hi hj hn
      (by rw [nn0 i hi, nn0 nn hn, arrV_size]; omega) (by rw [nn0 j hj, nn0 nn hn, arrV_size]; omega)
      (fun vm₁ _ z hz => by
        have ez : (arrV (cA 0) (mm_s M a).2 (fun z => Value.int (mm_i M a z))).slots.getD (i.toNatClampNeg + z) .null = .int (mm_i M a (i.toNatClampNeg + z)) := by
          rw [Array.getD_eq_getD_getElem?, arrV_read _ _ (by omega)]
          rfl
        rw [ez]
        exact ⟨rfl, trivial⟩)
      (g := F0 m pc ls (.int nn :: .int j :: .ref b :: .int i :: .ref a :: st)) rfl (hl.1.trans hml.symm) (rest := st) rfl (by rw [hb]; exact d) hr.1 (by have := hr.2; show 2 * 0 + _ + _ ≤ _; omega)
    have e1 : copied (arrV (cA 0) (mm_s M a).2 (fun z => Value.int (mm_i M a z))) (arrV (cA 0) (mm_s M b).2 (fun z => Value.int (mm_i M b z))) i j nn = arrV (cA 0) (mm_s M b).2 (fun z => Value.int (va_cpy (mm_i M a) (mm_i M b) i.toNatClampNeg j.toNatClampNeg nn.toNatClampNeg z)) := va_copied (fun z => .int z) _ _ _ _ hia
    rw [e1] at X' step
    have hlt : b < H.size := (Array.getElem?_eq_some_iff.mp qb).1
    have hheap : ((T.setVm vm').setCell b (arrV (cA 0) (mm_s M b).2 (fun z => Value.int (va_cpy (mm_i M a) (mm_i M b) i.toNatClampNeg j.toNatClampNeg nn.toNatClampNeg z)))).heap = H.setIfInBounds b (arrV (cA 0) (mm_s M b).2 (fun z => Value.int (va_cpy (mm_i M a) (mm_i M b) i.toNatClampNeg j.toNatClampNeg nn.toNatClampNeg z))) := by rw [← hT]; rfl
    have oq : ∀ q : Nat, q ≠ b → (H.setIfInBounds b (arrV (cA 0) (mm_s M b).2 (fun z => Value.int (va_cpy (mm_i M a) (mm_i M b) i.toNatClampNeg j.toNatClampNeg nn.toNatClampNeg z))))[q]? = H[q]? := fun q hq => by simp [Array.getElem?_setIfInBounds, Ne.symm hq]
    obtain ⟨t, a1, b1⟩ := h _ r M' ho _ _ ls (hW.set (mm_eo_pc M b _) (by simp) oq (by
        unfold mm_at
        have es : mm_s (mm_pc M b (va_cpy (mm_i M a) (mm_i M b) i.toNatClampNeg j.toNatClampNeg nn.toNatClampNeg)) b = (0 + 2, (mm_s M b).2) := hsb
        rw [es]
        simp only
        rw [if_neg (by decide)]
        have ev : mm_av (mm_pc M b (va_cpy (mm_i M a) (mm_i M b) i.toNatClampNeg j.toNatClampNeg nn.toNatClampNeg)) 0 b = fun z => Value.int (va_cpy (mm_i M a) (mm_i M b) i.toNatClampNeg j.toNatClampNeg nn.toNatClampNeg z) := by funext z; simp [mm_av, mm_pc, mm_i]
        rw [ev]
        simp [Array.getElem?_setIfInBounds, hlt])) (hG.set rfl) ⟨by simp; exact hS.1, fun q g1 g2 => by
        rw [oq q (fun e => g2 (by rw [e]; exact hG b hw))]
        exact hS.2.1 q g1 g2, fun q hq2 => by
        rcases List.mem_append.mp hq2 with h3 | h3
        · exact hS.2.2 q h3
        · obtain ⟨z, -, hz⟩ := List.mem_map.mp h3
          rw [← hz]
          exact hG b hw⟩ hl _ hheap X'
    exact ⟨t, step t a1, b1⟩
  · cases ho
end VJ
/-- a method's contract: where the functional word gives an answer, the method gives it -/
def ct (l : Launch) (y : MethodName) (ws : List Cond) (rm : Room) (mc ms : Nat) (vo : Int32 → Option Value) (av : List Value) (M : Mm) (o : Rr) : Prop :=
  ∀ (r : Int32) (M' : Mm), o = some (r, M') → ∀ (D : va_G) (cA : Nat → ClassId) (sz : Nat), Met l y ws rm (va_Pc av (fun U => U.heap.size = sz ∧ mm_W D cA M U.heap ∧ mm_K D cA U)) (mm_Q D cA (mm_A M sz) vo r M') mc ms (mm_A M sz)
theorem ct_blind {av : List Value} {M : Mm} {D : va_G} {cA : Nat → ClassId} {sz : Nat} : FrameBlind (va_Pc av (fun U => U.heap.size = sz ∧ mm_W D cA M U.heap ∧ mm_K D cA U)) := fun a U g mk q => by
  obtain ⟨q0, q3, q1, q2⟩ := q
  exact ⟨q0, q3, q1, mm_K.same (u := U) (U := U.calling g mk a) rfl q2⟩
theorem ct_of {l : Launch} {y : MethodName} {ws ws' : List Cond} {rm : Room} {mc ms : Nat} {vo : Int32 → Option Value} {av : List Value} {M : Mm} {o : Rr} {cc : ByteArray} {maxL : Nat} {ret : Option FieldType} {lv0 : List (Nat × Value)}
    (hy : plainName y.cls = true) (hw0 : ws = Cond.code y cc maxL ret :: ws') (hlen : (lg_sl av).length ≤ maxL) (hlv : lv_args 0 av = lv0)
    (hws : ws' = gw) (body : ∀ x : Cx, Fj x l cc maxL gw y.cls y.name rm ret (nq vo mc ms) → Vj x 0 0 0 lv0 [] M o) : ct l y ws rm mc ms vo av M o := by
  intro r M' ho D cA sz
  refine Met.ofW (cc := cc) (maxL := maxL) (ret := ret) hy hw0 ?_
  intro p e s m args below meth c s₁ B hml hv
  obtain ⟨rfl, rfl, hW, hK⟩ := hv
  have hts : ∀ w ∈ gw, w.before av.toArray s = true := fun w hw => atoms_spec (ws := ws) B.pre w (by rw [hw0, hws]; exact List.mem_cons_of_mem _ hw)
  have hA : ∀ q, s.heap.size ≤ q → mm_A M s.heap.size q := fun q h => Or.inr h
  have hb := body (p, l, e, (headSpec ws rm).room, s, m, av.toArray, below, meth, c, D, cA, mm_A M s.heap.size, nq vo mc ms below D cA (mm_A M s.heap.size) av.toArray s, maxL) ⟨⟨B.exec, B.bytes, hml, findClass_of_methodNamed B.named, hts⟩, hK, rfl, B.notSynchronized, B.returns, (name_of_methodNamed B.named B.method).1, hA, rfl, rfl, rfl⟩
  rw [lg_entry_eq]
  exact hb r M' ho s.heap [] _ hW (fun q h => Or.inl h) va_S.rf (hlv ▸ lv_entry av hlen)
section VC
variable {x : Cx} {l0 : Launch} {cc : ByteArray} {nL0 : Nat} {Ts : List Cond} {own mn : String} {rm : Room} {rt : Option FieldType} {q0 : List Frame → va_G → (Nat → ClassId) → (Nat → Prop) → Array Value → State → Int32 → Mm → State → Prop} {vo0 : Int32 → Option Value} {mc0 ms0 : Nat} {n k pc : Nat} {lv : List (Nat × Value)} {st : List Value} {M : Mm} {o : Rr}
/-- behind a call -/
theorem va_Run.w {p : Program} {l : Launch} {e : Env} {R : Room} {s : State} {m : MethodId} {args : Array Value} {below : List Frame} {meth : Method} {c : Code} {H : Heap} {locs : List Loc} {n k mc1 ms1 pc : Nat} {ls : Array Slot} {st0 st : List Value} {D : va_G} {cA : Nat → ClassId} {A : Nat → Prop} {vo1 : Int32 → Option Value} {r1 : Int32} {M M1 : Mm} {a : Array Value} {Q : State → Prop}
    (hr : va_Run p l e R s m args below meth c H locs n k mc1 ms1 (F0 m pc ls st0) st (mm_Q D cA (mm_A M H.size) vo1 r1 M1 a) (mm_A M H.size)) (hW : mm_W D cA M H) (hG : mm_G A M) (hS : va_S A s.heap H locs) (hA : ∀ q, s.heap.size ≤ q → A q)
    (kk : ∀ (H1 : Heap) (locs1 : List Loc), mm_W D cA M1 H1 → mm_G A M1 → va_S A s.heap H1 locs1 → W p l e R s m args below meth c H1 locs1 (n + mc1) (k + ms1) Q (F0 m (pc + 3) ls ((vo1 r1).toList ++ st))) : W p l e R s m args below meth c H locs n k Q (F0 m pc ls st0) := by
  intro T hT X
  obtain ⟨v, st₀, t, T', L, h0, X', hL, e1, e2, ⟨hv, hW1, hG1, hz, hk⟩, stp⟩ := hr T hT X
  cases hv
  rw [h0] at hz hk
  have hin : ∀ q, mm_A M H.size q → A q := by
    intro q hq
    rcases hq with hq | hq
    · exact hG q hq
    · exact hA q (Nat.le_trans hS.1 hq)
  obtain ⟨t2, a1, b1⟩ := kk T'.heap (locs ++ L) (by rw [e1]; exact hW1) (fun q hq => hin q (hG1 q hq))
    ⟨Nat.le_trans hS.1 (by rw [e1]; exact hz), fun q h1 h2 => by rw [e1, hk q (Nat.lt_of_lt_of_le h1 hS.1) (fun z => h2 (hin q z))]; exact hS.2.1 q h1 h2, fun q hq => by
      rcases List.mem_append.mp hq with h | h
      · exact hS.2.2 q h
      · exact hin _ (hL q h)⟩ T' rfl X'
  exact ⟨t2, stp t2 a1, b1⟩
theorem mm_W.recv {D : va_G} {cA : Nat → ClassId} {M : Mm} {b ci : Nat} {H : Heap} {s : State} {Cn : String} {T : u_T} {N : Nat} (hW : mm_W D cA M H) (hK : mm_K D cA s) (hs : mm_s M b = (1, ci)) (hc : vwCl[ci]? = some (Cn, T, N)) : ∃ cell : Cell, H[b]? = some cell ∧ cell.vm.isStatics = false ∧ s.vm.findClass Cn = some cell.cls := by
  obtain ⟨cell, g1, g2, g3, -⟩ := hW.ob hs
  exact ⟨cell, g1, by rw [g3]; rfl, by rw [g2]; exact (hK.1.1 ci _ hc).2.1⟩
theorem vj_cV (C : Fj x l0 cc nL0 Ts own mn rm rt q0) {y : MethodName} {bytes : ByteArray} {maxL idx a1 : Nat} {ret : Option FieldType} {ws ws' : List Cond} {rm1 : Room} {mc1 ms1 : Nat} {vo1 : Int32 → Option Value} {o1 : Rr} {K : Int32 → Mm → Rr} {As st0 : List Value} {ci b : Nat} {Cn : String} {T : u_T} {N : Nat} (d : decode cc pc = .ok (.invokevirtual idx, 3)) (hM : ct l0 y ws rm1 mc1 ms1 vo1 (.ref b :: As) M o1) (hcl : vwCl[ci]? = some (Cn, T, N)) (hG1 : GoodIn Ts (wsV own idx Cn y ws)) (hw : ws = Cond.code y bytes maxL ret :: ws') (hrc : rm1.cells = mc1) (hrs : rm1.slots = ms1)
    (hd : y.cls = Cn ∧ y.cls ≠ "java/lang/invoke/MethodHandle" ∧ y.cls ≠ "java/lang/invoke/VarHandle" ∧ (parseMethodDescriptor y.desc).map (fun d => d.parameters.length) = some a1) (hR2 : rm1.frames + 1 ≤ rm.frames ∧ 8 + (maxL + 11) + rm1.locals ≤ rm.locals) (hlen : As.length = a1) (hst : st0 = As.reverse ++ .ref b :: st) (hcat : (st.map fun v => v.category).sum ≤ 8) (hf : n + mc1 ≤ rm.cells ∧ k + ms1 ≤ rm.slots) (h : ∀ r1 M1, Vj x (n + mc1) (k + ms1) (pc + 3) lv ((vo1 r1).toList ++ st) M1 (K r1 M1)) : Vj x n k pc lv st0 M (fo_cv M ci b o1 K) := by
  obtain ⟨p, l, e, R, s, m, args, below, meth, c, D, cA, A, QQ, nL⟩ := x
  obtain ⟨⟨hx, hb, hml, hown, hts⟩, hK, hR, hlo, hrt, hmn, hA, hl0, hnL, hQQ⟩ := C
  subst hl0; subst hnL; subst hR
  intro r M' ho H locs ls hW hG hS hl
  unfold fo_cv at ho
  split at ho
  · next h1 =>
    obtain ⟨r1, M1, e1, ho⟩ := fo_cl_some ho
    refine va_Run.w (va_runV ⟨hx, hb, hml, hown, hts⟩ (hM r1 M1 e1 D cA H.size) (cwV a1 hts hG1 hw hrc hrs hd hR2) ⟨ct_blind, hW.recv hK h1 hcl, fun U hU hWm => ⟨rfl, by rw [hU], by rw [hU]; exact hW, mm_K.warm hWm hK⟩⟩ rfl hlen hl.1 hst (lv_room hcat) d hf) hW hG hS hA ?_
    intro H1 locs1 hW1 hG1 hS1
    exact h r1 M1 r M' ho H1 locs1 ls hW1 hG1 hS1 hl
  · cases ho
theorem vj_cVN (C : Fj x l0 cc nL0 Ts own mn rm rt q0) {y : MethodName} {bytes : ByteArray} {maxL idx a1 : Nat} {ret : Option FieldType} {ws ws' : List Cond} {rm1 : Room} {mc1 ms1 : Nat} {vo1 : Int32 → Option Value} {o1 : Rr} {K : Int32 → Mm → Rr} {As st0 : List Value} {ci b : Nat} {Cn host : String} {T : u_T} {N : Nat} (d : decode cc pc = .ok (.invokevirtual idx, 3)) (hM : ct l0 y ws rm1 mc1 ms1 vo1 (.ref b :: As) M o1) (hcl : vwCl[ci]? = some (Cn, T, N)) (hG1 : GoodIn Ts ws) (hlk : (own, idx, y, host) ∈ nwT) (hin : Cond.instanceMethod y ∈ Ts) (hse : Cond.selects Cn y y ∈ Ts) (hini : Cond.initialized y.cls ∈ Ts) (hw : ws = Cond.code y bytes maxL ret :: ws') (hrc : rm1.cells = mc1) (hrs : rm1.slots = ms1)
    (hd : y.cls ≠ "java/lang/invoke/MethodHandle" ∧ y.cls ≠ "java/lang/invoke/VarHandle" ∧ (parseMethodDescriptor y.desc).map (fun d => d.parameters.length) = some a1) (hR2 : rm1.frames + 1 ≤ rm.frames ∧ 8 + (maxL + 11) + rm1.locals ≤ rm.locals) (hlen : As.length = a1) (hst : st0 = As.reverse ++ .ref b :: st) (hcat : (st.map fun v => v.category).sum ≤ 8) (hf : n + mc1 ≤ rm.cells ∧ k + ms1 ≤ rm.slots) (h : ∀ r1 M1, Vj x (n + mc1) (k + ms1) (pc + 3) lv ((vo1 r1).toList ++ st) M1 (K r1 M1)) : Vj x n k pc lv st0 M (fo_cv M ci b o1 K) := by
  obtain ⟨p, l, e, R, s, m, args, below, meth, c, D, cA, A, QQ, nL⟩ := x
  obtain ⟨⟨hx, hb, hml, hown, hts⟩, hK, hR, hlo, hrt, hmn, hA, hl0, hnL, hQQ⟩ := C
  subst hl0; subst hnL; subst hR
  intro r M' ho H locs ls hW hG hS hl
  unfold fo_cv at ho
  split at ho
  · next h1 =>
    obtain ⟨r1, M1, e1, ho⟩ := fo_cl_some ho
    refine va_Run.w (va_runVN ⟨hx, hb, hml, hown, hts⟩ (hM r1 M1 e1 D cA H.size) ⟨va_cnB a1 hts hG1 hw hrc hrs (hK.2.2.1 _ hlk) (hts _ hini) hd hR2, hts _ hin, hts _ hse⟩ ⟨ct_blind, hW.recv hK h1 hcl, fun U hU hWm => ⟨rfl, by rw [hU], by rw [hU]; exact hW, mm_K.warm hWm hK⟩⟩ rfl hlen hl.1 hst (lv_room hcat) d hf) hW hG hS hA ?_
    intro H1 locs1 hW1 hG1 hS1
    exact h r1 M1 r M' ho H1 locs1 ls hW1 hG1 hS1 hl
  · cases ho
theorem vj_cS (C : Fj x l0 cc nL0 Ts own mn rm rt q0) {y : MethodName} {bytes : ByteArray} {maxL idx a1 : Nat} {ret : Option FieldType} {ws ws' : List Cond} {rm1 : Room} {mc1 ms1 : Nat} {vo1 : Int32 → Option Value} {o1 : Rr} {K : Int32 → Mm → Rr} {As st0 : List Value} (d : decode cc pc = .ok (.invokestatic idx, 3)) (hM : ct l0 y ws rm1 mc1 ms1 vo1 As M o1) (hG1 : GoodIn Ts (wsS own idx y ws)) (hw : ws = Cond.code y bytes maxL ret :: ws') (hrc : rm1.cells = mc1) (hrs : rm1.slots = ms1)
    (hd : y.cls = own ∧ y.cls ≠ "java/lang/invoke/MethodHandle" ∧ y.cls ≠ "java/lang/invoke/VarHandle" ∧ (parseMethodDescriptor y.desc).map (fun d => d.parameters.length) = some a1) (hR2 : rm1.frames + 1 ≤ rm.frames ∧ 8 + (maxL + 11) + rm1.locals ≤ rm.locals) (hlen : As.length = a1) (hst : st0 = As.reverse ++ st) (hcat : (st.map fun v => v.category).sum ≤ 8) (hf : n + mc1 ≤ rm.cells ∧ k + ms1 ≤ rm.slots) (h : ∀ r1 M1, Vj x (n + mc1) (k + ms1) (pc + 3) lv ((vo1 r1).toList ++ st) M1 (K r1 M1)) : Vj x n k pc lv st0 M (fo_cl o1 K) := by
  obtain ⟨p, l, e, R, s, m, args, below, meth, c, D, cA, A, QQ, nL⟩ := x
  obtain ⟨⟨hx, hb, hml, hown, hts⟩, hK, hR, hlo, hrt, hmn, hA, hl0, hnL, hQQ⟩ := C
  subst hl0; subst hnL; subst hR
  intro r M' ho H locs ls hW hG hS hl
  obtain ⟨r1, M1, e1, ho⟩ := fo_cl_some ho
  refine va_Run.w (va_runS ⟨hx, hb, hml, hown, hts⟩ (hM r1 M1 e1 D cA H.size) (cwS a1 hts hG1 hw hrc hrs hd hR2) ⟨ct_blind, fun U hU hWm => ⟨rfl, by rw [hU], by rw [hU]; exact hW, mm_K.warm hWm hK⟩⟩ rfl hlen hl.1 hst (lv_room hcat) d hf) hW hG hS hA ?_
  intro H1 locs1 hW1 hG1 hS1
  exact h r1 M1 r M' ho H1 locs1 ls hW1 hG1 hS1 hl
theorem vj_cI (C : Fj x l0 cc nL0 Ts own mn rm rt q0) {y : MethodName} {bytes : ByteArray} {maxL idx a1 : Nat} {ret : Option FieldType} {ws ws' : List Cond} {rm1 : Room} {mc1 ms1 : Nat} {vo1 : Int32 → Option Value} {o1 : Rr} {K : Int32 → Mm → Rr} {As st0 : List Value} {b : Nat} (d : decode cc pc = .ok (.invokespecial idx, 3)) (hM : ct l0 y ws rm1 mc1 ms1 vo1 (.ref b :: As) M o1) (hG1 : GoodIn Ts ws) (hlk : Cond.methodLink own idx y ∈ Ts) (hin : Cond.instanceMethod y ∈ Ts) (hini : Cond.initialized y.cls ∈ Ts) (hyn : y.name = "<init>") (hw : ws = Cond.code y bytes maxL none :: ws') (hrc : rm1.cells = mc1) (hrs : rm1.slots = ms1)
    (hd : y.cls ≠ "java/lang/invoke/MethodHandle" ∧ y.cls ≠ "java/lang/invoke/VarHandle" ∧ (parseMethodDescriptor y.desc).map (fun d => d.parameters.length) = some a1) (hR2 : rm1.frames + 1 ≤ rm.frames ∧ 8 + (maxL + 11) + rm1.locals ≤ rm.locals) (hlen : As.length = a1) (hst : st0 = As.reverse ++ .ref b :: st) (hcat : (st.map fun v => v.category).sum ≤ 8) (hf : n + mc1 ≤ rm.cells ∧ k + ms1 ≤ rm.slots) (h : ∀ r1 M1, Vj x (n + mc1) (k + ms1) (pc + 3) lv ((vo1 r1).toList ++ st) M1 (K r1 M1)) : Vj x n k pc lv st0 M (fo_cl o1 K) := by
  obtain ⟨p, l, e, R, s, m, args, below, meth, c, D, cA, A, QQ, nL⟩ := x
  obtain ⟨⟨hx, hb, hml, hown, hts⟩, hK, hR, hlo, hrt, hmn, hA, hl0, hnL, hQQ⟩ := C
  subst hl0; subst hnL; subst hR
  intro r M' ho H locs ls hW hG hS hl
  obtain ⟨r1, M1, e1, ho⟩ := fo_cl_some ho
  refine va_Run.w (va_runI ⟨hx, hb, hml, hown, hts⟩ (hM r1 M1 e1 D cA H.size) ⟨callB_of a1 hts hG1 hw hrc hrs (hts _ hini) (hts _ hlk) hd hR2, hyn, hts _ hin⟩ ⟨ct_blind, fun U hU hWm => ⟨rfl, by rw [hU], by rw [hU]; exact hW, mm_K.warm hWm hK⟩⟩ rfl hlen hl.1 hst (lv_room hcat) d hf) hW hG hS hA ?_
  intro H1 locs1 hW1 hG1 hS1
  exact h r1 M1 r M' ho H1 locs1 ls hW1 hG1 hS1 hl
theorem vj_cIN (C : Fj x l0 cc nL0 Ts own mn rm rt q0) {y : MethodName} {bytes : ByteArray} {maxL idx a1 : Nat} {ret : Option FieldType} {ws ws' : List Cond} {rm1 : Room} {mc1 ms1 : Nat} {vo1 : Int32 → Option Value} {o1 : Rr} {K : Int32 → Mm → Rr} {As st0 : List Value} {b : Nat} {host : String} (d : decode cc pc = .ok (.invokespecial idx, 3)) (hM : ct l0 y ws rm1 mc1 ms1 vo1 (.ref b :: As) M o1) (hG1 : GoodIn Ts ws) (hlk : (own, idx, y, host) ∈ nwT) (hin : Cond.instanceMethod y ∈ Ts) (hini : Cond.initialized y.cls ∈ Ts) (hyn : y.name = "<init>") (hw : ws = Cond.code y bytes maxL none :: ws') (hrc : rm1.cells = mc1) (hrs : rm1.slots = ms1)
    (hd : y.cls ≠ "java/lang/invoke/MethodHandle" ∧ y.cls ≠ "java/lang/invoke/VarHandle" ∧ (parseMethodDescriptor y.desc).map (fun d => d.parameters.length) = some a1) (hR2 : rm1.frames + 1 ≤ rm.frames ∧ 8 + (maxL + 11) + rm1.locals ≤ rm.locals) (hlen : As.length = a1) (hst : st0 = As.reverse ++ .ref b :: st) (hcat : (st.map fun v => v.category).sum ≤ 8) (hf : n + mc1 ≤ rm.cells ∧ k + ms1 ≤ rm.slots) (h : ∀ r1 M1, Vj x (n + mc1) (k + ms1) (pc + 3) lv ((vo1 r1).toList ++ st) M1 (K r1 M1)) : Vj x n k pc lv st0 M (fo_cl o1 K) := by
  obtain ⟨p, l, e, R, s, m, args, below, meth, c, D, cA, A, QQ, nL⟩ := x
  obtain ⟨⟨hx, hb, hml, hown, hts⟩, hK, hR, hlo, hrt, hmn, hA, hl0, hnL, hQQ⟩ := C
  subst hl0; subst hnL; subst hR
  intro r M' ho H locs ls hW hG hS hl
  obtain ⟨r1, M1, e1, ho⟩ := fo_cl_some ho
  refine va_Run.w (va_runIN ⟨hx, hb, hml, hown, hts⟩ (hM r1 M1 e1 D cA H.size) ⟨va_cnB a1 hts hG1 hw hrc hrs (hK.2.2.1 _ hlk) (hts _ hini) hd hR2, hyn, hts _ hin⟩ ⟨ct_blind, fun U hU hWm => ⟨rfl, by rw [hU], by rw [hU]; exact hW, mm_K.warm hWm hK⟩⟩ rfl hlen hl.1 hst (lv_room hcat) d hf) hW hG hS hA ?_
  intro H1 locs1 hW1 hG1 hS1
  exact h r1 M1 r M' ho H1 locs1 ls hW1 hG1 hS1 hl
theorem vj_cSN (C : Fj x l0 cc nL0 Ts own mn rm rt q0) {y : MethodName} {bytes : ByteArray} {maxL idx a1 : Nat} {ret : Option FieldType} {ws ws' : List Cond} {rm1 : Room} {mc1 ms1 : Nat} {vo1 : Int32 → Option Value} {o1 : Rr} {K : Int32 → Mm → Rr} {As st0 : List Value} {host : String} (d : decode cc pc = .ok (.invokestatic idx, 3)) (hM : ct l0 y ws rm1 mc1 ms1 vo1 As M o1) (hG1 : GoodIn Ts ws) (hlk : (own, idx, y, host) ∈ nwT) (hin : Cond.static y ∈ Ts) (hini : Cond.initialized y.cls ∈ Ts) (hw : ws = Cond.code y bytes maxL ret :: ws') (hrc : rm1.cells = mc1) (hrs : rm1.slots = ms1)
    (hd : y.cls ≠ "java/lang/invoke/MethodHandle" ∧ y.cls ≠ "java/lang/invoke/VarHandle" ∧ (parseMethodDescriptor y.desc).map (fun d => d.parameters.length) = some a1) (hR2 : rm1.frames + 1 ≤ rm.frames ∧ 8 + (maxL + 11) + rm1.locals ≤ rm.locals) (hlen : As.length = a1) (hst : st0 = As.reverse ++ st) (hcat : (st.map fun v => v.category).sum ≤ 8) (hf : n + mc1 ≤ rm.cells ∧ k + ms1 ≤ rm.slots) (h : ∀ r1 M1, Vj x (n + mc1) (k + ms1) (pc + 3) lv ((vo1 r1).toList ++ st) M1 (K r1 M1)) : Vj x n k pc lv st0 M (fo_cl o1 K) := by
  obtain ⟨p, l, e, R, s, m, args, below, meth, c, D, cA, A, QQ, nL⟩ := x
  obtain ⟨⟨hx, hb, hml, hown, hts⟩, hK, hR, hlo, hrt, hmn, hA, hl0, hnL, hQQ⟩ := C
  subst hl0; subst hnL; subst hR
  intro r M' ho H locs ls hW hG hS hl
  obtain ⟨r1, M1, e1, ho⟩ := fo_cl_some ho
  refine va_Run.w (va_runSN ⟨hx, hb, hml, hown, hts⟩ (hM r1 M1 e1 D cA H.size) ⟨va_cnB a1 hts hG1 hw hrc hrs (hK.2.2.1 _ hlk) (hts _ hini) hd hR2, hts _ hin, trivial⟩ ⟨ct_blind, fun U hU hWm => ⟨rfl, by rw [hU], by rw [hU]; exact hW, mm_K.warm hWm hK⟩⟩ rfl hlen hl.1 hst (lv_room hcat) d hf) hW hG hS hA ?_
  intro H1 locs1 hW1 hG1 hS1
  exact h r1 M1 r M' ho H1 locs1 ls hW1 hG1 hS1 hl
end VC
