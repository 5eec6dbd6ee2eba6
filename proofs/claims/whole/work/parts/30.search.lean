/-! the class's search -/
section
variable {M : Mm} {g n z : Nat} {A : Nat → Nat → Nat} {fr : Nat → Bool}
def tb_n (A : Nat → Nat → Nat) (n p k : Nat) (s : Sp) : Bool := (List.range n).any (ag_ev A p k) || (fi_n A p k (sp_B s)).isSome || (fi_n A p k (sp_D s)).isSome
def hd_n (A : Nat → Nat → Nat) (p : Nat) (s : Sp) : Bool := (sp_D s).any fun x => decide (x / 100 ≤ sp_d s) && decide (A (x % 100) 8 = p)
theorem ag_touch_lp {f : Nat → Nat → Int32} {q p k : Nat} {s : Sp} (hLg : ag_L M g) (hLq : st_L M q) (hp : p < 100) (hk : k < 100) (hA : ag_R f g n A) (hS : st_R f q s) (hV : sp_V A n s) : ∀ m i, i ≤ n → n - i < m → fo_fx (fun _ _ => none) (lp_Ag_isTouchedBy_3 g q (nI p) (nI k)) m (mm_wi M f) (nI i) = some (bz (((List.range n).drop i).any (ag_ev A p k) || (fi_n A p k (sp_B s)).isSome || (fi_n A p k (sp_D s)).isSome), mm_wi M f) := by
  obtain ⟨l0, l1, l2, l3, l4, l5, t1, t2, t3, s1, s2⟩ := hLq
  have h10 := hA.2.1
  intro m
  induction m with
  | zero => intro i _ h; omega
  | succ m ih =>
    intro i hi hm
    rw [fx_s, lp_Ag_isTouchedBy_3, xi_gi hLg.1, hA.1]
    by_cases h : n ≤ i
    · rw [if_pos (nI_le h (by omega)), rg_end h, xi_gr l0 l2, ag_find hLg hA t2 hS.2.2.2.1.1 (fun x hx => (hV.2.1 x hx).1) hp hk, xi_cv hLg.1, show (sp_B s).findIdx? (fun x => ag_for A p k (x % 100)) = fi_n A p k (sp_B s) from rfl]
      cases hB : fi_n A p k (sp_B s) with
      | some i => rw [fz_s, if_neg (fz_ne hB hS.2.2.2.1.1.2.1), xi_rz1]; simp [bz]
      | none =>
        rw [fz_n, if_pos rfl, xi_gr l0 l1, ag_find hLg hA t1 hS.2.2.1.1 (fun x hx => (hV.1 x hx).1) hp hk, xi_cv hLg.1, show (sp_D s).findIdx? (fun x => ag_for A p k (x % 100)) = fi_n A p k (sp_D s) from rfl]
        cases hD : fi_n A p k (sp_D s) with
        | some i => rw [fz_s, if_neg (fz_ne hD hS.2.2.1.1.2.1), xi_rz1]; simp [bz]
        | none => rw [fz_n, if_pos rfl, xi_rz0]; simp [bz]
    · obtain ⟨r1, r2⟩ := ag_cl hLg hA (c := i) (by omega)
      obtain ⟨c1, c2⟩ := hA.2.2 i (by omega)
      rw [if_neg (by rw [nI_leI (by omega) (by omega)]; exact h), xi_gr hLg.1 hLg.2.1, xi_ar (t := 4) hLg.2.2.1 (by omega) (by decide) r1, cl_isOnEvent r2 c1 c2 hp hk, xi_cv r2, rg_drop (by omega), List.any_cons]
      cases hb : ag_ev A p k i with
      | false => rw [if_pos (by simp [bz]), nI_1, Bool.false_or]; exact ih (i + 1) (by omega) (by omega)
      | true => rw [if_neg (by simp [bz]), xi_rz1]; simp [bz]
theorem ag_touch {f : Nat → Nat → Int32} {q p k : Nat} {s : Sp} (hLg : ag_L M g) (hLq : st_L M q) (hp : p < 100) (hk : k < 100) (hA : ag_R f g n A) (hS : st_R f q s) (hV : sp_V A n s) : fn_Ag_isTouchedBy (mm_wi M f) g q (nI p) (nI k) = some (bz (tb_n A n p k s), mm_wi M f) := by
  have h10 := hA.2.1
  have := ag_touch_lp hLg hLq hp hk hA hS hV fo_N 0 (by omega) (by show _ < 2000; omega)
  rw [List.drop_zero] at this
  exact this
theorem ag_due_lp {f : Nat → Nat → Int32} {q p : Nat} {s : Sp} (hLg : ag_L M g) (hLq : st_L M q) (hp : p < 100) (hA : ag_R f g n A) (hS : st_R f q s) (hV : sp_V A n s) : ∀ m i, i ≤ (sp_D s).length → (sp_D s).length - i < m → fo_fx (fun _ _ => none) (lp_Ag_hasDutyDue_2 g q (nI p)) m (mm_wi M f) (nI i) = some (bz (((sp_D s).drop i).any fun x => decide (x / 100 ≤ sp_d s) && decide (A (x % 100) 8 = p)), mm_wi M f) := by
  obtain ⟨l0, l1, l2, l3, l4, l5, t1, t2, t3, s1, s2⟩ := hLq
  have h10 := hA.2.1
  have h8 := hS.2.2.1.1.2.1
  have hd := hS.2.1
  intro m
  induction m with
  | zero => intro i _ h; omega
  | succ m ih =>
    intro i hi hm
    rw [fx_s, lp_Ag_hasDutyDue_2, xi_gr l0 l1, xi_gi t1.1, hS.2.2.1.1.1]
    by_cases h : (sp_D s).length ≤ i
    · rw [if_pos (nI_le h (by omega)), List.drop_eq_nil_of_le h, xi_rz0]; rfl
    · obtain ⟨x, hx⟩ : ∃ x, (sp_D s)[i]? = some x := ⟨_, List.getElem?_eq_getElem (by omega)⟩
      have hx7 := hS.2.2.1.1.2.2.1 x (te_mem hx)
      obtain ⟨v1, v2⟩ := hV.1 x (te_mem hx)
      obtain ⟨r1, r2⟩ := ag_cl hLg hA (c := x % 100) v1
      obtain ⟨c1, c2⟩ := hA.2.2 (x % 100) v1
      have c9 := (c1.2.2.2.2.2.2.1 (by omega)).1
      have c8 := (c2.2.2.2.2.2.2.1 (by omega)).1
      rw [if_neg (by rw [nI_leI (by omega) (by omega)]; exact h), xi_gr l0 l1, te_dayAt t1 hS.2.2.1.1 hx, xi_cv t1.1, xi_gi l0, hS.1, xi_jp, te_drop hx, List.any_cons]
      dsimp only
      by_cases h2 : x / 100 ≤ sp_d s
      · rw [if_neg (by rw [nI_ltI (by omega) (by omega)]; omega), xi_gr hLg.1 hLg.2.1, xi_gr l0 l1, te_clauseAt t1 hS.2.2.1.1 hx, xi_cv t1.1, xi_ar (t := 4) hLg.2.2.1 (by omega) (by decide) r1, xi_gi r2, c9]
        by_cases h3 : A (x % 100) 8 = p
        · rw [if_pos (by rw [h3]), xi_rz1]; simp [bz, h2, h3]
        · rw [if_neg (by rw [nI_eq (by omega) (by omega)]; exact h3), nI_1, ih (i + 1) (by omega) (by omega)]; simp [h3]
      · rw [if_pos (by rw [nI_ltI (by omega) (by omega)]; omega), nI_1, ih (i + 1) (by omega) (by omega)]; simp [h2]
theorem ag_due {f : Nat → Nat → Int32} {q p : Nat} {s : Sp} (hLg : ag_L M g) (hLq : st_L M q) (hp : p < 100) (hA : ag_R f g n A) (hS : st_R f q s) (hV : sp_V A n s) : fn_Ag_hasDutyDue (mm_wi M f) g q (nI p) = some (bz (hd_n A p s), mm_wi M f) := by
  have h8 := hS.2.2.1.1.2.1
  have := ag_due_lp hLg hLq hp hA hS hV fo_N 0 (by omega) (by show _ < 2000; omega)
  rw [List.drop_zero] at this
  exact this
def se_L (M : Mm) (z : Nat) : Prop := mm_s M z = (1, 4) ∧ mm_r M z 0 = some (z + 1) ∧ ru_L M (z + 1) ∧ mm_r M z 1 = some (z + 4) ∧ mm_r M z 2 = some (z + 5) ∧ mm_r M z 3 = some (z + 6) ∧ mm_s M (z + 4) = (7, 2) ∧ mm_s M (z + 5) = (7, 2) ∧ mm_s M (z + 6) = (7, 2) ∧ ∀ i, i < 2 → mm_r M (z + 4) i = some (z + 7 + 27 * i) ∧ mm_r M (z + 5) i = some (z + 16 + 27 * i) ∧ mm_r M (z + 6) i = some (z + 25 + 27 * i) ∧ st_L M (z + 7 + 27 * i) ∧ st_L M (z + 16 + 27 * i) ∧ st_L M (z + 25 + 27 * i)
def ch_n (A : Nat → Nat → Nat) (n : Nat) (fr : Nat → Bool) (p k : Nat) (s : Sp) : Option Sp := if tb_n A n p k s = true ∧ sp_m A n p k s = 0 then sp_ev A n fr p k s else none
theorem du_8 {n d : Nat} {l : List Nat} (h : l.length ≤ 8) : du_n n d l ≤ 8 := Nat.le_trans (du_le n d l) h
theorem sp_m_le {p k : Nat} {s : Sp} (h : (sp_B s).length ≤ 8) : sp_m A n p k s ≤ 8 := by
  unfold sp_m sp_h1
  split
  · split
    · show 0 ≤ 8; omega
    · exact du_8 (Nat.le_trans bn_len h)
  · show 0 ≤ 8; omega
theorem se_changes {f : Nat → Nat → Int32} {u v p k : Nat} {s : Sp} {dp : Nat → Nat} (hLz : se_L M z) (hLg : ag_L M g) (hLu : st_L M u) (hLv : st_L M v) (huv : u + 9 ≤ v ∨ v + 9 ≤ u) (hap : ap_2 v (z + 1) g) (hdp : dp_W n A dp) (hp : p < 100) (hk : k < 100) (hA : ag_R f g n A) (hF : ru_F f (z + 1) fr) (hS : st_R f u s) (hV : sp_V A n s) : ∃ f', fn_Se_changes (mm_wi M f) z g u v (nI p) (nI k) = some (bz (ch_n A n fr p k s).isSome, mm_wi M f') ∧ (∀ s', ch_n A n fr p k s = some s' → st_R f' v s') ∧ fr_R f f' v (z + 1) := by
  obtain ⟨z0, z1, z2, -⟩ := hLz
  have h10 := hA.2.1
  have p1 := hap
  unfold ap_2 ap_1 at p1
  rw [fn_Se_changes, ag_touch hLg hLu hp hk hA hS hV, xi_cv hLg.1]
  unfold ch_n
  cases ht : tb_n A n p k s with
  | false =>
    rw [if_pos (by simp [bz]), xi_rz0, if_neg (by simp)]
    exact ⟨f, rfl, fun s' hs => (by cases hs), fun a _ _ _ => rfl⟩
  | true =>
    rw [if_neg (by simp [bz])]
    obtain ⟨f1, e1, a1, b1⟩ := st_copyFrom hLv hLu hS (by omega)
    rw [e1, xi_cv hLv.1, xi_gr z0 z1]
    have c1 : fr_R f f1 v (z + 1) := fun a x _ _ => b1 a x
    obtain ⟨f2, e2, a2, b2⟩ := ru_happen (s := s) (p := p) (k := k) hLg z2 hLv hap hdp hp hk (fun x hx => (hV.1 x hx).1) (fun x hx => (hV.2.1 x hx).1) (fun x hx => (hV.2.2.1 x hx).1) (fun c hc => sp_w_lt hc) (sp_w_ph hdp h10 hV.2.2.2.2.1) (fr_ag hap c1 hA) (fr_ru hap.1 c1 hF) a1
    rw [e2, xi_cv z2.1]
    have hm := sp_m_le (A := A) (n := n) (p := p) (k := k) hV.2.2.2.2.1
    have hev : ev_v A n fr p k s = 0 ↔ ((sp_ev A n fr p k s).isSome = true ∧ sp_m A n p k s = 0) := by
      unfold ev_v
      by_cases h : (sp_ev A n fr p k s).isSome = true
      · rw [if_pos h, li_0, nI_eq (by omega) (by omega)]; simp [h]
      · rw [if_neg h]; simp [h]
    by_cases h0 : sp_m A n p k s = 0
    · rw [if_pos (show true = true ∧ sp_m A n p k s = 0 from ⟨rfl, h0⟩)]
      refine ⟨f2, ?_, a2, fr_tr c1 b2⟩
      by_cases h : (sp_ev A n fr p k s).isSome = true
      · rw [if_pos (hev.mpr ⟨h, h0⟩), xi_rz1, h]; rfl
      · rw [if_neg (fun h' => h (hev.mp h').1), xi_rz0]; simp [bz, h]
    · rw [if_neg (show ¬ (true = true ∧ sp_m A n p k s = 0) from fun h => h0 h.2), if_neg (fun h' => h0 (hev.mp h').2), xi_rz0]
      exact ⟨f2, rfl, fun s' hs => (by cases hs), fr_tr c1 b2⟩
/-- what is still to be done at a course's end -/
def ek_n (A : Nat → Nat → Nat) (n : Nat) (fr : Nat → Bool) (p : Nat) (R : Sp → Bool) (s : Sp) : Bool := !hd_n A p s && (match sp_end A n fr s with | some s' => R s' | none => false)
def fa_n (A : Nat → Nat → Nat) (n : Nat) (fr : Nat → Bool) (p : Nat) (E : Sp → Bool) (s : Sp) (k : Nat) : Bool := match ch_n A n fr p k s with | some s1 => E s1 | none => false
def fb_n (A : Nat → Nat → Nat) (n : Nat) (fr : Nat → Bool) (p : Nat) (E : Sp → Bool) (s : Sp) (k : Nat) : Option Nat := match ch_n A n fr p k s with | some s1 => ((List.range 5).find? (fa_n A n fr p E s1)).map (fun j => 100 + 10 * k + j) | none => none
def fc_n (A : Nat → Nat → Nat) (n : Nat) (fr : Nat → Bool) (p : Nat) (E : Sp → Bool) (s : Sp) : Option Nat := if E s = true then some 0 else match (List.range 5).find? (fa_n A n fr p E s) with | some k => some (10 + k) | none => (List.range 5).findSome? (fb_n A n fr p E s)
def fK_n (d z : Nat) (f f' : Nat → Nat → Int32) : Prop := ∀ a, a ≠ z + 1 → a ≠ z + 3 → (a < z + 7 ∨ z + 7 + 27 * (d - 1) ≤ a) → (a < z + 25 + 27 * (d - 1) ∨ z + 34 + 27 * (d - 1) ≤ a) → f' a = f a
def fS_n (d z : Nat) (f f' : Nat → Nat → Int32) : Prop := ∀ a, a ≠ z + 1 → a ≠ z + 3 → (a < z + 7 ∨ z + 7 + 27 * d ≤ a) → f' a = f a
def uK_n (d z u : Nat) : Prop := (u + 9 ≤ z ∨ z + 7 + 27 * (d - 1) ≤ u) ∧ (u + 9 ≤ z + 25 + 27 * (d - 1) ∨ z + 34 + 27 * (d - 1) ≤ u)
def uS_n (d z u : Nat) : Prop := u + 9 ≤ z ∨ z + 7 + 27 * d ≤ u
def ap_g (z g : Nat) : Prop := g + 12 ≤ z ∨ z + 61 ≤ g
theorem fK_ag {d : Nat} {f f' : Nat → Nat → Int32} (hd : d = 1 ∨ d = 2) (hg : ap_g z g) (h : fK_n d z f f') (hA : ag_R f g n A) : ag_R f' g n A := by
  unfold ap_g at hg
  exact ag_cg hA fun a x y => h a (by omega) (by omega) (by omega) (by omega)
theorem fK_ru {d : Nat} {f f' : Nat → Nat → Int32} (hd : d = 1 ∨ d = 2) (h : fK_n d z f f') (hF : ru_F f (z + 1) fr) : ru_F f' (z + 1) fr := ru_cg hF (h _ (by omega) (by omega) (by omega) (by omega))
theorem fS_ag {d : Nat} {f f' : Nat → Nat → Int32} (hd : d = 1 ∨ d = 2) (hg : ap_g z g) (h : fS_n d z f f') (hA : ag_R f g n A) : ag_R f' g n A := by
  unfold ap_g at hg
  exact ag_cg hA fun a x y => h a (by omega) (by omega) (by omega)
theorem fS_ru {d : Nat} {f f' : Nat → Nat → Int32} (hd : d = 1 ∨ d = 2) (h : fS_n d z f f') (hF : ru_F f (z + 1) fr) : ru_F f' (z + 1) fr := ru_cg hF (h _ (by omega) (by omega) (by omega))
theorem fS_tr {d : Nat} {f f1 f2 : Nat → Nat → Int32} (h : fS_n d z f f1) (h2 : fS_n d z f1 f2) : fS_n d z f f2 := fun a x y w => by rw [h2 a x y w, h a x y w]
theorem fS_rf {d : Nat} {f : Nat → Nat → Int32} : fS_n d z f f := fun _ _ _ _ => rfl
theorem fK_S {d : Nat} {f f' : Nat → Nat → Int32} (hd : d = 1 ∨ d = 2) (h : fK_n d z f f') : fS_n d z f f' := fun a x y w => h a x y (by omega) (by omega)
theorem fR_S {d v : Nat} {f f' : Nat → Nat → Int32} (hd : d = 1 ∨ d = 2) (hv : v = z + 7 + 27 * (d - 1) ∨ v = z + 16 + 27 * (d - 1)) (h : fr_R f f' v (z + 1)) : fS_n d z f f' := fun a x y w => h a (by omega) x (by omega)
def kp_P (M : Mm) (z g n : Nat) (A : Nat → Nat → Nat) (fr : Nat → Bool) (p : Nat) (fn : Mm → Nat → Nat → Nat → Int32 → Int32 → Rr) (d : Nat) (E : Sp → Bool) : Prop := ∀ f u s, st_L M u → uK_n d z u → (g + 12 ≤ u ∨ u + 9 ≤ g) → ag_R f g n A → ru_F f (z + 1) fr → st_R f u s → sp_V A n s → sp_d s + d ≤ 60 → ∃ f', fn (mm_wi M f) z g u (nI p) (nI d) = some (bz (E s), mm_wi M f') ∧ fK_n d z f f'
def fc_P (M : Mm) (z g n : Nat) (A : Nat → Nat → Nat) (fr : Nat → Bool) (p : Nat) (fn : Mm → Nat → Nat → Nat → Int32 → Int32 → Rr) (d : Nat) (R : Sp → Option Nat) : Prop := ∀ f u s, st_L M u → uS_n d z u → (g + 12 ≤ u ∨ u + 9 ≤ g) → ag_R f g n A → ru_F f (z + 1) fr → st_R f u s → sp_V A n s → sp_d s + d ≤ 60 → ∃ f', fn (mm_wi M f) z g u (nI p) (nI d) = some (fz (R s), mm_wi M f') ∧ fS_n d z f f'
theorem ch_V {dp : Nat → Nat} {p k : Nat} {s s' : Sp} (hn : n ≤ 10) (hdp : dp_W n A dp) (h4 : ∀ c, c < n → A c 7 ≤ 4) (hV : sp_V A n s) (h : ch_n A n fr p k s = some s') : sp_V A n s' ∧ sp_d s' = sp_d s := by
  unfold ch_n at h
  split at h
  · exact ⟨sp_ev_V hn hdp h4 hV h, sp_ev_d h⟩
  · cases h
theorem fa_none {p k : Nat} {E : Sp → Bool} {s : Sp} (h : ch_n A n fr p k s = none) : fa_n A n fr p E s k = false := by unfold fa_n; rw [h]
theorem fa_some {p k : Nat} {E : Sp → Bool} {s s1 : Sp} (h : ch_n A n fr p k s = some s1) : fa_n A n fr p E s k = E s1 := by unfold fa_n; rw [h]
theorem fb_none {p k : Nat} {E : Sp → Bool} {s : Sp} (h : ch_n A n fr p k s = none) : fb_n A n fr p E s k = none := by unfold fb_n; rw [h]
theorem fb_some {p k : Nat} {E : Sp → Bool} {s s1 : Sp} (h : ch_n A n fr p k s = some s1) : fb_n A n fr p E s k = ((List.range 5).find? (fa_n A n fr p E s1)).map (fun j => 100 + 10 * k + j) := by unfold fb_n; rw [h]
theorem ek_t {p : Nat} {R : Sp → Bool} {s : Sp} (h : hd_n A p s = true) : ek_n A n fr p R s = false := by unfold ek_n; rw [h]; rfl
theorem ek_f {p : Nat} {R : Sp → Bool} {s : Sp} (h : sp_end A n fr s = none) : ek_n A n fr p R s = false := by unfold ek_n; rw [h]; simp
theorem ek_s {p : Nat} {R : Sp → Bool} {s s2 : Sp} (h : hd_n A p s = false) (h2 : sp_end A n fr s = some s2) : ek_n A n fr p R s = R s2 := by unfold ek_n; rw [h, h2]; simp
theorem en_none {s : Sp} (h : sp_end A n fr s = none) : en_v A n fr s = -2 := by unfold en_v; rw [h]; rfl
theorem en_some {s s' : Sp} (h : sp_end A n fr s = some s') : en_v A n fr s = nI (du_n n (sp_d s) (sp_D s)) := by unfold en_v; rw [h]; rfl
theorem ag_4 {f : Nat → Nat → Int32} (hA : ag_R f g n A) : ∀ c, c < n → A c 7 ≤ 4 := fun c hc => (hA.2.2 c hc).2.2.2.2.2.2.1

theorem fc_lt {p v : Nat} {E : Sp → Bool} {s : Sp} (h : fc_n A n fr p E s = some v) : v < 200 := by
  unfold fc_n at h
  split at h
  · cases h; omega
  · split at h
    · next k hk =>
      have := List.mem_of_find?_eq_some hk
      rw [List.mem_range] at this
      cases h; omega
    · obtain ⟨k, hk, hv⟩ := List.exists_of_findSome?_eq_some h
      rw [List.mem_range] at hk
      unfold fb_n at hv
      split at hv
      · next s1 _ =>
        cases hj : (List.range 5).find? (fa_n A n fr p E s1) with
        | none => rw [hj] at hv; cases hv
        | some j =>
          have := List.mem_of_find?_eq_some hj
          rw [List.mem_range] at this
          rw [hj] at hv
          simp at hv
          omega
      · cases hv
theorem fc_ne {p v : Nat} {E : Sp → Bool} {s : Sp} (h : fc_n A n fr p E s = some v) : ¬ nI v = (-1 : Int32) := by
  have h1 : ∀ i : Nat, i < 200 → ¬ nI i = (-1 : Int32) := by decide +kernel
  exact h1 v (fc_lt h)
theorem se_kept_01 {dp : Nat → Nat} {p : Nat} (hLz : se_L M z) (hLg : ag_L M g) (hg : ap_g z g) (hdp : dp_W n A dp) (hp : p < 100) : kp_P M z g n A fr p fn_Se_isKeptByEndOfDay_0 1 (ek_n A n fr p (fun _ => true)) := by
  intro f u s hLu hu hgu hA hF hS hV hday
  obtain ⟨z0, z1, z2, z3, z4, z5, z6, z7, z8, z9⟩ := hLz
  obtain ⟨y1, y2, y3, y4, y5, y6⟩ := z9 0 (by omega)
  unfold ap_g at hg
  unfold uK_n at hu
  rw [fn_Se_isKeptByEndOfDay_0, ag_due hLg hLu hp hA hS hV, xi_cv hLg.1]
  cases hd : hd_n A p s with
  | true =>
    rw [if_neg (by simp [bz]), xi_rz0, ek_t hd]
    exact ⟨f, rfl, fun _ _ _ _ _ => rfl⟩
  | false =>
    rw [if_pos (by simp [bz]), xi_gr z0 z5, show nI 1 - 1 = nI 0 from rfl, xi_ar (t := 5) z8 (by omega) (by decide) y3]
    obtain ⟨f1, e1, a1, b1⟩ := st_copyFrom y6 hLu hS (by omega)
    rw [e1, xi_cv y6.1, xi_gr z0 z1]
    have hap : ap_2 (z + 25 + 27 * 0) (z + 1) g := by unfold ap_2 ap_1; omega
    have c1 : fr_R f f1 (z + 25 + 27 * 0) (z + 1) := fun a x _ _ => b1 a x
    obtain ⟨f2, e2, a2, b2⟩ := ru_endDay hLg z2 y6 hap hdp (by omega) (fr_ag hap c1 hA) (fr_ru hap.1 c1 hF) a1
    rw [e2, xi_cv z2.1]
    have c2 := fr_tr c1 b2
    have d2 : fK_n 1 z f f2 := fun a x y u w => c2 a (by omega) x (by omega)
    have hdu := du_8 (n := n) (d := sp_d s) hV.2.2.2.1
    cases hE : sp_end A n fr s with
    | none =>
      rw [en_none hE, if_pos rfl, xi_rz0, ek_f hE]
      exact ⟨f2, rfl, d2⟩
    | some s2 =>
      have hm2 : ∀ i : Nat, i ≤ 8 → ¬ nI i = (-2 : Int32) := by decide +kernel
      rw [en_some hE, if_neg (hm2 _ hdu), ek_s hd hE]
      rw [if_pos (show nI 1 = 1 from rfl), xi_rz1]
      exact ⟨f2, rfl, d2⟩
theorem se_127_1 {dp : Nat → Nat} {p d : Nat} {E : Sp → Bool} (hLz : se_L M z) (hLg : ag_L M g) (hg : ap_g z g) (hdp : dp_W n A dp) (hp : p < 100) (hd : d = 1 ∨ d = 2) (hK : kp_P M z g n A fr p fn_Se_isKeptByEndOfDay_0 d E) {k : Nat} {J : Mm → Rr} (hk : k < 5) : ∀ m i f s1, i ≤ 5 → 5 - i < m → ag_R f g n A → ru_F f (z + 1) fr → st_R f (z + 7 + 27 * (d - 1)) s1 → sp_V A n s1 → sp_d s1 + d ≤ 60 → ∃ f', fo_fx (fun _ _ => none) (lp_Se_firstCourse_1_127 z g (nI p) (nI d) (z + 7 + 27 * (d - 1)) (z + 16 + 27 * (d - 1)) (nI k) J) m (mm_wi M f) (nI i) = (match ((List.range 5).drop i).find? (fa_n A n fr p E s1) with | some j => some (nI (100 + 10 * k + j), mm_wi M f') | none => J (mm_wi M f')) ∧ fS_n d z f f' := by
  have hLz0 := hLz
  obtain ⟨z0, z1, z2, z3, z4, z5, z6, z7, z8, z9⟩ := hLz
  obtain ⟨y1, y2, y3, y4, y5, y6⟩ := z9 (d - 1) (by omega)
  unfold ap_g at hg
  have hap : ap_2 (z + 16 + 27 * (d - 1)) (z + 1) g := by unfold ap_2 ap_1; omega
  intro m
  induction m with
  | zero => intro i f s1 _ h; omega
  | succ m ih =>
    intro i f s1 hi hm hA hF hS hV hday
    rw [fx_s, lp_Se_firstCourse_1_127]
    by_cases h : 5 ≤ i
    · rw [if_pos (show (5 : Int32) ≤ nI i from nI_le (a := 5) h (by omega)), rg_end h]
      exact ⟨f, rfl, fS_rf⟩
    · rw [if_neg (by rw [show (5 : Int32) = nI 5 from rfl, nI_leI (by omega) (by omega)]; exact h)]
      obtain ⟨f1, e1, a1, b1⟩ := se_changes (p := p) (k := i) hLz0 hLg y4 y5 (by omega) hap hdp hp (by omega) hA hF hS hV
      have c1 := fR_S (d := d) hd (.inr rfl) b1
      have hS1 : st_R f1 (z + 7 + 27 * (d - 1)) s1 := st_cg hS fun a x y => b1 a (by omega) (by omega) (by omega)
      have hA1 := fS_ag hd hg c1 hA
      have hF1 := fS_ru hd c1 hF
      rw [e1, xi_cv z0, xi_jp, rg_drop (by omega), List.find?_cons]
      dsimp only
      cases hc : ch_n A n fr p i s1 with
      | none =>
        rw [if_pos (by simp [bz]), nI_1, fa_none hc]
        obtain ⟨f2, e2, a2⟩ := ih (i + 1) f1 s1 (by omega) (by omega) hA1 hF1 hS1 hV hday
        exact ⟨f2, e2, fS_tr c1 a2⟩
      | some s2 =>
        obtain ⟨v1, v2⟩ := ch_V hA.2.1 hdp (ag_4 hA) hV hc
        rw [if_neg (by simp [bz]), fa_some hc]
        obtain ⟨f2, e2, a2⟩ := hK f1 (z + 16 + 27 * (d - 1)) s2 y5 (by unfold uK_n; omega) (by omega) hA1 hF1 (a1 s2 hc) v1 (by omega)
        rw [e2, xi_cv z0]
        have c2 := fK_S hd a2
        cases hE : E s2 with
        | true =>
          rw [if_neg (by simp [bz]), show (100 : Int32) = nI 100 from rfl, show (10 : Int32) = nI 10 from rfl, pk_mul, nI_add, nI_add]
          exact ⟨f2, rfl, fS_tr c1 c2⟩
        | false =>
          rw [if_pos (by simp [bz]), nI_1]
          have hS2 : st_R f2 (z + 7 + 27 * (d - 1)) s1 := st_cg hS1 fun a x y => a2 a (by omega) (by omega) (by omega) (by omega)
          obtain ⟨f3, e3, a3⟩ := ih (i + 1) f2 s1 (by omega) (by omega) (fS_ag hd hg c2 hA1) (fS_ru hd c2 hF1) hS2 hV hday
          exact ⟨f3, e3, fS_tr c1 (fS_tr c2 a3)⟩
theorem se_101_1 {dp : Nat → Nat} {p d : Nat} {E : Sp → Bool} (hLz : se_L M z) (hLg : ag_L M g) (hg : ap_g z g) (hdp : dp_W n A dp) (hp : p < 100) (hd : d = 1 ∨ d = 2) (hK : kp_P M z g n A fr p fn_Se_isKeptByEndOfDay_0 d E) : ∀ m i f u s, i ≤ 5 → 5 - i < m → st_L M u → uS_n d z u → (g + 12 ≤ u ∨ u + 9 ≤ g) → ag_R f g n A → ru_F f (z + 1) fr → st_R f u s → sp_V A n s → sp_d s + d ≤ 60 → ∃ f', fo_fx (fun _ _ => none) (lp_Se_firstCourse_1_101 z g u (nI p) (nI d) (z + 7 + 27 * (d - 1)) (z + 16 + 27 * (d - 1))) m (mm_wi M f) (nI i) = some (fz (((List.range 5).drop i).findSome? (fb_n A n fr p E s)), mm_wi M f') ∧ fS_n d z f f' := by
  have hLz0 := hLz
  have hg0 := hg
  obtain ⟨z0, z1, z2, z3, z4, z5, z6, z7, z8, z9⟩ := hLz
  obtain ⟨y1, y2, y3, y4, y5, y6⟩ := z9 (d - 1) (by omega)
  unfold ap_g at hg
  have hap : ap_2 (z + 7 + 27 * (d - 1)) (z + 1) g := by unfold ap_2 ap_1; omega
  intro m
  induction m with
  | zero => intro i f u s _ h; omega
  | succ m ih =>
    intro i f u s hi hm hLu hu hgu hA hF hS hV hday
    have hu0 := hu
    unfold uS_n at hu
    rw [fx_s, lp_Se_firstCourse_1_101]
    by_cases h : 5 ≤ i
    · rw [if_pos (show (5 : Int32) ≤ nI i from nI_le (a := 5) h (by omega)), rg_end h]
      exact ⟨f, rfl, fS_rf⟩
    · rw [if_neg (by rw [show (5 : Int32) = nI 5 from rfl, nI_leI (by omega) (by omega)]; exact h)]
      obtain ⟨f1, e1, a1, b1⟩ := se_changes (p := p) (k := i) hLz0 hLg hLu y4 (by omega) hap hdp hp (by omega) hA hF hS hV
      have c1 := fR_S (d := d) hd (.inl rfl) b1
      have hS1 : st_R f1 u s := st_cg hS fun a x y => c1 a (by omega) (by omega) (by omega)
      have hA1 := fS_ag hd hg c1 hA
      have hF1 := fS_ru hd c1 hF
      rw [e1, xi_cv z0, xi_jp, rg_drop (by omega), List.findSome?_cons]
      dsimp only
      cases hc : ch_n A n fr p i s with
      | none =>
        rw [if_pos (by simp [bz]), nI_1, fb_none hc]
        obtain ⟨f2, e2, a2⟩ := ih (i + 1) f1 u s (by omega) (by omega) hLu hu0 hgu hA1 hF1 hS1 hV hday
        exact ⟨f2, e2, fS_tr c1 a2⟩
      | some s1 =>
        obtain ⟨v1, v2⟩ := ch_V hA.2.1 hdp (ag_4 hA) hV hc
        rw [if_neg (by simp [bz]), fb_some hc]
        obtain ⟨f2, e2, a2⟩ := se_127_1 hLz0 hLg hg0 hdp hp hd hK (k := i) (J := fun Mj => fo_fx (fun _ _ => none) (lp_Se_firstCourse_1_101 z g u (nI p) (nI d) (z + 7 + 27 * (d - 1)) (z + 16 + 27 * (d - 1))) m Mj (nI i + 1)) (by omega) fo_N 0 f1 s1 (by omega) (by decide) hA1 hF1 (a1 s1 hc) v1 (by omega)
        rw [show (0 : Int32) = nI 0 from rfl, e2, List.drop_zero]
        cases hfi : (List.range 5).find? (fa_n A n fr p E s1) with
        | some j => exact ⟨f2, rfl, fS_tr c1 a2⟩
        | none =>
          rw [Option.map_none]
          dsimp only
          rw [nI_1]
          have hS2 : st_R f2 u s := st_cg hS1 fun a x y => a2 a (by omega) (by omega) (by omega)
          obtain ⟨f3, e3, a3⟩ := ih (i + 1) f2 u s (by omega) (by omega) hLu hu0 hgu (fS_ag hd hg a2 hA1) (fS_ru hd a2 hF1) hS2 hV hday
          exact ⟨f3, e3, fS_tr c1 (fS_tr a2 a3)⟩
theorem se_42_1 {dp : Nat → Nat} {p d : Nat} {E : Sp → Bool} (hLz : se_L M z) (hLg : ag_L M g) (hg : ap_g z g) (hdp : dp_W n A dp) (hp : p < 100) (hd : d = 1 ∨ d = 2) (hK : kp_P M z g n A fr p fn_Se_isKeptByEndOfDay_0 d E) : ∀ m i f u s, i ≤ 5 → 5 - i < m → st_L M u → uS_n d z u → (g + 12 ≤ u ∨ u + 9 ≤ g) → ag_R f g n A → ru_F f (z + 1) fr → st_R f u s → sp_V A n s → sp_d s + d ≤ 60 → ∃ f', fo_fx (fun _ _ => none) (lp_Se_firstCourse_1_42 z g u (nI p) (nI d) (z + 7 + 27 * (d - 1))) m (mm_wi M f) (nI i) = some (fz (match ((List.range 5).drop i).find? (fa_n A n fr p E s) with | some k => some (10 + k) | none => (List.range 5).findSome? (fb_n A n fr p E s)), mm_wi M f') ∧ fS_n d z f f' := by
  have hLz0 := hLz
  have hg0 := hg
  obtain ⟨z0, z1, z2, z3, z4, z5, z6, z7, z8, z9⟩ := hLz
  obtain ⟨y1, y2, y3, y4, y5, y6⟩ := z9 (d - 1) (by omega)
  unfold ap_g at hg
  have hap : ap_2 (z + 7 + 27 * (d - 1)) (z + 1) g := by unfold ap_2 ap_1; omega
  have hdm : nI d - 1 = nI (d - 1) := pk_sub (b := 1) (by omega)
  intro m
  induction m with
  | zero => intro i f u s _ h; omega
  | succ m ih =>
    intro i f u s hi hm hLu hu hgu hA hF hS hV hday
    have hu0 := hu
    unfold uS_n at hu
    rw [fx_s, lp_Se_firstCourse_1_42]
    by_cases h : 5 ≤ i
    · rw [if_pos (show (5 : Int32) ≤ nI i from nI_le (a := 5) h (by omega)), rg_end h, xi_gr z0 z4, hdm, xi_ar (t := 5) z7 (by omega) (by decide) y2]
      exact se_101_1 hLz0 hLg hg0 hdp hp hd hK fo_N 0 f u s (by omega) (by decide) hLu hu0 hgu hA hF hS hV hday
    · rw [if_neg (by rw [show (5 : Int32) = nI 5 from rfl, nI_leI (by omega) (by omega)]; exact h)]
      obtain ⟨f1, e1, a1, b1⟩ := se_changes (p := p) (k := i) hLz0 hLg hLu y4 (by omega) hap hdp hp (by omega) hA hF hS hV
      have c1 := fR_S (d := d) hd (.inl rfl) b1
      have hS1 : st_R f1 u s := st_cg hS fun a x y => c1 a (by omega) (by omega) (by omega)
      have hA1 := fS_ag hd hg c1 hA
      have hF1 := fS_ru hd c1 hF
      have ef : fa_n A n fr p E s i = match ch_n A n fr p i s with | some s1 => E s1 | none => false := rfl
      rw [e1, xi_cv z0, xi_jp, rg_drop (by omega), List.find?_cons, ef]
      dsimp only
      cases hc : ch_n A n fr p i s with
      | none =>
        rw [if_pos (by simp [bz]), nI_1]
        obtain ⟨f2, e2, a2⟩ := ih (i + 1) f1 u s (by omega) (by omega) hLu hu0 hgu hA1 hF1 hS1 hV hday
        exact ⟨f2, e2, fS_tr c1 a2⟩
      | some s2 =>
        obtain ⟨v1, v2⟩ := ch_V hA.2.1 hdp (ag_4 hA) hV hc
        rw [if_neg (by simp [bz])]
        obtain ⟨f2, e2, a2⟩ := hK f1 (z + 7 + 27 * (d - 1)) s2 y4 (by unfold uK_n; omega) (by omega) hA1 hF1 (a1 s2 hc) v1 (by omega)
        rw [e2, xi_cv z0]
        have c2 := fK_S hd a2
        cases hE : E s2 with
        | true =>
          rw [if_neg (by simp [bz]), show (10 : Int32) = nI 10 from rfl, nI_add]
          exact ⟨f2, by simp [hE, fz], fS_tr c1 c2⟩
        | false =>
          rw [if_pos (by simp [bz]), nI_1]
          have hS2 : st_R f2 u s := st_cg hS1 fun a x y => c2 a (by omega) (by omega) (by omega)
          obtain ⟨f3, e3, a3⟩ := ih (i + 1) f2 u s (by omega) (by omega) hLu hu0 hgu (fS_ag hd hg c2 hA1) (fS_ru hd c2 hF1) hS2 hV hday
          exact ⟨f3, by rw [e3]; simp [hE], fS_tr c1 (fS_tr c2 a3)⟩
theorem se_first_1 {dp : Nat → Nat} {p d : Nat} {E : Sp → Bool} (hLz : se_L M z) (hLg : ag_L M g) (hg : ap_g z g) (hdp : dp_W n A dp) (hp : p < 100) (hd : d = 1 ∨ d = 2) (hK : kp_P M z g n A fr p fn_Se_isKeptByEndOfDay_0 d E) : fc_P M z g n A fr p fn_Se_firstCourse_1 d (fc_n A n fr p E) := by
  intro f u s hLu hu hgu hA hF hS hV hday
  have hLz0 := hLz
  obtain ⟨z0, z1, z2, z3, z4, z5, z6, z7, z8, z9⟩ := hLz
  obtain ⟨y1, y2, y3, y4, y5, y6⟩ := z9 (d - 1) (by omega)
  have hdm : nI d - 1 = nI (d - 1) := pk_sub (b := 1) (by omega)
  have hu0 := hu
  unfold uS_n at hu
  rw [fn_Se_firstCourse_1, if_neg (by rw [li_1, nI_ltI (by omega) (by omega)]; omega), if_pos (show nI d ≤ 2 from nI_le (b := 2) (by omega) (by omega))]
  obtain ⟨f1, e1, a1⟩ := hK f u s hLu (by unfold uK_n; omega) hgu hA hF hS hV hday
  rw [e1, xi_cv z0]
  have c1 := fK_S hd a1
  unfold fc_n
  cases hE : E s with
  | true => rw [if_neg (by simp [bz]), if_pos rfl]; exact ⟨f1, rfl, c1⟩
  | false =>
    rw [if_pos (by simp [bz]), if_neg (by simp), xi_gr z0 z3, hdm, xi_ar (t := 5) z6 (by omega) (by decide) y1]
    have hS1 : st_R f1 u s := st_cg hS fun a x y => c1 a (by omega) (by omega) (by omega)
    obtain ⟨f2, e2, a2⟩ := se_42_1 hLz0 hLg hg hdp hp hd hK fo_N 0 f1 u s (by omega) (by decide) hLu hu0 hgu (fS_ag hd hg c1 hA) (fS_ru hd c1 hF) hS1 hV hday
    rw [List.drop_zero] at e2
    exact ⟨f2, e2, fS_tr c1 a2⟩
theorem se_kept_11 {dp : Nat → Nat} {p : Nat} (hLz : se_L M z) (hLg : ag_L M g) (hg : ap_g z g) (hdp : dp_W n A dp) (hp : p < 100) : kp_P M z g n A fr p fn_Se_isKeptByEndOfDay_1 1 (ek_n A n fr p (fun _ => true)) := by
  intro f u s hLu hu hgu hA hF hS hV hday
  obtain ⟨z0, z1, z2, z3, z4, z5, z6, z7, z8, z9⟩ := hLz
  obtain ⟨y1, y2, y3, y4, y5, y6⟩ := z9 0 (by omega)
  unfold ap_g at hg
  unfold uK_n at hu
  rw [fn_Se_isKeptByEndOfDay_1, ag_due hLg hLu hp hA hS hV, xi_cv hLg.1]
  cases hd : hd_n A p s with
  | true =>
    rw [if_neg (by simp [bz]), xi_rz0, ek_t hd]
    exact ⟨f, rfl, fun _ _ _ _ _ => rfl⟩
  | false =>
    rw [if_pos (by simp [bz]), xi_gr z0 z5, show nI 1 - 1 = nI 0 from rfl, xi_ar (t := 5) z8 (by omega) (by decide) y3]
    obtain ⟨f1, e1, a1, b1⟩ := st_copyFrom y6 hLu hS (by omega)
    rw [e1, xi_cv y6.1, xi_gr z0 z1]
    have hap : ap_2 (z + 25 + 27 * 0) (z + 1) g := by unfold ap_2 ap_1; omega
    have c1 : fr_R f f1 (z + 25 + 27 * 0) (z + 1) := fun a x _ _ => b1 a x
    obtain ⟨f2, e2, a2, b2⟩ := ru_endDay hLg z2 y6 hap hdp (by omega) (fr_ag hap c1 hA) (fr_ru hap.1 c1 hF) a1
    rw [e2, xi_cv z2.1]
    have c2 := fr_tr c1 b2
    have d2 : fK_n 1 z f f2 := fun a x y u w => c2 a (by omega) x (by omega)
    have hdu := du_8 (n := n) (d := sp_d s) hV.2.2.2.1
    cases hE : sp_end A n fr s with
    | none =>
      rw [en_none hE, if_pos rfl, xi_rz0, ek_f hE]
      exact ⟨f2, rfl, d2⟩
    | some s2 =>
      have hm2 : ∀ i : Nat, i ≤ 8 → ¬ nI i = (-2 : Int32) := by decide +kernel
      rw [en_some hE, if_neg (hm2 _ hdu), ek_s hd hE]
      rw [if_pos (show nI 1 = 1 from rfl), xi_rz1]
      exact ⟨f2, rfl, d2⟩
theorem se_kept_12 {dp : Nat → Nat} {p : Nat} (hLz : se_L M z) (hLg : ag_L M g) (hg : ap_g z g) (hdp : dp_W n A dp) (hp : p < 100) (hR : fc_P M z g n A fr p fn_Se_firstCourse_1 1 (fc_n A n fr p (ek_n A n fr p fun _ => true))) : kp_P M z g n A fr p fn_Se_isKeptByEndOfDay_1 2 (ek_n A n fr p (fun s2 => (fc_n A n fr p (ek_n A n fr p fun _ => true) s2).isSome)) := by
  intro f u s hLu hu hgu hA hF hS hV hday
  obtain ⟨z0, z1, z2, z3, z4, z5, z6, z7, z8, z9⟩ := hLz
  obtain ⟨y1, y2, y3, y4, y5, y6⟩ := z9 1 (by omega)
  unfold ap_g at hg
  unfold uK_n at hu
  rw [fn_Se_isKeptByEndOfDay_1, ag_due hLg hLu hp hA hS hV, xi_cv hLg.1]
  cases hd : hd_n A p s with
  | true =>
    rw [if_neg (by simp [bz]), xi_rz0, ek_t hd]
    exact ⟨f, rfl, fun _ _ _ _ _ => rfl⟩
  | false =>
    rw [if_pos (by simp [bz]), xi_gr z0 z5, show nI 2 - 1 = nI 1 from rfl, xi_ar (t := 5) z8 (by omega) (by decide) y3]
    obtain ⟨f1, e1, a1, b1⟩ := st_copyFrom y6 hLu hS (by omega)
    rw [e1, xi_cv y6.1, xi_gr z0 z1]
    have hap : ap_2 (z + 25 + 27 * 1) (z + 1) g := by unfold ap_2 ap_1; omega
    have c1 : fr_R f f1 (z + 25 + 27 * 1) (z + 1) := fun a x _ _ => b1 a x
    obtain ⟨f2, e2, a2, b2⟩ := ru_endDay hLg z2 y6 hap hdp (by omega) (fr_ag hap c1 hA) (fr_ru hap.1 c1 hF) a1
    rw [e2, xi_cv z2.1]
    have c2 := fr_tr c1 b2
    have d2 : fK_n 2 z f f2 := fun a x y u w => c2 a (by omega) x (by omega)
    have hdu := du_8 (n := n) (d := sp_d s) hV.2.2.2.1
    cases hE : sp_end A n fr s with
    | none =>
      rw [en_none hE, if_pos rfl, xi_rz0, ek_f hE]
      exact ⟨f2, rfl, d2⟩
    | some s2 =>
      have hm2 : ∀ i : Nat, i ≤ 8 → ¬ nI i = (-2 : Int32) := by decide +kernel
      rw [en_some hE, if_neg (hm2 _ hdu), ek_s hd hE]
      rw [if_neg (by decide)]
      have h4 := ag_4 hA
      obtain ⟨f3, e3, a3⟩ := hR f2 (z + 25 + 27 * 1) s2 y6 (by unfold uS_n; omega) (by omega) (fr_ag hap c2 hA) (fr_ru hap.1 c2 hF) (a2 s2 hE) (sp_end_V hA.2.1 hdp h4 hV hE) (by rw [sp_end_d hE]; omega)
      rw [e3, xi_cv z0]
      have d3 : fK_n 2 z f f3 := fun a x y u w => by rw [a3 a x y (by omega), d2 a x y u w]
      cases hc : fc_n A n fr p (ek_n A n fr p fun _ => true) s2 with
      | none => rw [fz_n, if_pos rfl, xi_rz0]; exact ⟨f3, rfl, d3⟩
      | some v =>
        rw [fz_s, if_neg (fc_ne hc), xi_rz1]; exact ⟨f3, rfl, d3⟩
theorem se_127_2 {dp : Nat → Nat} {p d : Nat} {E : Sp → Bool} (hLz : se_L M z) (hLg : ag_L M g) (hg : ap_g z g) (hdp : dp_W n A dp) (hp : p < 100) (hd : d = 1 ∨ d = 2) (hK : kp_P M z g n A fr p fn_Se_isKeptByEndOfDay_1 d E) {k : Nat} {J : Mm → Rr} (hk : k < 5) : ∀ m i f s1, i ≤ 5 → 5 - i < m → ag_R f g n A → ru_F f (z + 1) fr → st_R f (z + 7 + 27 * (d - 1)) s1 → sp_V A n s1 → sp_d s1 + d ≤ 60 → ∃ f', fo_fx (fun _ _ => none) (lp_Se_firstCourse_2_127 z g (nI p) (nI d) (z + 7 + 27 * (d - 1)) (z + 16 + 27 * (d - 1)) (nI k) J) m (mm_wi M f) (nI i) = (match ((List.range 5).drop i).find? (fa_n A n fr p E s1) with | some j => some (nI (100 + 10 * k + j), mm_wi M f') | none => J (mm_wi M f')) ∧ fS_n d z f f' := by
  have hLz0 := hLz
  obtain ⟨z0, z1, z2, z3, z4, z5, z6, z7, z8, z9⟩ := hLz
  obtain ⟨y1, y2, y3, y4, y5, y6⟩ := z9 (d - 1) (by omega)
  unfold ap_g at hg
  have hap : ap_2 (z + 16 + 27 * (d - 1)) (z + 1) g := by unfold ap_2 ap_1; omega
  intro m
  induction m with
  | zero => intro i f s1 _ h; omega
  | succ m ih =>
    intro i f s1 hi hm hA hF hS hV hday
    rw [fx_s, lp_Se_firstCourse_2_127]
    by_cases h : 5 ≤ i
    · rw [if_pos (show (5 : Int32) ≤ nI i from nI_le (a := 5) h (by omega)), rg_end h]
      exact ⟨f, rfl, fS_rf⟩
    · rw [if_neg (by rw [show (5 : Int32) = nI 5 from rfl, nI_leI (by omega) (by omega)]; exact h)]
      obtain ⟨f1, e1, a1, b1⟩ := se_changes (p := p) (k := i) hLz0 hLg y4 y5 (by omega) hap hdp hp (by omega) hA hF hS hV
      have c1 := fR_S (d := d) hd (.inr rfl) b1
      have hS1 : st_R f1 (z + 7 + 27 * (d - 1)) s1 := st_cg hS fun a x y => b1 a (by omega) (by omega) (by omega)
      have hA1 := fS_ag hd hg c1 hA
      have hF1 := fS_ru hd c1 hF
      rw [e1, xi_cv z0, xi_jp, rg_drop (by omega), List.find?_cons]
      dsimp only
      cases hc : ch_n A n fr p i s1 with
      | none =>
        rw [if_pos (by simp [bz]), nI_1, fa_none hc]
        obtain ⟨f2, e2, a2⟩ := ih (i + 1) f1 s1 (by omega) (by omega) hA1 hF1 hS1 hV hday
        exact ⟨f2, e2, fS_tr c1 a2⟩
      | some s2 =>
        obtain ⟨v1, v2⟩ := ch_V hA.2.1 hdp (ag_4 hA) hV hc
        rw [if_neg (by simp [bz]), fa_some hc]
        obtain ⟨f2, e2, a2⟩ := hK f1 (z + 16 + 27 * (d - 1)) s2 y5 (by unfold uK_n; omega) (by omega) hA1 hF1 (a1 s2 hc) v1 (by omega)
        rw [e2, xi_cv z0]
        have c2 := fK_S hd a2
        cases hE : E s2 with
        | true =>
          rw [if_neg (by simp [bz]), show (100 : Int32) = nI 100 from rfl, show (10 : Int32) = nI 10 from rfl, pk_mul, nI_add, nI_add]
          exact ⟨f2, rfl, fS_tr c1 c2⟩
        | false =>
          rw [if_pos (by simp [bz]), nI_1]
          have hS2 : st_R f2 (z + 7 + 27 * (d - 1)) s1 := st_cg hS1 fun a x y => a2 a (by omega) (by omega) (by omega) (by omega)
          obtain ⟨f3, e3, a3⟩ := ih (i + 1) f2 s1 (by omega) (by omega) (fS_ag hd hg c2 hA1) (fS_ru hd c2 hF1) hS2 hV hday
          exact ⟨f3, e3, fS_tr c1 (fS_tr c2 a3)⟩
theorem se_101_2 {dp : Nat → Nat} {p d : Nat} {E : Sp → Bool} (hLz : se_L M z) (hLg : ag_L M g) (hg : ap_g z g) (hdp : dp_W n A dp) (hp : p < 100) (hd : d = 1 ∨ d = 2) (hK : kp_P M z g n A fr p fn_Se_isKeptByEndOfDay_1 d E) : ∀ m i f u s, i ≤ 5 → 5 - i < m → st_L M u → uS_n d z u → (g + 12 ≤ u ∨ u + 9 ≤ g) → ag_R f g n A → ru_F f (z + 1) fr → st_R f u s → sp_V A n s → sp_d s + d ≤ 60 → ∃ f', fo_fx (fun _ _ => none) (lp_Se_firstCourse_2_101 z g u (nI p) (nI d) (z + 7 + 27 * (d - 1)) (z + 16 + 27 * (d - 1))) m (mm_wi M f) (nI i) = some (fz (((List.range 5).drop i).findSome? (fb_n A n fr p E s)), mm_wi M f') ∧ fS_n d z f f' := by
  have hLz0 := hLz
  have hg0 := hg
  obtain ⟨z0, z1, z2, z3, z4, z5, z6, z7, z8, z9⟩ := hLz
  obtain ⟨y1, y2, y3, y4, y5, y6⟩ := z9 (d - 1) (by omega)
  unfold ap_g at hg
  have hap : ap_2 (z + 7 + 27 * (d - 1)) (z + 1) g := by unfold ap_2 ap_1; omega
  intro m
  induction m with
  | zero => intro i f u s _ h; omega
  | succ m ih =>
    intro i f u s hi hm hLu hu hgu hA hF hS hV hday
    have hu0 := hu
    unfold uS_n at hu
    rw [fx_s, lp_Se_firstCourse_2_101]
    by_cases h : 5 ≤ i
    · rw [if_pos (show (5 : Int32) ≤ nI i from nI_le (a := 5) h (by omega)), rg_end h]
      exact ⟨f, rfl, fS_rf⟩
    · rw [if_neg (by rw [show (5 : Int32) = nI 5 from rfl, nI_leI (by omega) (by omega)]; exact h)]
      obtain ⟨f1, e1, a1, b1⟩ := se_changes (p := p) (k := i) hLz0 hLg hLu y4 (by omega) hap hdp hp (by omega) hA hF hS hV
      have c1 := fR_S (d := d) hd (.inl rfl) b1
      have hS1 : st_R f1 u s := st_cg hS fun a x y => c1 a (by omega) (by omega) (by omega)
      have hA1 := fS_ag hd hg c1 hA
      have hF1 := fS_ru hd c1 hF
      rw [e1, xi_cv z0, xi_jp, rg_drop (by omega), List.findSome?_cons]
      dsimp only
      cases hc : ch_n A n fr p i s with
      | none =>
        rw [if_pos (by simp [bz]), nI_1, fb_none hc]
        obtain ⟨f2, e2, a2⟩ := ih (i + 1) f1 u s (by omega) (by omega) hLu hu0 hgu hA1 hF1 hS1 hV hday
        exact ⟨f2, e2, fS_tr c1 a2⟩
      | some s1 =>
        obtain ⟨v1, v2⟩ := ch_V hA.2.1 hdp (ag_4 hA) hV hc
        rw [if_neg (by simp [bz]), fb_some hc]
        obtain ⟨f2, e2, a2⟩ := se_127_2 hLz0 hLg hg0 hdp hp hd hK (k := i) (J := fun Mj => fo_fx (fun _ _ => none) (lp_Se_firstCourse_2_101 z g u (nI p) (nI d) (z + 7 + 27 * (d - 1)) (z + 16 + 27 * (d - 1))) m Mj (nI i + 1)) (by omega) fo_N 0 f1 s1 (by omega) (by decide) hA1 hF1 (a1 s1 hc) v1 (by omega)
        rw [show (0 : Int32) = nI 0 from rfl, e2, List.drop_zero]
        cases hfi : (List.range 5).find? (fa_n A n fr p E s1) with
        | some j => exact ⟨f2, rfl, fS_tr c1 a2⟩
        | none =>
          rw [Option.map_none]
          dsimp only
          rw [nI_1]
          have hS2 : st_R f2 u s := st_cg hS1 fun a x y => a2 a (by omega) (by omega) (by omega)
          obtain ⟨f3, e3, a3⟩ := ih (i + 1) f2 u s (by omega) (by omega) hLu hu0 hgu (fS_ag hd hg a2 hA1) (fS_ru hd a2 hF1) hS2 hV hday
          exact ⟨f3, e3, fS_tr c1 (fS_tr a2 a3)⟩
theorem se_42_2 {dp : Nat → Nat} {p d : Nat} {E : Sp → Bool} (hLz : se_L M z) (hLg : ag_L M g) (hg : ap_g z g) (hdp : dp_W n A dp) (hp : p < 100) (hd : d = 1 ∨ d = 2) (hK : kp_P M z g n A fr p fn_Se_isKeptByEndOfDay_1 d E) : ∀ m i f u s, i ≤ 5 → 5 - i < m → st_L M u → uS_n d z u → (g + 12 ≤ u ∨ u + 9 ≤ g) → ag_R f g n A → ru_F f (z + 1) fr → st_R f u s → sp_V A n s → sp_d s + d ≤ 60 → ∃ f', fo_fx (fun _ _ => none) (lp_Se_firstCourse_2_42 z g u (nI p) (nI d) (z + 7 + 27 * (d - 1))) m (mm_wi M f) (nI i) = some (fz (match ((List.range 5).drop i).find? (fa_n A n fr p E s) with | some k => some (10 + k) | none => (List.range 5).findSome? (fb_n A n fr p E s)), mm_wi M f') ∧ fS_n d z f f' := by
  have hLz0 := hLz
  have hg0 := hg
  obtain ⟨z0, z1, z2, z3, z4, z5, z6, z7, z8, z9⟩ := hLz
  obtain ⟨y1, y2, y3, y4, y5, y6⟩ := z9 (d - 1) (by omega)
  unfold ap_g at hg
  have hap : ap_2 (z + 7 + 27 * (d - 1)) (z + 1) g := by unfold ap_2 ap_1; omega
  have hdm : nI d - 1 = nI (d - 1) := pk_sub (b := 1) (by omega)
  intro m
  induction m with
  | zero => intro i f u s _ h; omega
  | succ m ih =>
    intro i f u s hi hm hLu hu hgu hA hF hS hV hday
    have hu0 := hu
    unfold uS_n at hu
    rw [fx_s, lp_Se_firstCourse_2_42]
    by_cases h : 5 ≤ i
    · rw [if_pos (show (5 : Int32) ≤ nI i from nI_le (a := 5) h (by omega)), rg_end h, xi_gr z0 z4, hdm, xi_ar (t := 5) z7 (by omega) (by decide) y2]
      exact se_101_2 hLz0 hLg hg0 hdp hp hd hK fo_N 0 f u s (by omega) (by decide) hLu hu0 hgu hA hF hS hV hday
    · rw [if_neg (by rw [show (5 : Int32) = nI 5 from rfl, nI_leI (by omega) (by omega)]; exact h)]
      obtain ⟨f1, e1, a1, b1⟩ := se_changes (p := p) (k := i) hLz0 hLg hLu y4 (by omega) hap hdp hp (by omega) hA hF hS hV
      have c1 := fR_S (d := d) hd (.inl rfl) b1
      have hS1 : st_R f1 u s := st_cg hS fun a x y => c1 a (by omega) (by omega) (by omega)
      have hA1 := fS_ag hd hg c1 hA
      have hF1 := fS_ru hd c1 hF
      have ef : fa_n A n fr p E s i = match ch_n A n fr p i s with | some s1 => E s1 | none => false := rfl
      rw [e1, xi_cv z0, xi_jp, rg_drop (by omega), List.find?_cons, ef]
      dsimp only
      cases hc : ch_n A n fr p i s with
      | none =>
        rw [if_pos (by simp [bz]), nI_1]
        obtain ⟨f2, e2, a2⟩ := ih (i + 1) f1 u s (by omega) (by omega) hLu hu0 hgu hA1 hF1 hS1 hV hday
        exact ⟨f2, e2, fS_tr c1 a2⟩
      | some s2 =>
        obtain ⟨v1, v2⟩ := ch_V hA.2.1 hdp (ag_4 hA) hV hc
        rw [if_neg (by simp [bz])]
        obtain ⟨f2, e2, a2⟩ := hK f1 (z + 7 + 27 * (d - 1)) s2 y4 (by unfold uK_n; omega) (by omega) hA1 hF1 (a1 s2 hc) v1 (by omega)
        rw [e2, xi_cv z0]
        have c2 := fK_S hd a2
        cases hE : E s2 with
        | true =>
          rw [if_neg (by simp [bz]), show (10 : Int32) = nI 10 from rfl, nI_add]
          exact ⟨f2, by simp [hE, fz], fS_tr c1 c2⟩
        | false =>
          rw [if_pos (by simp [bz]), nI_1]
          have hS2 : st_R f2 u s := st_cg hS1 fun a x y => c2 a (by omega) (by omega) (by omega)
          obtain ⟨f3, e3, a3⟩ := ih (i + 1) f2 u s (by omega) (by omega) hLu hu0 hgu (fS_ag hd hg c2 hA1) (fS_ru hd c2 hF1) hS2 hV hday
          exact ⟨f3, by rw [e3]; simp [hE], fS_tr c1 (fS_tr c2 a3)⟩
theorem se_first_2 {dp : Nat → Nat} {p d : Nat} {E : Sp → Bool} (hLz : se_L M z) (hLg : ag_L M g) (hg : ap_g z g) (hdp : dp_W n A dp) (hp : p < 100) (hd : d = 1 ∨ d = 2) (hK : kp_P M z g n A fr p fn_Se_isKeptByEndOfDay_1 d E) : fc_P M z g n A fr p fn_Se_firstCourse_2 d (fc_n A n fr p E) := by
  intro f u s hLu hu hgu hA hF hS hV hday
  have hLz0 := hLz
  obtain ⟨z0, z1, z2, z3, z4, z5, z6, z7, z8, z9⟩ := hLz
  obtain ⟨y1, y2, y3, y4, y5, y6⟩ := z9 (d - 1) (by omega)
  have hdm : nI d - 1 = nI (d - 1) := pk_sub (b := 1) (by omega)
  have hu0 := hu
  unfold uS_n at hu
  rw [fn_Se_firstCourse_2, if_neg (by rw [li_1, nI_ltI (by omega) (by omega)]; omega), if_pos (show nI d ≤ 2 from nI_le (b := 2) (by omega) (by omega))]
  obtain ⟨f1, e1, a1⟩ := hK f u s hLu (by unfold uK_n; omega) hgu hA hF hS hV hday
  rw [e1, xi_cv z0]
  have c1 := fK_S hd a1
  unfold fc_n
  cases hE : E s with
  | true => rw [if_neg (by simp [bz]), if_pos rfl]; exact ⟨f1, rfl, c1⟩
  | false =>
    rw [if_pos (by simp [bz]), if_neg (by simp), xi_gr z0 z3, hdm, xi_ar (t := 5) z6 (by omega) (by decide) y1]
    have hS1 : st_R f1 u s := st_cg hS fun a x y => c1 a (by omega) (by omega) (by omega)
    obtain ⟨f2, e2, a2⟩ := se_42_2 hLz0 hLg hg hdp hp hd hK fo_N 0 f1 u s (by omega) (by decide) hLu hu0 hgu (fS_ag hd hg c1 hA) (fS_ru hd c1 hF) hS1 hV hday
    rw [List.drop_zero] at e2
    exact ⟨f2, e2, fS_tr c1 a2⟩
end
