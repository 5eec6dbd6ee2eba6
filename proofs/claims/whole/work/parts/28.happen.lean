/-! an event in the class -/
section
variable {M : Mm} {q g r n : Nat} {A : Nat → Nat → Nat} {fr : Nat → Bool}
/-- the bans that an event breaches -/
def bn_l (A : Nat → Nat → Nat) (p k : Nat) (l : List Nat) : List Nat := l.filter fun x => ag_for A p k (x % 100)
theorem bn_c {p k c d : Nat} {l : List Nat} : (bn_l A p k l).countP (te_due c d) = if ag_for A p k c = true then l.countP (te_due c d) else 0 := by
  unfold bn_l
  induction l with
  | nil => simp
  | cons x l ih =>
    by_cases h : ag_for A p k (x % 100) = true
    · rw [List.filter_cons_of_pos (p := fun x => ag_for A p k (x % 100)) h, List.countP_cons, List.countP_cons, ih]
      by_cases hx : te_due c d x = true
      · have e : x % 100 = c := by simp [te_due] at hx; exact hx.1
        rw [e] at h
        rw [if_pos h, if_pos h]
      · rw [if_neg hx]; rfl
    · rw [List.filter_cons_of_neg (p := fun x => ag_for A p k (x % 100)) h, List.countP_cons, ih]
      by_cases hx : te_due c d x = true
      · have e : x % 100 = c := by simp [te_due] at hx; exact hx.1
        rw [e] at h
        rw [if_neg h, if_neg h]
      · rw [if_neg hx]; rfl
theorem bn_len {p k : Nat} {l : List Nat} : (bn_l A p k l).length ≤ l.length := List.length_filter_le _ _
theorem nI_z (v : Int32) : v + nI 0 = v := by rw [nI_0, Int32.add_zero]
theorem ru_bb_lp {s : Sp} {W : List Nat} {p k : Nat} (hLg : ag_L M g) (hLr : ru_L M r) (hLq : st_L M q) (hap : ap_2 q r g) (hp : p < 100) (hk : k < 100) (hW8 : W.length ≤ 100) : ∀ m i f, i ≤ n → n - i < m → ag_R f g n A → qu_R f r (W ++ br_q A n 69 (bn_l A p k (sp_B s)) ((List.range n).take i)) → st_R f q (sp_sc s (bc_n (sp_c s) (bn_l A p k (sp_B s)) 69 i)) → ∃ f', fo_fx (fun _ _ _ => none) (lp_Ru_breachBans_6 r g q (nI p) (nI k)) m (mm_wi M f) (nI (du_n i 69 (bn_l A p k (sp_B s)))) (nI i) = some (nI (du_n n 69 (bn_l A p k (sp_B s))), mm_wi M f') ∧ qu_R f' r (W ++ br_q A n 69 (bn_l A p k (sp_B s)) (List.range n)) ∧ st_R f' q (sp_sc s (bc_n (sp_c s) (bn_l A p k (sp_B s)) 69 n)) ∧ fr_R f f' q r := by
  have hL0 := hLq
  have hap0 := hap
  obtain ⟨l0, l1, l2, l3, l4, l5, t1, t2, t3, s1, s2⟩ := hLq
  intro m
  induction m with
  | zero => intro i f _ h; omega
  | succ m ih =>
    intro i f hi hm hA hW hS
    have h10 := hA.2.1
    have hl8 : (sp_B s).length ≤ 8 := hS.2.2.2.1.1.2.1
    have hbn := bn_len (A := A) (p := p) (k := k) (l := sp_B s)
    have hbl := br_len (A := A) (d := 69) (l := bn_l A p k (sp_B s)) h10 i hi
    have hdl := du_le i 69 (bn_l A p k (sp_B s))
    rw [fx_s, lp_Ru_breachBans_6, xi_gi hLg.1, hA.1]
    by_cases h : n ≤ i
    · have hin : i = n := by omega
      subst hin
      have et : (List.range i).take i = List.range i := List.take_of_length_le (by simp)
      rw [et] at hW
      rw [if_pos (nI_le h (by omega))]
      exact ⟨f, rfl, hW, hS, fun a _ _ _ => rfl⟩
    · obtain ⟨r1, r2⟩ := ag_cl hLg hA (c := i) (by omega)
      obtain ⟨c1, c2⟩ := hA.2.2 i (by omega)
      rw [if_neg (by rw [nI_leI (by omega) (by omega)]; exact h), xi_gr hLg.1 hLg.2.1, xi_ar (t := 4) hLg.2.2.1 (by omega) (by decide) r1, cl_isFor r2 c1 c2 hp hk, xi_cv r2, xi_jp]
      dsimp only
      have hbc := bn_c (A := A) (p := p) (k := k) (c := i) (d := 69) (l := sp_B s)
      cases hb : ag_for A p k i with
      | false =>
        rw [hb, if_neg (by simp)] at hbc
        rw [if_pos (by simp [bz]), nI_1]
        have e1 : du_n i 69 (bn_l A p k (sp_B s)) = du_n (i + 1) 69 (bn_l A p k (sp_B s)) := by rw [du_s, hbc, Nat.add_zero]
        rw [e1]
        refine ih (i + 1) f (by omega) (by omega) hA ?_ ?_
        · rw [br_take (by omega), hbc]
          simpa using hW
        · refine st_ext (s := s) hS fun j => ?_
          rw [bc_s, hbc, nI_z]
          simp
      | true =>
        rw [hb, if_pos rfl] at hbc
        rw [if_neg (by simp [bz]), xi_gr l0 l2, show (69 : Int32) = nI 69 from rfl, te_countUntil (c := i) (d := 69) t2 hS.2.2.2.1.1 (by omega) (by omega), xi_cv t2.1, show sp_B (sp_sc s (bc_n (sp_c s) (bn_l A p k (sp_B s)) 69 i)) = sp_B s from rfl, ← hbc]
        have hcl := du_le (i + 1) 69 (bn_l A p k (sp_B s))
        rw [du_s] at hcl
        obtain ⟨f1, e1, a1, b1, d1⟩ := ru_br1 (d := 69) (l := bn_l A p k (sp_B s)) (i := i) (K := fun M64 => fo_nm (nI (du_n i 69 (bn_l A p k (sp_B s))) + nI ((bn_l A p k (sp_B s)).countP (te_due i 69))) fun v72 => fo_fx (fun _ _ _ => none) (lp_Ru_breachBans_6 r g q (nI p) (nI k)) m M64 v72 (nI i + 1)) hLg hLr hL0 hap0 (by omega) hA hW hS (by rw [List.length_append]; omega) (by omega)
        rw [e1, xi_nm, nI_add, nI_1, ← du_s]
        rw [List.append_assoc, ← br_take (by omega)] at a1
        obtain ⟨f2, e2, a2, b2, d2⟩ := ih (i + 1) f1 (by omega) (by omega) (fr_ag hap0 d1 hA) a1 (st_ext (s := s) b1 fun j => bc_s.symm)
        exact ⟨f2, e2, a2, b2, fr_tr d1 d2⟩
theorem ru_breachBans {f : Nat → Nat → Int32} {s : Sp} {W : List Nat} {p k : Nat} (hLg : ag_L M g) (hLr : ru_L M r) (hLq : st_L M q) (hap : ap_2 q r g) (hp : p < 100) (hk : k < 100) (hW8 : W.length ≤ 100) (hA : ag_R f g n A) (hW : qu_R f r W) (hS : st_R f q s) : ∃ f', fn_Ru_breachBans (mm_wi M f) r g q (nI p) (nI k) = some (nI (du_n n 69 (bn_l A p k (sp_B s))), mm_wi M f') ∧ qu_R f' r (W ++ br_q A n 69 (bn_l A p k (sp_B s)) (List.range n)) ∧ st_R f' q (sp_sc s (bc_n (sp_c s) (bn_l A p k (sp_B s)) 69 n)) ∧ fr_R f f' q r := by
  have h10 := hA.2.1
  obtain ⟨f1, e1, a1⟩ := ru_bb_lp (s := s) (W := W) hLg hLr hLq hap hp hk hW8 fo_N 0 f (by omega) (by show _ < 2000; omega) hA (by simpa [br_q] using hW) (st_ext (s := s) (v := sp_c s) hS fun j => by simp [bc_n])
  rw [du_0] at e1
  exact ⟨f1, e1, a1⟩
def fi_n (A : Nat → Nat → Nat) (p k : Nat) (l : List Nat) : Option Nat := l.findIdx? fun x => ag_for A p k (x % 100)
theorem fz_n : fz none = -1 := rfl
theorem fz_s {i : Nat} : fz (some i) = nI i := rfl
theorem fi_lt {p k i : Nat} {l : List Nat} (h : fi_n A p k l = some i) : i < l.length := by
  unfold fi_n at h
  exact (List.findIdx?_eq_some_iff_getElem.mp h).1
/-- the fulfilment of a duty -/
def sp_f1 (A : Nat → Nat → Nat) (n p k : Nat) (s : Sp) : Sp × List Nat := match fi_n A p k (sp_D s) with | none => (s, []) | some i => (sp_sD s ((sp_D s).take i ++ (sp_D s).drop (i + 1)), on_l A n 3 ((sp_D s).getD i 0 % 100))
theorem rm_S {l : List Nat} {i : Nat} (h : te_S l) : te_S (l.take i ++ l.drop (i + 1)) := by
  rw [← List.eraseIdx_eq_take_drop_succ]
  exact List.Pairwise.sublist (List.eraseIdx_sublist l i) h
theorem ru_fulfil {f : Nat → Nat → Int32} {s : Sp} {W : List Nat} {p k : Nat} (hLg : ag_L M g) (hLr : ru_L M r) (hLq : st_L M q) (hap : ap_2 q r g) (hp : p < 100) (hk : k < 100) (hW8 : W.length ≤ 200) (hA : ag_R f g n A) (hW : qu_R f r W) (hS : st_R f q s) (hv : ∀ x ∈ sp_D s, x % 100 < n) : ∃ f', fn_Ru_fulfilDuty (mm_wi M f) r g q (nI p) (nI k) = some (0, mm_wi M f') ∧ qu_R f' r (W ++ (sp_f1 A n p k s).2) ∧ st_R f' q (sp_f1 A n p k s).1 ∧ fr_R f f' q r := by
  have hL0 := hLq
  obtain ⟨l0, l1, l2, l3, l4, l5, t1, t2, t3, s1, s2⟩ := hLq
  have p1 := hap.1
  unfold ap_1 at p1
  rw [fn_Ru_fulfilDuty, xi_gr l0 l1, ag_find hLg hA t1 hS.2.2.1.1 hv hp hk, xi_cv hLg.1]
  unfold sp_f1
  have h10 := hA.2.1
  have h8 := hS.2.2.1.1.2.1
  cases hi : fi_n A p k (sp_D s) with
  | none =>
    rw [show (sp_D s).findIdx? (fun x => ag_for A p k (x % 100)) = none from hi, fz_n, if_pos rfl]
    exact ⟨f, rfl, by simpa using hW, hS, fun a _ _ _ => rfl⟩
  | some i =>
    have hil := fi_lt hi
    obtain ⟨x, hx⟩ : ∃ x, (sp_D s)[i]? = some x := ⟨_, List.getElem?_eq_getElem hil⟩
    have hxn := hv x (te_mem hx)
    have hm1 : ∀ i : Nat, i < 8 → ¬ nI i = (-1 : Int32) := by decide +kernel
    rw [show (sp_D s).findIdx? (fun x => ag_for A p k (x % 100)) = some i from hi, fz_s]
    dsimp only
    rw [if_neg (hm1 i (by omega)), xi_gr l0 l1, te_clauseAt t1 hS.2.2.1.1 hx, xi_cv t1.1]
    have hgd : (sp_D s).getD i 0 = x := by simp [List.getD, hx]
    rw [hgd]
    obtain ⟨f1, e1, a1, b1⟩ := ru_awaitAllOn (t := 3) (k := x % 100) (T := 1) hLg hLr hap.2.2 (.inr rfl) (by omega) (by omega) (by omega) hA hW
    rw [show (102 : Int32) = tc_n 3 from rfl, show (1 : Int32) = nI 1 from rfl, e1, xi_cv hLr.1, xi_gr l0 l1]
    have hb1 : fr_R f f1 q r := fun a _ x y => b1 a x y
    have hS1 : st_R f1 q s := st_cg hS fun a x y => b1 a (by omega) (by omega)
    obtain ⟨f2, e2, a2, b2⟩ := te_remove (i := i) (m := 1) t1 hS1.2.2.1.1 (by omega)
    rw [e2, xi_cv t1.1]
    refine ⟨f2, rfl, ?_, st_sD hS1 ⟨a2, rm_S hS.2.2.1.2⟩ b2, fr_tr hb1 fun a x y z => b2 a (by omega) (by omega)⟩
    rw [show (List.replicate 1 (on_l A n 3 (x % 100))).flatten = on_l A n 3 (x % 100) by simp] at a1
    exact qu_cg a1 (b2 _ (by omega) (by omega)) (b2 _ (by omega) (by omega))
/-- an event ahead of its run: the state, what waits, how many breaches -/
def sp_h1 (A : Nat → Nat → Nat) (n p k : Nat) (s : Sp) : Sp × List Nat × Nat :=
  if (fi_n A p k (sp_B s)).isSome = true then (match fi_n A p k (sp_P s) with
    | some i => (sp_sP s ((sp_P s).take i ++ (sp_P s).drop (i + 1)), ev_l A n p k, 0)
    | none => (sp_sc s (bc_n (sp_c s) (bn_l A p k (sp_B s)) 69 n), ev_l A n p k ++ br_q A n 69 (bn_l A p k (sp_B s)) (List.range n), du_n n 69 (bn_l A p k (sp_B s))))
  else (s, ev_l A n p k, 0)
def sp_w (A : Nat → Nat → Nat) (n p k : Nat) (s : Sp) : List Nat := (sp_h1 A n p k s).2.1 ++ (sp_f1 A n p k (sp_h1 A n p k s).1).2
def sp_m (A : Nat → Nat → Nat) (n p k : Nat) (s : Sp) : Nat := (sp_h1 A n p k s).2.2
def sp_ev (A : Nat → Nat → Nat) (n : Nat) (fr : Nat → Bool) (p k : Nat) (s : Sp) : Option Sp := sp_run A fr 800 (sp_w A n p k s) (sp_f1 A n p k (sp_h1 A n p k s).1).1
def ev_v (A : Nat → Nat → Nat) (n : Nat) (fr : Nat → Bool) (p k : Nat) (s : Sp) : Int32 := if (sp_ev A n fr p k s).isSome = true then nI (sp_m A n p k s) else -2
theorem ev_len (A : Nat → Nat → Nat) (n p k : Nat) : (ev_l A n p k).length ≤ n := by
  have := List.length_filter_le (ag_ev A p k) (List.range n)
  rw [List.length_range] at this
  exact this
theorem h1_D {p k : Nat} {s : Sp} : sp_D (sp_h1 A n p k s).1 = sp_D s := by
  unfold sp_h1
  split
  · split <;> rfl
  · rfl
theorem ru_hp_tail {f : Nat → Nat → Int32} {s : Sp} {W : List Nat} {p k : Nat} {dp : Nat → Nat} (hLg : ag_L M g) (hLr : ru_L M r) (hLq : st_L M q) (hap : ap_2 q r g) (hdp : dp_W n A dp) (hp : p < 100) (hk : k < 100) (hW8 : W.length ≤ 200) (hA : ag_R f g n A) (hF : ru_F f r fr) (hW : qu_R f r W) (hS : st_R f q s) (hv : ∀ x ∈ sp_D s, x % 100 < n) (hQ : ∀ c ∈ W ++ (sp_f1 A n p k s).2, c < n) (h8 : ph_n dp (W ++ (sp_f1 A n p k s).2) ≤ 800) (v : Int32) : ∃ f', (fo_cv (mm_wi M f) 3 r (fn_Ru_fulfilDuty (mm_wi M f) r g q (nI p) (nI k)) fun _ M112 => fo_cv M112 3 r (fn_Ru_runWaiting M112 r g q) fun v118 M118 => if v118 = 0 then some ((-2), M118) else some (v, M118)) = some (if (sp_run A fr 800 (W ++ (sp_f1 A n p k s).2) (sp_f1 A n p k s).1).isSome = true then v else -2, mm_wi M f') ∧ (∀ s', sp_run A fr 800 (W ++ (sp_f1 A n p k s).2) (sp_f1 A n p k s).1 = some s' → st_R f' q s') ∧ fr_R f f' q r := by
  obtain ⟨f1, e1, a1, b1, c1⟩ := ru_fulfil hLg hLr hLq hap hp hk hW8 hA hW hS hv
  rw [e1, xi_cv hLr.1]
  obtain ⟨f2, e2, a2, b2⟩ := ru_run hLg hLr hLq hap hdp hQ h8 (fr_ag hap c1 hA) (fr_ru hap.1 c1 hF) a1 b1
  rw [e2, xi_cv hLr.1]
  refine ⟨f2, ?_, a2, fr_tr c1 b2⟩
  cases (sp_run A fr 800 (W ++ (sp_f1 A n p k s).2) (sp_f1 A n p k s).1).isSome
  · rw [if_pos (by simp [bz]), if_neg (by simp)]
  · rw [if_neg (by simp [bz]), if_pos rfl]
theorem fz_ne {l : List Nat} {p k i : Nat} (h : fi_n A p k l = some i) (h8 : l.length ≤ 8) : ¬ nI i = (-1 : Int32) := by
  have h1 : ∀ i : Nat, i < 8 → ¬ nI i = (-1 : Int32) := by decide +kernel
  have := fi_lt h
  exact h1 i (by omega)
theorem ru_hp_lp {dp : Nat → Nat} {s : Sp} {p k : Nat} (hLg : ag_L M g) (hLr : ru_L M r) (hLq : st_L M q) (hap : ap_2 q r g) (hdp : dp_W n A dp) (hp : p < 100) (hk : k < 100) (hv : ∀ x ∈ sp_D s, x % 100 < n) (hvB : ∀ x ∈ sp_B s, x % 100 < n) (hvP : ∀ x ∈ sp_P s, x % 100 < n) (hQ : ∀ c ∈ sp_w A n p k s, c < n) (h8 : ph_n dp (sp_w A n p k s) ≤ 800) : ∀ m i f W, i ≤ n → n - i < m → W ++ ((List.range n).drop i).filter (ag_ev A p k) = ev_l A n p k → ag_R f g n A → ru_F f r fr → qu_R f r W → st_R f q s → ∃ f', fo_fx (fun _ _ => none) (lp_Ru_happen_8 r g q (nI p) (nI k)) m (mm_wi M f) (nI i) = some (ev_v A n fr p k s, mm_wi M f') ∧ (∀ s', sp_ev A n fr p k s = some s' → st_R f' q s') ∧ fr_R f f' q r := by
  have hL0 := hLq
  have hap0 := hap
  obtain ⟨l0, l1, l2, l3, l4, l5, t1, t2, t3, s1, s2⟩ := hLq
  obtain ⟨p1, p2, p3⟩ := hap
  unfold ap_1 at p1
  intro m
  induction m with
  | zero => intro i f W _ h; omega
  | succ m ih =>
    intro i f W hi hm hWe hA hF hW hS
    have h10 := hA.2.1
    have hel := ev_len A n p k
    have hWl : W.length ≤ (ev_l A n p k).length := by rw [← hWe, List.length_append]; omega
    rw [fx_s, lp_Ru_happen_8, xi_gi hLg.1, hA.1]
    by_cases h : n ≤ i
    · rw [rg_end h, List.filter_nil, List.append_nil] at hWe
      subst hWe
      rw [if_pos (nI_le h (by omega)), xi_gr l0 l2, ag_find hLg hA t2 hS.2.2.2.1.1 hvB hp hk, xi_cv hLg.1, xi_jp, show (sp_B s).findIdx? (fun x => ag_for A p k (x % 100)) = fi_n A p k (sp_B s) from rfl]
      dsimp only
      unfold ev_v sp_ev sp_m
      unfold sp_w at hQ h8 ⊢
      cases hB : fi_n A p k (sp_B s) with
      | none =>
        have e : sp_h1 A n p k s = (s, ev_l A n p k, 0) := by unfold sp_h1; rw [hB]; rfl
        rw [e] at hQ h8 ⊢
        rw [fz_n, if_pos rfl]
        exact ru_hp_tail hLg hLr hL0 hap0 hdp hp hk (by omega) hA hF hW hS hv hQ h8 0
      | some ib =>
        rw [fz_s, if_neg (fz_ne hB hS.2.2.2.1.1.2.1), xi_gr l0 l3, ag_find hLg hA t3 hS.2.2.2.2.1.1 hvP hp hk, xi_cv hLg.1, show (sp_P s).findIdx? (fun x => ag_for A p k (x % 100)) = fi_n A p k (sp_P s) from rfl]
        cases hP : fi_n A p k (sp_P s) with
        | none =>
          have e : sp_h1 A n p k s = (sp_sc s (bc_n (sp_c s) (bn_l A p k (sp_B s)) 69 n), ev_l A n p k ++ br_q A n 69 (bn_l A p k (sp_B s)) (List.range n), du_n n 69 (bn_l A p k (sp_B s))) := by unfold sp_h1; rw [hB, hP]; rfl
          rw [e] at hQ h8 ⊢
          rw [fz_n, if_pos rfl]
          obtain ⟨f1, e1, a1, b1, c1⟩ := ru_breachBans hLg hLr hL0 hap0 hp hk (by omega) hA hW hS
          rw [e1, xi_cv hLr.1]
          have hbl := br_len (A := A) (d := 69) (l := bn_l A p k (sp_B s)) h10 n (by omega)
          rw [List.take_of_length_le (by simp)] at hbl
          have hdl := du_le n 69 (bn_l A p k (sp_B s))
          have hbn := bn_len (A := A) (p := p) (k := k) (l := sp_B s)
          have h8B := hS.2.2.2.1.1.2.1
          obtain ⟨f2, e2, a2, b2⟩ := ru_hp_tail hLg hLr hL0 hap0 hdp hp hk (by rw [List.length_append]; omega) (fr_ag hap0 c1 hA) (fr_ru hap0.1 c1 hF) a1 b1 hv hQ h8 (nI (du_n n 69 (bn_l A p k (sp_B s))))
          exact ⟨f2, e2, a2, fr_tr c1 b2⟩
        | some ip =>
          have hil := fi_lt hP
          have e : sp_h1 A n p k s = (sp_sP s ((sp_P s).take ip ++ (sp_P s).drop (ip + 1)), ev_l A n p k, 0) := by unfold sp_h1; rw [hB, hP]; rfl
          rw [e] at hQ h8 ⊢
          rw [fz_s, if_neg (fz_ne hP hS.2.2.2.2.1.1.2.1), xi_gr l0 l3]
          obtain ⟨f1, e1, a1, b1⟩ := te_remove (i := ip) (m := 1) t3 hS.2.2.2.2.1.1 (by omega)
          rw [show (1 : Int32) = nI 1 from rfl, e1, xi_cv t3.1]
          have c1 : fr_R f f1 q r := fun a x y z => b1 a (by omega) (by omega)
          obtain ⟨f2, e2, a2, b2⟩ := ru_hp_tail hLg hLr hL0 hap0 hdp hp hk (by omega) (fr_ag hap0 c1 hA) (fr_ru hap0.1 c1 hF) (qu_cg hW (b1 _ (by omega) (by omega)) (b1 _ (by omega) (by omega))) (st_sP hS ⟨a1, rm_S hS.2.2.2.2.1.2⟩ b1) hv hQ h8 0
          exact ⟨f2, e2, a2, fr_tr c1 b2⟩
    · obtain ⟨r1, r2⟩ := ag_cl hLg hA (c := i) (by omega)
      obtain ⟨c1, c2⟩ := hA.2.2 i (by omega)
      rw [if_neg (by rw [nI_leI (by omega) (by omega)]; exact h), xi_gr hLg.1 hLg.2.1, xi_ar (t := 4) hLg.2.2.1 (by omega) (by decide) r1, cl_isOnEvent r2 c1 c2 hp hk, xi_cv r2, xi_jp]
      dsimp only
      rw [rg_drop (by omega)] at hWe
      cases hb : ag_ev A p k i with
      | false =>
        rw [List.filter_cons_of_neg (by simp [hb])] at hWe
        rw [if_pos (by simp [bz]), nI_1]
        exact ih (i + 1) f W (by omega) (by omega) hWe hA hF hW hS
      | true =>
        rw [List.filter_cons_of_pos hb] at hWe
        rw [if_neg (by simp [bz])]
        obtain ⟨f1, e1, a1, b1⟩ := ru_await (c := i) hLr hW (by omega)
        rw [e1, xi_cv hLr.1, nI_1]
        have b2 : fr_R f f1 q r := fun a _ x y => b1 a x y
        obtain ⟨f2, e2, a2, b3⟩ := ih (i + 1) f1 (W ++ [i]) (by omega) (by omega) (by rw [List.append_assoc]; exact hWe) (fr_ag hap0 b2 hA) (fr_ru hap0.1 b2 hF) a1 (st_cg hS fun a x y => b1 a (by omega) (by omega))
        exact ⟨f2, e2, a2, fr_tr b2 b3⟩
theorem ru_happen {f : Nat → Nat → Int32} {dp : Nat → Nat} {s : Sp} {p k : Nat} (hLg : ag_L M g) (hLr : ru_L M r) (hLq : st_L M q) (hap : ap_2 q r g) (hdp : dp_W n A dp) (hp : p < 100) (hk : k < 100) (hv : ∀ x ∈ sp_D s, x % 100 < n) (hvB : ∀ x ∈ sp_B s, x % 100 < n) (hvP : ∀ x ∈ sp_P s, x % 100 < n) (hQ : ∀ c ∈ sp_w A n p k s, c < n) (h8 : ph_n dp (sp_w A n p k s) ≤ 800) (hA : ag_R f g n A) (hF : ru_F f r fr) (hS : st_R f q s) : ∃ f', fn_Ru_happen (mm_wi M f) r g q (nI p) (nI k) = some (ev_v A n fr p k s, mm_wi M f') ∧ (∀ s', sp_ev A n fr p k s = some s' → st_R f' q s') ∧ fr_R f f' q r := by
  have h10 := hA.2.1
  have p1 := hap.1
  unfold ap_1 at p1
  rw [fn_Ru_happen, xi_pi hLr.1]
  have b2 : fr_R f (up_2 f r 2 0) q r := fun a _ x y => up_oa x
  obtain ⟨f1, e1, a1, b1⟩ := ru_hp_lp (s := s) hLg hLr hLq hap hdp hp hk hv hvB hvP hQ h8 fo_N 0 (up_2 f r 2 0) [] (by omega) (by show _ < 2000; omega) (by rw [List.drop_zero, List.nil_append]; rfl) (fr_ag hap b2 hA) (fr_ru hap.1 b2 hF) (qu_nil up_e) (st_cg hS fun a x y => up_oa (by omega))
  exact ⟨f1, e1, a1, fr_tr b2 b1⟩
end
