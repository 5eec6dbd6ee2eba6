/-! calls that may throw: what comes of them -/
def rq_t (th : Bool) (k : Nat) (v : Int32) (M : Mm) : Rr := if k = 0 then fo_rt th v M else fo_th th k M
def mr_t (k : Nat) (v : Int32) (M : Mm) (u : Nat) : Mm := if k = 0 then mm_pl M u 0 v.toInt64 else mm_un (mm_th M k)
section
variable {M M1 : Mm} {x u k : Nat} {v : Int32}
theorem rq_0 {th : Bool} : rq_t th 0 v M = fo_rt th v M := if_pos rfl
theorem rq_k {th : Bool} (h : k ≠ 0) : rq_t th k v M = fo_th th k M := if_neg h
theorem mr_s : mm_s (mr_t k v M u) = mm_s M := by unfold mr_t; split <;> rfl
theorem mr_r : mm_r (mr_t k v M u) = mm_r M := by unfold mr_t; split <;> rfl
theorem mr_i : mm_i (mr_t k v M u) = mm_i M := by unfold mr_t; split <;> rfl
theorem mr_l (h : k = 0) : mm_l (mr_t k v M u) u 0 = v.toInt64 := by
  unfold mr_t
  rw [if_pos h]
  show up_2 (mm_l M) u 0 v.toInt64 u 0 = _
  exact if_pos ⟨rfl, rfl⟩
theorem try_o {Kx : Nat → Mm → Rr} {F : Bool → Rr} (hs : mm_s M x = (1, 8)) (hu : mm_s M1 u = (5, 1)) (hF : ∀ th, F th = rq_t th k v M1) : fo_try M 8 x (F false) (F true) (fun v M0 => fo_sl M0 u 0 v.toInt64 fun M2 => some (0, M2)) Kx = if k = 0 then some (0, mr_t k v M1 u) else Kx k (mr_t k v M1 u) := by
  unfold fo_try
  rw [if_pos hs, hF, hF]
  by_cases h : k = 0
  · subst h
    rw [rq_0, if_pos rfl, show fo_rt false v M1 = some (v, M1) from rfl]
    dsimp only
    unfold fo_sl
    rw [hu, if_pos ⟨rfl, by decide⟩]
    unfold mr_t
    rw [if_pos rfl]
    rfl
  · rw [rq_k h, rq_k h, if_neg h, show fo_th false k M1 = none from rfl, show fo_th true k M1 = some (0, mm_th M1 k) from rfl]
    dsimp only
    unfold mr_t
    rw [if_neg h]
    rfl
end
/-! layouts over memories that differ in the object's own references -/
theorem xi_pr {M : Mm} {f : Nat → Nat → Int32} {ci q k v : Nat} {K : Mm → Rr} (h : mm_s M q = (1, ci)) : fo_pr (mm_wi M f) ci q k v K = K (mm_wi (mm_pr M q k (some v)) f) := if_pos h
section
variable {M M' : Mm} {x g h m : Nat}
theorem te_Lc {q : Nat} (hL : te_L M q) (hs : mm_s M' = mm_s M) (hr : ∀ a, a ≠ x → mm_r M' a = mm_r M a) (hq : x < q) : te_L M' q := by
  unfold te_L at *
  rw [hs, hr q (by omega)]; exact hL
theorem st_Lc {q : Nat} (hL : st_L M q) (hs : mm_s M' = mm_s M) (hr : ∀ a, a ≠ x → mm_r M' a = mm_r M a) (hq : x < q) : st_L M' q := by
  obtain ⟨l0, l1, l2, l3, l4, l5, t1, t2, t3, s1, s2⟩ := hL
  unfold st_L
  rw [hs, hr q (by omega)]
  exact ⟨l0, l1, l2, l3, l4, l5, te_Lc t1 hs hr (by omega), te_Lc t2 hs hr (by omega), te_Lc t3 hs hr (by omega), s1, s2⟩
theorem ag_Lc {q : Nat} (hL : ag_L M q) (hs : mm_s M' = mm_s M) (hr : ∀ a, a ≠ x → mm_r M' a = mm_r M a) (hq : x < q) : ag_L M' q := by
  unfold ag_L at *
  rw [hs, hr q (by omega), hr (q + 1) (by omega)]; exact hL
theorem hi_Lc {q : Nat} (hL : hi_L M q) (hs : mm_s M' = mm_s M) (hr : ∀ a, a ≠ x → mm_r M' a = mm_r M a) (hq : x < q) : hi_L M' q := by
  obtain ⟨l0, l1, l2, l3⟩ := hL
  unfold hi_L
  rw [hs, hr q (by omega), hr (q + 1) (by omega)]
  exact ⟨l0, l1, l2, fun i hi => ⟨(l3 i hi).1, st_Lc (l3 i hi).2 hs hr (by omega)⟩⟩
theorem ru_Lc {q : Nat} (hL : ru_L M q) (hs : mm_s M' = mm_s M) (hr : ∀ a, a ≠ x → mm_r M' a = mm_r M a) (hq : x < q) : ru_L M' q := by
  unfold ru_L at *
  rw [hs, hr q (by omega)]; exact hL
theorem se_Lc {q : Nat} (hL : se_L M q) (hs : mm_s M' = mm_s M) (hr : ∀ a, a ≠ x → mm_r M' a = mm_r M a) (hq : x < q) : se_L M' q := by
  obtain ⟨l0, l1, l2, l3, l4, l5, l6, l7, l8, l9⟩ := hL
  unfold se_L
  rw [hs, hr q (by omega), hr (q + 4) (by omega), hr (q + 5) (by omega), hr (q + 6) (by omega)]
  refine ⟨l0, l1, ru_Lc l2 hs hr (by omega), l3, l4, l5, l6, l7, l8, fun i hi => ?_⟩
  obtain ⟨a1, a2, a3, a4, a5, a6⟩ := l9 i hi
  exact ⟨a1, a2, a3, st_Lc a4 hs hr (by omega), st_Lc a5 hs hr (by omega), st_Lc a6 hs hr (by omega)⟩
theorem tx_Lc {q : Nat} (hL : tx_L M q) (hs : mm_s M' = mm_s M) (hr : ∀ a, a ≠ x → mm_r M' a = mm_r M a) (hq : x < q) : tx_L M' q := by
  unfold tx_L at *
  rw [hs, hr q (by omega)]; exact hL
theorem mo_Lc (hL : mo_L M m) (hs : mm_s M' = mm_s M) (hr : mm_r M' m = mm_r M m) : mo_L M' m := by
  unfold mo_L at *
  rw [hs, hr]; exact hL
theorem sl_Lc (hL : sl_L M x g h) (hs : mm_s M' = mm_s M) (hr : mm_r M' = mm_r M) : sl_L M' x g h := by
  have hr' : ∀ a, a ≠ x → mm_r M' a = mm_r M a := fun a _ => by rw [hr]
  obtain ⟨l0, l1, l2, l3, l4, l5, l6, l7, l8, c1, c2, c3, c4, c5, c6, c7, c8⟩ := hL
  unfold sl_L
  rw [hs, hr]
  exact ⟨l0, l1, l2, l3, l4, l5, l6, l7, l8, tx_Lc c1 hs hr' (by omega), ag_Lc c2 hs hr' (by omega), ag_Lc c3 hs hr' (by omega), st_Lc c4 hs hr' (by omega), st_Lc c5 hs hr' (by omega), hi_Lc c6 hs hr' (by omega), se_Lc c7 hs hr' (by omega), c8⟩
theorem sl_Lw (hL : sl_L M x g h) : sl_L (mm_pr (mm_pr M x 3 (some h)) x 4 (some g)) x h g := by
  have hs : mm_s (mm_pr (mm_pr M x 3 (some h)) x 4 (some g)) = mm_s M := rfl
  have hr' : ∀ a, a ≠ x → mm_r (mm_pr (mm_pr M x 3 (some h)) x 4 (some g)) a = mm_r M a := fun a ha => funext fun b => by
    show up_2 (up_2 (mm_r M) x 3 (some h)) x 4 (some g) a b = _
    unfold up_2
    rw [if_neg fun e => ha e.1, if_neg fun e => ha e.1]
  have hk : ∀ k, k ≠ 3 → k ≠ 4 → mm_r (mm_pr (mm_pr M x 3 (some h)) x 4 (some g)) x k = mm_r M x k := fun k h3 h4 => by
    show up_2 (up_2 (mm_r M) x 3 (some h)) x 4 (some g) x k = _
    unfold up_2
    rw [if_neg fun e => h4 e.2, if_neg fun e => h3 e.2]
  obtain ⟨l0, l1, l2, l3, l4, l5, l6, l7, l8, c1, c2, c3, c4, c5, c6, c7, c8⟩ := hL
  exact ⟨l0, by rw [hk 0 (by omega) (by omega)]; exact l1, (by show up_2 (up_2 (mm_r M) x 3 (some h)) x 4 (some g) x 3 = _; unfold up_2; rw [if_neg (by omega), if_pos ⟨rfl, rfl⟩]), (by show up_2 (up_2 (mm_r M) x 3 (some h)) x 4 (some g) x 4 = _; unfold up_2; rw [if_pos ⟨rfl, rfl⟩]), by rw [hk 5 (by omega) (by omega)]; exact l4, by rw [hk 6 (by omega) (by omega)]; exact l5, by rw [hk 7 (by omega) (by omega)]; exact l6, by rw [hk 8 (by omega) (by omega)]; exact l7, by rw [hk 9 (by omega) (by omega)]; exact l8, tx_Lc c1 hs hr' (by omega), ag_Lc c3 hs hr' (by omega), ag_Lc c2 hs hr' (by omega), st_Lc c4 hs hr' (by omega), st_Lc c5 hs hr' (by omega), hi_Lc c6 hs hr' (by omega), se_Lc c7 hs hr' (by omega), by omega⟩
theorem sl_Lw_r (a : Nat) (ha : a ≠ x) : mm_r (mm_pr (mm_pr M x 3 (some h)) x 4 (some g)) a = mm_r M a := funext fun b => by
  show up_2 (up_2 (mm_r M) x 3 (some h)) x 4 (some g) a b = _
  unfold up_2
  rw [if_neg fun e => ha e.1, if_neg fun e => ha e.1]
end
/-! event and nextDay in the class -/
def oc_ev (fr : Nat → Bool) (o : So) (p q : Int32) : Nat × Int32 × So := match o with
  | none => (1, 0, none)
  | some (n, A, S, H) => match pv_n 3 p with
    | none => (2, 0, some (n, A, S, H))
    | some a => match pv_n 5 q with
      | none => (2, 0, some (n, A, S, H))
      | some b => match sp_ev A n fr a b S with
        | none => (3, 0, some (n, A, S, H))
        | some S' => (0, nI (sp_m A n a b S), some (n, A, S', (S :: H).take 12))
def oc_nd (fr : Nat → Bool) (o : So) : Nat × Int32 × So := match o with
  | none => (1, 0, none)
  | some (n, A, S, H) => if sp_d S = 60 then (1, 0, some (n, A, S, H)) else match sp_end A n fr S with
    | none => (3, 0, some (n, A, S, H))
    | some S' => (0, nI (du_n n (sp_d S) (sp_D S)), some (n, A, S', (S :: H).take 12))
/-- what event, nextDay and the searches leave of the class's memory -/
def fp_R (f f' : Nat → Nat → Int32) (x : Nat) : Prop := ∀ a, (a < x ∨ x + 216 ≤ a ∨ a = x + 1 ∨ a = x + 2) → f' a = f a
section
variable {M : Mm} {f : Nat → Nat → Int32} {x g h n : Nat} {E : Int32} {fr : Nat → Bool} {o : So} {A : Nat → Nat → Nat} {S S' : Sp} {H : List Sp} {dp : Nat → Nat}
theorem nI_m2 {k : Nat} (h : k ≤ 100) : ¬ nI k = (-2 : Int32) := by
  have h1 : ∀ k, k ≤ 100 → ¬ nI k = (-2 : Int32) := by decide +kernel
  exact h1 k h
theorem pm_move (hL : sl_L M x g h) (hS : st_R f (x + 27) S) (hS' : st_R f (x + 36) S') (hH : hi_R f (x + 45) H) : ∃ f', fn_Pm_moveToTrial (mm_wi M f) x = some (0, mm_wi M f') ∧ st_R f' (x + 27) S' ∧ hi_R f' (x + 45) ((S :: H).take 12) ∧ ∀ a, (a < x + 27 ∨ x + 36 ≤ a) → (a < x + 45 ∨ x + 155 ≤ a) → f' a = f a := by
  obtain ⟨l0, -, -, -, l5, l6, l7, -, -, -, -, -, c5, c6, c7, -⟩ := hL
  obtain ⟨f1, e1, e2, e3⟩ := hi_keep (u := x + 27) c7 c5 hH hS (by omega)
  obtain ⟨f2, d1, d2, d3⟩ := st_copyFrom (q := x + 27) (p := x + 36) c5 c6 (st_cg hS' fun a q1 q2 => e3 a (by omega)) (by omega)
  rw [fn_Pm_moveToTrial, xi_gr l0 l7, xi_gr l0 l5, e1, xi_cv c7.1, xi_gr l0 l5, xi_gr l0 l6, d1, xi_cv c5.1]
  exact ⟨f2, rfl, d2, hi_cg e2 fun a q1 q2 => d3 a (by omega), fun a q1 q2 => by rw [d3 a (by omega), e3 a (by omega)]⟩
theorem pm_event {p q : Int32} (hL : sl_L M x g h) (hP : pq_R f x g E fr o) (hV : vo_P o) : ∃ f', (∀ th, fn_Pm_event th (mm_wi M f) x p q = rq_t th (oc_ev fr o p q).1 (oc_ev fr o p q).2.1 (mm_wi M f')) ∧ pq_R f' x g E fr (oc_ev fr o p q).2.2 ∧ fp_R f f' x := by
  have hP0 := hP
  have hL0 := hL
  obtain ⟨l0, -, l3, -, l5, l6, -, -, l9, -, ga, -, c5, c6, c7, lz, lgh⟩ := hL
  obtain ⟨a1, a2, a3, a4, a5⟩ := hP
  cases o with
  | none =>
    refine ⟨f, fun th => ?_, hP0, fun _ _ => rfl⟩
    rw [fn_Pm_event, xi_gi l0, a2, if_pos (by rfl)]; rfl
  | some y =>
    obtain ⟨n, A, S, H⟩ := y
    obtain ⟨hA, hS, hH⟩ := a5 n A S H rfl
    obtain ⟨hV1, hV2, dp, hdp⟩ := hV n A S H rfl
    unfold oc_ev
    dsimp only
    cases hp : pv_n 3 p with
    | none =>
      refine ⟨f, fun th => ?_, hP0, fun _ _ => rfl⟩
      rw [fn_Pm_event, xi_gi l0, a2, if_neg (by exact bz_t rfl), pm_isParty, xi_cl, xi_jp, hp, if_pos (by rfl)]; rfl
    | some a =>
      cases hq : pv_n 5 q with
      | none =>
        refine ⟨f, fun th => ?_, hP0, fun _ _ => rfl⟩
        rw [fn_Pm_event, xi_gi l0, a2, if_neg (by exact bz_t rfl), pm_isParty, xi_cl, xi_jp, hp, if_neg (by exact bz_t rfl), pm_isKind, xi_cl, hq, if_pos (by rfl)]; rfl
      | some b =>
        obtain ⟨rfl, ha⟩ := pv_s hp
        obtain ⟨rfl, hb⟩ := pv_s hq
        dsimp only
        obtain ⟨f1, e1, e2, e3⟩ := st_copyFrom (q := x + 36) (p := x + 27) c6 c5 hS (by omega)
        have hap : ap_2 (x + 36) (x + 156) g := by unfold ap_2 ap_1; omega
        obtain ⟨f2, d1, d2, d3⟩ := ru_happen (f := f1) (r := x + 156) (q := x + 36) (p := a) (k := b) ga lz.2.2.1 c6 hap hdp (by omega) (by omega) (fun y hy => (hV1.1 y hy).1) (fun y hy => (hV1.2.1 y hy).1) (fun y hy => (hV1.2.2.1 y hy).1) (fun c hc => sp_w_lt hc) (sp_w_ph hdp hA.2.1 hV1.2.2.2.2.1) (ag_cg hA fun y q1 q2 => e3 y (by omega)) (ru_cg a3 (e3 _ (by omega))) e2
        have hpq2 : pq_R f2 x g E fr (some (n, A, S, H)) := by
          refine pq_cg hP0 ?_ ?_ ?_ (fun y q1 q2 => ?_) (fun y q1 q2 => ?_) (fun y q1 q2 => ?_)
          · rw [d3 x (by omega) (by omega) (by omega), e3 x (by omega)]
          · rw [d3 x (by omega) (by omega) (by omega), e3 x (by omega)]
          · rw [d3 _ (by omega) (by omega) (by omega), e3 _ (by omega)]
          · rw [d3 _ (by omega) (by omega) (by omega), e3 _ (by omega)]
          · rw [d3 _ (by omega) (by omega) (by omega), e3 _ (by omega)]
          · rw [d3 _ (by omega) (by omega) (by omega), e3 _ (by omega)]
        have hfp2 : fp_R f f2 x := fun y hy => by rw [d3 _ (by omega) (by omega) (by omega), e3 _ (by omega)]
        cases hev : sp_ev A n fr a b S with
        | none =>
          refine ⟨f2, fun th => ?_, hpq2, hfp2⟩
          have ev : ev_v A n fr a b S = -2 := by unfold ev_v; rw [hev]; rfl
          rw [fn_Pm_event, xi_gi l0, a2, if_neg (by exact bz_t rfl), pm_isParty, xi_cl, xi_jp, hp, if_neg (by exact bz_t rfl), pm_isKind, xi_cl, hq, if_neg (by exact bz_t rfl), xi_gr l0 l6, xi_gr l0 l5, e1, xi_cv c6.1, xi_gr l0 l9, xi_gr l0 l3, xi_gr l0 l6, d1, xi_cv lz.2.2.1.1, ev, if_pos rfl]; rfl
        | some S1 =>
          have ev : ev_v A n fr a b S = nI (sp_m A n a b S) := by unfold ev_v; rw [hev]; rfl
          have hm := sp_m_le (A := A) (n := n) (p := a) (k := b) hV1.2.2.2.2.1
          obtain ⟨-, hS2, hH2⟩ := hpq2.2.2.2.2 n A S H rfl
          obtain ⟨f3, b1, b2, b3, b4⟩ := pm_move hL0 hS2 (d2 S1 hev) hH2
          refine ⟨f3, fun th => ?_, ?_, fun y hy => by rw [b4 y (by omega) (by omega), hfp2 y hy]⟩
          · rw [fn_Pm_event, xi_gi l0, a2, if_neg (by exact bz_t rfl), pm_isParty, xi_cl, xi_jp, hp, if_neg (by exact bz_t rfl), pm_isKind, xi_cl, hq, if_neg (by exact bz_t rfl), xi_gr l0 l6, xi_gr l0 l5, e1, xi_cv c6.1, xi_gr l0 l9, xi_gr l0 l3, xi_gr l0 l6, d1, xi_cv lz.2.2.1.1, ev, if_neg (nI_m2 (by omega)), b1, xi_cv l0]; rfl
          · obtain ⟨z1, z2, z3, z4, z5⟩ := hpq2
            refine ⟨by rw [b4 x (by omega) (by omega)]; exact z1, by rw [b4 x (by omega) (by omega)]; exact z2, ru_cg z3 (b4 _ (by omega) (by omega)), fun e => (by cases e), fun n' A' S' H' e => ?_⟩
            cases e
            exact ⟨ag_cg (z5 n A S H rfl).1 fun y q1 q2 => b4 _ (by omega) (by omega), b2, b3⟩
theorem pm_nextDay (hL : sl_L M x g h) (hP : pq_R f x g E fr o) (hV : vo_P o) : ∃ f', (∀ th, fn_Pm_nextDay th (mm_wi M f) x = rq_t th (oc_nd fr o).1 (oc_nd fr o).2.1 (mm_wi M f')) ∧ pq_R f' x g E fr (oc_nd fr o).2.2 ∧ fp_R f f' x := by
  have hP0 := hP
  have hL0 := hL
  obtain ⟨l0, -, l3, -, l5, l6, -, -, l9, -, ga, -, c5, c6, c7, lz, lgh⟩ := hL
  obtain ⟨a1, a2, a3, a4, a5⟩ := hP
  cases o with
  | none =>
    refine ⟨f, fun th => ?_, hP0, fun _ _ => rfl⟩
    rw [fn_Pm_nextDay, xi_gi l0, a2, xi_jp, if_pos (by rfl)]; rfl
  | some y =>
    obtain ⟨n, A, S, H⟩ := y
    obtain ⟨hA, hS, hH⟩ := a5 n A S H rfl
    obtain ⟨hV1, hV2, dp, hdp⟩ := hV n A S H rfl
    unfold oc_nd
    dsimp only
    have hd := hS.2.1
    by_cases h60 : sp_d S = 60
    · rw [if_pos h60]
      refine ⟨f, fun th => ?_, hP0, fun _ _ => rfl⟩
      rw [fn_Pm_nextDay, xi_gi l0, a2, xi_jp, if_neg (by exact bz_t rfl), xi_gr l0 l5, xi_gi c5.1, hS.1, h60, if_neg (by decide)]; rfl
    · rw [if_neg h60]
      have hlt : nI (sp_d S) < 60 := nI_lt (b := 60) (by omega) (by omega)
      obtain ⟨f1, e1, e2, e3⟩ := st_copyFrom (q := x + 36) (p := x + 27) c6 c5 hS (by omega)
      have hap : ap_2 (x + 36) (x + 156) g := by unfold ap_2 ap_1; omega
      obtain ⟨f2, d1, d2, d3⟩ := ru_endDay (f := f1) (r := x + 156) (q := x + 36) ga lz.2.2.1 c6 hap hdp (by omega) (ag_cg hA fun y q1 q2 => e3 y (by omega)) (ru_cg a3 (e3 _ (by omega))) e2
      have hpq2 : pq_R f2 x g E fr (some (n, A, S, H)) := by
        refine pq_cg hP0 ?_ ?_ ?_ (fun y q1 q2 => ?_) (fun y q1 q2 => ?_) (fun y q1 q2 => ?_)
        · rw [d3 x (by omega) (by omega) (by omega), e3 x (by omega)]
        · rw [d3 x (by omega) (by omega) (by omega), e3 x (by omega)]
        · rw [d3 _ (by omega) (by omega) (by omega), e3 _ (by omega)]
        · rw [d3 _ (by omega) (by omega) (by omega), e3 _ (by omega)]
        · rw [d3 _ (by omega) (by omega) (by omega), e3 _ (by omega)]
        · rw [d3 _ (by omega) (by omega) (by omega), e3 _ (by omega)]
      have hfp2 : fp_R f f2 x := fun y hy => by rw [d3 _ (by omega) (by omega) (by omega), e3 _ (by omega)]
      cases hev : sp_end A n fr S with
      | none =>
        refine ⟨f2, fun th => ?_, hpq2, hfp2⟩
        rw [fn_Pm_nextDay, xi_gi l0, a2, xi_jp, if_neg (by exact bz_t rfl), xi_gr l0 l5, xi_gi c5.1, hS.1, if_pos hlt, xi_gr l0 l6, xi_gr l0 l5, e1, xi_cv c6.1, xi_gr l0 l9, xi_gr l0 l3, xi_gr l0 l6, d1, xi_cv lz.2.2.1.1, en_none hev, if_pos rfl]; rfl
      | some S1 =>
        have hm := du_8 (n := n) (d := sp_d S) hV1.2.2.2.1
        obtain ⟨-, hS2, hH2⟩ := hpq2.2.2.2.2 n A S H rfl
        obtain ⟨f3, b1, b2, b3, b4⟩ := pm_move hL0 hS2 (d2 S1 hev) hH2
        refine ⟨f3, fun th => ?_, ?_, fun y hy => by rw [b4 y (by omega) (by omega), hfp2 y hy]⟩
        · rw [fn_Pm_nextDay, xi_gi l0, a2, xi_jp, if_neg (by exact bz_t rfl), xi_gr l0 l5, xi_gi c5.1, hS.1, if_pos hlt, xi_gr l0 l6, xi_gr l0 l5, e1, xi_cv c6.1, xi_gr l0 l9, xi_gr l0 l3, xi_gr l0 l6, d1, xi_cv lz.2.2.1.1, en_some hev, if_neg (nI_m2 (by omega)), b1, xi_cv l0]; rfl
        · obtain ⟨z1, z2, z3, z4, z5⟩ := hpq2
          refine ⟨by rw [b4 x (by omega) (by omega)]; exact z1, by rw [b4 x (by omega) (by omega)]; exact z2, ru_cg z3 (b4 _ (by omega) (by omega)), fun e => (by cases e), fun n' A' S' H' e => ?_⟩
          cases e
          exact ⟨ag_cg (z5 n A S H rfl).1 fun y q1 q2 => b4 _ (by omega) (by omega), b2, b3⟩
end
