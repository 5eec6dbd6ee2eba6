/-! event and nextDay in the reference -/
/-- what a call leaves of the reference's text and of the rest of memory -/
def ft_R (f f' : Nat → Nat → Int32) (m : Nat) : Prop := (∀ a, (a < m ∨ m + 16 ≤ a ∨ a = m + 1) → f' a = f a) ∧ f' m 1 = f m 1
section
variable {M : Mm} {f f' : Nat → Nat → Int32} {m bk n : Nat} {E : Int32} {fr : Nat → Bool} {o : So} {A : Nat → Nat → Nat} {S S' : Sp} {H H' : List Sp} {T : List Nat}
theorem ft_tr {f2 : Nat → Nat → Int32} (h1 : ft_R f f' m) (h2 : ft_R f' f2 m) : ft_R f f2 m := ⟨fun a ha => by rw [h2.1 a ha, h1.1 a ha], by rw [h2.2, h1.2]⟩
theorem ft_mt (h : ft_R f f' m) (hT : mt_R f m T) : mt_R f' m T := mt_cg hT h.2 (h.1 _ (by omega))
theorem ft_w {b : Nat} (h : fw_R f f' m b) : ft_R f f' m := ⟨fun a ha => funext fun j => h a j (by omega) (by omega) (by omega), h m 1 (by omega) (by omega) (by omega)⟩
theorem ft_0 {v : Int32} : ft_R f (up_2 f m 0 v) m := ⟨fun a ha => up_oa (by omega), up_k (by omega)⟩
theorem mo_Q_new (hQ : mo_Q f m bk E fr (some (n, A, S, H))) (hH : mh_R f' m S' H') (h0 : ∀ a j, (a ≠ m ∨ (j ≠ 0 ∧ j ≠ 1 ∧ j ≠ 20 ∧ j < 21)) → a ≠ m + 1 → a ≠ m + 14 → a ≠ m + 15 → f' a j = f a j) : mo_Q f' m bk E fr (some (n, A, S', H')) := by
  obtain ⟨a1, a2, a3, a4, a5, a6, a7⟩ := hQ
  refine ⟨by rw [h0 _ _ (by omega) (by omega) (by omega) (by omega)]; exact a1, by rw [h0 _ _ (by omega) (by omega) (by omega) (by omega)]; exact a2, fun j hj => by rw [h0 _ _ (by omega) (by omega) (by omega) (by omega)]; exact a3 j hj, by rw [h0 _ _ (by omega) (by omega) (by omega) (by omega)]; exact a4, a5, fun e => (by cases e), fun n' A' S1 H1 e => ?_⟩
  cases e
  exact ⟨mw_cg (a7 n A S H rfl).1 (h0 _ _ (by omega) (by omega) (by omega) (by omega)) (h0 _ _ (by omega) (by omega) (by omega) (by omega)) fun a j q1 q2 => h0 _ _ (by omega) (by omega) (by omega) (by omega), hH⟩
theorem mo_settle_f (hL : mo_L M m) (h23 : f m 23 = 1) : fn_Mo_settle (mm_wi M f) m = some (0, mm_wi M (up_2 f m 0 3)) := by
  rw [fn_Mo_settle, xi_gi hL.1, h23, if_neg (show ¬ (1 : Int32) = 0 by decide), xi_pi hL.1]
theorem mo_event {p q : Int32} (hL : mo_L M m) (hQ : mo_Q f m bk E fr o) (hV : vo_P o) : ∃ f' v, fn_Mo_event (mm_wi M f) m p q = some (v, mm_wi M f') ∧ f' m 0 = nI (oc_ev fr o p q).1 ∧ ((oc_ev fr o p q).1 = 0 → v = (oc_ev fr o p q).2.1) ∧ mo_Q f' m bk E fr (oc_ev fr o p q).2.2 ∧ ft_R f f' m := by
  have a2 := hQ.2.1
  rw [fn_Mo_event, xi_gi hL.1, a2, xi_jp]
  cases o with
  | none =>
    rw [if_pos (by rfl)]
    dsimp only
    rw [xi_pi hL.1, xi_gi hL.1, up_e, if_neg (by decide)]
    exact ⟨_, _, rfl, up_e, fun h => (by cases h), mo_Q_0 hQ, ft_0⟩
  | some y =>
    obtain ⟨n, A, S, H⟩ := y
    rw [if_neg (by exact bz_t rfl), mo_isParty, xi_cl, xi_jp]
    unfold oc_ev
    dsimp only
    cases hp : pv_n 3 p with
    | none =>
      rw [if_pos (by rfl), xi_pi hL.1, xi_gi hL.1, up_e, if_neg (by decide)]
      exact ⟨_, _, rfl, up_e, fun h => (by cases h), mo_Q_0 hQ, ft_0⟩
    | some a =>
      rw [if_neg (by exact bz_t rfl), mo_isKind, xi_cl]
      cases hq : pv_n 5 q with
      | none =>
        rw [if_pos (by rfl), xi_pi hL.1, xi_gi hL.1, up_e, if_neg (by decide)]
        exact ⟨_, _, rfl, up_e, fun h => (by cases h), mo_Q_0 hQ, ft_0⟩
      | some b =>
        obtain ⟨rfl, ha⟩ := pv_s hp
        obtain ⟨rfl, hb⟩ := pv_s hq
        obtain ⟨hV1, hV2, dp, hdp⟩ := hV n A S H rfl
        rw [if_neg (by exact bz_t rfl), xi_pi hL.1, xi_gi hL.1, up_e, if_pos (by decide)]
        dsimp only
        have hQ0 := mo_Q_0 (v := 0) hQ
        obtain ⟨hW0, hH0⟩ := hQ0.2.2.2.2.2.2 n A S H rfl
        obtain ⟨f1, b1, b2, b3⟩ := mo_copy (M := M) (f := up_2 f m 0 0) (s := 0) (t := 13) hL (by omega) (by omega) (by omega)
        rw [show (fn_Mo_copy (mm_wi M (up_2 f m 0 0)) m 0 13) = _ from b1, xi_cv hL.1]
        have w1 : fw_R (up_2 f m 0 0) f1 m (71 * 13) := fun x j h1 h2 h3 => b3 x j h2
        have hS1 : ms_R f1 m (71 * 13) S := ms_mv (b := 0) hH0.1 fun i hi => by rw [b2 i hi, Nat.mul_zero]
        obtain ⟨f2, e1, e2, e3, e4, -, e8⟩ := mo_eventIn (M := M) (f := f1) (s := 13) (s' := 13) (p := a) (q := b) rfl rfl rfl hL (by omega) hdp (mw_fw hW0 w1) hS1 hV1 ha (by omega)
        rw [e1, xi_cv hL.1]
        have w2 : fw_R (up_2 f m 0 0) f2 m 923 := fw_tr w1 e8
        have hQ2 : mo_Q f2 m bk E fr (some (n, A, S, H)) := mo_Q_cg hQ0 fun a j h1 h2 h3 h4 => w2 a j (by omega) (by omega) h4
        have t2 : ft_R f f2 m := ft_tr ft_0 (ft_w w2)
        have h00 : f2 m 0 = 0 := by rw [w2 m 0 (by omega) (by omega) (by omega), up_e]
        cases hev : sp_ev A n fr a b S with
        | none =>
          rw [mo_settle_f hL (e3 hev), xi_cv hL.1]
          exact ⟨_, _, rfl, up_e, fun h => (by cases h), mo_Q_0 hQ2, ft_tr t2 ft_0⟩
        | some S1 =>
          obtain ⟨h23, hS2⟩ := e2 S1 hev
          obtain ⟨f3, d1, d2, d3⟩ := mo_settle hL (hQ2.2.2.2.2.2.2 n A S H rfl).2 hS2 h23
          rw [d1, xi_cv hL.1, e4]
          exact ⟨f3, _, rfl, by rw [d3 m 0 (by omega) (by omega), h00]; rfl, fun _ => rfl, mo_Q_new hQ2 d2 fun a j h1 h2 h3 h4 => d3 a j (by omega) (by omega), ft_tr t2 ⟨fun a h => funext fun j => d3 a j (by omega) (by omega), d3 m 1 (by omega) (by omega)⟩⟩
def nd_c (k : Nat) : Nat := if k = 3 then 2 else k
theorem mo_nextDay (hL : mo_L M m) (hQ : mo_Q f m bk E fr o) (hV : vo_P o) : ∃ f' v, fn_Mo_nextDay (mm_wi M f) m = some (v, mm_wi M f') ∧ f' m 0 = nI (nd_c (oc_nd fr o).1) ∧ ((oc_nd fr o).1 = 0 → v = (oc_nd fr o).2.1) ∧ mo_Q f' m bk E fr (oc_nd fr o).2.2 ∧ ft_R f f' m := by
  have a2 := hQ.2.1
  rw [fn_Mo_nextDay, xi_gi hL.1, a2, xi_jp, xi_jp]
  dsimp only
  cases o with
  | none =>
    rw [if_pos (by rfl), xi_pi hL.1, xi_gi hL.1, up_e, if_neg (by decide)]
    exact ⟨_, _, rfl, up_e, fun h => (by cases h), mo_Q_0 hQ, ft_0⟩
  | some y =>
    obtain ⟨n, A, S, H⟩ := y
    obtain ⟨hW, hH⟩ := hQ.2.2.2.2.2.2 n A S H rfl
    have hd := hH.1.2.1
    rw [if_neg (by exact bz_t rfl), xi_gr hL.1 (mr_19 hL), li_0, xi_ai (t := 0) (ms_19 hL) (by omega) (by decide), hH.1.1, ← li_0]
    unfold oc_nd
    dsimp only
    by_cases h60 : sp_d S = 60
    · rw [if_pos (by rw [h60]; rfl), if_pos h60, xi_pi hL.1, xi_gi hL.1, up_e, if_neg (by decide)]
      exact ⟨_, _, rfl, up_e, fun h => (by cases h), mo_Q_0 hQ, ft_0⟩
    · obtain ⟨hV1, hV2, dp, hdp⟩ := hV n A S H rfl
      rw [if_neg (show ¬ nI (sp_d S) = 60 from fun hh => h60 ((nI_eq (b := 60) (by omega) (by omega)).mp hh)), if_neg h60, xi_pi hL.1, xi_gi hL.1, up_e, if_pos (by decide)]
      have hQ0 := mo_Q_0 (v := 0) hQ
      obtain ⟨hW0, hH0⟩ := hQ0.2.2.2.2.2.2 n A S H rfl
      obtain ⟨f1, b1, b2, b3⟩ := mo_copy (M := M) (f := up_2 f m 0 0) (s := 0) (t := 13) hL (by omega) (by omega) (by omega)
      rw [show (fn_Mo_copy (mm_wi M (up_2 f m 0 0)) m 0 13) = _ from b1, xi_cv hL.1]
      have w1 : fw_R (up_2 f m 0 0) f1 m (71 * 13) := fun x j h1 h2 h3 => b3 x j h2
      have hS1 : ms_R f1 m (71 * 13) S := ms_mv (b := 0) hH0.1 fun i hi => by rw [b2 i hi, Nat.mul_zero]
      obtain ⟨f2, e1, e2, e3, e4, -, e8⟩ := mo_endIn (M := M) (f := f1) (s := 13) (s' := 13) rfl hL (by omega) hdp (mw_fw hW0 w1) hS1 hV1 (by omega)
      rw [e1, xi_cv hL.1]
      have w2 : fw_R (up_2 f m 0 0) f2 m 923 := fw_tr w1 e8
      have hQ2 : mo_Q f2 m bk E fr (some (n, A, S, H)) := mo_Q_cg hQ0 fun a j h1 h2 h3 h4 => w2 a j (by omega) (by omega) h4
      have t2 : ft_R f f2 m := ft_tr ft_0 (ft_w w2)
      have h00 : f2 m 0 = 0 := by rw [w2 m 0 (by omega) (by omega) (by omega), up_e]
      cases hev : sp_end A n fr S with
      | none =>
        rw [mo_settle_f hL (e3 hev), xi_cv hL.1, xi_gi hL.1, up_e, if_pos rfl, xi_pi hL.1]
        exact ⟨_, _, rfl, up_e, fun h => (by cases h), mo_Q_0 (mo_Q_0 hQ2), ft_tr t2 (ft_tr ft_0 ft_0)⟩
      | some S1 =>
        obtain ⟨h23, hS2⟩ := e2 S1 hev
        obtain ⟨f3, d1, d2, d3⟩ := mo_settle hL (hQ2.2.2.2.2.2.2 n A S H rfl).2 hS2 h23
        have h30 : f3 m 0 = 0 := by rw [d3 m 0 (by omega) (by omega), h00]
        rw [d1, xi_cv hL.1, e4, xi_gi hL.1, h30, if_neg (show ¬ (0 : Int32) = 3 by decide), xi_gi hL.1, h30, xi_pi hL.1]
        exact ⟨_, _, rfl, up_e, fun _ => rfl, mo_Q_0 (mo_Q_new hQ2 d2 fun a j h1 h2 h3 h4 => d3 a j (by omega) (by omega)), ft_tr t2 (ft_tr ⟨fun a h => funext fun j => d3 a j (by omega) (by omega), d3 m 1 (by omega) (by omega)⟩ ft_0)⟩
/-! what is valid stays so -/
theorem vo_ev {p q : Int32} (hV : vo_P o) (h4 : ∀ n A S H, o = some (n, A, S, H) → n ≤ 10 ∧ ∀ c, c < n → A c 7 ≤ 4) : vo_P (oc_ev fr o p q).2.2 := by
  cases o with
  | none => exact hV
  | some y =>
    obtain ⟨n, A, S, H⟩ := y
    obtain ⟨hV1, hV2, dp, hdp⟩ := hV n A S H rfl
    obtain ⟨hn, h4'⟩ := h4 n A S H rfl
    unfold oc_ev
    dsimp only
    cases pv_n 3 p with
    | none => exact hV
    | some a =>
      cases pv_n 5 q with
      | none => exact hV
      | some b =>
        dsimp only
        cases hev : sp_ev A n fr a b S with
        | none => exact hV
        | some S1 =>
          intro n' A' S' H' e
          cases e
          refine ⟨sp_ev_V hn hdp h4' hV1 hev, fun s hs => ?_, dp, hdp⟩
          have := List.mem_of_mem_take hs
          rw [List.mem_cons] at this
          rcases this with rfl | h
          · exact hV1
          · exact hV2 s h
theorem vo_nd (hV : vo_P o) (h4 : ∀ n A S H, o = some (n, A, S, H) → n ≤ 10 ∧ ∀ c, c < n → A c 7 ≤ 4) : vo_P (oc_nd fr o).2.2 := by
  cases o with
  | none => exact hV
  | some y =>
    obtain ⟨n, A, S, H⟩ := y
    obtain ⟨hV1, hV2, dp, hdp⟩ := hV n A S H rfl
    obtain ⟨hn, h4'⟩ := h4 n A S H rfl
    unfold oc_nd
    dsimp only
    by_cases h60 : sp_d S = 60
    · rw [if_pos h60]; exact hV
    · rw [if_neg h60]
      cases hev : sp_end A n fr S with
      | none => exact hV
      | some S1 =>
        intro n' A' S' H' e
        cases e
        refine ⟨sp_end_V hn hdp h4' hV1 hev, fun s hs => ?_, dp, hdp⟩
        have := List.mem_of_mem_take hs
        rw [List.mem_cons] at this
        rcases this with rfl | h
        · exact hV1
        · exact hV2 s h
end
