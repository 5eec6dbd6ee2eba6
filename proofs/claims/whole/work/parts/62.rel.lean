/-! the relation between class, reference and spec; what is asked -/
abbrev So : Type := Option (Nat × (Nat → Nat → Nat) × Sp × List Sp)
def sl_L (M : Mm) (x g h : Nat) : Prop := mm_s M x = (1, 8) ∧ mm_r M x 0 = some (x + 1) ∧ mm_r M x 3 = some g ∧ mm_r M x 4 = some h ∧ mm_r M x 5 = some (x + 27) ∧ mm_r M x 6 = some (x + 36) ∧ mm_r M x 7 = some (x + 45) ∧ mm_r M x 8 = some (x + 155) ∧ mm_r M x 9 = some (x + 156) ∧ tx_L M (x + 1) ∧ ag_L M g ∧ ag_L M h ∧ st_L M (x + 27) ∧ st_L M (x + 36) ∧ hi_L M (x + 45) ∧ se_L M (x + 155) ∧ ((g = x + 3 ∧ h = x + 15) ∨ (g = x + 15 ∧ h = x + 3))
def pq_R (f : Nat → Nat → Int32) (x g : Nat) (E : Int32) (fr : Nat → Bool) (o : So) : Prop := f x 1 = E ∧ f x 2 = bz o.isSome ∧ ru_F f (x + 156) fr ∧ (o = none → hi_R f (x + 45) []) ∧ ∀ n A S H, o = some (n, A, S, H) → ag_R f g n A ∧ st_R f (x + 27) S ∧ hi_R f (x + 45) H
def mo_Q (f : Nat → Nat → Int32) (m bk : Nat) (E : Int32) (fr : Nat → Bool) (o : So) : Prop := f m 3 = E ∧ f m 6 = bz o.isSome ∧ (∀ j, j < 61 → f (m + 2) j = bz (fr j)) ∧ f m 5 = nI bk ∧ bk ≤ 1 ∧ (o = none → f m 20 = 0) ∧ ∀ n A S H, o = some (n, A, S, H) → mw_R f m bk n A fr ∧ mh_R f m S H
def vo_P (o : So) : Prop := ∀ n A S H, o = some (n, A, S, H) → sp_V A n S ∧ (∀ s ∈ H, sp_V A n s) ∧ ∃ dp, dp_W n A dp
section
variable {M : Mm} {f f' : Nat → Nat → Int32} {x g h m bk n : Nat} {E : Int32} {fr : Nat → Bool} {o : So} {A : Nat → Nat → Nat} {S : Sp} {H : List Sp} {T : List Nat}
theorem pq_cg (hP : pq_R f x g E fr o) (h1 : f' x 1 = f x 1) (h2 : f' x 2 = f x 2) (h3 : f' (x + 157) = f (x + 157)) (h4 : ∀ a, g ≤ a → a < g + 12 → f' a = f a) (h5 : ∀ a, x + 27 ≤ a → a < x + 36 → f' a = f a) (h6 : ∀ a, x + 45 ≤ a → a < x + 155 → f' a = f a) : pq_R f' x g E fr o := by
  obtain ⟨a1, a2, a3, a4, a5⟩ := hP
  exact ⟨by rw [h1]; exact a1, by rw [h2]; exact a2, ru_cg a3 h3, fun e => hi_cg (a4 e) fun a q1 q2 => h6 a (by omega) (by omega), fun n A S H e => ⟨ag_cg (a5 n A S H e).1 h4, st_cg (a5 n A S H e).2.1 fun a q1 q2 => h5 a (by omega) (by omega), hi_cg (a5 n A S H e).2.2 fun a q1 q2 => h6 a (by omega) (by omega)⟩⟩
theorem mh_cg (hH : mh_R f m S H) (h20 : f' m 20 = f m 20) (h : ∀ j, j < 923 → f' (m + 14) j = f (m + 14) j) : mh_R f' m S H := by
  obtain ⟨a1, a2, a3, a4⟩ := hH
  refine ⟨ms_cg a1 fun j _ _ => h j (by omega), by rw [h20]; exact a2, a3, fun j s hs => ?_⟩
  have := (List.getElem?_eq_some_iff.mp hs).1
  exact ms_cg (a4 j s hs) fun i _ _ => h i (by omega)
theorem mo_Q_cg (hQ : mo_Q f m bk E fr o) (h0 : ∀ a j, (a ≠ m ∨ (j ≠ 0 ∧ j ≠ 1 ∧ j < 21)) → a ≠ m + 1 → (a ≠ m + 14 ∨ j < 923) → a ≠ m + 15 → f' a j = f a j) : mo_Q f' m bk E fr o := by
  obtain ⟨a1, a2, a3, a4, a5, a6, a7⟩ := hQ
  exact ⟨by rw [h0 _ _ (by omega) (by omega) (by omega) (by omega)]; exact a1, by rw [h0 _ _ (by omega) (by omega) (by omega) (by omega)]; exact a2, fun j hj => by rw [h0 _ _ (by omega) (by omega) (by omega) (by omega)]; exact a3 j hj, by rw [h0 _ _ (by omega) (by omega) (by omega) (by omega)]; exact a4, a5, fun e => by rw [h0 _ _ (by omega) (by omega) (by omega) (by omega)]; exact a6 e, fun n A S H e => ⟨mw_cg (a7 n A S H e).1 (h0 _ _ (by omega) (by omega) (by omega) (by omega)) (h0 _ _ (by omega) (by omega) (by omega) (by omega)) fun a j q1 q2 => h0 _ _ (by omega) (by omega) (by omega) (by omega), mh_cg (a7 n A S H e).2 (h0 _ _ (by omega) (by omega) (by omega) (by omega)) fun j hj => h0 _ _ (by omega) (by omega) (by omega) (by omega)⟩⟩
theorem mo_Q_0 {v : Int32} (hQ : mo_Q f m bk E fr o) : mo_Q (up_2 f m 0 v) m bk E fr o := mo_Q_cg hQ fun a j h1 h2 h3 h4 => by
  by_cases ha : a = m
  · rw [up_k (by omega)]
  · rw [up_o ha]
theorem mt_0 {v : Int32} (hT : mt_R f m T) : mt_R (up_2 f m 0 v) m T := mt_cg hT (up_k (by omega)) (up_oa (by omega))
/-! numbers in a range -/
def pv_n (k : Nat) (p : Int32) : Option Nat := if p < 0 then none else if p.toNatClampNeg < k then some p.toNatClampNeg else none
theorem pv_s {k a : Nat} {p : Int32} (h : pv_n k p = some a) : p = nI a ∧ a < k := by
  unfold pv_n at h
  by_cases h0 : p < 0
  · rw [if_pos h0] at h; cases h
  · rw [if_neg h0] at h
    obtain ⟨r, hr, rfl⟩ := nI_of h0
    rw [nI_clamp hr] at h
    by_cases h1 : r < k
    · rw [if_pos h1] at h; cases h; exact ⟨rfl, h1⟩
    · rw [if_neg h1] at h; cases h
theorem pv_i {k : Nat} {p : Int32} (hk : k < 1000) : (if p < 0 then fo_rz 0 M else if nI k ≤ p then fo_rz 0 M else fo_rz 1 M) = some (bz (pv_n k p).isSome, M) := by
  unfold pv_n
  by_cases h0 : p < 0
  · rw [if_pos h0, if_pos h0, xi_rz0]; rfl
  · rw [if_neg h0, if_neg h0]
    obtain ⟨r, hr, rfl⟩ := nI_of h0
    rw [nI_clamp hr]
    by_cases h1 : r < k
    · rw [if_pos h1, if_neg (by rw [nI_leI (by omega) hr]; omega), xi_rz1]; rfl
    · rw [if_neg h1, if_pos (nI_le (by omega) hr), xi_rz0]; rfl
theorem pm_isParty {p : Int32} : fn_Pm_isParty M p = some (bz (pv_n 3 p).isSome, M) := pv_i (k := 3) (by omega)
theorem pm_isKind {p : Int32} : fn_Pm_isKind M p = some (bz (pv_n 5 p).isSome, M) := pv_i (k := 5) (by omega)
theorem mo_isParty {p : Int32} : fn_Mo_isParty M p = some (bz (pv_n 3 p).isSome, M) := pv_i (k := 3) (by omega)
theorem mo_isKind {p : Int32} : fn_Mo_isKind M p = some (bz (pv_n 5 p).isSome, M) := pv_i (k := 5) (by omega)
theorem bz_n : ¬ (1 : Int32) = 0 := by decide
/-! today -/
def an_today (o : So) : Int32 := match o with | none => -1 | some (_, _, S, _) => nI (sp_d S)
theorem pm_today (hL : sl_L M x g h) (hP : pq_R f x g E fr o) : fn_Pm_today (mm_wi M f) x = some (an_today o, mm_wi M f) := by
  obtain ⟨l0, -, -, -, l5, -, -, -, -, -, -, -, s5, -⟩ := hL
  obtain ⟨-, a2, -, -, a5⟩ := hP
  rw [fn_Pm_today, xi_gi l0, a2]
  cases o with
  | none => rw [if_pos (by rfl)]; rfl
  | some y =>
    obtain ⟨n, A, S, H⟩ := y
    rw [if_neg (by exact bz_t rfl), xi_gr l0 l5, xi_gi s5.1, (a5 n A S H rfl).2.1.1]; rfl
theorem mo_today (hL : mo_L M m) (hQ : mo_Q f m bk E fr o) : fn_Mo_today (mm_wi M f) m = some (an_today o, mm_wi M (up_2 f m 0 0)) := by
  obtain ⟨-, a2, -, -, -, -, a7⟩ := hQ
  rw [fn_Mo_today, xi_pi hL.1, xi_gi hL.1, up_k (by omega), a2]
  cases o with
  | none => rw [if_pos (by rfl)]; rfl
  | some y =>
    obtain ⟨n, A, S, H⟩ := y
    rw [if_neg (by exact bz_t rfl), xi_gr hL.1 (mr_19 hL), li_0, xi_ai (t := 0) (ms_19 hL) (by omega) (by decide), up_o (by omega), (a7 n A S H rfl).2.1.1]; rfl
/-! fault -/
theorem pm_fault (hL : sl_L M x g h) (hP : pq_R f x g E fr o) : fn_Pm_fault (mm_wi M f) x = some (E, mm_wi M f) := by
  rw [fn_Pm_fault, xi_gi hL.1, hP.1]
theorem mo_fault (hL : mo_L M m) (hQ : mo_Q f m bk E fr o) : fn_Mo_fault (mm_wi M f) m = some (E, mm_wi M (up_2 f m 0 0)) := by
  rw [fn_Mo_fault, xi_pi hL.1, xi_gi hL.1, up_k (by omega), hQ.1]
/-! duty -/
def an_duty (o : So) (p : Int32) : Int32 := match o with | none => -1 | some (_, _, S, _) => dt_v (sp_D S) p
theorem pm_duty {p : Int32} (hL : sl_L M x g h) (hP : pq_R f x g E fr o) : fn_Pm_duty (mm_wi M f) x p = some (an_duty o p, mm_wi M f) := by
  obtain ⟨l0, -, -, -, l5, -, -, -, -, -, -, -, s5, -⟩ := hL
  obtain ⟨-, a2, -, -, a5⟩ := hP
  rw [fn_Pm_duty, xi_gi l0, a2]
  cases o with
  | none => rw [if_pos (by rfl)]; rfl
  | some y =>
    obtain ⟨n, A, S, H⟩ := y
    obtain ⟨-, -, hD, -⟩ := (a5 n A S H rfl).2.1
    obtain ⟨c1, c2, -, -, -, -, t1, -⟩ := s5
    have h8 := hD.1.2.1
    rw [if_neg (by exact bz_t rfl)]
    unfold an_duty dt_v
    dsimp only
    by_cases h0 : p < 0
    · rw [if_pos h0, if_pos h0]
    · obtain ⟨r, hr, rfl⟩ := nI_of h0
      rw [if_neg h0, if_neg h0, xi_gr l0 l5, xi_gr c1 c2, xi_gi t1.1, hD.1.1, nI_clamp hr]
      by_cases h1 : r < (sp_D S).length
      · obtain ⟨v, hv⟩ : ∃ v, (sp_D S)[r]? = some v := ⟨_, List.getElem?_eq_getElem h1⟩
        rw [if_pos (nI_lt h1 (by omega)), xi_gr l0 l5, xi_gr c1 c2, xi_gr t1.1 t1.2.1, xi_ai (t := 0) t1.2.2 (by omega) (by decide), hD.1.2.2.2 r v hv, hv]
      · rw [if_neg (by rw [nI_ltI hr (by omega)]; exact h1), List.getElem?_eq_none (by omega)]
theorem mo_duty {p : Int32} (hL : mo_L M m) (hQ : mo_Q f m bk E fr o) : fn_Mo_duty (mm_wi M f) m p = some (an_duty o p, mm_wi M (up_2 f m 0 0)) := by
  obtain ⟨-, a2, -, -, -, -, a7⟩ := hQ
  cases o with
  | none =>
    rw [fn_Mo_duty, xi_pi hL.1, xi_gi hL.1, up_k (by omega), a2, xi_jp, if_pos (by rfl)]
    dsimp only
    rw [show fo_N = 1999 + 1 from rfl, fx_s, lp_Mo_duty_25, if_pos (by decide)]; rfl
  | some y =>
    obtain ⟨n, A, S, H⟩ := y
    exact mo_duty_s hL (a7 n A S H rfl).2.1.2.2.1 a2
/-! count -/
def an_count (o : So) (p : Int32) : Int32 := match o with | none => 0 | some (_, _, S, _) => if p = 0 then nI (sp_D S).length else if p = 1 then nI (sp_B S).length else if p = 2 then nI (sp_P S).length else 0
theorem pm_count {p : Int32} (hL : sl_L M x g h) (hP : pq_R f x g E fr o) : fn_Pm_count (mm_wi M f) x p = some (an_count o p, mm_wi M f) := by
  obtain ⟨l0, -, -, -, l5, -, -, -, -, -, -, -, s5, -⟩ := hL
  obtain ⟨-, a2, -, -, a5⟩ := hP
  rw [fn_Pm_count, xi_gi l0, a2]
  cases o with
  | none => rw [if_pos (by rfl)]; rfl
  | some y =>
    obtain ⟨n, A, S, H⟩ := y
    obtain ⟨-, -, hD, hB, hPw, -⟩ := (a5 n A S H rfl).2.1
    obtain ⟨c1, c2, c3, c4, -, -, t1, t2, t3, -⟩ := s5
    rw [if_neg (by exact bz_t rfl)]
    unfold an_count
    dsimp only
    by_cases h0 : p = 0
    · rw [if_pos h0, if_pos h0, xi_gr l0 l5, xi_gr c1 c2, xi_gi t1.1, hD.1.1]
    · rw [if_neg h0, if_neg h0]
      by_cases h1 : p = 1
      · rw [if_pos h1, if_pos h1, xi_gr l0 l5, xi_gr c1 c3, xi_gi t2.1, hB.1.1]
      · rw [if_neg h1, if_neg h1]
        by_cases h2 : p = 2
        · rw [if_pos h2, if_pos h2, xi_gr l0 l5, xi_gr c1 c4, xi_gi t3.1, hPw.1.1]
        · rw [if_neg h2, if_neg h2]
theorem mp_len {a b : Nat} {l : List Nat} (h : mp_R f a b l) : f a b = nI l.length := by
  obtain ⟨-, k, h1, h2⟩ := h
  rw [h1.1, h2.length_eq]
theorem c_012 {p : Int32} (h0 : ¬ p < 0) (h2 : p ≤ 2) : p = 0 ∨ p = 1 ∨ p = 2 := by
  obtain ⟨r, hr, rfl⟩ := nI_of h0
  rw [li_2, nI_leI hr (by omega)] at h2
  have : r = 0 ∨ r = 1 ∨ r = 2 := by omega
  rcases this with rfl | rfl | rfl
  · exact .inl rfl
  · exact .inr (.inl rfl)
  · exact .inr (.inr rfl)
theorem mo_count {p : Int32} (hL : mo_L M m) (hQ : mo_Q f m bk E fr o) : fn_Mo_count (mm_wi M f) m p = some (an_count o p, mm_wi M (up_2 f m 0 0)) := by
  obtain ⟨-, a2, -, -, -, -, a7⟩ := hQ
  rw [fn_Mo_count, xi_pi hL.1, xi_gi hL.1, up_k (by omega), a2]
  cases o with
  | none => rw [if_pos (by rfl)]; rfl
  | some y =>
    obtain ⟨n, A, S, H⟩ := y
    obtain ⟨-, -, hD, hB, hPw, -⟩ := (a7 n A S H rfl).2.1
    rw [if_neg (by exact bz_t rfl)]
    unfold an_count
    dsimp only
    by_cases hn : p < 0
    · have q0 : ¬ p = 0 := fun h => by subst h; revert hn; decide
      have q1 : ¬ p = 1 := fun h => by subst h; revert hn; decide
      have q2 : ¬ p = 2 := fun h => by subst h; revert hn; decide
      rw [if_pos hn, if_neg q0, if_neg q1, if_neg q2]
    · rw [if_neg hn]
      by_cases h2 : p ≤ 2
      · rw [if_pos h2, xi_gr hL.1 (mr_19 hL)]
        rcases c_012 hn h2 with rfl | rfl | rfl
        · rw [if_pos rfl, if_pos rfl, li_1, xi_ai (t := 0) (ms_19 hL) (by omega) (by decide), up_o (by omega)]
          have := mp_len hD
          rw [Nat.zero_add] at this
          rw [this]
        · rw [if_neg (show ¬ (1 : Int32) = 0 by decide), if_neg (show ¬ (1 : Int32) = 0 by decide), if_pos rfl, if_pos rfl, show (18 : Int32) = nI 18 from rfl, xi_ai (t := 0) (ms_19 hL) (by omega) (by decide), up_o (by omega)]
          have := mp_len hB
          rw [Nat.zero_add] at this
          rw [this]
        · rw [if_neg (show ¬ (2 : Int32) = 0 by decide), if_neg (show ¬ (2 : Int32) = 0 by decide), if_neg (show ¬ (2 : Int32) = 1 by decide), if_neg (show ¬ (2 : Int32) = 1 by decide), if_pos rfl, show (35 : Int32) = nI 35 from rfl, xi_ai (t := 0) (ms_19 hL) (by omega) (by decide), up_o (by omega)]
          have := mp_len hPw
          rw [Nat.zero_add] at this
          rw [this]
      · have q0 : ¬ p = 0 := fun h => by subst h; revert h2; decide
        have q1 : ¬ p = 1 := fun h => by subst h; revert h2; decide
        have q2 : ¬ p = 2 := fun h => by subst h; revert h2; decide
        rw [if_neg h2, if_neg q0, if_neg q1, if_neg q2]
/-! breaches -/
def an_br (o : So) (p : Int32) : Int32 := match o with | none => 0 | some (n, _, S, _) => match pv_n n p with | some c => sp_c S c | none => 0
theorem pm_breaches {p : Int32} (hL : sl_L M x g h) (hP : pq_R f x g E fr o) : fn_Pm_breaches (mm_wi M f) x p = some (an_br o p, mm_wi M f) := by
  obtain ⟨l0, -, l3, -, l5, -, -, -, -, -, ga, -, s5, -⟩ := hL
  obtain ⟨-, a2, -, -, a5⟩ := hP
  rw [fn_Pm_breaches, xi_gi l0, a2]
  cases o with
  | none => rw [if_pos (by rfl)]; rfl
  | some y =>
    obtain ⟨n, A, S, H⟩ := y
    obtain ⟨hA, hS, -⟩ := a5 n A S H rfl
    have hn := hA.2.1
    obtain ⟨c1, -, -, -, -, c6, -, -, -, -, c8⟩ := s5
    rw [if_neg (by exact bz_t rfl)]
    unfold an_br pv_n
    dsimp only
    by_cases h0 : p < 0
    · rw [if_pos h0, if_pos h0]
    · obtain ⟨r, hr, rfl⟩ := nI_of h0
      rw [if_neg h0, if_neg h0, xi_gr l0 l3, xi_gi ga.1, hA.1, nI_clamp hr]
      by_cases h1 : r < n
      · rw [if_pos (nI_lt h1 (by omega)), if_pos h1, xi_gr l0 l5, xi_gr c1 c6, xi_ai (t := 0) c8 (by omega) (by decide), hS.2.2.2.2.2.2 r (by omega)]
      · rw [if_neg (by rw [nI_ltI hr (by omega)]; exact h1), if_neg h1]
theorem mo_breaches {p : Int32} (hL : mo_L M m) (hQ : mo_Q f m bk E fr o) : fn_Mo_breaches (mm_wi M f) m p = some (an_br o p, mm_wi M (up_2 f m 0 0)) := by
  obtain ⟨-, a2, -, -, -, -, a7⟩ := hQ
  rw [fn_Mo_breaches, xi_pi hL.1, xi_gi hL.1, up_k (by omega), a2]
  cases o with
  | none => rw [if_pos (by rfl)]; rfl
  | some y =>
    obtain ⟨n, A, S, H⟩ := y
    obtain ⟨hW, hH⟩ := a7 n A S H rfl
    have hn := hW.2.1
    rw [if_neg (by exact bz_t rfl)]
    unfold an_br pv_n
    dsimp only
    by_cases h0 : p < 0
    · rw [if_pos h0, if_pos h0]
    · obtain ⟨r, hr, rfl⟩ := nI_of h0
      rw [if_neg h0, if_neg h0, xi_gi hL.1, up_k (by omega), hW.2.2.2.1, nI_clamp hr]
      by_cases h1 : r < n
      · have := hH.1.2.2.2.2.2.2 r (by omega)
        rw [Nat.zero_add] at this
        rw [if_neg (by rw [nI_leI (by omega) hr]; omega), if_pos h1, xi_gr hL.1 (mr_19 hL), show (61 : Int32) = nI 61 from rfl, nI_add, xi_ai (t := 0) (ms_19 hL) (by omega) (by decide), up_o (by omega), this]
      · rw [if_pos (nI_le (by omega) hr), if_neg h1]
/-! owed -/
def an_owed (o : So) (p q : Int32) : Int32 := match o with | none => 0 | some (_, _, S, _) => match pv_n 3 p with | none => 0 | some a => match pv_n 3 q with | none => 0 | some b => sp_o S (3 * a + b)
theorem pm_owed {p q : Int32} (hL : sl_L M x g h) (hP : pq_R f x g E fr o) : fn_Pm_owed (mm_wi M f) x p q = some (an_owed o p q, mm_wi M f) := by
  obtain ⟨l0, -, -, -, l5, -, -, -, -, -, -, -, s5, -⟩ := hL
  obtain ⟨-, a2, -, -, a5⟩ := hP
  rw [fn_Pm_owed, xi_gi l0, a2]
  cases o with
  | none => rw [if_pos (by rfl)]; rfl
  | some y =>
    obtain ⟨n, A, S, H⟩ := y
    have hS := (a5 n A S H rfl).2.1
    rw [if_neg (by exact bz_t rfl), pm_isParty, xi_cl]
    unfold an_owed
    dsimp only
    cases hp : pv_n 3 p with
    | none => rw [if_pos (by rfl)]
    | some a =>
      rw [if_neg (by exact bz_t rfl), pm_isParty, xi_cl]
      cases hq : pv_n 3 q with
      | none => rw [if_pos (by rfl)]
      | some b =>
        obtain ⟨rfl, ha⟩ := pv_s hp
        obtain ⟨rfl, hb⟩ := pv_s hq
        rw [if_neg (by exact bz_t rfl), xi_gr l0 l5, st_debtOf s5 hS ha hb, xi_cv s5.1]
theorem mo_owed {p q : Int32} (hL : mo_L M m) (hQ : mo_Q f m bk E fr o) : fn_Mo_owed (mm_wi M f) m p q = some (an_owed o p q, mm_wi M (up_2 f m 0 0)) := by
  obtain ⟨-, a2, -, -, -, -, a7⟩ := hQ
  rw [fn_Mo_owed, xi_pi hL.1, xi_gi hL.1, up_k (by omega), a2]
  cases o with
  | none => rw [if_pos (by rfl)]; rfl
  | some y =>
    obtain ⟨n, A, S, H⟩ := y
    have hS := (a7 n A S H rfl).2.1
    rw [if_neg (by exact bz_t rfl), mo_isParty, xi_cl]
    unfold an_owed
    dsimp only
    cases hp : pv_n 3 p with
    | none => rw [if_pos (by rfl)]
    | some a =>
      rw [if_neg (by exact bz_t rfl), mo_isParty, xi_cl]
      cases hq : pv_n 3 q with
      | none => rw [if_pos (by rfl)]
      | some b =>
        obtain ⟨rfl, ha⟩ := pv_s hp
        obtain ⟨rfl, hb⟩ := pv_s hq
        have := hS.2.2.2.2.2.1 (3 * a + b) (by omega)
        rw [Nat.zero_add] at this
        rw [if_neg (by exact bz_t rfl), xi_gr hL.1 (mr_19 hL), show (52 : Int32) = nI 52 from rfl, show 3 * nI a = nI (3 * a) from nI_xm 3 a, nI_add, nI_add, Nat.add_assoc, xi_ai (t := 0) (ms_19 hL) (by omega) (by decide), up_o (by omega), this]
end
