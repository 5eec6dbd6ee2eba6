/-! type, erase, free, stop, undo, may in both -/
section
variable {M : Mm} {m : Nat} {T : List Nat} {x : Int64}
theorem mo_type2 (hL : mo_L M m) (h120 : T.length + bl_n x 8 0 ≤ 120) (hT : ∀ y ∈ T, 33 ≤ y ∧ y ≤ 126) (hg : ∀ i, i < bl_n x 8 0 → 33 ≤ by_n x i ∧ by_n x i ≤ 126) : ∀ kk j f, j ≤ bl_n x 8 0 → bl_n x 8 0 - j < kk → f m 1 = nI T.length → (∀ k y, (T ++ (bs_l x).take j)[k]? = some y → f (m + 1) k = nI y) → ∃ f', fo_fx (fun _ _ => none) (lp_Mo_type_98 m x (nI (bl_n x 8 0))) kk (mm_wi M f) (nI j) = some (1, mm_wi M f') ∧ mt_R f' m (T ++ bs_l x) ∧ ∀ a j, (a ≠ m ∨ j ≠ 1) → a ≠ m + 1 → f' a j = f a j := by
  have h8 := bs_8 (x := x)
  intro kk
  induction kk with
  | zero => intro j f _ h; omega
  | succ kk ih =>
    intro j f hj hm h1 h2
    rw [fx_s, lp_Mo_type_98]
    by_cases h : bl_n x 8 0 ≤ j
    · rw [if_pos (nI_le h (by omega)), xi_gi hL.1, h1, nI_add, xi_pi hL.1, xi_rz1]
      rw [List.take_of_length_le (by rw [bs_len]; omega)] at h2
      refine ⟨_, rfl, ⟨by rw [up_e, List.length_append, bs_len], by rw [List.length_append, bs_len]; omega, fun y hy => ?_, fun k y hy => by rw [up_o (by omega)]; exact h2 k y hy⟩, fun a j ha _ => ?_⟩
      · rcases List.mem_append.mp hy with hy | hy
        · exact hT y hy
        · obtain ⟨i, hi⟩ := List.getElem?_of_mem hy
          have hl := (List.getElem?_eq_some_iff.mp hi).1
          rw [bs_len] at hl
          rw [bs_at hl] at hi
          cases hi
          exact hg i hl
      · by_cases ham : a = m
        · rw [up_k (by omega)]
        · rw [up_o ham]
    · have hb := by_lt x j
      rw [if_neg (by rw [nI_leI (by omega) (by omega)]; exact h), xi_gr hL.1 (mr_2 hL), xi_gi hL.1, h1, by_i x (by omega), nI_add, xi_si (ms_2 hL) (by omega) (by decide), nI_1]
      obtain ⟨f1, e1, a1, a2⟩ := ih (j + 1) (up_2 f (m + 1) (T.length + j) (nI (by_n x j))) (by omega) (by omega) (by rw [up_o (by omega)]; exact h1) (fun k y hy => by
        rw [List.getElem?_append] at hy
        by_cases hk : k = T.length + j
        · subst hk
          rw [if_neg (by omega), show T.length + j - T.length = j by omega, List.getElem?_take, if_pos (by omega), bs_at (by omega)] at hy
          cases hy
          exact up_e
        · rw [up_k hk]
          apply h2
          rw [List.getElem?_append]
          by_cases hk2 : k < T.length
          · rw [if_pos hk2] at hy ⊢; exact hy
          · rw [if_neg hk2] at hy ⊢
            rw [List.getElem?_take] at hy ⊢
            by_cases hk3 : k - T.length < j + 1
            · rw [if_pos hk3] at hy
              rw [if_pos (by omega)]; exact hy
            · rw [if_neg hk3] at hy; cases hy)
      exact ⟨f1, e1, a1, fun a j q1 q2 => by rw [a2 a j q1 q2, up_o q2]⟩
theorem mo_type1 {f : Nat → Nat → Int32} (hL : mo_L M m) (hR : mt_R f m T) : ∀ kk i (g : Bool), i ≤ 8 → 8 - i < kk → bl_n x (8 - i) i = bl_n x 8 0 → (g = true → ∀ j, j < i → 33 ≤ by_n x j ∧ by_n x j ≤ 126) → (g = false → ∃ j, j < i ∧ ¬ (33 ≤ by_n x j ∧ by_n x j ≤ 126)) → ∃ f', fo_fx (fun _ _ => none) (lp_Mo_type_10 m x (mm_wi M f)) kk (nI i) (bz g) = some (bz (pt_ok x T), mm_wi M f') ∧ mt_R f' m (if pt_ok x T = true then T ++ bs_l x else T) ∧ ∀ a j, (a ≠ m ∨ j ≠ 1) → a ≠ m + 1 → f' a j = f a j := by
  have hR0 := hR
  obtain ⟨h1, h2, h3, h4⟩ := hR
  have h8 := bs_8 (x := x)
  intro kk
  induction kk with
  | zero => intro i g _ h; omega
  | succ kk ih =>
    intro i g hi hm hbl hg1 hg0
    have hexit : i = bl_n x 8 0 → ∃ f', (if bz g = 0 then fo_rz 0 (mm_wi M f) else fo_gi (mm_wi M f) 9 m 1 fun v83 => if (v83 + nI i) ≤ 120 then fo_fx (fun _ _ => none) (lp_Mo_type_98 m x (nI i)) fo_N (mm_wi M f) 0 else fo_rz 0 (mm_wi M f)) = some (bz (pt_ok x T), mm_wi M f') ∧ mt_R f' m (if pt_ok x T = true then T ++ bs_l x else T) ∧ ∀ a j, (a ≠ m ∨ j ≠ 1) → a ≠ m + 1 → f' a j = f a j := by
      intro hie
      cases g with
      | false =>
        obtain ⟨j, hj, hbad⟩ := hg0 rfl
        have hp : pt_ok x T = false := by unfold pt_ok; rw [bg_no (show j < bl_n x 8 0 by omega) hbad, Bool.false_and]
        rw [if_pos (by rfl), xi_rz0, hp, if_neg (by simp)]
        exact ⟨f, rfl, hR0, fun _ _ _ _ => rfl⟩
      | true =>
        have hgood := hg1 rfl
        have hg := bg_of (x := x) fun j hj => hgood j (by omega)
        rw [if_neg (by exact bz_t rfl), xi_gi hL.1, h1, nI_add]
        unfold pt_ok
        rw [hg, Bool.true_and]
        by_cases hl : T.length + bl_n x 8 0 ≤ 120
        · rw [if_pos (show nI (T.length + i) ≤ 120 from nI_le (b := 120) (by omega) (by omega)), decide_eq_true hl, if_pos rfl, hie]
          exact mo_type2 hL hl h3 (fun j hj => hgood j (by omega)) fo_N 0 f (by omega) (by show _ < 2000; omega) h1 (by simpa using h4)
        · rw [if_neg (by rw [show (120 : Int32) = nI 120 from rfl, nI_leI (by omega) (by omega)]; omega), xi_rz0, decide_eq_false hl, if_neg (by simp)]
          exact ⟨f, rfl, hR0, fun _ _ _ _ => rfl⟩
    rw [fx_s, lp_Mo_type_10, xi_jp]
    by_cases h : 8 ≤ i
    · have hi8 : i = 8 := by omega
      rw [if_pos (show (8 : Int32) ≤ nI i from nI_le (a := 8) h (by omega))]
      refine hexit ?_
      rw [← hbl, hi8]; rfl
    · have hb := by_lt x i
      rw [if_neg (by rw [li_8, nI_leI (by omega) (by omega)]; exact h)]
      have hbs : bl_n x (8 - i) i = if by_n x i = 0 then i else bl_n x (8 - (i + 1)) (i + 1) := by
        rw [show 8 - i = (8 - (i + 1)) + 1 by omega]; rfl
      by_cases h0 : by_n x i = 0
      · rw [if_pos ((by_z x (by omega)).mpr h0)]
        refine hexit ?_
        rw [hbs, if_pos h0] at hbl
        exact hbl
      · rw [hbs, if_neg h0] at hbl
        rw [if_neg (fun hh => h0 ((by_z x (by omega)).mp hh)), by_i x (by omega), xi_nm, xi_jp, xi_jp, nI_1]
        dsimp only
        rw [xi_nm]
        have bad : ¬ (g = true ∧ 33 ≤ by_n x i ∧ by_n x i ≤ 126) → ∃ f', fo_fx (fun _ _ => none) (lp_Mo_type_10 m x (mm_wi M f)) kk (nI (i + 1)) 0 = some (bz (pt_ok x T), mm_wi M f') ∧ mt_R f' m (if pt_ok x T = true then T ++ bs_l x else T) ∧ ∀ a j, (a ≠ m ∨ j ≠ 1) → a ≠ m + 1 → f' a j = f a j := by
          intro hn
          refine ih (i + 1) false (by omega) (by omega) hbl (fun h => by cases h) fun _ => ?_
          cases g with
          | false =>
            obtain ⟨j, hj, hbad⟩ := hg0 rfl
            exact ⟨j, by omega, hbad⟩
          | true => exact ⟨i, by omega, fun hh => hn ⟨rfl, hh⟩⟩
        cases g with
        | false => rw [if_pos (by rfl)]; exact bad (by simp)
        | true =>
          rw [if_neg (by exact bz_t rfl)]
          by_cases h33 : by_n x i ≤ 32
          · rw [if_pos (show nI (by_n x i) ≤ 32 from nI_le (b := 32) h33 (by omega))]; exact bad (by omega)
          · rw [if_neg (by rw [show (32 : Int32) = nI 32 from rfl, nI_leI (by omega) (by omega)]; exact h33)]
            by_cases h126 : 127 ≤ by_n x i
            · rw [if_pos (show (127 : Int32) ≤ nI (by_n x i) from nI_le (a := 127) h126 (by omega))]; exact bad (by omega)
            · rw [if_neg (by rw [show (127 : Int32) = nI 127 from rfl, nI_leI (by omega) (by omega)]; exact h126), xi_nm]
              refine ih (i + 1) true (by omega) (by omega) hbl (fun _ j hj => ?_) (fun h => by cases h)
              by_cases hji : j = i
              · rw [hji]; omega
              · exact hg1 rfl j (by omega)
theorem mo_type {f : Nat → Nat → Int32} (hL : mo_L M m) (hR : mt_R f m T) : ∃ f', fn_Mo_type (mm_wi M f) m x = some (bz (pt_ok x T), mm_wi M f') ∧ mt_R f' m (if pt_ok x T = true then T ++ bs_l x else T) ∧ ∀ a j, (a ≠ m ∨ (j ≠ 0 ∧ j ≠ 1)) → a ≠ m + 1 → f' a j = f a j := by
  rw [fn_Mo_type, xi_pi hL.1]
  obtain ⟨f', e1, e2, e3⟩ := mo_type1 (f := up_2 f m 0 0) (x := x) hL (mt_0 hR) fo_N 0 true (by omega) (by decide) rfl (fun _ j hj => absurd hj (by omega)) (fun h => by cases h)
  refine ⟨f', e1, e2, fun a j q1 q2 => ?_⟩
  rw [e3 a j (by omega) q2]
  by_cases ha : a = m
  · rw [up_k (by omega)]
  · rw [up_o ha]
end
section
variable {M : Mm} {f : Nat → Nat → Int32} {x g h m bk : Nat} {E : Int32} {fr : Nat → Bool} {o : So} {T : List Nat}
theorem pm_type {v : Int64} (hL : sl_L M x g h) (hT : tx_R f (x + 1) T) : ∃ f', fn_Pm_type (mm_wi M f) x v = some (bz (pt_ok v T), mm_wi M f') ∧ tx_R f' (x + 1) (if pt_ok v T = true then T ++ bs_l v else T) ∧ ∀ a, a ≠ x + 1 → a ≠ x + 2 → f' a = f a := by
  obtain ⟨f', e1, e2, e3⟩ := tx_put (x := v) hL.2.2.2.2.2.2.2.2.2.1 hT
  rw [fn_Pm_type, xi_gr hL.1 hL.2.1, e1, xi_cv hL.2.2.2.2.2.2.2.2.2.1.1, xi_rz (bz_01 _)]
  exact ⟨f', rfl, e2, e3⟩
theorem pm_erase (hL : sl_L M x g h) (hT : tx_R f (x + 1) T) : fn_Pm_erase (mm_wi M f) x = some (nI T.length, mm_wi M (up_2 f (x + 1) 1 0)) ∧ tx_R (up_2 f (x + 1) 1 0) (x + 1) [] := by
  have t1 := hL.2.2.2.2.2.2.2.2.2.1.1
  rw [fn_Pm_erase, xi_gr hL.1 hL.2.1, xi_gi t1, hT.1, xi_gr hL.1 hL.2.1, xi_pi t1]
  exact ⟨rfl, by rw [up_e]; rfl, by simp, by simp, fun j y hy => by simp at hy⟩
theorem mo_erase (hL : mo_L M m) (hT : mt_R f m T) : fn_Mo_erase (mm_wi M f) m = some (nI T.length, mm_wi M (up_2 (up_2 f m 0 0) m 1 0)) ∧ mt_R (up_2 (up_2 f m 0 0) m 1 0) m [] := by
  rw [fn_Mo_erase, xi_pi hL.1, xi_gi hL.1, up_k (by omega), hT.1, xi_pi hL.1]
  exact ⟨rfl, by rw [up_e]; rfl, by simp, by simp, fun j y hy => by simp at hy⟩
/-! free -/
def an_free (o : So) (fr : Nat → Bool) (p : Int32) : Int32 := match o with | some _ => 0 | none => match pv_n 61 p with | none => 0 | some a => bz (!fr a)
def tg_f (fr : Nat → Bool) (a : Nat) : Nat → Bool := fun j => if j = a then !fr j else fr j
def fr_f (o : So) (fr : Nat → Bool) (p : Int32) : Nat → Bool := match o with | some _ => fr | none => match pv_n 61 p with | none => fr | some a => tg_f fr a
theorem tgf_R {q a : Nat} (hF : ∀ j, j < 61 → f q j = bz (fr j)) : ∀ j, j < 61 → up_2 f q a (bz (!fr a)) q j = bz (tg_f fr a j) := by
  intro j hj
  unfold tg_f
  by_cases e : j = a
  · subst e; rw [up_e, if_pos rfl]
  · rw [up_k e, if_neg e, hF j hj]
theorem pm_free {p : Int32} (hL : sl_L M x g h) (hP : pq_R f x g E fr o) : ∃ f', fn_Pm_free (mm_wi M f) x p = some (an_free o fr p, mm_wi M f') ∧ pq_R f' x g E (fr_f o fr p) o ∧ ∀ a, a ≠ x + 157 → f' a = f a := by
  have hP0 := hP
  obtain ⟨l0, -, -, -, -, -, -, -, l9, -, -, -, -, -, -, lz, lgh⟩ := hL
  obtain ⟨u1, u2, -, u4, -⟩ := lz.2.2.1
  obtain ⟨a1, a2, a3, a4, a5⟩ := hP
  rw [fn_Pm_free, xi_gi l0, a2]
  cases o with
  | some y => rw [if_neg (by exact bz_t rfl), xi_rz0]; exact ⟨f, rfl, hP0, fun _ _ => rfl⟩
  | none =>
    rw [if_pos (by rfl)]
    unfold an_free fr_f
    dsimp only
    cases hp : pv_n 61 p with
    | none =>
      refine ⟨f, ?_, hP0, fun _ _ => rfl⟩
      unfold pv_n at hp
      by_cases h0 : p < 0
      · rw [if_pos h0, xi_rz0]
      · rw [if_neg h0] at hp ⊢
        obtain ⟨r, hr, rfl⟩ := nI_of h0
        rw [nI_clamp hr] at hp
        rw [if_neg (show ¬ nI r ≤ 60 by rw [show (60 : Int32) = nI 60 from rfl, nI_leI hr (by omega)]; intro hh; rw [if_pos (by omega)] at hp; cases hp), xi_rz0]
    | some a =>
      obtain ⟨rfl, ha⟩ := pv_s hp
      have hs : (if bz (fr a) = 0 then (1 : Int32) else 0) = bz (!fr a) := by cases fr a <;> rfl
      have key : ∀ J : Int32 → Rr, fo_jp J (fun j44 => if bz (fr a) = 0 then j44 1 else j44 0) = J (bz (!fr a)) := by
        intro J; rw [xi_jp, ← hs]; split <;> rfl
      rw [if_neg (nI_pos (by omega)), if_pos (show nI a ≤ 60 from nI_le (b := 60) (by omega) (by omega)), xi_gr l0 l9, xi_gr u1 u2, xi_gr l0 l9, xi_gr u1 u2, xi_ai (t := 1) u4 ha (by decide), a3 a ha, key, xi_sz u4 ha (by decide), xi_gr l0 l9, xi_gr u1 u2, xi_ai (t := 1) u4 ha (by decide), up_e, xi_rz (bz_01 _)]
      refine ⟨_, rfl, ⟨by rw [up_o (by omega)]; exact a1, by rw [up_o (by omega)]; exact a2, tgf_R a3, fun e => hi_cg (a4 e) fun b q1 q2 => up_oa (by omega), fun n A S H e => (by cases e)⟩, fun b hb => up_oa hb⟩
theorem mo_free {p : Int32} (hL : mo_L M m) (hQ : mo_Q f m bk E fr o) : ∃ f', fn_Mo_free (mm_wi M f) m p = some (an_free o fr p, mm_wi M f') ∧ mo_Q f' m bk E (fr_f o fr p) o ∧ ∀ a j, (a ≠ m ∨ j ≠ 0) → a ≠ m + 2 → f' a j = f a j := by
  have hQ0 := mo_Q_0 (v := 0) hQ
  have fr0 : ∀ a j, (a ≠ m ∨ j ≠ 0) → a ≠ m + 2 → up_2 f m 0 0 a j = f a j := fun a j q1 _ => by
    by_cases ha : a = m
    · rw [up_k (by omega)]
    · rw [up_o ha]
  rw [fn_Mo_free, xi_pi hL.1]
  unfold an_free fr_f
  by_cases h0 : p < 0
  · have hp : pv_n 61 p = none := by unfold pv_n; rw [if_pos h0]
    rw [if_pos h0, xi_rz0, hp]
    refine ⟨_, ?_, ?_, fr0⟩
    · cases o <;> rfl
    · cases o <;> exact hQ0
  · obtain ⟨r, hr, rfl⟩ := nI_of h0
    rw [if_neg h0]
    by_cases h6 : 60 < r
    · have hp : pv_n 61 (nI r) = none := by unfold pv_n; rw [if_neg h0, nI_clamp hr, if_neg (by omega)]
      rw [if_pos (show (60 : Int32) < nI r from nI_lt (a := 60) h6 hr), xi_rz0, hp]
      refine ⟨_, ?_, ?_, fr0⟩
      · cases o <;> rfl
      · cases o <;> exact hQ0
    · have hp : pv_n 61 (nI r) = some r := by unfold pv_n; rw [if_neg h0, nI_clamp hr, if_pos (by omega)]
      rw [if_neg (show ¬ (60 : Int32) < nI r by rw [show (60 : Int32) = nI 60 from rfl, nI_ltI (by omega) hr]; exact h6), hp, xi_gi hL.1, hQ0.2.1]
      cases o with
      | some y =>
        rw [if_neg (by exact bz_t rfl), xi_rz0]
        exact ⟨_, rfl, hQ0, fr0⟩
      | none =>
        have hs : (if bz (fr r) = 0 then (1 : Int32) else 0) = bz (!fr r) := by cases fr r <;> rfl
        have key : ∀ J : Int32 → Rr, fo_jp J (fun j44 => if bz (fr r) = 0 then j44 1 else j44 0) = J (bz (!fr r)) := by
          intro J; rw [xi_jp, ← hs]; split <;> rfl
        obtain ⟨b1, b2, b3, b4, b5, b6, b7⟩ := hQ0
        rw [if_pos (by rfl), xi_gr hL.1 (mr_4 hL), xi_gr hL.1 (mr_4 hL), xi_ai (t := 1) (ms_4 hL) (by omega) (by decide), b3 r (by omega), key, xi_sz (ms_4 hL) (by omega) (by decide), xi_gr hL.1 (mr_4 hL), xi_ai (t := 1) (ms_4 hL) (by omega) (by decide), up_e, xi_rz (bz_01 _)]
        refine ⟨_, rfl, ⟨by rw [up_o (by omega)]; exact b1, by rw [up_o (by omega)]; exact b2, tgf_R b3, by rw [up_o (by omega)]; exact b4, b5, fun e => by rw [up_o (by omega)]; exact b6 e, fun n A S H e => (by cases e)⟩, fun a j q1 q2 => ?_⟩
        rw [up_o q2]; exact fr0 a j q1 q2
/-! stop -/
theorem pm_stop (hL : sl_L M x g h) (hP : pq_R f x g E fr o) : ∃ f', fn_Pm_stop (mm_wi M f) x = some (bz o.isSome, mm_wi M f') ∧ pq_R f' x g E fr none ∧ ∀ a, a ≠ x → a ≠ x + 45 → f' a = f a := by
  obtain ⟨l0, -, -, -, -, -, l7, -, -, -, -, -, -, -, lh, -, lgh⟩ := hL
  obtain ⟨a1, a2, a3, a4, a5⟩ := hP
  have hH : ∃ H, hi_R (up_2 f x 2 0) (x + 45) H := by
    cases o with
    | none => exact ⟨_, hi_cg (a4 rfl) fun b q1 q2 => up_oa (by omega)⟩
    | some y =>
      obtain ⟨n, A, S, H⟩ := y
      exact ⟨H, hi_cg (a5 n A S H rfl).2.2 fun b q1 q2 => up_oa (by omega)⟩
  obtain ⟨H, hH⟩ := hH
  obtain ⟨e1, e2⟩ := hi_forget lh hH
  rw [fn_Pm_stop, xi_gi l0, a2, xi_pz0 l0, xi_gr l0 l7, e1, xi_cv lh.1, xi_rz (bz_01 _)]
  refine ⟨_, rfl, ⟨by rw [up_o (by omega), up_k (by omega)]; exact a1, by rw [up_o (by omega), up_e]; rfl, ru_cg a3 (by rw [up_oa (by omega), up_oa (by omega)]), fun _ => e2, fun n A S H e => (by cases e)⟩, fun a q1 q2 => by rw [up_oa q2, up_oa q1]⟩
theorem mo_stop (hL : mo_L M m) (hQ : mo_Q f m bk E fr o) : ∃ f', fn_Mo_stop (mm_wi M f) m = some (bz o.isSome, mm_wi M f') ∧ mo_Q f' m bk E fr none ∧ ∀ a j, (a ≠ m ∨ (j ≠ 0 ∧ j ≠ 6 ∧ j ≠ 20)) → f' a j = f a j := by
  obtain ⟨a1, a2, a3, a4, a5, a6, a7⟩ := hQ
  rw [fn_Mo_stop, xi_pi hL.1, xi_gi hL.1, up_k (by omega), a2, xi_pz0 hL.1, xi_pi hL.1, xi_rz (bz_01 _)]
  refine ⟨_, rfl, ⟨by rw [up_k (by omega), up_k (by omega), up_k (by omega)]; exact a1, by rw [up_k (by omega), up_e]; rfl, fun j hj => by rw [up_o (by omega), up_o (by omega), up_o (by omega)]; exact a3 j hj, by rw [up_k (by omega), up_k (by omega), up_k (by omega)]; exact a4, a5, fun _ => up_e, fun n A S H e => (by cases e)⟩, fun a j q => ?_⟩
  by_cases ha : a = m
  · rw [up_k (by omega), up_k (by omega), up_k (by omega)]
  · rw [up_o ha, up_o ha, up_o ha]
/-! undo -/
def an_undo (o : So) : So × Int32 := match o with | none => (none, 0) | some (n, A, S, []) => (some (n, A, S, []), 0) | some (n, A, _, s :: H) => (some (n, A, s, H), 1)
theorem pm_undo (hL : sl_L M x g h) (hP : pq_R f x g E fr o) : ∃ f', fn_Pm_undo (mm_wi M f) x = some ((an_undo o).2, mm_wi M f') ∧ pq_R f' x g E fr (an_undo o).1 ∧ ∀ a, (a < x + 45 ∨ x + 155 ≤ a) → (a < x + 27 ∨ x + 36 ≤ a) → f' a = f a := by
  have hP0 := hP
  obtain ⟨l0, -, -, -, l5, -, l7, -, -, -, -, -, s5, -, lh, -, lgh⟩ := hL
  obtain ⟨a1, a2, a3, a4, a5⟩ := hP
  rw [fn_Pm_undo, xi_gr l0 l7, xi_gr l0 l5]
  cases o with
  | none =>
    rw [hi_back_0 lh (a4 rfl), xi_cv lh.1, xi_rz0]
    exact ⟨f, rfl, hP0, fun _ _ _ => rfl⟩
  | some y =>
    obtain ⟨n, A, S, H⟩ := y
    obtain ⟨b1, b2, b3⟩ := a5 n A S H rfl
    cases H with
    | nil =>
      rw [hi_back_0 lh b3, xi_cv lh.1, xi_rz0]
      exact ⟨f, rfl, hP0, fun _ _ _ => rfl⟩
    | cons s H =>
      obtain ⟨f', e1, e2, e3, e4⟩ := hi_back (u := x + 27) lh s5 b3 (by omega)
      rw [e1, xi_cv lh.1, xi_rz1]
      refine ⟨f', rfl, ⟨by rw [e4 x (by omega) (by omega)]; exact a1, by rw [e4 x (by omega) (by omega)]; exact a2, ru_cg a3 (e4 _ (by omega) (by omega)), fun e => (by cases e), fun n' A' S' H' e => ?_⟩, fun a q1 q2 => e4 a (by omega) (by omega)⟩
      cases e
      exact ⟨ag_cg b1 fun a q1 q2 => e4 a (by omega) (by omega), e3, e2⟩
theorem mo_undo (hL : mo_L M m) (hQ : mo_Q f m bk E fr o) : ∃ f', fn_Mo_undo (mm_wi M f) m = some ((an_undo o).2, mm_wi M f') ∧ mo_Q f' m bk E fr (an_undo o).1 ∧ ∀ a j, (a ≠ m ∨ (j ≠ 0 ∧ j ≠ 20)) → a ≠ m + 14 → f' a j = f a j := by
  have hQ0 := mo_Q_0 (v := 0) hQ
  have fr0 : ∀ a j, (a ≠ m ∨ (j ≠ 0 ∧ j ≠ 20)) → a ≠ m + 14 → up_2 f m 0 0 a j = f a j := fun a j q1 _ => by
    by_cases ha : a = m
    · rw [up_k (by omega)]
    · rw [up_o ha]
  obtain ⟨a1, a2, a3, a4, a5, a6, a7⟩ := hQ
  cases o with
  | none =>
    rw [mo_undo_0 hL (a6 rfl)]
    exact ⟨_, rfl, hQ0, fr0⟩
  | some y =>
    obtain ⟨n, A, S, H⟩ := y
    obtain ⟨b1, b2⟩ := a7 n A S H rfl
    cases H with
    | nil =>
      rw [mo_undo_0 hL b2.2.1]
      exact ⟨_, rfl, hQ0, fr0⟩
    | cons s H =>
      obtain ⟨f', e1, e2, e3⟩ := mo_undo_s hL b2
      rw [e1]
      refine ⟨f', rfl, ⟨by rw [e3 _ _ (by omega) (by omega)]; exact a1, by rw [e3 _ _ (by omega) (by omega)]; exact a2, fun j hj => by rw [e3 _ _ (by omega) (by omega)]; exact a3 j hj, by rw [e3 _ _ (by omega) (by omega)]; exact a4, a5, fun e => (by cases e), fun n' A' S' H' e => ?_⟩, fun a j q1 q2 => e3 a j q1 (by omega)⟩
      cases e
      exact ⟨mw_cg b1 (e3 _ _ (by omega) (by omega)) (e3 _ _ (by omega) (by omega)) fun a j q1 q2 => e3 _ _ (by omega) (by omega), e2⟩
theorem vo_undo (h : vo_P o) : vo_P (an_undo o).1 := by
  cases o with
  | none => exact h
  | some y =>
    obtain ⟨n, A, S, H⟩ := y
    cases H with
    | nil => exact h
    | cons s H =>
      obtain ⟨h1, h2, h3⟩ := h n A S (s :: H) rfl
      intro n' A' S' H' e
      cases e
      exact ⟨h2 s (by simp), fun t ht => h2 t (by simp [ht]), h3⟩
/-! may -/
def an_may (o : So) (p q : Int32) : Int32 := match o with | none => -1 | some (_, A, S, _) => match pv_n 3 p with | none => -1 | some a => match pv_n 5 q with | none => -1 | some b => if (fi_n A a b (sp_B S)).isSome = true then (if (fi_n A a b (sp_P S)).isSome = true then 1 else 2) else 0
theorem pm_may {p q : Int32} (hL : sl_L M x g h) (hP : pq_R f x g E fr o) (hV : vo_P o) : fn_Pm_may (mm_wi M f) x p q = some (an_may o p q, mm_wi M f) := by
  obtain ⟨l0, -, l3, -, l5, -, -, -, -, -, ga, -, s5, -⟩ := hL
  obtain ⟨-, a2, -, -, a5⟩ := hP
  rw [fn_Pm_may, xi_gi l0, a2]
  cases o with
  | none => rw [if_pos (by rfl)]; rfl
  | some y =>
    obtain ⟨n, A, S, H⟩ := y
    obtain ⟨hA, hS, -⟩ := a5 n A S H rfl
    obtain ⟨hV1, -, -⟩ := hV n A S H rfl
    obtain ⟨c1, c2, c3, c4, -, -, t1, t2, t3, -⟩ := s5
    rw [if_neg (by exact bz_t rfl), pm_isParty, xi_cl]
    unfold an_may
    dsimp only
    cases hp : pv_n 3 p with
    | none => rw [if_pos (by rfl)]
    | some a =>
      rw [if_neg (by exact bz_t rfl), pm_isKind, xi_cl]
      cases hq : pv_n 5 q with
      | none => rw [if_pos (by rfl)]
      | some b =>
        obtain ⟨rfl, ha⟩ := pv_s hp
        obtain ⟨rfl, hb⟩ := pv_s hq
        dsimp only
        have e1 := ag_find (p := a) (k := b) ga hA t2 hS.2.2.2.1.1 (fun y hy => (hV1.2.1 y hy).1) (by omega) (by omega)
        have e2 := ag_find (p := a) (k := b) ga hA t3 hS.2.2.2.2.1.1 (fun y hy => (hV1.2.2.1 y hy).1) (by omega) (by omega)
        rw [if_neg (by exact bz_t rfl), xi_gr l0 l3, xi_gr l0 l5, xi_gr c1 c3, e1, xi_cv ga.1]
        show (if fz (fi_n A a b (sp_B S)) = -1 then _ else _) = _
        cases hB : fi_n A a b (sp_B S) with
        | none => rw [if_pos (by rfl), if_neg (by simp)]
        | some i =>
          rw [fz_s, if_neg (fz_ne hB hV1.2.2.2.2.1), if_pos (by rfl), xi_gr l0 l3, xi_gr l0 l5, xi_gr c1 c4, e2, xi_cv ga.1]
          show (if fz (fi_n A a b (sp_P S)) = -1 then _ else _) = _
          cases hPw : fi_n A a b (sp_P S) with
          | none => rw [if_pos (by rfl), if_neg (by simp)]
          | some i' => rw [fz_s, if_neg (fz_ne hPw hV1.2.2.2.2.2), if_pos (by rfl)]
theorem mo_may {p q : Int32} (hL : mo_L M m) (hQ : mo_Q f m bk E fr o) (hV : vo_P o) : fn_Mo_may (mm_wi M f) m p q = some (an_may o p q, mm_wi M (up_2 f m 0 0)) := by
  have hQ0 := mo_Q_0 (v := 0) hQ
  obtain ⟨-, a2, -, -, -, -, a7⟩ := hQ0
  rw [fn_Mo_may, xi_pi hL.1, xi_gi hL.1, a2]
  cases o with
  | none => rw [if_pos (by rfl)]; rfl
  | some y =>
    obtain ⟨n, A, S, H⟩ := y
    obtain ⟨hW, hH⟩ := a7 n A S H rfl
    obtain ⟨hV1, -, -⟩ := hV n A S H rfl
    rw [if_neg (by exact bz_t rfl), mo_isParty, xi_cl]
    unfold an_may
    dsimp only
    cases hp : pv_n 3 p with
    | none => rw [if_pos (by rfl)]
    | some a =>
      rw [if_neg (by exact bz_t rfl), mo_isKind, xi_cl]
      cases hq : pv_n 5 q with
      | none => rw [if_pos (by rfl)]
      | some b =>
        obtain ⟨rfl, ha⟩ := pv_s hp
        obtain ⟨rfl, hb⟩ := pv_s hq
        dsimp only
        obtain ⟨b1, kb, hkb, hkbl⟩ := hH.1.2.2.2.1
        obtain ⟨p1, kp, hkp, hkpl⟩ := hH.1.2.2.2.2.1
        have hkb8 := hkb.2.1
        have hkp8 := hkp.2.1
        obtain ⟨w, c1, c2⟩ := mo_first (s := 0) (o := 18) (o' := 18) (p := a) (q := b) hL hW (by omega) rfl (by omega) hkb b1 hkbl (a := 1) (by omega) hV1.2.1 (by omega) (by omega)
        obtain ⟨w', d1, d2⟩ := mo_first (s := 0) (o := 35) (o' := 35) (p := a) (q := b) hL hW (by omega) rfl (by omega) hkp p1 hkpl (a := 2) (by omega) hV1.2.2.1 (by omega) (by omega)
        rw [if_neg (by exact bz_t rfl), show (fn_Mo_first (mm_wi M (up_2 f m 0 0)) m 0 18 (nI a) (nI b)) = _ from c1, xi_cv hL.1]
        rcases c2 with ⟨hw, hfi⟩ | ⟨v, i, y, hw, hfi, hkv, hli, hF⟩
        · rw [hw, hfi, if_neg (show ¬ 0 ≤ fz none by decide), if_neg (by simp)]
        · have hvl := te_lt hkv
          rw [hw, hfi, fz_s, if_pos (nI_pos' (by omega)), if_pos (by rfl), show (fn_Mo_first (mm_wi M (up_2 f m 0 0)) m 0 35 (nI a) (nI b)) = _ from d1, xi_cv hL.1]
          rcases d2 with ⟨hw', hfi'⟩ | ⟨v', i', y', hw', hfi', hkv', hli', hF'⟩
          · rw [hw', hfi', if_neg (show ¬ 0 ≤ fz none by decide), if_neg (by simp)]
          · have hvl' := te_lt hkv'
            rw [hw', hfi', fz_s, if_pos (nI_pos' (by omega)), if_pos (by rfl)]
end
