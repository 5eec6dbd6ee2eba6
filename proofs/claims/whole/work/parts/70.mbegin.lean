/-! begin in the reference -/
section
variable {T : List Nat}
theorem ra_B : ∀ k i p (A0 : Nat → Nat → Nat) n A, ra_n T k i p A0 = .inr (n, A) → (∀ c, c < i → cl_B (A0 c)) → n ≤ i + k ∧ ∀ c, c < n → cl_B (A c) := by
  intro k
  induction k with
  | zero => intro i p A0 n A h; cases h
  | succ k ih =>
    intro i p A0 n A h h0
    unfold ra_n at h
    cases hc : ps_cl T p with
    | inl e' => rw [hc] at h; cases h
    | inr y =>
      obtain ⟨p', C⟩ := y
      have hC := (ps_cl_B hc).2
      have h1 : ∀ c, c < i + 1 → cl_B (up_A A0 i C c) := by
        intro c hci
        unfold up_A
        by_cases h2 : c = i
        · rw [if_pos h2]; exact hC
        · rw [if_neg h2]; exact h0 c (by omega)
      rw [hc] at h
      dsimp only at h
      split at h
      · cases h; exact ⟨by omega, h1⟩
      · split at h
        · cases h
        · obtain ⟨g1, g2⟩ := ih _ _ _ _ _ h h1
          exact ⟨by omega, g2⟩
theorem ra_e : ∀ k i p (A0 : Nat → Nat → Nat) e, ra_n T k i p A0 = .inl e → e ≤ p + 20 * k + 20 := by
  intro k
  induction k with
  | zero => intro i p B e h; cases h; omega
  | succ k ih =>
    intro i p B e h
    unfold ra_n at h
    cases hc : ps_cl T p with
    | inl e' => rw [hc] at h; cases h; have := ps_cl_e hc; omega
    | inr y =>
      obtain ⟨p', C⟩ := y
      have := (ps_cl_B hc).1
      rw [hc] at h
      dsimp only at h
      split at h
      · cases h
      · split at h
        · cases h; omega
        · have := ih _ _ _ _ h; omega
theorem ft_e {A : Nat → Nat → Nat} {n e : Nat} (hn : n ≤ 10) (hf : ft_n A n = some e) : e < 1000 := by
  unfold ft_n at hf
  cases h1 : (List.range n).find? (fun c => !rr_n A n c) with
  | some c =>
    rw [h1] at hf
    cases hf
    have := List.mem_range.mp (List.mem_of_find?_eq_some h1)
    omega
  | none =>
    rw [h1] at hf
    cases h2 : (List.range n).find? (fun c => lr_n A c n c) with
    | none => rw [h2] at hf; cases hf
    | some c =>
      rw [h2] at hf
      cases hf
      have := List.mem_range.mp (List.mem_of_find?_eq_some h2)
      show 300 + c < 1000
      omega
theorem rt_e {e : Nat} (h : rt_n T = .inl e) : e < 1000 ∧ ra_v (ra_n T 10 0 0 (fun _ _ => 0)) = nI e := by
  unfold rt_n at h
  cases hr : ra_n T 10 0 0 (fun _ _ => 0) with
  | inl e' =>
    rw [hr] at h
    cases h
    have := ra_e _ _ _ _ _ hr
    exact ⟨by omega, rfl⟩
  | inr y =>
    obtain ⟨n, A⟩ := y
    rw [hr] at h
    dsimp only at h
    cases hf : ft_n A n with
    | none => rw [hf] at h; cases h
    | some e' =>
      rw [hf] at h
      cases h
      obtain ⟨g1, -⟩ := ra_B _ _ _ _ _ _ hr (fun c hc => by omega)
      refine ⟨ft_e (by omega) hf, ?_⟩
      unfold ra_v
      dsimp only
      rw [hf]; rfl
theorem rt_i {n : Nat} {A : Nat → Nat → Nat} (h : rt_n T = .inr (n, A)) : ra_n T 10 0 0 (fun _ _ => 0) = .inr (n, A) ∧ ra_v (ra_n T 10 0 0 (fun _ _ => 0)) = -1 ∧ n ≤ 10 ∧ ∀ c, c < n → cl_B (A c) := by
  obtain ⟨h1, h2⟩ := rt_ok h
  obtain ⟨g1, g2⟩ := ra_B _ _ _ _ _ _ h2 (fun c hc => by omega)
  refine ⟨h2, ?_, by omega, g2⟩
  rw [h2]
  unfold ra_v
  dsimp only
  rw [h1]; rfl
end
section
variable {M : Mm} {f f' : Nat → Nat → Int32} {m bk n : Nat} {E : Int32} {fr : Nat → Bool} {o : So} {A : Nat → Nat → Nat} {S : Sp} {T : List Nat}
theorem mc_cg2 {j : Nat} {C : Nat → Nat} (h : mc_R f m j C) (h0 : ∀ x, m + 3 ≤ x → x ≤ m + 13 → f' x j = f x j) : mc_R f' m j C := by
  unfold mc_R mg_R mb_R ma_R at *
  simp only [h0 (m + 3) (by omega) (by omega), h0 (m + 4) (by omega) (by omega), h0 (m + 5) (by omega) (by omega), h0 (m + 6) (by omega) (by omega), h0 (m + 7) (by omega) (by omega), h0 (m + 8) (by omega) (by omega), h0 (m + 9) (by omega) (by omega), h0 (m + 10) (by omega) (by omega), h0 (m + 11) (by omega) (by omega), h0 (m + 12) (by omega) (by omega), h0 (m + 13) (by omega) (by omega)]
  exact h
/-- what a begin that fails leaves: the other bank's rows are of no use -/
theorem mo_Q_bg {v : Int32} (hQ : mo_Q f m bk E fr o) (h3 : f' m 3 = v) (h5 : f' m 5 = f m 5) (h7 : f' m 7 = f m 7) (h6 : f' m 6 = f m 6) (h20 : f' m 20 = f m 20) (h2 : ∀ j, f' (m + 2) j = f (m + 2) j) (hr : ∀ x c, m + 3 ≤ x → x ≤ m + 13 → c < 10 → f' x (10 * bk + c) = f x (10 * bk + c)) (hs : ∀ j, j < 923 → f' (m + 14) j = f (m + 14) j) : mo_Q f' m bk v fr o := by
  obtain ⟨a1, a2, a3, a4, a5, a6, a7⟩ := hQ
  refine ⟨h3, by rw [h6]; exact a2, fun j hj => by rw [h2]; exact a3 j hj, by rw [h5]; exact a4, a5, fun e => by rw [h20]; exact a6 e, fun n A S H e => ?_⟩
  obtain ⟨⟨w1, w2, w3, w4, w5, w6⟩, hH⟩ := a7 n A S H e
  exact ⟨⟨w1, w2, by rw [h5]; exact w3, by rw [h7]; exact w4, fun c hc => ⟨mc_cg2 (w5 c hc).1 fun x q1 q2 => hr x c q1 q2 (by omega), (w5 c hc).2⟩, fun j hj => by rw [h2]; exact w6 j hj⟩, mh_cg hH h20 hs⟩
theorem mo_clr (hL : mo_L M m) {v12 v55 : Int32} : ∀ kk i f, i ≤ 71 → 71 - i < kk → ∃ f' k', fo_fx (fun _ _ => none) (lp_Mo_begin_72 m v12 v55) kk (mm_wi M f) (nI i) = lp_Mo_begin_72 m v12 v55 (fo_fx (fun _ _ => none) (lp_Mo_begin_72 m v12 v55) k') (mm_wi M f') (nI 71) ∧ (∀ j, i ≤ j → j < 71 → f' (m + 14) (923 + j) = 0) ∧ ∀ a j, (a ≠ m + 14 ∨ j < 923 + i ∨ 994 ≤ j) → f' a j = f a j := by
  intro kk
  induction kk with
  | zero => intro i f _ h; omega
  | succ kk ih =>
    intro i f hi hk
    by_cases h : i = 71
    · subst h
      exact ⟨f, kk, rfl, fun j h1 h2 => by omega, fun _ _ _ => rfl⟩
    · obtain ⟨f', k', e1, e2, e3⟩ := ih (i + 1) (up_2 f (m + 14) (923 + i) 0) (by omega) (by omega)
      refine ⟨f', k', ?_, fun j h1 h2 => ?_, fun a j h1 => ?_⟩
      · rw [fx_s, lp_Mo_begin_72, if_neg (by rw [show (71 : Int32) = nI 71 from rfl, nI_leI (by omega) (by omega)]; omega), xi_gr hL.1 (mr_19 hL), show (923 : Int32) + nI i = nI (923 + i) from nI_add 923 i, xi_si (ms_19 hL) (by omega) (by decide), nI_1]
        exact e1
      · by_cases h3 : j = i
        · subst h3; rw [e3 _ _ (by omega), up_e]
        · exact e2 j (by omega) h2
      · rw [e3 a j (by omega)]
        by_cases ha : a = m + 14
        · rw [up_k (by omega)]
        · rw [up_o ha]
theorem ms_zero (h : ∀ j, j < 71 → f (m + 14) (923 + j) = 0) : ms_R f m 923 sp_0 := by
  have nil : ∀ b, b < 71 → mp_R f (m + 14) (923 + b) [] := fun b hb => ⟨List.Pairwise.nil, [], ⟨by rw [h b hb]; rfl, by simp, by simp, fun j x hx => by simp at hx⟩, List.Perm.nil⟩
  exact ⟨h 0 (by omega), by show 0 ≤ 60; omega, nil 1 (by omega), nil 18 (by omega), nil 35 (by omega), fun j hj => by rw [Nat.add_assoc]; exact h (52 + j) (by omega), fun j hj => by rw [Nat.add_assoc]; exact h (61 + j) (by omega)⟩
def bg_c (k : Nat) : Nat := if k = 0 then 0 else k - 1
theorem bk_1 (h : bk ≤ 1) : (1 : Int32) - nI bk = nI (1 - bk) := by
  have h1 : ∀ b, b ≤ 1 → (1 : Int32) - nI b = nI (1 - b) := by decide +kernel
  exact h1 bk h
theorem st_lt {c : Nat} (h : c ∈ st_l A n) : c < n := by
  unfold st_l at h
  simpa using (List.mem_filter.mp h).1
theorem st_len : (st_l A n).length ≤ n := by
  unfold st_l
  have := List.length_filter_le (fun c => decide (A c 0 = 0)) (List.range n)
  simpa using this
theorem mo_begin (hL : mo_L M m) (hT : mt_R f m T) (hQ : mo_Q f m bk E fr o) : ∃ f' v bk', fn_Mo_begin (mm_wi M f) m = some (v, mm_wi M f') ∧ f' m 0 = nI (bg_c (oc_bg T fr o).1) ∧ ((oc_bg T fr o).1 = 0 → v = (oc_bg T fr o).2.1) ∧ mt_R f' m (oc_bg T fr o).2.2.1 ∧ mo_Q f' m bk' (oc_bg T fr o).2.2.2.1 fr (oc_bg T fr o).2.2.2.2 ∧ ∀ a, (a < m ∨ m + 16 ≤ a) → f' a = f a := by
  obtain ⟨q1, q2, q3, q4, q5, q6, q7⟩ := hQ
  have hQ : mo_Q f m bk E fr o := ⟨q1, q2, q3, q4, q5, q6, q7⟩
  have hB : 10 * (1 - bk) ≤ 10 := by omega
  obtain ⟨f1, b1, b2, b3⟩ := mo_readAll (M := M) (B := 10 * (1 - bk)) hL hB hT
  have hfo : fn_Mo_faultOf (mm_wi M f1) m (nI (10 * (1 - bk))) (rv_n (ra_n T 10 0 0 (fun _ _ => 0))) = some (ra_v (ra_n T 10 0 0 (fun _ _ => 0)), mm_wi M f1) := by
    refine mo_faultOf hL hB (fun e he => ?_) (fun n A he => ?_)
    · have := ra_e _ _ _ _ _ he; omega
    · obtain ⟨g1, g2⟩ := b2 n A he
      obtain ⟨-, g4⟩ := ra_B _ _ _ _ _ _ he (fun c hc => by omega)
      exact ⟨g1, fun c hc => ⟨g2 c hc, g4 c hc⟩⟩
  rw [fn_Mo_begin, xi_gi hL.1, q4, xi_nm, bk_1 q5, show 10 * nI (1 - bk) = nI (10 * (1 - bk)) from nI_xm 10 _, b1, xi_cv hL.1, hfo, xi_cv hL.1, xi_pi hL.1, xi_gi hL.1, up_e, xi_jp]
  dsimp only
  unfold oc_bg
  cases hrt : rt_n T with
  | inl e =>
    obtain ⟨he, hv⟩ := rt_e hrt
    rw [hv, if_neg (nI_pos (by omega)), xi_pi hL.1, xi_gi hL.1, up_e, if_neg (by decide)]
    refine ⟨_, _, bk, rfl, up_e, fun h => (by cases h), mt_cg hT ?_ ?_, mo_Q_bg hQ ?_ ?_ ?_ ?_ ?_ (fun j => ?_) (fun x c g1 g2 g3 => ?_) (fun j hj => ?_), fun a ha => ?_⟩
    · rw [up_k (by omega), up_k (by omega), b3 _ _ (by omega)]
    · rw [up_oa (by omega), up_oa (by omega)]; exact funext fun j => b3 _ _ (by omega)
    · rw [up_k (by omega), up_e]
    · rw [up_k (by omega), up_k (by omega), b3 _ _ (by omega)]
    · rw [up_k (by omega), up_k (by omega), b3 _ _ (by omega)]
    · rw [up_k (by omega), up_k (by omega), b3 _ _ (by omega)]
    · rw [up_k (by omega), up_k (by omega), b3 _ _ (by omega)]
    · rw [up_o (by omega), up_o (by omega), b3 _ _ (by omega)]
    · rw [up_o (by omega), up_o (by omega), b3 _ _ (by omega)]
    · rw [up_o (by omega), up_o (by omega), b3 _ _ (by omega)]
    · rw [up_oa (by omega), up_oa (by omega)]; exact funext fun j => b3 _ _ (by omega)
  | inr y =>
    obtain ⟨n, A⟩ := y
    obtain ⟨hra, hv, hn, hcB⟩ := rt_i hrt
    obtain ⟨-, hmc⟩ := b2 n A hra
    obtain ⟨dp, hdp⟩ := ft_dp hn (rt_ok hrt).1
    rw [hv, if_pos (by decide), xi_pi hL.1, xi_gi hL.1, up_e, if_pos (by decide), xi_gi hL.1, up_k (by omega), up_k (by omega), b3 m 7 (by omega), xi_pi hL.1, xi_pi hL.1, hra, show rv_n (.inr (n, A)) = nI n from rfl]
    obtain ⟨f2, k', c1, c2, c3⟩ := mo_clr (v12 := nI n) (v55 := f m 7) hL fo_N 0 (up_2 (up_2 (up_2 (up_2 f1 m 3 (-1)) m 0 0) m 5 (nI (1 - bk))) m 7 (nI n)) (by omega) (by decide)
    have g1 : ∀ a j, a ≠ m → (a < m + 3 ∨ m + 14 ≤ a ∨ j < 10 * (1 - bk) ∨ 10 * (1 - bk) + 10 ≤ j) → (a ≠ m + 14 ∨ j < 923 ∨ 994 ≤ j) → f2 a j = f a j := fun a j h1 h2 h3 => by rw [c3 a j (by omega), up_o h1, up_o h1, up_o h1, up_o h1, b3 a j (by omega)]
    have g2 : ∀ j, j ≠ 0 → j ≠ 3 → j ≠ 5 → j ≠ 7 → f2 m j = f m j := fun j h1 h2 h3 h4 => by rw [c3 m j (by omega), up_k (by omega), up_k (by omega), up_k (by omega), up_k (by omega), b3 m j (by omega)]
    have g3 : f2 m 3 = -1 := by rw [c3 m 3 (by omega), up_k (by omega), up_k (by omega), up_k (by omega), up_e]
    have g0 : f2 m 0 = 0 := by rw [c3 m 0 (by omega), up_k (by omega), up_k (by omega), up_e]
    have hW2 : mw_R f2 m (1 - bk) n A fr := by
      refine ⟨by omega, hn, ?_, ?_, fun c hc => ⟨mc_cg2 (hmc c hc) fun x z1 z2 => ?_, hcB c hc⟩, fun j hj => ?_⟩
      · rw [c3 m 5 (by omega), up_k (by omega), up_e]
      · rw [c3 m 7 (by omega), up_e]
      · rw [c3 x _ (by omega), up_o (by omega), up_o (by omega), up_o (by omega), up_o (by omega)]
      · rw [g1 _ _ (by omega) (by omega) (by omega)]; exact q3 j hj
    have hS2 : ms_R f2 m (71 * 13) sp_0 := ms_zero fun j hj => c2 j (by omega) hj
    obtain ⟨f3, d1, d2, -, d4, d5⟩ := mo_start (M := M) (f := f2) (A := A) hL
    have hW3 : mw_R f3 m (1 - bk) n A fr := mw_cg hW2 (d5 _ _ (by omega)) (d5 _ _ (by omega)) fun x j h1 h2 => d5 _ _ (by omega)
    obtain ⟨f4, e1, e2, e3⟩ := mo_await (M := M) (f := f3) (t := 0) (a := 0) (b := 0) (t' := 0) (a' := 0) (b' := 0) (W := []) hL rfl rfl rfl (by omega) (by omega) (by omega) (by simp; omega) hW3 d2
    rw [aw_0, List.nil_append] at e2
    have e2 : mq_R f4 m (st_l A n) := e2
    have hW4 : mw_R f4 m (1 - bk) n A fr := mw_cg hW3 (e3 _ _ (by omega) (by omega)) (e3 _ _ (by omega) (by omega)) fun x j h1 h2 => e3 _ _ (by omega) (by omega)
    have hS4 : ms_R f4 m (71 * 13) sp_0 := ms_cg hS2 fun j _ _ => by rw [e3 _ _ (by omega) (by omega), d5 _ _ (by omega)]
    have hsl := st_len (A := A) (n := n)
    obtain ⟨f5, r1, r2, r3, r4⟩ := mo_run (M := M) (f := f4) (s := 13) (s' := 13) rfl hL (by omega) hdp (fun c hc => st_lt hc) (Nat.le_trans (ph_le hdp fun c hc => st_lt hc) (by omega)) hW4 e2 hS4 (by rw [e3 _ _ (by omega) (by omega)]; exact d4)
    have k1 : fw_R f2 f5 m (71 * 13) := fun a j h1 h2 h3 => by rw [fx_w r4 a j h1 h2 h3, e3 a j (by omega) h3, d5 a j (by omega)]
    have c1' : fo_fx (fun _ _ => none) (lp_Mo_begin_72 m (nI n) (f m 7)) fo_N (mm_wi M (up_2 (up_2 (up_2 (up_2 f1 m 3 (-1)) m 0 0) m 5 (nI (1 - bk))) m 7 (nI n))) 0 = _ := c1
    rw [c1', lp_Mo_begin_72, if_pos (by decide), d1, xi_cv hL.1, e1, xi_cv hL.1, r1, xi_cv hL.1, xi_gi hL.1]
    dsimp only
    cases hr : sp_run A fr 800 (st_l A n) sp_0 with
    | none =>
      rw [(r3 hr).1, if_neg (show ¬ (1 : Int32) = 0 by decide), xi_gi hL.1, k1 m 5 (by omega) (by omega) (by omega), hW2.2.2.1, bk_1 (by omega), xi_pi hL.1, xi_pi hL.1, xi_pi hL.1]
      refine ⟨_, _, bk, rfl, up_e, fun h => (by cases h), mt_cg hT ?_ ?_, mo_Q_bg hQ ?_ ?_ ?_ ?_ ?_ (fun j => ?_) (fun x c z1 z2 z3 => ?_) (fun j hj => ?_), fun a ha => ?_⟩
      · rw [up_k (by omega), up_k (by omega), up_k (by omega), k1 _ _ (by omega) (by omega) (by omega), g2 _ (by omega) (by omega) (by omega) (by omega)]
      · rw [up_oa (by omega), up_oa (by omega), up_oa (by omega)]; exact funext fun j => by rw [k1 _ _ (by omega) (by omega) (by omega), g1 _ _ (by omega) (by omega) (by omega)]
      · rw [up_k (by omega), up_k (by omega), up_k (by omega), k1 _ _ (by omega) (by omega) (by omega), g3]
      · rw [up_k (by omega), up_k (by omega), up_e, q4, show 1 - (1 - bk) = bk by omega]
      · rw [up_k (by omega), up_e]
      · rw [up_k (by omega), up_k (by omega), up_k (by omega), k1 _ _ (by omega) (by omega) (by omega), g2 _ (by omega) (by omega) (by omega) (by omega)]
      · rw [up_k (by omega), up_k (by omega), up_k (by omega), k1 _ _ (by omega) (by omega) (by omega), g2 _ (by omega) (by omega) (by omega) (by omega)]
      · rw [up_o (by omega), up_o (by omega), up_o (by omega), k1 _ _ (by omega) (by omega) (by omega), g1 _ _ (by omega) (by omega) (by omega)]
      · rw [up_o (by omega), up_o (by omega), up_o (by omega), k1 _ _ (by omega) (by omega) (by omega), g1 _ _ (by omega) (by omega) (by omega)]
      · rw [up_o (by omega), up_o (by omega), up_o (by omega), k1 _ _ (by omega) (by omega) (by omega), g1 _ _ (by omega) (by omega) (by omega)]
      · rw [up_oa (by omega), up_oa (by omega), up_oa (by omega)]; exact funext fun j => by rw [k1 _ _ (by omega) (by omega) (by omega), g1 _ _ (by omega) (by omega) (by omega)]
    | some S =>
      obtain ⟨s1, s2⟩ := r2 S hr
      obtain ⟨f6, p1, p2, p3⟩ := mo_copy (M := M) (f := f5) (s := 13) (t := 0) hL (by omega) (by omega) (by omega)
      rw [s1, if_pos (show (0 : Int32) = 0 from rfl), show (fn_Mo_copy (mm_wi M f5) m 13 0) = _ from p1, xi_cv hL.1, xi_pz1 hL.1, xi_pi hL.1, xi_pi hL.1]
      have hmf : ∀ j, j ≠ 1 → j ≠ 6 → j ≠ 20 → j < 21 → up_2 (up_2 (up_2 f6 m 6 1) m 20 0) m 1 0 m j = f2 m j := fun j h1 h2 h3 h4 => by rw [up_k h1, up_k h3, up_k h2, p3 _ _ (by omega), k1 _ _ (by omega) (by omega) (by omega)]
      have hof : ∀ a j, a ≠ m → a ≠ m + 14 → a ≠ m + 15 → up_2 (up_2 (up_2 f6 m 6 1) m 20 0) m 1 0 a j = f2 a j := fun a j h1 h2 h3 => by rw [up_o h1, up_o h1, up_o h1, p3 _ _ (by omega), k1 _ _ (by omega) (by omega) (by omega)]
      refine ⟨_, _, 1 - bk, rfl, ?_, fun _ => rfl, ⟨by rw [up_e]; rfl, by simp, by simp, fun j y hy => by simp at hy⟩, ⟨?_, ?_, fun j hj => ?_, ?_, by omega, fun e => (by cases e), fun n' A' S' H' e => ?_⟩, fun a ha => ?_⟩
      · rw [hmf 0 (by omega) (by omega) (by omega) (by omega), g0]; rfl
      · rw [hmf 3 (by omega) (by omega) (by omega) (by omega), g3]
      · rw [up_k (by omega), up_k (by omega), up_e]; rfl
      · rw [hof _ _ (by omega) (by omega) (by omega), g1 _ _ (by omega) (by omega) (by omega)]; exact q3 j hj
      · rw [hmf 5 (by omega) (by omega) (by omega) (by omega)]; exact hW2.2.2.1
      · cases e
        refine ⟨mw_cg hW2 (hmf 5 (by omega) (by omega) (by omega) (by omega)) (hmf 7 (by omega) (by omega) (by omega) (by omega)) fun x j h1 h2 => hof _ _ (by omega) (by omega) (by omega), ms_mv s2 fun i hi => ?_, by rw [up_k (by omega), up_e]; rfl, by simp, fun j s hs => by simp at hs⟩
        rw [up_o (by omega), up_o (by omega), up_o (by omega)]
        exact p2 i hi
      · exact funext fun j => by rw [hof _ _ (by omega) (by omega) (by omega), g1 _ _ (by omega) (by omega) (by omega)]
end
