/-! begin, course and threat in the class -/
def oc_bg (T : List Nat) (fr : Nat → Bool) (o : So) : Nat × Int32 × List Nat × Int32 × So := match rt_n T with
  | .inl e => (2, 0, T, nI e, o)
  | .inr (n, A) => match sp_run A fr 800 (st_l A n) sp_0 with
    | none => (3, 0, T, -1, o)
    | some S => (0, nI n, [], -1, some (n, A, S, []))
def dv_n (d : Int32) : Option Nat := if d = 1 then some 1 else if d = 2 then some 2 else none
def cs_n (S : Sp) (p d : Int32) : Option (Nat × Nat) := match pv_n 3 p with
  | none => none
  | some a => match dv_n d with
    | none => none
    | some e => if sp_d S ≤ 58 then some (a, e) else none
/-- the first course for party a over e days -/
def fq_n (A : Nat → Nat → Nat) (n : Nat) (fr : Nat → Bool) (a e : Nat) (S : Sp) : Option Nat := fc_n A n fr a (ek_n A n fr a (rd_2 A n fr a e)) S
def oc_co (fr : Nat → Bool) (o : So) (p d : Int32) : Nat × Int32 := match o with
  | none => (1, 0)
  | some (n, A, S, _) => match cs_n S p d with
    | none => (2, 0)
    | some (a, e) => (0, fz (fq_n A n fr a e S))
def tr_n (A : Nat → Nat → Nat) (n : Nat) (fr : Nat → Bool) (a e : Nat) (S : Sp) (c : Nat) : Bool := !decide (c / 5 = a) && (match ch_n A n fr (c / 5) (c % 5) S with | some S1 => (fq_n A n fr a e S1).isNone | none => false)
def oc_th (fr : Nat → Bool) (o : So) (p d : Int32) : Nat × Int32 := match o with
  | none => (1, 0)
  | some (n, A, S, _) => match cs_n S p d with
    | none => (2, 0)
    | some (a, e) => (0, if (fq_n A n fr a e S).isSome = true then fz ((List.range 15).find? (tr_n A n fr a e S)) else -1)
section
variable {M : Mm} {f : Nat → Nat → Int32} {x g h n : Nat} {E : Int32} {fr : Nat → Bool} {o : So} {A : Nat → Nat → Nat} {S : Sp} {H : List Sp} {T : List Nat} {dp : Nat → Nat}
theorem rt_ok (h : rt_n T = .inr (n, A)) : ft_n A n = none ∧ ra_n T 10 0 0 (fun _ _ => 0) = .inr (n, A) := by
  unfold rt_n at h
  cases hr : ra_n T 10 0 0 (fun _ _ => 0) with
  | inl e => rw [hr] at h; cases h
  | inr y =>
    obtain ⟨n1, A1⟩ := y
    rw [hr] at h
    dsimp only at h
    cases hf : ft_n A1 n1 with
    | some e => rw [hf] at h; cases h
    | none => rw [hf] at h; cases h; exact ⟨hf, rfl⟩
theorem sp_0_V : sp_V A n sp_0 := by
  refine ⟨?_, ?_, ?_, by simp [sp_0, sp_D], by simp [sp_0, sp_B], by simp [sp_0, sp_P]⟩ <;> intro y hy <;> cases hy
theorem oc_bg_V (hn : n ≤ 10) (h4 : ∀ c, c < n → A c 7 ≤ 4) (h : rt_n T = .inr (n, A)) (hr : sp_run A fr 800 (st_l A n) sp_0 = some S) : vo_P (some (n, A, S, [])) := by
  obtain ⟨dp, hdp⟩ := ft_dp hn (rt_ok h).1
  intro n' A' S' H' e
  cases e
  refine ⟨sp_run_V hn hdp h4 800 _ _ _ sp_0_V (fun c hc => ?_) hr, fun s hs => (by cases hs), dp, hdp⟩
  unfold st_l at hc
  simpa using (List.mem_filter.mp hc).1
theorem pm_begin (hL : sl_L M x g h) (hT : tx_R f (x + 1) T) (hP : pq_R f x g E fr o) : ∃ M1 f' g' h', (∀ th, fn_Pm_begin th (mm_wi M f) x = rq_t th (oc_bg T fr o).1 (oc_bg T fr o).2.1 (mm_wi M1 f')) ∧ mm_s M1 = mm_s M ∧ (∀ a, a ≠ x → mm_r M1 a = mm_r M a) ∧ sl_L M1 x g' h' ∧ tx_R f' (x + 1) (oc_bg T fr o).2.2.1 ∧ pq_R f' x g' (oc_bg T fr o).2.2.2.1 fr (oc_bg T fr o).2.2.2.2 ∧ ∀ a, (a < x ∨ x + 216 ≤ a) → f' a = f a := by
  have hP0 := hP
  have hL0 := hL
  obtain ⟨l0, l1, l3, l4, l5, l6, l7, -, l9, ct, ga, gh, c5, c6, c7, lz, lgh⟩ := hL
  obtain ⟨a1, a2, a3, a4, a5⟩ := hP
  obtain ⟨f1, e1, e2, e3, e4⟩ := tx_into (t := x + 1) (g := h) ct gh (by omega) hT
  have hpq1 : pq_R (up_2 f1 x 1 (rt_v (rt_n T))) x g (rt_v (rt_n T)) fr o := by
    refine ⟨up_e, by rw [up_k (by omega), e4 x (by omega) (by omega)]; exact a2, ru_cg a3 (by rw [up_oa (by omega), e4 _ (by omega) (by omega)]), fun e => hi_cg (a4 e) fun a q1 q2 => by rw [up_oa (by omega), e4 _ (by omega) (by omega)], fun n A S H e => ⟨ag_cg (a5 n A S H e).1 fun a q1 q2 => by rw [up_oa (by omega), e4 _ (by omega) (by omega)], st_cg (a5 n A S H e).2.1 fun a q1 q2 => by rw [up_oa (by omega), e4 _ (by omega) (by omega)], hi_cg (a5 n A S H e).2.2 fun a q1 q2 => by rw [up_oa (by omega), e4 _ (by omega) (by omega)]⟩⟩
  have htx1 : tx_R (up_2 f1 x 1 (rt_v (rt_n T))) (x + 1) T := by
    obtain ⟨t1, t2, t3, t4⟩ := e2
    exact ⟨by rw [up_o (by omega)]; exact t1, t2, t3, fun j y hy => by rw [up_o (by omega)]; exact t4 j y hy⟩
  have hfr1 : ∀ a, (a < x ∨ x + 216 ≤ a) → up_2 f1 x 1 (rt_v (rt_n T)) a = f a := fun a ha => by rw [up_oa (by omega), e4 _ (by omega) (by omega)]
  unfold oc_bg
  cases hrt : rt_n T with
  | inl e =>
    rw [hrt] at e1 hpq1 htx1 hfr1
    have hne : ¬ rt_v (.inl e) = -1 := by
      have he : e < 1000 := by
        unfold rt_n at hrt
        cases hr : ra_n T 10 0 0 (fun _ _ => 0) with
        | inl e' =>
          rw [hr] at hrt
          cases hrt
          have key : ∀ k i p B e, ra_n T k i p B = .inl e → e ≤ p + 20 * k + 20 := by
            intro k
            induction k with
            | zero => intro i p B e h; cases h; omega
            | succ k ih =>
              intro i p B e h
              unfold ra_n at h
              cases hc : ps_cl T p with
              | inl e' => rw [hc] at h; cases h; have := ps_cl_e hc; omega
              | inr y =>
                obtain ⟨p', C⟩ := y
                have := (ps_cl_B hc).1
                rw [hc] at h
                dsimp only at h
                split at h
                · cases h
                · split at h
                  · cases h; omega
                  · have := ih _ _ _ _ h; omega
          have := key _ _ _ _ _ hr
          omega
        | inr y =>
          obtain ⟨n1, A1⟩ := y
          rw [hr] at hrt
          dsimp only at hrt
          cases hf : ft_n A1 n1 with
          | none => rw [hf] at hrt; cases hrt
          | some e' =>
            rw [hf] at hrt
            cases hrt
            have hn1 : n1 ≤ 20 := by
              have key : ∀ k i p B n A, ra_n T k i p B = .inr (n, A) → n ≤ i + k := by
                intro k
                induction k with
                | zero => intro i p B n A h; cases h
                | succ k ih =>
                  intro i p B n A h
                  unfold ra_n at h
                  cases hc : ps_cl T p with
                  | inl e' => rw [hc] at h; cases h
                  | inr y =>
                    obtain ⟨p', C⟩ := y
                    rw [hc] at h
                    dsimp only at h
                    split at h
                    · cases h; omega
                    · split at h
                      · cases h
                      · have := ih _ _ _ _ _ h; omega
              have := key _ _ _ _ _ _ hr
              omega
            unfold ft_n at hf
            cases h1 : (List.range n1).find? (fun c => !rr_n A1 n1 c) with
            | some c =>
              rw [h1] at hf
              cases hf
              have := List.mem_range.mp (List.mem_of_find?_eq_some h1)
              omega
            | none =>
              rw [h1] at hf
              cases h2 : (List.range n1).find? (fun c => lr_n A1 c n1 c) with
              | none => rw [h2] at hf; cases hf
              | some c =>
                rw [h2] at hf
                cases hf
                have := List.mem_range.mp (List.mem_of_find?_eq_some h2)
                show 300 + c < 1000
                omega
      have h1 : ∀ e, e < 1000 → ¬ nI e = -1 := by decide +kernel
      exact h1 e he
    refine ⟨M, _, g, h, fun th => ?_, rfl, fun _ _ => rfl, hL0, htx1, hpq1, hfr1⟩
    rw [fn_Pm_begin, xi_gr l0 l1, xi_gr l0 l4, e1, xi_cv ct.1, xi_pi l0, xi_gi l0, up_e, if_neg hne]; rfl
  | inr y =>
    obtain ⟨n, A⟩ := y
    rw [hrt] at e1 hpq1 htx1 hfr1
    have hA1 := e3 n A hrt
    have hn := hA1.2.1
    obtain ⟨dp, hdp⟩ := ft_dp hn (rt_ok hrt).1
    have hA2 : ag_R (up_2 f1 x 1 (rt_v (.inr (n, A)))) h n A := ag_cg hA1 fun a q1 q2 => up_oa (by omega)
    obtain ⟨f2, b1, b2, b3⟩ := st_clear (q := x + 36) (f := up_2 f1 x 1 (rt_v (.inr (n, A)))) c6
    have hap : ap_2 (x + 36) (x + 156) h := by unfold ap_2 ap_1; omega
    obtain ⟨f3, d1, d2, d3⟩ := ru_start (f := f2) (r := x + 156) (q := x + 36) gh lz.2.2.1 c6 hap hdp (ag_cg hA2 fun a q1 q2 => b3 a (by omega)) (ru_cg hpq1.2.2.1 (b3 _ (by omega))) b2
    have go : ∀ a, (a < x + 36 ∨ x + 45 ≤ a) → a ≠ x + 156 → a ≠ x + 158 → f3 a = up_2 f1 x 1 (rt_v (.inr (n, A))) a := fun a q1 q2 q3 => by rw [d3 a (by omega) (by omega) (by omega), b3 a (by omega)]
    dsimp only
    cases hr : sp_run A fr 800 (st_l A n) sp_0 with
    | none =>
      rw [hr] at d1
      refine ⟨M, f3, g, h, fun th => ?_, rfl, fun _ _ => rfl, hL0, ?_, ?_, fun a ha => by rw [go a (by omega) (by omega) (by omega), hfr1 a ha]⟩
      · rw [fn_Pm_begin, xi_gr l0 l1, xi_gr l0 l4, e1, xi_cv ct.1, xi_pi l0, xi_gi l0, up_e, if_pos (show rt_v (.inr (n, A)) = -1 from rfl), xi_gr l0 l6, b1, xi_cv c6.1, xi_gr l0 l9, xi_gr l0 l4, xi_gr l0 l6, d1, xi_cv lz.2.2.1.1, if_pos (by rfl)]; rfl
      · obtain ⟨t1, t2, t3, t4⟩ := htx1
        exact ⟨by rw [go _ (by omega) (by omega) (by omega)]; exact t1, t2, t3, fun j y hy => by rw [go _ (by omega) (by omega) (by omega)]; exact t4 j y hy⟩
      · exact pq_cg hpq1 (by rw [go _ (by omega) (by omega) (by omega)]) (by rw [go _ (by omega) (by omega) (by omega)]) (go _ (by omega) (by omega) (by omega)) (fun a q1 q2 => go _ (by omega) (by omega) (by omega)) (fun a q1 q2 => go _ (by omega) (by omega) (by omega)) (fun a q1 q2 => go _ (by omega) (by omega) (by omega))
    | some S =>
      rw [hr] at d1
      have hpq3 : pq_R f3 x g (-1) fr o := pq_cg hpq1 (by rw [go _ (by omega) (by omega) (by omega)]) (by rw [go _ (by omega) (by omega) (by omega)]) (go _ (by omega) (by omega) (by omega)) (fun a q1 q2 => go _ (by omega) (by omega) (by omega)) (fun a q1 q2 => go _ (by omega) (by omega) (by omega)) (fun a q1 q2 => go _ (by omega) (by omega) (by omega))
      have hL2 := sl_Lw hL0
      obtain ⟨m0, m1, m3, m4, m5, m6, m7, -, -, mt, mg, mh, k5, k6, k7, -, -⟩ := hL2
      obtain ⟨f4, p1, p2, p3⟩ := st_copyFrom (q := x + 27) (p := x + 36) k5 k6 (d2 S hr) (by omega)
      have hH : ∃ H, hi_R f4 (x + 45) H := by
        cases o with
        | none => exact ⟨_, hi_cg (hpq3.2.2.2.1 rfl) fun a q1 q2 => p3 a (by omega)⟩
        | some y =>
          obtain ⟨n', A', S', H'⟩ := y
          exact ⟨H', hi_cg (hpq3.2.2.2.2 n' A' S' H' rfl).2.2 fun a q1 q2 => p3 a (by omega)⟩
      obtain ⟨H, hH⟩ := hH
      obtain ⟨q1, q2⟩ := hi_forget k7 hH
      have hAn : f4 h 1 = nI n := by rw [p3 h (by omega), go h (by omega) (by omega) (by omega)]; exact hA2.1
      refine ⟨mm_pr (mm_pr M x 3 (some h)) x 4 (some g), up_2 (up_2 (up_2 f4 (x + 45) 1 0) (x + 1) 1 0) x 2 1, h, g, fun th => ?_, rfl, sl_Lw_r, sl_Lw hL0, ⟨by rw [up_o (by omega), up_e]; rfl, by simp, by simp, fun j y hy => by simp at hy⟩, ⟨?_, by rw [up_e]; rfl, ?_, fun e => (by cases e), fun n' A' S' H' e => ?_⟩, fun a ha => ?_⟩
      · rw [fn_Pm_begin, xi_gr l0 l1, xi_gr l0 l4, e1, xi_cv ct.1, xi_pi l0, xi_gi l0, up_e, if_pos (show rt_v (.inr (n, A)) = -1 from rfl), xi_gr l0 l6, b1, xi_cv c6.1, xi_gr l0 l9, xi_gr l0 l4, xi_gr l0 l6, d1, xi_cv lz.2.2.1.1, if_neg (by exact bz_t rfl), xi_gr l0 l3, xi_gr l0 l4, xi_pr l0, xi_pr (M := mm_pr M x 3 (some h)) l0, xi_gr m0 m5, xi_gr m0 m6, p1, xi_cv k5.1, xi_gr m0 m7, q1, xi_cv k7.1, xi_gr m0 m1, xi_pi mt.1, xi_pz1 m0, xi_gr m0 m3, xi_gi mg.1, up_o (by omega), up_o (by omega), up_o (by omega), hAn]; rfl
      · rw [up_k (by omega), up_o (by omega), up_o (by omega), p3 x (by omega)]; exact hpq3.1
      · exact ru_cg hpq3.2.2.1 (by rw [up_oa (by omega), up_oa (by omega), up_oa (by omega), p3 _ (by omega)])
      · cases e
        refine ⟨ag_cg hA2 fun a z1 z2 => ?_, st_cg p2 fun a z1 z2 => ?_, hi_cg q2 fun a z1 z2 => ?_⟩
        · rw [up_oa (by omega), up_oa (by omega), up_oa (by omega), p3 a (by omega), go a (by omega) (by omega) (by omega)]
        · rw [up_oa (by omega), up_oa (by omega), up_oa (by omega)]
        · rw [up_oa (by omega), up_oa (by omega)]
      · rw [up_oa (by omega), up_oa (by omega), up_oa (by omega), p3 a (by omega), go a (by omega) (by omega) (by omega), hfr1 a ha]
end
