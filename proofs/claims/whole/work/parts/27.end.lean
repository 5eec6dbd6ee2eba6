/-! the end of a day in the class -/
section
variable {M : Mm} {q g r n : Nat} {A : Nat → Nat → Nat} {fr : Nat → Bool}
theorem sp_act_d {c : Nat} {s s' : Sp} {E : List Nat} (h : sp_act A fr c s = some (s', E)) : sp_d s' = sp_d s := by
  unfold sp_act at h
  generalize bd_n fr 70 (sp_d s) (A c 10) = bb at h
  (repeat' split at h) <;> cases h <;> rfl
theorem sp_run_d : ∀ k Q s s', sp_run A fr k Q s = some s' → sp_d s' = sp_d s := by
  intro k
  induction k with
  | zero => intro Q s s' h; unfold sp_run at h; cases h; rfl
  | succ k ih =>
    intro Q s s' h
    cases Q with
    | nil => unfold sp_run at h; cases h; rfl
    | cons c Q =>
      unfold sp_run at h
      split at h
      · cases hact : sp_act A fr c s with
        | none => rw [hact] at h; cases h
        | some y =>
          obtain ⟨s1, E⟩ := y
          rw [hact] at h
          rw [ih _ _ _ h, sp_act_d hact]
      · exact ih _ _ _ h
theorem br_take {l : List Nat} {d i : Nat} (h : i < n) : br_q A n d l ((List.range n).take (i + 1)) = br_q A n d l ((List.range n).take i) ++ (List.replicate (l.countP (te_due i d)) (on_l A n 2 i)).flatten := by
  have e : (List.range n).take (i + 1) = (List.range n).take i ++ [i] := by
    rw [List.take_succ]; simp [h]
  unfold br_q
  rw [e, List.flatMap_append]
  simp
theorem br_len {l : List Nat} {d : Nat} (hn : n ≤ 10) : ∀ i, i ≤ n → (br_q A n d l ((List.range n).take i)).length ≤ 10 * du_n i d l := by
  intro i
  induction i with
  | zero => intro _; simp [br_q]
  | succ i ih =>
    intro hi
    have h1 := ih (by omega)
    have h2 := on_len A n 2 i
    rw [br_take (by omega), List.length_append, rp_len, du_s]
    have h3 : l.countP (te_due i d) * (on_l A n 2 i).length ≤ l.countP (te_due i d) * 10 := Nat.mul_le_mul_left _ (by omega)
    omega
theorem br_lt {l cs : List Nat} {d c : Nat} (h : c ∈ br_q A n d l cs) : c < n := by
  unfold br_q at h
  obtain ⟨x, -, hx⟩ := List.mem_flatMap.mp h
  obtain ⟨y, hy, hc⟩ := List.mem_flatten.mp hx
  rw [(List.mem_replicate.mp hy).2] at hc
  exact on_lt hc
theorem bc_s {v : Nat → Int32} {l : List Nat} {d i j : Nat} : bc_n v l d (i + 1) j = if j = i then bc_n v l d i j + nI (l.countP (te_due i d)) else bc_n v l d i j := by
  unfold bc_n
  by_cases h : j = i
  · subst h; simp
  · rw [if_neg h]
    by_cases h2 : j < i
    · rw [if_pos h2, if_pos (by omega)]
    · rw [if_neg h2, if_neg (by omega)]
/-- one clause's breaches: its count, and what waits -/
theorem ru_br1 {f : Nat → Nat → Int32} {s : Sp} {l W : List Nat} {d i : Nat} {K : Mm → Rr} (hLg : ag_L M g) (hLr : ru_L M r) (hLq : st_L M q) (hap : ap_2 q r g) (hi : i < n) (hA : ag_R f g n A) (hW : qu_R f r W) (hS : st_R f q s) (h8 : W.length + 10 * l.countP (te_due i d) ≤ 800) (hl : l.length ≤ 8) : ∃ f', (fo_gr (mm_wi M f) 5 q 5 fun a45 => fo_ai (mm_wi M f) 0 a45 (nI i) fun v51 => fo_si (mm_wi M f) a45 (nI i) (v51 + nI (l.countP (te_due i d))) fun M55 => fo_cv M55 3 r (fn_Ru_awaitAllOn M55 r g 120 (nI i) (nI (l.countP (te_due i d)))) fun _ M64 => K M64) = K (mm_wi M f') ∧ qu_R f' r (W ++ (List.replicate (l.countP (te_due i d)) (on_l A n 2 i)).flatten) ∧ st_R f' q (sp_sc s fun j => if j = i then sp_c s j + nI (l.countP (te_due i d)) else sp_c s j) ∧ fr_R f f' q r := by
  obtain ⟨l0, l1, l2, l3, l4, l5, t1, t2, t3, s1, s2⟩ := hLq
  obtain ⟨p1, p2, p3⟩ := hap
  unfold ap_1 at p1
  have h10 := hA.2.1
  have hc : l.countP (te_due i d) ≤ 8 := Nat.le_trans List.countP_le_length hl
  generalize l.countP (te_due i d) = T at *
  rw [xi_gr l0 l5, xi_ai (t := 0) s2 (by omega) (by decide), xi_si s2 (by omega) (by decide), hS.2.2.2.2.2.2 i (by omega)]
  obtain ⟨f1, e1, a1, b1⟩ := ru_awaitAllOn (f := up_2 f (q + 8) i (sp_c s i + nI T)) (t := 2) (k := i) (T := T) hLg hLr p3 (.inl rfl) (by omega) hc h8 (ag_cg hA fun a x y => up_oa (by omega)) (qu_cg hW (up_oa (by omega)) (up_oa (by omega)))
  rw [show (120 : Int32) = tc_n 2 from rfl, e1, xi_cv hLr.1]
  refine ⟨f1, rfl, a1, ?_, fun a x y z => by rw [b1 a y z, up_oa (by omega)]⟩
  refine st_cg (f := up_2 f (q + 8) i (sp_c s i + nI T)) (st_sc hS (fun j hj => ?_) fun a ha => up_oa ha) fun a x y => b1 a (by omega) (by omega)
  by_cases hj2 : j = i
  · subst hj2; rw [up_e, if_pos rfl]
  · rw [up_k hj2, if_neg hj2]; exact hS.2.2.2.2.2.2 j hj
theorem sc_sc {s : Sp} {v w : Nat → Int32} : sp_sc (sp_sc s v) w = sp_sc s w := rfl
theorem st_ext {f : Nat → Nat → Int32} {s : Sp} {v w : Nat → Int32} (h : st_R f q (sp_sc s v)) (e : ∀ j, v j = w j) : st_R f q (sp_sc s w) := by
  have : v = w := funext e
  rw [← this]; exact h
def en_v (A : Nat → Nat → Nat) (n : Nat) (fr : Nat → Bool) (s : Sp) : Int32 := if (sp_end A n fr s).isSome = true then nI (du_n n (sp_d s) (sp_D s)) else -2
theorem ru_end_lp {dp : Nat → Nat} {s : Sp} (hLg : ag_L M g) (hLr : ru_L M r) (hLq : st_L M q) (hap : ap_2 q r g) (hdp : dp_W n A dp) (hd : sp_d s < 60) : ∀ m i f, i ≤ n → n - i < m → ag_R f g n A → ru_F f r fr → qu_R f r (br_q A n (sp_d s) (sp_D s) ((List.range n).take i)) → st_R f q (sp_sc s (bc_n (sp_c s) (sp_D s) (sp_d s) i)) → ∃ f', fo_fx (fun _ _ _ => none) (lp_Ru_endDay_10 r g q) m (mm_wi M f) (nI (du_n i (sp_d s) (sp_D s))) (nI i) = some (en_v A n fr s, mm_wi M f') ∧ (∀ s', sp_end A n fr s = some s' → st_R f' q s') ∧ fr_R f f' q r := by
  have hL0 := hLq
  have hap0 := hap
  obtain ⟨l0, l1, l2, l3, l4, l5, t1, t2, t3, s1, s2⟩ := hLq
  obtain ⟨p1, p2, p3⟩ := hap
  unfold ap_1 at p1
  intro m
  induction m with
  | zero => intro i f _ h; omega
  | succ m ih =>
    intro i f hi hm hA hF hW hS
    have h10 := hA.2.1
    have hl8 : (sp_D s).length ≤ 8 := hS.2.2.1.1.2.1
    have hbl := br_len (A := A) (d := sp_d s) (l := sp_D s) h10 i hi
    have hdl := du_le i (sp_d s) (sp_D s)
    rw [fx_s, lp_Ru_endDay_10, xi_gi hLg.1, hA.1]
    by_cases h : n ≤ i
    · have hin : i = n := by omega
      subst hin
      rw [if_pos (nI_le h (by omega)), xi_gr l0 l1, xi_gi l0, hS.1, nI_1]
      obtain ⟨f1, e1, a1, b1⟩ := te_dropBefore (d := sp_d s + 1) t1 hS.2.2.1.1 (by omega)
      rw [show sp_d (sp_sc s (bc_n (sp_c s) (sp_D s) (sp_d s) i)) = sp_d s from rfl, e1, xi_cv t1.1]
      have et : (List.range i).take i = List.range i := List.take_of_length_le (by simp)
      rw [et] at hW hbl
      have hS1 : st_R f1 q (sp_e1 A i s) := st_sD hS ⟨a1, dw_S _ hS.2.2.1.2⟩ b1
      have hb1 : fr_R f f1 q r := fun a x y z => b1 a (by omega) (by omega)
      have hlt : ∀ c ∈ br_q A i (sp_d s) (sp_D s) (List.range i), c < i := fun c hc => br_lt hc
      have hph := ph_le hdp hlt
      obtain ⟨f2, e2, a2, b2⟩ := ru_run hLg hLr hL0 hap0 hdp hlt (by omega) (fr_ag hap0 hb1 hA) (fr_ru hap0.1 hb1 hF) (qu_cg hW (b1 _ (by omega) (by omega)) (b1 _ (by omega) (by omega))) hS1
      rw [e2, xi_cv hLr.1]
      unfold en_v sp_end
      cases hr : sp_run A fr 800 (br_q A i (sp_d s) (sp_D s) (List.range i)) (sp_e1 A i s) with
      | none =>
        rw [if_pos (by simp [bz]), Option.map_none, if_neg (by simp)]
        exact ⟨f2, rfl, fun s' hs => (by cases hs), fr_tr hb1 b2⟩
      | some s2 =>
        rw [hr] at a2
        have hS2 := a2 s2 rfl
        rw [if_neg (by simp [bz]), Option.map_some, if_pos (by simp)]
        have hd2 : sp_d s2 < 60 := by rw [sp_run_d _ _ _ _ hr]; exact hd
        obtain ⟨f3, e3, a3, b3⟩ := ru_end_tail hL0 hS2 hd2 (nI (du_n i (sp_d s) (sp_D s)))
        exact ⟨f3, e3, fun s' hs => (by cases hs; exact a3), fr_tr hb1 (fr_tr b2 fun a x y z => b3 a x)⟩
    · rw [if_neg (by rw [nI_leI (by omega) (by omega)]; exact h), xi_gr l0 l1, xi_gi l0, hS.1, show sp_d (sp_sc s (bc_n (sp_c s) (sp_D s) (sp_d s) i)) = sp_d s from rfl, te_countUntil (c := i) (d := sp_d s) t1 hS.2.2.1.1 (by omega) (by omega), xi_cv t1.1, show sp_D (sp_sc s (bc_n (sp_c s) (sp_D s) (sp_d s) i)) = sp_D s from rfl]
      have hcl := du_le (i + 1) (sp_d s) (sp_D s)
      rw [du_s] at hcl
      obtain ⟨f1, e1, a1, b1, c1⟩ := ru_br1 (d := sp_d s) (l := sp_D s) (i := i) (K := fun M54 => fo_nm (nI (du_n i (sp_d s) (sp_D s)) + nI ((sp_D s).countP (te_due i (sp_d s)))) fun v61 => fo_fx (fun _ _ _ => none) (lp_Ru_endDay_10 r g q) m M54 v61 (nI i + 1)) hLg hLr hL0 hap0 (by omega) hA hW hS (by omega) hl8
      rw [e1, xi_nm, nI_add, nI_1, ← du_s]
      rw [← br_take (by omega)] at a1
      obtain ⟨f2, e2, a2, b2⟩ := ih (i + 1) f1 (by omega) (by omega) (fr_ag hap0 c1 hA) (fr_ru hap0.1 c1 hF) a1 (st_ext (s := s) b1 fun j => bc_s.symm)
      exact ⟨f2, e2, a2, fr_tr c1 b2⟩
theorem ru_endDay {f : Nat → Nat → Int32} {dp : Nat → Nat} {s : Sp} (hLg : ag_L M g) (hLr : ru_L M r) (hLq : st_L M q) (hap : ap_2 q r g) (hdp : dp_W n A dp) (hd : sp_d s < 60) (hA : ag_R f g n A) (hF : ru_F f r fr) (hS : st_R f q s) : ∃ f', fn_Ru_endDay (mm_wi M f) r g q = some (en_v A n fr s, mm_wi M f') ∧ (∀ s', sp_end A n fr s = some s' → st_R f' q s') ∧ fr_R f f' q r := by
  have h10 := hA.2.1
  have p1 := hap.1
  unfold ap_1 at p1
  rw [fn_Ru_endDay, xi_pi hLr.1]
  have b2 : fr_R f (up_2 f r 2 0) q r := fun a _ x y => up_oa x
  have h0 : st_R (up_2 f r 2 0) q (sp_sc s (bc_n (sp_c s) (sp_D s) (sp_d s) 0)) := st_ext (s := s) (v := sp_c s) (st_cg hS fun a x y => up_oa (by omega)) fun j => by simp [bc_n]
  obtain ⟨f1, e1, a1, b1⟩ := ru_end_lp (s := s) hLg hLr hLq hap hdp hd fo_N 0 (up_2 f r 2 0) (by omega) (by show _ < 2000; omega) (fr_ag hap b2 hA) (fr_ru hap.1 b2 hF) (qu_nil up_e) h0
  rw [du_0] at e1
  exact ⟨f1, e1, a1, fr_tr b2 b1⟩
end
