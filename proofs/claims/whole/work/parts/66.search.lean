/-! course and threat in the class -/
section
variable {M : Mm} {f : Nat → Nat → Int32} {x g h n : Nat} {E : Int32} {fr : Nat → Bool} {o : So} {A : Nat → Nat → Nat} {S : Sp} {H : List Sp} {dp : Nat → Nat}
theorem se_fc {a e : Nat} (hL : sl_L M x g h) (hdp : dp_W n A dp) (ha : a < 100) (he : e = 1 ∨ e = 2) : fc_P M (x + 155) g n A fr a fn_Se_firstCourse_2 e (fq_n A n fr a e) := by
  obtain ⟨-, -, -, -, -, -, -, -, -, -, ga, -, -, -, -, lz, lgh⟩ := hL
  have hg : ap_g (x + 155) g := by unfold ap_g; omega
  unfold fq_n
  rcases he with rfl | rfl
  · rw [rd_1']
    exact se_first_2 lz ga hg hdp ha (.inl rfl) (se_kept_11 lz ga hg hdp ha)
  · rw [rd_2']
    exact se_first_2 lz ga hg hdp ha (.inr rfl) (se_kept_12 lz ga hg hdp ha (se_first_1 lz ga hg hdp ha (.inl rfl) (se_kept_01 lz ga hg hdp ha)))
theorem pm_can {p d : Int32} (hL : sl_L M x g h) (hS : st_R f (x + 27) S) : fn_Pm_canSearch (mm_wi M f) x p d = some (bz (cs_n S p d).isSome, mm_wi M f) := by
  obtain ⟨l0, -, -, -, l5, -, -, -, -, -, -, -, c5, -⟩ := hL
  have hd := hS.2.1
  rw [fn_Pm_canSearch, pm_isParty, xi_cl]
  unfold cs_n
  cases hp : pv_n 3 p with
  | none => rw [if_pos (by rfl), xi_rz0]; rfl
  | some a =>
    rw [if_neg (by exact bz_t rfl)]
    dsimp only
    unfold dv_n
    have hD : (¬ d < 1 ∧ ¬ 2 < d) ↔ (d = 1 ∨ d = 2) := by
      constructor
      · rintro ⟨h1, h2⟩
        by_cases h0 : d < 0
        · exact absurd (Int32.lt_trans h0 (by decide)) h1
        · obtain ⟨r, hr, rfl⟩ := nI_of h0
          rw [li_1, nI_ltI hr (by omega)] at h1
          rw [li_2, nI_ltI (by omega) hr] at h2
          have : r = 1 ∨ r = 2 := by omega
          rcases this with rfl | rfl
          · exact .inl rfl
          · exact .inr rfl
      · rintro (rfl | rfl)
        · exact ⟨by decide, by decide⟩
        · exact ⟨by decide, by decide⟩
    have hfin : (fo_gr (mm_wi M f) 8 x 5 fun a18 => fo_gi (mm_wi M f) 5 a18 0 fun v21 => if 58 < v21 then fo_rz 0 (mm_wi M f) else fo_rz 1 (mm_wi M f)) = some (bz (decide (sp_d S ≤ 58)), mm_wi M f) := by
      rw [xi_gr l0 l5, xi_gi c5.1, hS.1]
      by_cases h58 : sp_d S ≤ 58
      · rw [if_neg (by rw [show (58 : Int32) = nI 58 from rfl, nI_ltI (by omega) (by omega)]; omega), xi_rz1, decide_eq_true h58]; rfl
      · rw [if_pos (show (58 : Int32) < nI (sp_d S) from nI_lt (a := 58) (by omega) (by omega)), xi_rz0, decide_eq_false h58]; rfl
    by_cases h1 : d = 1
    · subst h1
      rw [if_neg (show ¬ (1 : Int32) < 1 by decide), if_neg (show ¬ (2 : Int32) < 1 by decide), if_pos rfl, hfin]
      dsimp only
      by_cases h58 : sp_d S ≤ 58
      · rw [if_pos h58, decide_eq_true h58]; rfl
      · rw [if_neg h58, decide_eq_false h58]; rfl
    · rw [if_neg h1]
      by_cases h2 : d = 2
      · subst h2
        rw [if_neg (show ¬ (2 : Int32) < 1 by decide), if_neg (show ¬ (2 : Int32) < 2 by decide), if_pos rfl, hfin]
        dsimp only
        by_cases h58 : sp_d S ≤ 58
        · rw [if_pos h58, decide_eq_true h58]; rfl
        · rw [if_neg h58, decide_eq_false h58]; rfl
      · rw [if_neg h2]
        dsimp only
        by_cases h3 : d < 1
        · rw [if_pos h3, xi_rz0]; rfl
        · rw [if_neg h3, if_pos (show (2 : Int32) < d from Classical.byContradiction fun h4 => by
            rcases hD.mp ⟨h3, h4⟩ with h | h
            · exact h1 h
            · exact h2 h), xi_rz0]; rfl
theorem cs_s {p d : Int32} {a e : Nat} (h : cs_n S p d = some (a, e)) : pv_n 3 p = some a ∧ d = nI e ∧ (e = 1 ∨ e = 2) ∧ sp_d S ≤ 58 := by
  unfold cs_n at h
  cases hp : pv_n 3 p with
  | none => rw [hp] at h; cases h
  | some a' =>
    rw [hp] at h
    dsimp only at h
    unfold dv_n at h
    by_cases h1 : d = 1
    · rw [if_pos h1] at h
      dsimp only at h
      split at h
      · cases h; exact ⟨rfl, h1, .inl rfl, by assumption⟩
      · cases h
    · rw [if_neg h1] at h
      by_cases h2 : d = 2
      · rw [if_pos h2] at h
        dsimp only at h
        split at h
        · cases h; exact ⟨rfl, h2, .inr rfl, by assumption⟩
        · cases h
      · rw [if_neg h2] at h; cases h
theorem fq_ne {a e v : Nat} (h : fq_n A n fr a e S = some v) : ¬ nI v = (-1 : Int32) := fc_ne h
/-- what a search keeps of the class's memory -/
def fg_R (f f' : Nat → Nat → Int32) (x : Nat) : Prop := ∀ a, (a < x + 36 ∨ (x + 45 ≤ a ∧ a < x + 156) ∨ a = x + 157 ∨ x + 216 ≤ a) → f' a = f a
theorem fg_S {e : Nat} {f' : Nat → Nat → Int32} (he : e = 1 ∨ e = 2) (hf : fS_n e (x + 155) f f') : fg_R f f' x := fun a ha => hf a (by omega) (by omega) (by omega)
theorem fg_tr {f1 f2 : Nat → Nat → Int32} (h1 : fg_R f f1 x) (h2 : fg_R f1 f2 x) : fg_R f f2 x := fun a ha => by rw [h2 a ha, h1 a ha]
theorem fg_pq {f' : Nat → Nat → Int32} (hL : sl_L M x g h) (hP : pq_R f x g E fr o) (hf : fg_R f f' x) : pq_R f' x g E fr o := by
  have lgh := hL.2.2.2.2.2.2.2.2.2.2.2.2.2.2.2.2
  exact pq_cg hP (by rw [hf x (by omega)]) (by rw [hf x (by omega)]) (hf _ (by omega)) (fun a q1 q2 => hf _ (by omega)) (fun a q1 q2 => hf _ (by omega)) (fun a q1 q2 => hf _ (by omega))
theorem fg_fp {f' : Nat → Nat → Int32} (hf : fg_R f f' x) : fp_R f f' x := fun a ha => hf a (by omega)
theorem pm_course {p d : Int32} (hL : sl_L M x g h) (hP : pq_R f x g E fr o) (hV : vo_P o) : ∃ f', (∀ th, fn_Pm_course th (mm_wi M f) x p d = rq_t th (oc_co fr o p d).1 (oc_co fr o p d).2 (mm_wi M f')) ∧ pq_R f' x g E fr o ∧ fp_R f f' x := by
  have hP0 := hP
  have hL0 := hL
  obtain ⟨l0, -, l3, -, l5, l6, -, l8, l9, -, ga, -, c5, c6, c7, lz, lgh⟩ := hL
  obtain ⟨a1, a2, a3, a4, a5⟩ := hP
  cases o with
  | none =>
    refine ⟨f, fun th => ?_, hP0, fun _ _ => rfl⟩
    rw [fn_Pm_course, xi_gi l0, a2, if_pos (by rfl)]; rfl
  | some y =>
    obtain ⟨n, A, S, H⟩ := y
    obtain ⟨hA, hS, hH⟩ := a5 n A S H rfl
    obtain ⟨hV1, hV2, dp, hdp⟩ := hV n A S H rfl
    unfold oc_co
    dsimp only
    cases hc : cs_n S p d with
    | none =>
      refine ⟨f, fun th => ?_, hP0, fun _ _ => rfl⟩
      rw [fn_Pm_course, xi_gi l0, a2, if_neg (by exact bz_t rfl), pm_can hL0 hS, xi_cv l0, hc, if_pos (by rfl)]; rfl
    | some y =>
      obtain ⟨a, e⟩ := y
      obtain ⟨k1, k2, k3, k4⟩ := cs_s hc
      obtain ⟨rfl, ha⟩ := pv_s k1
      subst k2
      obtain ⟨f1, e1, e2⟩ := se_fc (fr := fr) (a := a) (e := e) hL0 hdp (by omega) k3 f (x + 27) S c5 (by unfold uS_n; omega) (by omega) hA a3 hS hV1 (by omega)
      refine ⟨f1, fun th => ?_, fg_pq hL0 hP0 (fg_S k3 e2), fg_fp (fg_S k3 e2)⟩
      rw [fn_Pm_course, xi_gi l0, a2, if_neg (by exact bz_t rfl), pm_can hL0 hS, xi_cv l0, hc, if_neg (by exact bz_t rfl), xi_gr l0 l8, xi_gr l0 l3, xi_gr l0 l5, e1, xi_cv lz.1]; rfl
end
