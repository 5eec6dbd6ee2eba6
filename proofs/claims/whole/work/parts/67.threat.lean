/-! threat in the class -/
section
variable {M : Mm} {x g h n : Nat} {E : Int32} {fr : Nat → Bool} {A : Nat → Nat → Nat} {S : Sp} {H : List Sp} {dp : Nat → Nat}
theorem tr_a {a e w k : Nat} (hk : k < 5) (h : w = a) : tr_n A n fr a e S (5 * w + k) = false := by
  unfold tr_n
  rw [decide_eq_true (show (5 * w + k) / 5 = a by omega)]; rfl
theorem tr_0 {a e w k : Nat} (hk : k < 5) (h : ch_n A n fr w k S = none) : tr_n A n fr a e S (5 * w + k) = false := by
  unfold tr_n
  rw [show (5 * w + k) / 5 = w by omega, show (5 * w + k) % 5 = k by omega, h, Bool.and_false]
theorem tr_s {a e w k : Nat} {S1 : Sp} (hk : k < 5) (hw : w ≠ a) (h : ch_n A n fr w k S = some S1) : tr_n A n fr a e S (5 * w + k) = (fq_n A n fr a e S1).isNone := by
  unfold tr_n
  rw [show (5 * w + k) / 5 = w by omega, show (5 * w + k) % 5 = k by omega, h, decide_eq_false hw]; rfl
theorem pm_th65 {a e w : Nat} (hL : sl_L M x g h) (hdp : dp_W n A dp) (hV : sp_V A n S) (ha : a < 3) (he : e = 1 ∨ e = 2) (hd : sp_d S ≤ 58) (hw : w < 3) : ∀ kk i f, i ≤ 5 → 5 - i < kk → pq_R f x g E fr (some (n, A, S, H)) → ∃ f', (∀ th g57, fo_fx (fun _ _ => none) (lp_Pm_threat_65 th x (nI a) (nI e) g57 (nI w)) kk (mm_wi M f) (nI i) = match ((List.range 5).drop i).find? (fun k => tr_n A n fr a e S (5 * w + k)) with | some k => fo_rt th (nI (5 * w + k)) (mm_wi M f') | none => g57 (mm_wi M f') (nI (w + 1))) ∧ fg_R f f' x := by
  have hL0 := hL
  obtain ⟨l0, -, l3, -, l5, l6, -, l8, l9, -, ga, -, c5, c6, c7, lz, lgh⟩ := hL
  intro kk
  induction kk with
  | zero => intro i f _ h; omega
  | succ kk ih =>
    intro i f hi hk hP
    have hP0 := hP
    obtain ⟨-, -, a3, -, a5⟩ := hP
    obtain ⟨hA, hS, hH⟩ := a5 n A S H rfl
    by_cases h5 : 5 ≤ i
    · refine ⟨f, fun th g57 => ?_, fun _ _ => rfl⟩
      rw [fx_s, lp_Pm_threat_65, if_pos (show (5 : Int32) ≤ nI i from nI_le (a := 5) h5 (by omega)), rg_end h5, nI_1]; rfl
    · have next : ∀ f1, fg_R f f1 x → tr_n A n fr a e S (5 * w + i) = false → ∃ f', (∀ th g57, fo_fx (fun _ _ => none) (lp_Pm_threat_65 th x (nI a) (nI e) g57 (nI w)) kk (mm_wi M f1) (nI (i + 1)) = match ((List.range 5).drop i).find? (fun k => tr_n A n fr a e S (5 * w + k)) with | some k => fo_rt th (nI (5 * w + k)) (mm_wi M f') | none => g57 (mm_wi M f') (nI (w + 1))) ∧ fg_R f f' x := by
        intro f1 hf ht
        obtain ⟨f2, d1, d2⟩ := ih (i + 1) f1 (by omega) (by omega) (fg_pq hL0 hP0 hf)
        refine ⟨f2, fun th g57 => ?_, fg_tr hf d2⟩
        rw [d1, rg_drop (show i < 5 by omega), List.find?_cons, ht]
      by_cases hwa : w = a
      · obtain ⟨f2, d1, d2⟩ := next f (fun _ _ => rfl) (tr_a (by omega) hwa)
        refine ⟨f2, fun th g57 => ?_, d2⟩
        rw [fx_s, lp_Pm_threat_65, if_neg (by rw [show (5 : Int32) = nI 5 from rfl, nI_leI (by omega) (by omega)]; exact h5), xi_jp, if_pos (by rw [hwa])]
        dsimp only
        rw [nI_1]
        exact d1 th g57
      · have hap : ap_2 (x + 36) (x + 156) g := by unfold ap_2 ap_1; omega
        obtain ⟨f1, e1, e2, e3⟩ := se_changes (f := f) (u := x + 27) (v := x + 36) (p := w) (k := i) (fr := fr) lz ga c5 c6 (by omega) hap hdp (by omega) (by omega) hA a3 hS hV
        have hf1 : fg_R f f1 x := fun b hb => e3 b (by omega) (by omega) (by omega)
        have hpq1 := fg_pq hL0 hP0 hf1
        cases hch : ch_n A n fr w i S with
        | none =>
          obtain ⟨f2, d1, d2⟩ := next f1 hf1 (tr_0 (by omega) hch)
          refine ⟨f2, fun th g57 => ?_, d2⟩
          rw [hch] at e1
          rw [fx_s, lp_Pm_threat_65, if_neg (by rw [show (5 : Int32) = nI 5 from rfl, nI_leI (by omega) (by omega)]; exact h5), xi_jp, if_neg (by rw [nI_eq (by omega) (by omega)]; exact hwa), xi_gr l0 l8, xi_gr l0 l3, xi_gr l0 l5, xi_gr l0 l6, e1, xi_cv lz.1, if_pos (by rfl)]
          dsimp only
          rw [nI_1]
          exact d1 th g57
        | some S1 =>
          rw [hch] at e1
          obtain ⟨hV1, hd1⟩ := ch_V hA.2.1 hdp (ag_4 hA) hV hch
          have ht := tr_s (e := e) (show i < 5 by omega) hwa hch
          obtain ⟨f2, b1, b2⟩ := se_fc (fr := fr) (a := a) (e := e) hL0 hdp (by omega) he f1 (x + 36) S1 c6 (by unfold uS_n; omega) (by omega) (hpq1.2.2.2.2 n A S H rfl).1 hpq1.2.2.1 (e2 S1 hch) hV1 (by omega)
          have hf2 := fg_tr hf1 (fg_S he b2)
          cases hq : fq_n A n fr a e S1 with
          | none =>
            rw [hq] at ht b1
            refine ⟨f2, fun th g57 => ?_, hf2⟩
            rw [fx_s, lp_Pm_threat_65, if_neg (by rw [show (5 : Int32) = nI 5 from rfl, nI_leI (by omega) (by omega)]; exact h5), xi_jp, if_neg (by rw [nI_eq (by omega) (by omega)]; exact hwa), xi_gr l0 l8, xi_gr l0 l3, xi_gr l0 l5, xi_gr l0 l6, e1, xi_cv lz.1, if_neg (by exact bz_t rfl), xi_gr l0 l8, xi_gr l0 l3, xi_gr l0 l6, b1, xi_cv lz.1, if_pos (by rfl), rg_drop (show i < 5 by omega), List.find?_cons, ht, show 5 * nI w = nI (5 * w) from nI_xm 5 w, nI_add]; rfl
          | some v =>
            rw [hq] at ht b1
            obtain ⟨f3, d1, d2⟩ := next f2 hf2 ht
            refine ⟨f3, fun th g57 => ?_, d2⟩
            rw [fx_s, lp_Pm_threat_65, if_neg (by rw [show (5 : Int32) = nI 5 from rfl, nI_leI (by omega) (by omega)]; exact h5), xi_jp, if_neg (by rw [nI_eq (by omega) (by omega)]; exact hwa), xi_gr l0 l8, xi_gr l0 l3, xi_gr l0 l5, xi_gr l0 l6, e1, xi_cv lz.1, if_neg (by exact bz_t rfl), xi_gr l0 l8, xi_gr l0 l3, xi_gr l0 l6, b1, xi_cv lz.1, fz_s, if_neg (fq_ne hq)]
            dsimp only
            rw [nI_1]
            exact d1 th g57
theorem r15 : ∀ w, w < 3 → (List.range 15).drop (5 * w) = (List.range 5).map (fun k => 5 * w + k) ++ (List.range 15).drop (5 * (w + 1)) := by decide +kernel
theorem pm_th57 {a e : Nat} (hL : sl_L M x g h) (hdp : dp_W n A dp) (hV : sp_V A n S) (ha : a < 3) (he : e = 1 ∨ e = 2) (hd : sp_d S ≤ 58) : ∀ kk w f, w ≤ 3 → 3 - w < kk → pq_R f x g E fr (some (n, A, S, H)) → ∃ f', (∀ th, fo_fx (fun _ _ => none) (lp_Pm_threat_57 th x (nI a) (nI e)) kk (mm_wi M f) (nI w) = fo_rt th (fz (((List.range 15).drop (5 * w)).find? (tr_n A n fr a e S))) (mm_wi M f')) ∧ fg_R f f' x := by
  intro kk
  induction kk with
  | zero => intro w f _ h; omega
  | succ kk ih =>
    intro w f hw hk hP
    by_cases h3 : 3 ≤ w
    · refine ⟨f, fun th => ?_, fun _ _ => rfl⟩
      rw [fx_s, lp_Pm_threat_57, if_pos (show (3 : Int32) ≤ nI w from nI_le (a := 3) h3 (by omega)), show w = 3 by omega]; rfl
    · obtain ⟨f1, d1, d2⟩ := pm_th65 (x := x) (E := E) (fr := fr) (H := H) (e := e) hL hdp hV ha he hd (show w < 3 by omega) fo_N 0 f (by omega) (by decide) hP
      have hcmp : ∀ k ∈ List.range 5, (tr_n A n fr a e S ∘ fun k => 5 * w + k) k = tr_n A n fr a e S (5 * w + k) := fun k _ => rfl
      rw [List.drop_zero] at d1
      cases hf : (List.range 5).find? (fun k => tr_n A n fr a e S (5 * w + k)) with
      | some k =>
        refine ⟨f1, fun th => ?_, d2⟩
        rw [fx_s, lp_Pm_threat_57, if_neg (by rw [show (3 : Int32) = nI 3 from rfl, nI_leI (by omega) (by omega)]; exact h3), li_0, d1, hf, r15 w (by omega), List.find?_append, List.find?_map, fd_cg hcmp, hf]; rfl
      | none =>
        obtain ⟨f2, b1, b2⟩ := ih (w + 1) f1 (by omega) (by omega) (fg_pq hL hP d2)
        refine ⟨f2, fun th => ?_, fg_tr d2 b2⟩
        rw [fx_s, lp_Pm_threat_57, if_neg (by rw [show (3 : Int32) = nI 3 from rfl, nI_leI (by omega) (by omega)]; exact h3), li_0, d1, hf, r15 w (by omega), List.find?_append, List.find?_map, fd_cg hcmp, hf]
        exact b1 th
theorem pm_threat {f : Nat → Nat → Int32} {o : So} {p d : Int32} (hL : sl_L M x g h) (hP : pq_R f x g E fr o) (hV : vo_P o) : ∃ f', (∀ th, fn_Pm_threat th (mm_wi M f) x p d = rq_t th (oc_th fr o p d).1 (oc_th fr o p d).2 (mm_wi M f')) ∧ pq_R f' x g E fr o ∧ fp_R f f' x := by
  have hP0 := hP
  have hL0 := hL
  obtain ⟨l0, -, l3, -, l5, l6, -, l8, l9, -, ga, -, c5, c6, c7, lz, lgh⟩ := hL
  obtain ⟨a1, a2, a3, a4, a5⟩ := hP
  cases o with
  | none =>
    refine ⟨f, fun th => ?_, hP0, fun _ _ => rfl⟩
    rw [fn_Pm_threat, xi_gi l0, a2, if_pos (by rfl)]; rfl
  | some y =>
    obtain ⟨n, A, S, H⟩ := y
    obtain ⟨hA, hS, hH⟩ := a5 n A S H rfl
    obtain ⟨hV1, hV2, dp, hdp⟩ := hV n A S H rfl
    unfold oc_th
    dsimp only
    cases hc : cs_n S p d with
    | none =>
      refine ⟨f, fun th => ?_, hP0, fun _ _ => rfl⟩
      rw [fn_Pm_threat, xi_gi l0, a2, if_neg (by exact bz_t rfl), pm_can hL0 hS, xi_cv l0, hc, if_pos (by rfl)]; rfl
    | some y =>
      obtain ⟨a, e⟩ := y
      obtain ⟨k1, k2, k3, k4⟩ := cs_s hc
      obtain ⟨rfl, ha⟩ := pv_s k1
      subst k2
      obtain ⟨f1, e1, e2⟩ := se_fc (fr := fr) (a := a) (e := e) hL0 hdp (by omega) k3 f (x + 27) S c5 (by unfold uS_n; omega) (by omega) hA a3 hS hV1 (by omega)
      have hf1 := fg_S k3 e2
      have hpq1 := fg_pq hL0 hP0 hf1
      dsimp only
      cases hq : fq_n A n fr a e S with
      | none =>
        rw [hq] at e1
        refine ⟨f1, fun th => ?_, hpq1, fg_fp hf1⟩
        rw [fn_Pm_threat, xi_gi l0, a2, if_neg (by exact bz_t rfl), pm_can hL0 hS, xi_cv l0, hc, if_neg (by exact bz_t rfl), xi_gr l0 l8, xi_gr l0 l3, xi_gr l0 l5, e1, xi_cv lz.1, if_pos (by rfl), if_neg (by simp)]; rfl
      | some v =>
        rw [hq] at e1
        obtain ⟨f2, b1, b2⟩ := pm_th57 (a := a) (e := e) hL0 hdp hV1 ha k3 k4 fo_N 0 f1 (by omega) (by decide) hpq1
        refine ⟨f2, fun th => ?_, fg_pq hL0 hpq1 b2, fg_fp (fg_tr hf1 b2)⟩
        rw [fn_Pm_threat, xi_gi l0, a2, if_neg (by exact bz_t rfl), pm_can hL0 hS, xi_cv l0, hc, if_neg (by exact bz_t rfl), xi_gr l0 l8, xi_gr l0 l3, xi_gr l0 l5, e1, xi_cv lz.1, fz_s, if_neg (fq_ne hq), li_0, b1, if_pos (by rfl)]; rfl
end
