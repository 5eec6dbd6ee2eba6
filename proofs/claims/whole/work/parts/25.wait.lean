/-! the class's run of the waiting row -/
def sp_run (A : Nat → Nat → Nat) (fr : Nat → Bool) : Nat → List Nat → Sp → Option Sp
  | 0, _, s => some s
  | _ + 1, [], s => some s
  | k + 1, c :: Q, s => if sp_hold A c s = true then (match sp_act A fr c s with | some (s', E) => sp_run A fr k (Q ++ E) s' | none => none) else sp_run A fr k Q s
def ph_n (dp : Nat → Nat) (Q : List Nat) : Nat := (Q.map dp).sum
/-- depths: how long a chain of calls begins at a clause -/
def dp_W (n : Nat) (A : Nat → Nat → Nat) (dp : Nat → Nat) : Prop := ∀ c, c < n → 1 ≤ dp c ∧ dp c ≤ 10 ∧ (A c 7 = 4 → A c 8 < n ∧ dp (A c 8) < dp c)
theorem ph_cons {dp : Nat → Nat} {c : Nat} {Q : List Nat} : ph_n dp (c :: Q) = dp c + ph_n dp Q := by simp [ph_n]
theorem ph_app {dp : Nat → Nat} {Q E : List Nat} : ph_n dp (Q ++ E) = ph_n dp Q + ph_n dp E := by simp [ph_n]
theorem ph_ge {dp : Nat → Nat} {n : Nat} {A : Nat → Nat → Nat} (hdp : dp_W n A dp) {Q : List Nat} (hQ : ∀ c ∈ Q, c < n) : Q.length ≤ ph_n dp Q := by
  induction Q with
  | nil => simp
  | cons c Q ih =>
    have h1 := (hdp c (hQ c (by simp))).1
    have h2 := ih fun x hx => hQ x (by simp [hx])
    rw [ph_cons, List.length_cons]; omega
theorem ph_le {dp : Nat → Nat} {n : Nat} {A : Nat → Nat → Nat} (hdp : dp_W n A dp) {Q : List Nat} (hQ : ∀ c ∈ Q, c < n) : ph_n dp Q ≤ 10 * Q.length := by
  induction Q with
  | nil => simp [ph_n]
  | cons c Q ih =>
    have h1 := (hdp c (hQ c (by simp))).2.1
    have h2 := ih fun x hx => hQ x (by simp [hx])
    rw [ph_cons, List.length_cons]; omega
theorem sp_act_E {A : Nat → Nat → Nat} {fr : Nat → Bool} {c : Nat} {s s' : Sp} {E : List Nat} (h : sp_act A fr c s = some (s', E)) (h4 : A c 7 ≤ 4) : E = [] ∨ (A c 7 = 4 ∧ E = [A c 8]) := by
  by_cases e4 : A c 7 = 4
  · rw [sp_act_4 e4] at h; cases h; exact .inr ⟨e4, rfl⟩
  · left
    rcases (show A c 7 = 0 ∨ A c 7 = 1 ∨ A c 7 = 2 ∨ A c 7 = 3 by omega) with e | e | e | e
    · rw [sp_act_0 e] at h; generalize bd_n fr 70 (sp_d s) (A c 10) = bb at h; split at h <;> cases h; rfl
    · rw [sp_act_1 e] at h; split at h <;> cases h; rfl
    · rw [sp_act_2 e] at h; split at h <;> cases h; rfl
    · rw [sp_act_3 e] at h; split at h <;> cases h; rfl
section
variable {M : Mm} {q g r n : Nat} {A : Nat → Nat → Nat} {fr : Nat → Bool}
theorem fr_ag {f f' : Nat → Nat → Int32} (hap : ap_2 q r g) (h : fr_R f f' q r) (hR : ag_R f g n A) : ag_R f' g n A := by
  obtain ⟨h1, h2, h3⟩ := hap
  exact ag_cg hR fun a x y => h a (by omega) (by omega) (by omega)
theorem fr_ru {f f' : Nat → Nat → Int32} (hap : ap_1 q r) (h : fr_R f f' q r) (hR : ru_F f r fr) : ru_F f' r fr := by
  unfold ap_1 at hap
  exact ru_cg hR (h _ (by omega) (by omega) (by omega))
theorem fr_tr {f f1 f2 : Nat → Nat → Int32} (h : fr_R f f1 q r) (h2 : fr_R f1 f2 q r) : fr_R f f2 q r := fun a x y z => by rw [h2 a x y z, h a x y z]
theorem ru_run_lp {dp : Nat → Nat} (hLg : ag_L M g) (hLr : ru_L M r) (hLq : st_L M q) (hap : ap_2 q r g) (hdp : dp_W n A dp) : ∀ k m i f s W Q, W.drop i = Q → i ≤ W.length → (∀ c ∈ Q, c < n) → i + ph_n dp Q ≤ 800 → ph_n dp Q ≤ k → k < m → ag_R f g n A → ru_F f r fr → qu_R f r W → st_R f q s → ∃ f', fo_fx (fun _ _ => none) (lp_Ru_runWaiting_2 r g q) m (mm_wi M f) (nI i) = some (bz (sp_run A fr k Q s).isSome, mm_wi M f') ∧ (∀ s', sp_run A fr k Q s = some s' → st_R f' q s') ∧ fr_R f f' q r := by
  intro k
  induction k with
  | zero =>
    intro m i f s W Q hWQ hi hQ h800 hk hm hA hF hW hS
    obtain ⟨m, rfl⟩ : ∃ m', m = m' + 1 := ⟨m - 1, by omega⟩
    have hg := ph_ge hdp hQ
    have hl : Q.length = W.length - i := by rw [← hWQ]; simp
    have h8 := hW.2.1
    rw [fx_s, lp_Ru_runWaiting_2, xi_gi hLr.1, hW.1, if_pos (nI_le (by omega) (by omega)), xi_rz1]
    exact ⟨f, rfl, fun s' hs => by cases hs; exact hS, fun a _ _ _ => rfl⟩
  | succ k ih =>
    intro m i f s W Q hWQ hi hQ h800 hk hm hA hF hW hS
    obtain ⟨m, rfl⟩ : ∃ m', m = m' + 1 := ⟨m - 1, by omega⟩
    have hl : Q.length = W.length - i := by rw [← hWQ]; simp
    have h8 := hW.2.1
    have h10 := hA.2.1
    rw [fx_s, lp_Ru_runWaiting_2, xi_gi hLr.1, hW.1]
    cases Q with
    | nil =>
      rw [List.length_nil] at hl
      rw [if_pos (nI_le (by omega) (by omega)), xi_rz1]
      exact ⟨f, rfl, fun s' hs => by cases hs; exact hS, fun a _ _ _ => rfl⟩
    | cons c Q =>
      rw [List.length_cons] at hl
      rw [ph_cons] at h800 hk
      have hcn := hQ c (by simp)
      have hQ' : ∀ x ∈ Q, x < n := fun x hx => hQ x (by simp [hx])
      obtain ⟨d1, d2, d3⟩ := hdp c hcn
      have hg := ph_ge hdp hQ'
      have hWi : W[i]? = some c := by
        have := congrArg (fun l => l[0]?) hWQ
        simpa using this
      have hWd : W.drop (i + 1) = Q := by
        have := te_drop hWi
        rw [hWQ] at this
        cases this; rfl
      obtain ⟨r1, r2⟩ := ag_cl hLg hA hcn
      obtain ⟨c1, c2⟩ := hA.2.2 c hcn
      have hm1 : k < m := by omega
      rw [if_neg (by rw [nI_leI (by omega) (by omega)]; omega), if_neg (by rw [show (800 : Int32) = nI 800 from rfl, nI_leI (by omega) (by omega)]; omega), xi_gr hLg.1 hLg.2.1, xi_gr hLr.1 hLr.2.2.1, xi_ai (t := 0) hLr.2.2.2.2 (by omega) (by decide), hW.2.2 i c hWi, xi_ar (t := 4) hLg.2.2.1 (by omega) (by decide) r1, cl_holds r2 c1 c2 hLq hS, xi_cv r2, xi_jp]
      dsimp only
      cases hh : sp_hold A c s with
      | false =>
        rw [if_pos (by simp [bz]), nI_1]
        obtain ⟨f', e, g1, g2⟩ := ih m (i + 1) f s W Q hWd (by omega) hQ' (by omega) (by omega) hm1 hA hF hW hS
        have er : sp_run A fr (k + 1) (c :: Q) s = sp_run A fr k Q s := by
          rw [sp_run, if_neg (by rw [hh]; simp)]
        rw [er]
        exact ⟨f', e, g1, g2⟩
      | true =>
        have h4 := c2.2.2.2.2.2.1
        rw [if_neg (by simp [bz]), xi_gr hLr.1 hLr.2.2.1, xi_ai (t := 0) hLr.2.2.2.2 (by omega) (by decide), hW.2.2 i c hWi]
        obtain ⟨f1, e1, a1, b1⟩ := ru_act (g := g) (W := W) hLr hF hW (fun e4 => by have := (d3 e4).2; have := (hdp _ (d3 e4).1).1; omega) r2 c1 c2 (by omega) hLq hS hap.1
        rw [e1, xi_cv hLr.1]
        have er : sp_run A fr (k + 1) (c :: Q) s = match sp_act A fr c s with | some (s', E) => sp_run A fr k (Q ++ E) s' | none => none := by
          rw [sp_run, if_pos hh]
        rw [er]
        cases hact : sp_act A fr c s with
        | none =>
          rw [if_pos (by simp [bz]), xi_rz0]
          exact ⟨f1, rfl, fun s' hs => (by cases hs), b1⟩
        | some y =>
          obtain ⟨s1, E⟩ := y
          rw [hact] at a1
          obtain ⟨a2, a3⟩ := a1 s1 E rfl
          rw [if_neg (by simp [bz]), nI_1]
          have hE := sp_act_E hact h4
          have hph : ph_n dp E < dp c := by
            rcases hE with rfl | ⟨e4, rfl⟩
            · simp [ph_n]; omega
            · have := (d3 e4).2
              simpa [ph_n] using this
          have hEn : ∀ x ∈ E, x < n := by
            rcases hE with rfl | ⟨e4, rfl⟩
            · simp
            · intro x hx
              rw [List.mem_singleton] at hx
              subst hx
              exact (d3 e4).1
          clear d3
          obtain ⟨f2, e2, g1, g2⟩ := ih m (i + 1) f1 s1 (W ++ E) (Q ++ E) (by rw [List.drop_append_of_le_length (by omega), hWd]) (by rw [List.length_append]; omega) (fun x hx => by
            rcases List.mem_append.mp hx with hx | hx
            · exact hQ' x hx
            · exact hEn x hx) (by rw [ph_app]; omega) (by rw [ph_app]; omega) hm1 (fr_ag hap b1 hA) (fr_ru hap.1 b1 hF) a3 a2
          exact ⟨f2, e2, g1, fr_tr b1 g2⟩
theorem ru_run {f : Nat → Nat → Int32} {dp : Nat → Nat} {s : Sp} {W : List Nat} (hLg : ag_L M g) (hLr : ru_L M r) (hLq : st_L M q) (hap : ap_2 q r g) (hdp : dp_W n A dp) (hQ : ∀ c ∈ W, c < n) (h8 : ph_n dp W ≤ 800) (hA : ag_R f g n A) (hF : ru_F f r fr) (hW : qu_R f r W) (hS : st_R f q s) : ∃ f', fn_Ru_runWaiting (mm_wi M f) r g q = some (bz (sp_run A fr 800 W s).isSome, mm_wi M f') ∧ (∀ s', sp_run A fr 800 W s = some s' → st_R f' q s') ∧ fr_R f f' q r :=
  ru_run_lp hLg hLr hLq hap hdp 800 fo_N 0 f s W W (List.drop_zero) (by omega) hQ (by omega) h8 (by decide) hA hF hW hS
/-- the clauses that a trigger calls, in their order -/
def on_l (A : Nat → Nat → Nat) (n t k : Nat) : List Nat := (List.range n).filter (ag_on A t k)
def ev_l (A : Nat → Nat → Nat) (n p k : Nat) : List Nat := (List.range n).filter (ag_ev A p k)
def st_l (A : Nat → Nat → Nat) (n : Nat) : List Nat := (List.range n).filter fun c => decide (A c 0 = 0)
theorem rg_drop {i : Nat} (h : i < n) : (List.range n).drop i = i :: (List.range n).drop (i + 1) := te_drop (by simp [h])
theorem rg_end {i : Nat} (h : n ≤ i) : (List.range n).drop i = [] := List.drop_eq_nil_of_le (by simpa using h)
theorem qu_nil {f : Nat → Nat → Int32} (h : f r 2 = 0) : qu_R f r [] := ⟨h, by simp, fun j x hx => by simp at hx⟩
theorem ru_aw1 {t k : Nat} {g3 : Mm → Int32 → Rr} {w : Int32} (hLg : ag_L M g) (hLr : ru_L M r) (hap : g + 12 ≤ r ∨ r + 3 ≤ g) (ht : t = 2 ∨ t = 3) (hk : k < 100) : ∀ m i f W, i ≤ n → n - i < m → W.length + (n - i) ≤ 800 → ag_R f g n A → qu_R f r W → ∃ f', fo_fx (fun _ _ => none) (lp_Ru_awaitAllOn_13 r g (tc_n t) (nI k) g3 w) m (mm_wi M f) (nI i) = g3 (mm_wi M f') (w + 1) ∧ qu_R f' r (W ++ ((List.range n).drop i).filter (ag_on A t k)) ∧ ∀ a, a ≠ r → a ≠ r + 2 → f' a = f a := by
  intro m
  induction m with
  | zero => intro i f W _ h; omega
  | succ m ih =>
    intro i f W hi hm h8 hA hW
    have h10 := hA.2.1
    rw [fx_s, lp_Ru_awaitAllOn_13, xi_gi hLg.1, hA.1]
    by_cases h : n ≤ i
    · rw [if_pos (nI_le h (by omega)), rg_end h]
      exact ⟨f, rfl, by simpa using hW, fun _ _ _ => rfl⟩
    · obtain ⟨r1, r2⟩ := ag_cl hLg hA (c := i) (by omega)
      obtain ⟨c1, c2⟩ := hA.2.2 i (by omega)
      rw [if_neg (by rw [nI_leI (by omega) (by omega)]; exact h), xi_gr hLg.1 hLg.2.1, xi_ar (t := 4) hLg.2.2.1 (by omega) (by decide) r1, cl_isOn r2 c1 c2 ht hk, xi_cv r2, xi_jp, rg_drop (by omega)]
      dsimp only
      cases hb : ag_on A t k i with
      | false =>
        rw [if_pos (by simp [bz]), nI_1, List.filter_cons_of_neg (by simp [hb])]
        exact ih (i + 1) f W (by omega) (by omega) (by omega) hA hW
      | true =>
        rw [if_neg (by simp [bz]), List.filter_cons_of_pos hb]
        obtain ⟨f1, e1, a1, b1⟩ := ru_await (c := i) hLr hW (by omega)
        rw [e1, xi_cv hLr.1, nI_1]
        obtain ⟨f2, e2, a2, b2⟩ := ih (i + 1) f1 (W ++ [i]) (by omega) (by omega) (by simp; omega) (ag_cg hA fun a x y => b1 a (by omega) (by omega)) a1
        exact ⟨f2, e2, by simpa using a2, fun a x y => by rw [b2 a x y, b1 a x y]⟩
theorem ru_aw2 {t k T : Nat} (hLg : ag_L M g) (hLr : ru_L M r) (hap : g + 12 ≤ r ∨ r + 3 ≤ g) (ht : t = 2 ∨ t = 3) (hk : k < 100) (hT : T ≤ 8) : ∀ m j f W, j ≤ T → T - j < m → W.length + 10 * (T - j) ≤ 800 → ag_R f g n A → qu_R f r W → ∃ f', fo_fx (fun _ _ => none) (lp_Ru_awaitAllOn_3 r g (tc_n t) (nI k) (nI T)) m (mm_wi M f) (nI j) = some (0, mm_wi M f') ∧ qu_R f' r (W ++ (List.replicate (T - j) (on_l A n t k)).flatten) ∧ ∀ a, a ≠ r → a ≠ r + 2 → f' a = f a := by
  intro m
  induction m with
  | zero => intro j f W _ h; omega
  | succ m ih =>
    intro j f W hj hm h8 hA hW
    have h10 := hA.2.1
    rw [fx_s, lp_Ru_awaitAllOn_3]
    by_cases h : T ≤ j
    · rw [if_pos (nI_le h (by omega)), show T - j = 0 by omega]
      exact ⟨f, rfl, by simpa using hW, fun _ _ _ => rfl⟩
    · rw [if_neg (by rw [nI_leI (by omega) (by omega)]; exact h)]
      obtain ⟨f1, e1, a1, b1⟩ := ru_aw1 (t := t) (k := k) (g3 := fo_fx (fun _ _ => none) (lp_Ru_awaitAllOn_3 r g (tc_n t) (nI k) (nI T)) m) (w := nI j) hLg hLr hap ht hk fo_N 0 f W (by omega) (by show _ < 2000; omega) (by omega) hA hW
      rw [show (0 : Int32) = nI 0 from rfl, e1, nI_1]
      rw [List.drop_zero] at a1
      have hlen : (on_l A n t k).length ≤ 10 := by
        have := List.length_filter_le (ag_on A t k) (List.range n)
        rw [List.length_range] at this
        unfold on_l; omega
      obtain ⟨f2, e2, a2, b2⟩ := ih (j + 1) f1 (W ++ on_l A n t k) (by omega) (by omega) (by rw [List.length_append]; omega) (ag_cg hA fun a x y => b1 a (by omega) (by omega)) a1
      refine ⟨f2, e2, ?_, fun a x y => by rw [b2 a x y, b1 a x y]⟩
      rw [show T - j = (T - (j + 1)) + 1 by omega, List.replicate_succ, List.flatten_cons, ← List.append_assoc]
      exact a2
theorem ru_awaitAllOn {f : Nat → Nat → Int32} {W : List Nat} {t k T : Nat} (hLg : ag_L M g) (hLr : ru_L M r) (hap : g + 12 ≤ r ∨ r + 3 ≤ g) (ht : t = 2 ∨ t = 3) (hk : k < 100) (hT : T ≤ 8) (h8 : W.length + 10 * T ≤ 800) (hA : ag_R f g n A) (hW : qu_R f r W) : ∃ f', fn_Ru_awaitAllOn (mm_wi M f) r g (tc_n t) (nI k) (nI T) = some (0, mm_wi M f') ∧ qu_R f' r (W ++ (List.replicate T (on_l A n t k)).flatten) ∧ ∀ a, a ≠ r → a ≠ r + 2 → f' a = f a :=
  ru_aw2 hLg hLr hap ht hk hT fo_N 0 f W (by omega) (by show _ < 2000; omega) (by omega) hA hW
end
