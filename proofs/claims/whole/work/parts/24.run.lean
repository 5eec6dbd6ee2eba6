/-! the class's Runner: the waiting row and its run -/
def ru_L (M : Mm) (r : Nat) : Prop := mm_s M r = (1, 3) ∧ mm_r M r 0 = some (r + 1) ∧ mm_r M r 1 = some (r + 2) ∧ mm_s M (r + 1) = (3, 61) ∧ mm_s M (r + 2) = (2, 800)
def ru_F (f : Nat → Nat → Int32) (r : Nat) (fr : Nat → Bool) : Prop := ∀ j, j < 61 → f (r + 1) j = bz (fr j)
def qu_R (f : Nat → Nat → Int32) (r : Nat) (W : List Nat) : Prop := f r 2 = nI W.length ∧ W.length ≤ 800 ∧ ∀ j x, W[j]? = some x → f (r + 2) j = nI x
theorem qu_cg {f f' : Nat → Nat → Int32} {r : Nat} {W : List Nat} (h : qu_R f r W) (h0 : f' r = f r) (h1 : f' (r + 2) = f (r + 2)) : qu_R f' r W := by
  obtain ⟨a, b, c⟩ := h
  exact ⟨by rw [h0]; exact a, b, by rw [h1]; exact c⟩
theorem ru_cg {f f' : Nat → Nat → Int32} {r : Nat} {fr : Nat → Bool} (h : ru_F f r fr) (h0 : f' (r + 1) = f (r + 1)) : ru_F f' r fr := by
  intro j hj
  rw [h0]; exact h j hj
/-- the day n business days on -/
def bd_n (fr : Nat → Bool) : Nat → Nat → Nat → Nat
  | 0, d, _ => d
  | m + 1, d, k => if k = 0 then d else if 60 < d + 1 ∨ fr (d + 1) = false then bd_n fr m (d + 1) (k - 1) else bd_n fr m (d + 1) k
theorem bd_le (fr : Nat → Bool) : ∀ m d k, d + k ≤ 69 → k ≤ 9 → bd_n fr m d k ≤ 69 := by
  intro m
  induction m with
  | zero => intro d k h _; show d ≤ 69; omega
  | succ m ih =>
    intro d k h1 h2
    unfold bd_n
    split
    · omega
    · split
      · exact ih _ _ (by omega) (by omega)
      · next h3 => exact ih _ _ (by simp at h3; omega) (by omega)
section
variable {M : Mm} {f : Nat → Nat → Int32} {q g r n : Nat} {A : Nat → Nat → Nat} {fr : Nat → Bool} {W : List Nat}
theorem ru_bd_lp (hL : ru_L M r) (hF : ru_F f r fr) : ∀ m d k j, d + k ≤ 69 → k ≤ 9 → 70 ≤ j + d → 70 < m + d → fo_fx (fun _ _ => none) (lp_Ru_businessDay_5 (mm_wi M f) r) m (nI k) (nI d) = some (nI (bd_n fr j d k), mm_wi M f) := by
  obtain ⟨l0, l1, l2, s1, s2⟩ := hL
  intro m
  induction m with
  | zero => intro d k j h1 h2 h3 h4; omega
  | succ m ih =>
    intro d k j h1 h2 h3 h4
    rw [fx_s, lp_Ru_businessDay_5]
    obtain ⟨j', rfl⟩ : ∃ j', j = j' + 1 := ⟨j - 1, by omega⟩
    by_cases hk : k = 0
    · subst hk
      rw [if_pos (by decide)]
      simp [bd_n]
    · rw [if_neg (nI_nle (by omega) (by omega)), if_neg (by rw [show (69 : Int32) = nI 69 from rfl, nI_leI (by omega) (by omega)]; omega), xi_jp, sb_m1 (by omega), nI_1]
      unfold bd_n
      rw [if_neg hk]
      by_cases h6 : 60 < d + 1
      · rw [if_pos (by rw [show (60 : Int32) = nI 60 from rfl, nI_ltI (by omega) (by omega)]; exact h6), if_pos (.inl h6)]
        exact ih (d + 1) (k - 1) j' (by omega) (by omega) (by omega) (by omega)
      · rw [if_neg (by rw [show (60 : Int32) = nI 60 from rfl, nI_ltI (by omega) (by omega)]; exact h6), xi_gr l0 l1, xi_ai (t := 1) s1 (by omega) (by decide), hF _ (by omega)]
        cases hb : fr (d + 1) with
        | true =>
          rw [if_neg (by simp [bz]), if_neg (by simp; omega)]
          exact ih (d + 1) k j' (by omega) (by omega) (by omega) (by omega)
        | false =>
          rw [if_pos (by simp [bz]), if_pos (by simp)]
          exact ih (d + 1) (k - 1) j' (by omega) (by omega) (by omega) (by omega)
theorem ru_bd {d k : Nat} (hL : ru_L M r) (hF : ru_F f r fr) (hd : d ≤ 60) (hk : k ≤ 9) : fn_Ru_businessDay (mm_wi M f) r (nI d) (nI k) = some (nI (bd_n fr 70 d k), mm_wi M f) := ru_bd_lp hL hF fo_N d k 70 (by omega) hk (by omega) (by show _ < 2000 + d; omega)
theorem ru_await {c : Nat} (hL : ru_L M r) (hQ : qu_R f r W) (hW : W.length < 800) : ∃ f', fn_Ru_await (mm_wi M f) r (nI c) = some (0, mm_wi M f') ∧ qu_R f' r (W ++ [c]) ∧ ∀ a, a ≠ r → a ≠ r + 2 → f' a = f a := by
  obtain ⟨l0, l1, l2, s1, s2⟩ := hL
  obtain ⟨h1, h2, h3⟩ := hQ
  rw [fn_Ru_await, xi_gi l0, h1, if_neg (by rw [show (800 : Int32) = nI 800 from rfl, nI_leI (by omega) (by omega)]; omega), xi_gr l0 l2, xi_gi l0, h1, xi_si s2 (by omega) (by decide), xi_gi l0, xi_pi l0]
  refine ⟨_, rfl, ⟨?_, by simp; omega, fun j x hx => ?_⟩, fun a g1 g2 => by rw [up_oa g1, up_oa g2]⟩
  · rw [up_e, up_o (by omega), h1, nI_1]; simp
  · rw [up_o (by omega)]
    rw [List.getElem?_append] at hx
    by_cases hj : j < W.length
    · rw [if_pos hj] at hx
      rw [up_k (by omega)]; exact h3 j x hx
    · rw [if_neg hj] at hx
      by_cases hj2 : j = W.length
      · subst hj2
        rw [Nat.sub_self] at hx
        cases hx
        exact up_e
      · rw [show j - W.length = (j - W.length - 1) + 1 by omega] at hx
        simp at hx
def sp_sD (s : Sp) (l : List Nat) : Sp := (sp_d s, l, sp_B s, sp_P s, sp_o s, sp_c s)
def sp_sB (s : Sp) (l : List Nat) : Sp := (sp_d s, sp_D s, l, sp_P s, sp_o s, sp_c s)
def sp_sP (s : Sp) (l : List Nat) : Sp := (sp_d s, sp_D s, sp_B s, l, sp_o s, sp_c s)
def sp_act (A : Nat → Nat → Nat) (fr : Nat → Bool) (c : Nat) (s : Sp) : Option (Sp × List Nat) :=
  if A c 7 = 0 then (if (sp_D s).length < 8 then some (sp_sD s (te_ins (100 * bd_n fr 70 (sp_d s) (A c 10) + c) (sp_D s)), []) else none)
  else if A c 7 = 1 then (if (sp_B s).length < 8 then some (sp_sB s (te_ins (100 * (sp_d s + A c 10) + c) (sp_B s)), []) else none)
  else if A c 7 = 2 then (if (sp_P s).length < 8 then some (sp_sP s (te_ins (100 * (sp_d s + A c 10) + c) (sp_P s)), []) else none)
  else if A c 7 = 3 then (if sp_o s (3 * A c 8 + A c 9) + nI (A c 10) ≤ 999 then some (sp_so s (3 * A c 8 + A c 9) (sp_o s (3 * A c 8 + A c 9) + nI (A c 10)), []) else none)
  else some (s, [A c 8])
theorem sp_act_0 {c : Nat} {s : Sp} (h : A c 7 = 0) : sp_act A fr c s = if (sp_D s).length < 8 then some (sp_sD s (te_ins (100 * bd_n fr 70 (sp_d s) (A c 10) + c) (sp_D s)), []) else none := if_pos h
theorem sp_act_1 {c : Nat} {s : Sp} (h : A c 7 = 1) : sp_act A fr c s = if (sp_B s).length < 8 then some (sp_sB s (te_ins (100 * (sp_d s + A c 10) + c) (sp_B s)), []) else none := by
  unfold sp_act; rw [h, if_neg (show ¬ 1 = 0 by decide), if_pos rfl]
theorem sp_act_2 {c : Nat} {s : Sp} (h : A c 7 = 2) : sp_act A fr c s = if (sp_P s).length < 8 then some (sp_sP s (te_ins (100 * (sp_d s + A c 10) + c) (sp_P s)), []) else none := by
  unfold sp_act; rw [h, if_neg (show ¬ 2 = 0 by decide), if_neg (show ¬ 2 = 1 by decide), if_pos rfl]
theorem sp_act_3 {c : Nat} {s : Sp} (h : A c 7 = 3) : sp_act A fr c s = if sp_o s (3 * A c 8 + A c 9) + nI (A c 10) ≤ 999 then some (sp_so s (3 * A c 8 + A c 9) (sp_o s (3 * A c 8 + A c 9) + nI (A c 10)), []) else none := by
  unfold sp_act; rw [h, if_neg (show ¬ 3 = 0 by decide), if_neg (show ¬ 3 = 1 by decide), if_neg (show ¬ 3 = 2 by decide), if_pos rfl]
theorem sp_act_4 {c : Nat} {s : Sp} (h : A c 7 = 4) : sp_act A fr c s = some (s, [A c 8]) := by
  unfold sp_act; rw [h, if_neg (show ¬ 4 = 0 by decide), if_neg (show ¬ 4 = 1 by decide), if_neg (show ¬ 4 = 2 by decide), if_neg (show ¬ 4 = 3 by decide)]
theorem st_sD {f' : Nat → Nat → Int32} {s : Sp} {l : List Nat} (hR : st_R f q s) (h : tr_R f' (q + 1) l) (h0 : ∀ a, a ≠ q + 1 → a ≠ q + 1 + 1 → f' a = f a) : st_R f' q (sp_sD s l) := by
  obtain ⟨h1, h2, h3, h4, h5, h6, h7⟩ := hR
  exact ⟨by rw [h0 q (by omega) (by omega)]; exact h1, h2, h, tr_cg h4 (h0 _ (by omega) (by omega)) (h0 _ (by omega) (by omega)), tr_cg h5 (h0 _ (by omega) (by omega)) (h0 _ (by omega) (by omega)), by rw [h0 (q + 7) (by omega) (by omega)]; exact h6, by rw [h0 (q + 8) (by omega) (by omega)]; exact h7⟩
theorem st_sB {f' : Nat → Nat → Int32} {s : Sp} {l : List Nat} (hR : st_R f q s) (h : tr_R f' (q + 3) l) (h0 : ∀ a, a ≠ q + 3 → a ≠ q + 3 + 1 → f' a = f a) : st_R f' q (sp_sB s l) := by
  obtain ⟨h1, h2, h3, h4, h5, h6, h7⟩ := hR
  exact ⟨by rw [h0 q (by omega) (by omega)]; exact h1, h2, tr_cg h3 (h0 _ (by omega) (by omega)) (h0 _ (by omega) (by omega)), h, tr_cg h5 (h0 _ (by omega) (by omega)) (h0 _ (by omega) (by omega)), by rw [h0 (q + 7) (by omega) (by omega)]; exact h6, by rw [h0 (q + 8) (by omega) (by omega)]; exact h7⟩
theorem st_sP {f' : Nat → Nat → Int32} {s : Sp} {l : List Nat} (hR : st_R f q s) (h : tr_R f' (q + 5) l) (h0 : ∀ a, a ≠ q + 5 → a ≠ q + 5 + 1 → f' a = f a) : st_R f' q (sp_sP s l) := by
  obtain ⟨h1, h2, h3, h4, h5, h6, h7⟩ := hR
  exact ⟨by rw [h0 q (by omega) (by omega)]; exact h1, h2, tr_cg h3 (h0 _ (by omega) (by omega)) (h0 _ (by omega) (by omega)), tr_cg h4 (h0 _ (by omega) (by omega)) (h0 _ (by omega) (by omega)), h, by rw [h0 (q + 7) (by omega) (by omega)]; exact h6, by rw [h0 (q + 8) (by omega) (by omega)]; exact h7⟩
/-- what a run may write: the state at q, the runner's own size and row -/
def fr_R (f f' : Nat → Nat → Int32) (q r : Nat) : Prop := ∀ a, (a < q ∨ q + 9 ≤ a) → a ≠ r → a ≠ r + 2 → f' a = f a
/-- the state at q lies apart from the runner at r -/
def ap_1 (q r : Nat) : Prop := q + 9 ≤ r ∨ r + 3 ≤ q
def ap_2 (q r g : Nat) : Prop := ap_1 q r ∧ (g + 12 ≤ q ∨ q + 9 ≤ g) ∧ (g + 12 ≤ r ∨ r + 3 ≤ g)
theorem ru_act {c : Nat} {s : Sp} (hL : ru_L M r) (hF : ru_F f r fr) (hQ : qu_R f r W) (hW : A c 7 = 4 → W.length < 800) (hL1 : mm_s M (g + 2 + c) = (1, 1)) (hC : cl_R f (g + 2 + c) (A c)) (hB : cl_B (A c)) (hc : c < 10) (hL2 : st_L M q) (hR : st_R f q s) (hap : ap_1 q r) : ∃ f', fn_Ru_act (mm_wi M f) r (g + 2 + c) (nI c) q = some (bz (sp_act A fr c s).isSome, mm_wi M f') ∧ (∀ s' E, sp_act A fr c s = some (s', E) → st_R f' q s' ∧ qu_R f' r (W ++ E)) ∧ fr_R f f' q r := by
  have hd := hR.2.1
  obtain ⟨k1, k2, k3, k4, k5, k6, k7, k8, k9⟩ := hC
  obtain ⟨m1, m2, m3, m4, m5, m6, m7, m8, m9⟩ := hB
  have hL20 := hL2
  obtain ⟨l0, l1, l2, l3, l4, l5, t1, t2, t3, s1, s2⟩ := hL2
  have hbz : ∀ (b : Bool) (M : Mm), fo_rz (bz b) M = some (bz b, M) := fun b M => xi_rz (bz_01 b)
  unfold ap_1 at hap
  rw [fn_Ru_act, xi_gi hL1, k6]
  by_cases e0 : A c 7 = 0
  · obtain ⟨i1, i2, i3⟩ := k7 (by omega)
    obtain ⟨j1, j2, j3⟩ := m7 (by omega)
    clear k1 k2 k3 k4 k5 k6 k7 k8 k9 m1 m2 m3 m4 m5 m6 m7 m8 m9
    have hbd := bd_le fr 70 (sp_d s) (A c 10) (by omega) (by omega)
    rw [sp_act_0 e0, show ac_n (A c 7) = 33 by rw [e0]; decide, if_pos rfl, xi_gr l0 l1, xi_gi l0, xi_gi hL1, hR.1, i3, ru_bd hL hF hd (by omega), xi_cv hL.1]
    generalize bd_n fr 70 (sp_d s) (A c 10) = bb at *
    obtain ⟨f', e, g1, g2⟩ := te_add (c := c) (d := bb) t1 hR.2.2.1.1 hR.2.2.1.2 (by omega)
    rw [e, xi_cv t1.1, xi_rz (by split <;> simp)]
    refine ⟨f', ?_, fun s' E hs => ?_, fun a h1 h2 h3 => g2 a (by omega) (by omega)⟩
    · by_cases h8 : (sp_D s).length < 8
      · rw [if_pos h8, if_pos h8]; rfl
      · rw [if_neg h8, if_neg h8]; rfl
    · by_cases h8 : (sp_D s).length < 8
      · rw [if_pos h8] at hs
        cases hs
        refine ⟨st_sD hR ⟨g1 h8, te_ins_S hR.2.2.1.2⟩ g2, ?_⟩
        rw [List.append_nil]
        exact qu_cg hQ (g2 _ (by omega) (by omega)) (g2 _ (by omega) (by omega))
      · rw [if_neg h8] at hs; cases hs
  · by_cases e3 : A c 7 = 3
    · obtain ⟨i1, i2, i3, i4⟩ := k8 e3
      obtain ⟨j1, j2, j3⟩ := m8 e3
      clear k1 k2 k3 k4 k5 k6 k7 k8 k9 m1 m2 m3 m4 m5 m6 m7 m8 m9
      rw [sp_act_3 e3, show ac_n (A c 7) = 36 by rw [e3]; decide, if_neg (show ¬ (36 : Int32) = 33 by decide), if_pos rfl, xi_gi hL1, xi_gi hL1, xi_gi hL1, i1, i2, i3]
      obtain ⟨f', e, g1, g2⟩ := st_addDebt (v := nI (A c 10)) hL20 hR j1 j2
      rw [e, xi_cv l0, xi_rz (by split <;> simp)]
      refine ⟨f', ?_, fun s' E hs => ?_, fun a h1 h2 h3 => g2 a h1⟩
      · by_cases h8 : sp_o s (3 * A c 8 + A c 9) + nI (A c 10) ≤ 999
        · rw [if_pos h8, if_pos h8]; rfl
        · rw [if_neg h8, if_neg h8]; rfl
      · by_cases h8 : sp_o s (3 * A c 8 + A c 9) + nI (A c 10) ≤ 999
        · rw [if_pos h8] at hs
          cases hs
          refine ⟨g1 h8, ?_⟩
          rw [List.append_nil]
          exact qu_cg hQ (g2 _ (by omega)) (g2 _ (by omega))
        · rw [if_neg h8] at hs; cases hs
    · by_cases e2 : A c 7 = 2
      · obtain ⟨i1, i2, i3⟩ := k7 (by omega)
        obtain ⟨j1, j2, j3⟩ := m7 (by omega)
        clear k1 k2 k3 k4 k5 k6 k7 k8 k9 m1 m2 m3 m4 m5 m6 m7 m8 m9
        rw [sp_act_2 e2, show ac_n (A c 7) = 63 by rw [e2]; decide, if_neg (show ¬ (63 : Int32) = 33 by decide), if_neg (show ¬ (63 : Int32) = 36 by decide), if_pos rfl, xi_gr l0 l3, xi_gi l0, xi_gi hL1, hR.1, i3, nI_add]
        obtain ⟨f', e, g1, g2⟩ := te_add (c := c) (d := sp_d s + A c 10) t3 hR.2.2.2.2.1.1 hR.2.2.2.2.1.2 (by omega)
        rw [e, xi_cv t3.1, xi_rz (by split <;> simp)]
        refine ⟨f', ?_, fun s' E hs => ?_, fun a h1 h2 h3 => g2 a (by omega) (by omega)⟩
        · by_cases h8 : (sp_P s).length < 8
          · rw [if_pos h8, if_pos h8]; rfl
          · rw [if_neg h8, if_neg h8]; rfl
        · by_cases h8 : (sp_P s).length < 8
          · rw [if_pos h8] at hs
            cases hs
            refine ⟨st_sP hR ⟨g1 h8, te_ins_S hR.2.2.2.2.1.2⟩ g2, ?_⟩
            rw [List.append_nil]
            exact qu_cg hQ (g2 _ (by omega) (by omega)) (g2 _ (by omega) (by omega))
          · rw [if_neg h8] at hs; cases hs
      · by_cases e1 : A c 7 = 1
        · obtain ⟨i1, i2, i3⟩ := k7 (by omega)
          obtain ⟨j1, j2, j3⟩ := m7 (by omega)
          clear k1 k2 k3 k4 k5 k6 k7 k8 k9 m1 m2 m3 m4 m5 m6 m7 m8 m9
          rw [sp_act_1 e1, show ac_n (A c 7) = 126 by rw [e1]; decide, if_neg (show ¬ (126 : Int32) = 33 by decide), if_neg (show ¬ (126 : Int32) = 36 by decide), if_neg (show ¬ (126 : Int32) = 63 by decide), if_pos rfl, xi_gr l0 l2, xi_gi l0, xi_gi hL1, hR.1, i3, nI_add]
          obtain ⟨f', e, g1, g2⟩ := te_add (c := c) (d := sp_d s + A c 10) t2 hR.2.2.2.1.1 hR.2.2.2.1.2 (by omega)
          rw [e, xi_cv t2.1, xi_rz (by split <;> simp)]
          refine ⟨f', ?_, fun s' E hs => ?_, fun a h1 h2 h3 => g2 a (by omega) (by omega)⟩
          · by_cases h8 : (sp_B s).length < 8
            · rw [if_pos h8, if_pos h8]; rfl
            · rw [if_neg h8, if_neg h8]; rfl
          · by_cases h8 : (sp_B s).length < 8
            · rw [if_pos h8] at hs
              cases hs
              refine ⟨st_sB hR ⟨g1 h8, te_ins_S hR.2.2.2.1.2⟩ g2, ?_⟩
              rw [List.append_nil]
              exact qu_cg hQ (g2 _ (by omega) (by omega)) (g2 _ (by omega) (by omega))
            · rw [if_neg h8] at hs; cases hs
        · have e4 : A c 7 = 4 := by omega
          obtain ⟨i1, i2⟩ := k9 e4
          clear k1 k2 k3 k4 k5 k6 k7 k8 k9 m1 m2 m3 m4 m5 m6 m7 m8 m9
          rw [sp_act_4 e4, show ac_n (A c 7) = 61 by rw [e4]; decide, if_neg (show ¬ (61 : Int32) = 33 by decide), if_neg (show ¬ (61 : Int32) = 36 by decide), if_neg (show ¬ (61 : Int32) = 63 by decide), if_neg (show ¬ (61 : Int32) = 126 by decide), xi_gi hL1, i1]
          obtain ⟨f', e, g1, g2⟩ := ru_await (c := A c 8) hL hQ (hW e4)
          rw [e, xi_cv hL.1, xi_rz1]
          refine ⟨f', rfl, fun s' E hs => ?_, fun a h1 h2 h3 => g2 a h2 h3⟩
          cases hs
          exact ⟨st_cg hR fun a h1 h2 => g2 a (by omega) (by omega), g1⟩
end
