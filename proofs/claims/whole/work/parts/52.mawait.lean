/-! the reference's waiting row; breaches -/
def aw_n (A : Nat → Nat → Nat) (t a b c : Nat) : Bool := decide (A c 0 = t) && (decide (t = 0) || decide (A c 1 = a)) && (!decide (t = 1) || decide (A c 2 = b))
theorem aw_0 (A : Nat → Nat → Nat) (a b : Nat) : aw_n A 0 a b = fun c => decide (A c 0 = 0) := by funext c; simp [aw_n]
theorem aw_1 (A : Nat → Nat → Nat) (a b : Nat) : aw_n A 1 a b = ag_ev A a b := by funext c; simp [aw_n, ag_ev]
theorem aw_2 (A : Nat → Nat → Nat) (a b : Nat) : aw_n A 2 a b = ag_on A 2 a := by funext c; simp [aw_n, ag_on]
theorem aw_3 (A : Nat → Nat → Nat) (a b : Nat) : aw_n A 3 a b = ag_on A 3 a := by funext c; simp [aw_n, ag_on]
def mq_R (f : Nat → Nat → Int32) (m : Nat) (W : List Nat) : Prop := f m 21 = nI W.length ∧ W.length ≤ 1200 ∧ ∀ j x, W[j]? = some x → f (m + 15) j = nI x
section
variable {M : Mm} {f : Nat → Nat → Int32} {m bk n s : Nat} {A : Nat → Nat → Nat} {fr : Nat → Bool} {W : List Nat}
theorem mq_cg {f' : Nat → Nat → Int32} (h : mq_R f m W) (h1 : f' m 21 = f m 21) (h2 : f' (m + 15) = f (m + 15)) : mq_R f' m W := by
  obtain ⟨a, b, c⟩ := h
  exact ⟨by rw [h1]; exact a, b, by rw [h2]; exact c⟩
theorem mq_app {c : Nat} {v : Int32} (h : mq_R f m W) (hv : v = nI c) (hw : W.length < 1200) : mq_R (up_2 (up_2 f (m + 15) W.length v) m 21 (nI (W.length + 1))) m (W ++ [c]) := by
  obtain ⟨h1, h2, h3⟩ := h
  refine ⟨by rw [up_e]; simp, by simp; omega, fun j x hx => ?_⟩
  rw [up_o (by omega)]
  rw [List.getElem?_append] at hx
  by_cases hj : j < W.length
  · rw [if_pos hj] at hx
    rw [up_k (by omega)]; exact h3 j x hx
  · rw [if_neg hj] at hx
    by_cases hj2 : j = W.length
    · subst hj2
      rw [Nat.sub_self] at hx
      cases hx
      rw [up_e, hv]
    · rw [show j - W.length = (j - W.length - 1) + 1 by omega] at hx
      simp at hx
theorem mo_awc {t a b c : Nat} {J : Int32 → Rr} (hL : mo_L M m) (hW : mw_R f m bk n A fr) (hc : c < n) (ht : t ≤ 3) (ha : a < 100) (hb : b < 100) : (fo_gr (mm_wi M f) 9 m 8 fun a25 => fo_ai (mm_wi M f) 0 a25 (nI (10 * bk + c)) fun v30 => fo_jp J (fun j71 => fo_jp (j71 0) (fun j70 => if v30 = nI t then fo_jp (fo_jp (j71 1) (fun j66 => if nI t = 1 then fo_gr (mm_wi M f) 9 m 10 fun a56 => fo_ai (mm_wi M f) 0 a56 (nI (10 * bk + c)) fun v61 => if v61 = nI b then j66 else j70 else j66)) (fun j50 => if nI t = 0 then j50 else fo_gr (mm_wi M f) 9 m 9 fun a40 => fo_ai (mm_wi M f) 0 a40 (nI (10 * bk + c)) fun v45 => if v45 = nI a then j50 else j70) else j70))) = J (bz (aw_n A t a b c)) := by
  obtain ⟨w1, w2, w3, w4, w5, w6⟩ := hW
  obtain ⟨⟨⟨g1, g2, g3⟩, -, -⟩, hB⟩ := w5 c hc
  have h0 := hB.1
  have hb1 := hB.2.1
  have hb2 := hB.2.2.1
  clear hB w5 w6
  rw [xi_gr hL.1 (mr_8 hL), xi_ai (t := 0) (ms_8 hL) (by omega) (by decide), g1, xi_jp, xi_jp, xi_jp, xi_jp]
  unfold aw_n
  by_cases e : A c 0 = t
  · subst e
    rw [if_pos rfl, decide_eq_true rfl, Bool.true_and]
    by_cases e0 : A c 0 = 0
    · rw [if_pos (by rw [e0]; rfl), if_neg (by rw [e0]; decide), decide_eq_true e0, decide_eq_false (show ¬ A c 0 = 1 by omega)]; rfl
    · have hx : A c 1 < 100 := by
        by_cases e1 : A c 0 = 1
        · have := hb1 e1; omega
        · have := hb2 (by omega); omega
      rw [if_neg (show ¬ nI (A c 0) = 0 from fun hh => e0 ((nI_eq (b := 0) (by omega) (by omega)).mp hh)), xi_gr hL.1 (mr_9 hL), xi_ai (t := 0) (ms_9 hL) (by omega) (by decide), g2 (by omega), decide_eq_false e0, Bool.false_or]
      by_cases ea : A c 1 = a
      · rw [if_pos (by rw [ea]), decide_eq_true ea, Bool.true_and]
        by_cases e1 : A c 0 = 1
        · have h5 := hb1 e1
          rw [if_pos (by rw [e1]; rfl), xi_gr hL.1 (mr_10 hL), xi_ai (t := 0) (ms_10 hL) (by omega) (by decide), g3 e1, decide_eq_true e1]
          by_cases eb : A c 2 = b
          · rw [if_pos (by rw [eb]), decide_eq_true eb]; rfl
          · rw [if_neg (by rw [nI_eq (by omega) (by omega)]; exact eb), decide_eq_false eb]; rfl
        · rw [if_neg (show ¬ nI (A c 0) = 1 from fun hh => e1 ((nI_eq (b := 1) (by omega) (by omega)).mp hh)), decide_eq_false e1]; rfl
      · rw [if_neg (by rw [nI_eq (by omega) (by omega)]; exact ea), decide_eq_false ea]; rfl
  · rw [if_neg (by rw [nI_eq (by omega) (by omega)]; exact e), decide_eq_false e]; rfl
/-- what awaiting changes -/
def fq_R (f f' : Nat → Nat → Int32) (m : Nat) : Prop := ∀ x j, (x ≠ m ∨ j ≠ 21) → x ≠ m + 15 → f' x j = f x j
theorem mo_aw_lp {t a b : Nat} (hL : mo_L M m) (ht : t ≤ 3) (ha : a < 100) (hb : b < 100) : ∀ k i f W, i ≤ n → n - i < k → W.length + (n - i) ≤ 1200 → mw_R f m bk n A fr → mq_R f m W → ∃ f', fo_fx (fun _ _ => none) (lp_Mo_await_3 m (nI t) (nI a) (nI b)) k (mm_wi M f) (nI i) = some (0, mm_wi M f') ∧ mq_R f' m (W ++ ((List.range n).drop i).filter (aw_n A t a b)) ∧ fq_R f f' m := by
  intro k
  induction k with
  | zero => intro i f W _ h; omega
  | succ k ih =>
    intro i f W hi hk h12 hW hQ
    have w2 := hW.2.1
    have w1 := hW.1
    rw [fx_s, lp_Mo_await_3, xi_gi hL.1, hW.2.2.2.1]
    by_cases h : n ≤ i
    · rw [if_pos (nI_le h (by omega)), rg_end h, List.filter_nil, List.append_nil]
      exact ⟨f, rfl, hQ, fun _ _ _ _ => rfl⟩
    · rw [if_neg (by rw [nI_leI (by omega) (by omega)]; exact h), xi_gi hL.1, hW.2.2.1, xi_nm, nx_b, mo_awc hL hW (by omega) ht ha hb, xi_jp, rg_drop (by omega), List.filter_cons]
      cases hF : aw_n A t a b i with
      | false =>
        rw [if_pos (bz_f rfl)]
        dsimp only
        rw [nI_1, if_neg (by simp)]
        exact ih (i + 1) f W (by omega) (by omega) (by omega) hW hQ
      | true =>
        have q := mq_app (c := i) (v := nI i) hQ rfl (by omega)
        rw [if_neg (bz_t rfl), xi_gr hL.1 (mr_22 hL), xi_gi hL.1, hQ.1, xi_si (ms_22 hL) (by omega) (by decide), xi_gi hL.1, up_o (by omega), hQ.1, nI_1, xi_pi hL.1, if_pos rfl]
        dsimp only
        rw [nI_1]
        obtain ⟨f', e1, e2, e3⟩ := ih (i + 1) (up_2 (up_2 f (m + 15) W.length (nI i)) m 21 (nI (W.length + 1))) (W ++ [i]) (by omega) (by omega) (by simp; omega) (mw_cg hW (by rw [up_k (by omega), up_o (by omega)]) (by rw [up_k (by omega), up_o (by omega)]) fun x j h1 h2 => by rw [up_o (by omega), up_o (by omega)]) q
        refine ⟨f', e1, by rw [List.append_assoc] at e2; exact e2, fun x j h1 h2 => ?_⟩
        rw [e3 x j h1 h2]
        by_cases hx : x = m
        · rw [up_k (by omega), up_o (by omega)]
        · rw [up_o hx, up_o h2]
theorem mo_await {t a b : Nat} {a' b' t' : Int32} (hL : mo_L M m) (ht' : t' = nI t) (ha' : a' = nI a) (hb' : b' = nI b) (ht : t ≤ 3) (ha : a < 100) (hb : b < 100) (h12 : W.length + n ≤ 1200) (hW : mw_R f m bk n A fr) (hQ : mq_R f m W) : ∃ f', fn_Mo_await (mm_wi M f) m t' a' b' = some (0, mm_wi M f') ∧ mq_R f' m (W ++ (List.range n).filter (aw_n A t a b)) ∧ fq_R f f' m := by
  subst ht' ha' hb'
  have w2 := hW.2.1
  exact mo_aw_lp hL ht ha hb fo_N 0 f W (by omega) (by show _ < 2000; omega) (by omega) hW hQ
/-- the clauses that were breached: made and blamed -/
def mk_R (f : Nat → Nat → Int32) (m : Nat) (A : Nat → Nat → Nat) (cs : List Nat) : Prop := f m 24 = nI cs.length ∧ ∃ v, v < 8 ∧ f m 25 = nI v ∧ ∀ p, p < 3 → v.testBit p = cs.any fun c => decide (A c 8 = p)
theorem bm_1 : ∀ v, v < 8 → ∀ x, x < 3 → nI v ||| (1 <<< (nI x &&& 31)) = nI (v ||| 2 ^ x) := by decide +kernel
theorem bm_2 : ∀ v, v < 8 → ∀ x, x < 3 → v ||| 2 ^ x < 8 ∧ ∀ p, p < 3 → (v ||| 2 ^ x).testBit p = (v.testBit p || decide (x = p)) := by decide +kernel
theorem bm_3 : ∀ v, v < 8 → ∀ p, p < 3 → (((nI v >>> (nI p &&& 31)) &&& 1) = 0 ↔ v.testBit p = false) := by decide +kernel
theorem mo_breach {c : Nat} {cs : List Nat} (hL : mo_L M m) (hs : s ≤ 16) (hW : mw_R f m bk n A fr) (hQ : mq_R f m W) (hK : mk_R f m A cs) (hc : c < n) (h3 : A c 7 < 3) (h12 : W.length + n ≤ 1200) : ∃ f', fn_Mo_breach (mm_wi M f) m (nI s) (nI c) = some (0, mm_wi M f') ∧ (∀ j, f' (m + 14) j = if j = 71 * s + 61 + c then f (m + 14) j + 1 else f (m + 14) j) ∧ mq_R f' m (W ++ on_l A n 2 c) ∧ mk_R f' m A (cs ++ [c]) ∧ ∀ x j, (x ≠ m ∨ (j ≠ 21 ∧ j ≠ 24 ∧ j ≠ 25)) → x ≠ m + 14 → x ≠ m + 15 → f' x j = f x j := by
  have w1 := hW.1
  have w2 := hW.2.1
  have w3 := hW.2.2.1
  obtain ⟨⟨-, -, ⟨-, a2, -⟩⟩, hB⟩ := hW.2.2.2.2.1 c hc
  have h8 := (hB.2.2.2.2.2.2.1 h3).1
  clear hB
  obtain ⟨k1, v, k2, k3, k4⟩ := hK
  obtain ⟨b2, b3⟩ := bm_2 v k2 (A c 8) h8
  rw [fn_Mo_breach, xi_nm, show (61 : Int32) = nI 61 from rfl, nx_1, nI_add, xi_gr hL.1 (mr_19 hL), xi_gr hL.1 (mr_19 hL), xi_ai (t := 0) (ms_19 hL) (by omega) (by decide), xi_si (ms_19 hL) (by omega) (by decide), xi_gi hL.1, up_o (by omega), k1, nI_1, xi_pi hL.1, xi_gi hL.1, up_k (by omega), up_o (by omega), k3, xi_gr hL.1 (mr_16 hL), xi_gi hL.1, up_k (by omega), up_o (by omega), w3, nx_b, xi_ai (t := 0) (ms_16 hL) (by omega) (by decide), up_o (by omega), up_o (by omega), a2, bm_1 v k2 _ h8, xi_pi hL.1]
  obtain ⟨f', e1, e2, e3⟩ := mo_await (M := M) (f := up_2 (up_2 (up_2 f (m + 14) (71 * s + 61 + c) (f (m + 14) (71 * s + 61 + c) + 1)) m 24 (nI (cs.length + 1))) m 25 (nI (v ||| 2 ^ A c 8))) (t := 2) (a := c) (b := 0) (t' := 2) (a' := nI c) (b' := 0) (W := W) hL rfl rfl rfl (by omega) (by omega) (by omega) h12 (mw_cg hW (by rw [up_k (by omega), up_k (by omega), up_o (by omega)]) (by rw [up_k (by omega), up_k (by omega), up_o (by omega)]) fun x j h1 h2 => by rw [up_o (by omega), up_o (by omega), up_o (by omega)]) (mq_cg hQ (by rw [up_k (by omega), up_k (by omega), up_o (by omega)]) (by rw [up_oa (by omega), up_oa (by omega), up_oa (by omega)]))
  rw [e1, xi_cv hL.1]
  refine ⟨f', rfl, fun j => ?_, by rw [aw_2] at e2; exact e2, ⟨?_, v ||| 2 ^ A c 8, b2, ?_, fun p hp => ?_⟩, fun x j h1 h2 h3 => ?_⟩
  · rw [e3 _ _ (by omega) (by omega), up_o (by omega), up_o (by omega)]
    by_cases hj : j = 71 * s + 61 + c
    · rw [if_pos hj, hj, up_e]
    · rw [if_neg hj, up_k hj]
  · rw [e3 _ _ (by omega) (by omega), up_k (by omega), up_e]; simp
  · rw [e3 _ _ (by omega) (by omega), up_e]
  · rw [b3 p hp, k4 p hp, List.any_append]; simp
  · rw [e3 x j (by omega) (by omega)]
    by_cases hx : x = m
    · rw [up_k (by omega), up_k (by omega), up_o (by omega)]
    · rw [up_o hx, up_o hx, up_o h2]
end
