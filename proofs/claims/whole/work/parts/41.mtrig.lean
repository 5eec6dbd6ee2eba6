/-! the reference's triggers -/
section
variable {M : Mm} {f : Nat → Nat → Int32} {m p j : Nat} {T : List Nat}
/-- a stretch of the reference's rows, at one clause alone -/
def fr_M (f f' : Nat → Nat → Int32) (lo hi j : Nat) : Prop := ∀ a b, (a < lo ∨ hi ≤ a ∨ b ≠ j) → f' a b = f a b
theorem fm_up {lo hi a : Nat} {v : Int32} (h1 : lo ≤ a) (h2 : a < hi) : fr_M f (up_2 f a j v) lo hi j := fun x y h => by
  by_cases hx : x = a
  · subst hx; rw [up_k (by omega)]
  · rw [up_o hx]
theorem fm_tr {f1 f2 : Nat → Nat → Int32} {lo hi : Nat} (h : fr_M f f1 lo hi j) (h2 : fr_M f1 f2 lo hi j) : fr_M f f2 lo hi j := fun a b x => by rw [h2 a b x, h a b x]
theorem fm_mt {f' : Nat → Nat → Int32} {lo hi : Nat} (hlo : m + 2 ≤ lo) (h : fr_M f f' lo hi j) (hR : mt_R f m T) : mt_R f' m T := mt_cg hR (h _ _ (by omega)) (funext fun b => h _ _ (by omega))
def mt_v (o : Nat ⊕ (Nat × Nat × Nat × Nat)) : Int32 := match o with | .inl e => mv_e e | .inr (p', _) => nI p'
def mg_R (f : Nat → Nat → Int32) (m j a b c : Nat) : Prop := f (m + 3) j = nI a ∧ (1 ≤ a ∧ a ≤ 3 → f (m + 4) j = nI b) ∧ (a = 1 → f (m + 5) j = nI c)
theorem mo_trig_d {tt : Nat} (hL : mo_L M m) (hR : mt_R f m T) (hp : p ≤ 500) (hj : j < 20) (h3 : f (m + 3) j = nI tt) (ht : tt = 2 ∨ tt = 3) : ∃ f', (fo_cv (mm_wi M f) 9 m (fn_Mo_digit (mm_wi M f) m (nI p + 1)) fun v115 M115 => fo_si M115 (m + 4) (nI j) v115 fun M118 => fo_gr M118 9 m 10 fun a120 => fo_cv M118 9 m (fn_Mo_kind M118 m (nI p + 1)) fun v128 M128 => fo_si M128 a120 (nI j) v128 fun M131 => fo_cv M131 9 m (fn_Mo_digit M131 m (nI p + 1)) fun v151 M151 => if 0 ≤ v151 then some ((nI p + 2), M151) else some (((-2) - nI p), M151)) = some (mt_v (ps_d T p tt), mm_wi M f') ∧ (∀ p' a b c, ps_d T p tt = .inr (p', a, b, c) → mg_R f' m j a b c) ∧ fr_M f f' (m + 3) (m + 6) j := by
  have e4 := fm_up (f := f) (j := j) (lo := m + 3) (hi := m + 6) (a := m + 4) (v := fz (rd_n T (p + 1) 48 10)) (by omega) (by omega)
  have e5 := fm_tr e4 (fm_up (lo := m + 3) (hi := m + 6) (a := m + 5) (v := fz (rd_n T (p + 1) 97 5)) (by omega) (by omega))
  rw [nI_1, mo_digit hL hR (by omega), xi_cv hL.1, xi_si (ms_9 hL) hj (by decide), xi_gr hL.1 (mr_10 hL), mo_kind hL (fm_mt (by omega) e4 hR) (by omega), xi_cv hL.1, xi_si (ms_10 hL) hj (by decide), mo_digit hL (fm_mt (by omega) e5 hR) (by omega), xi_cv hL.1]
  unfold ps_d
  cases h : rd_n T (p + 1) 48 10 with
  | none =>
    rw [h] at e5
    rw [fz_n, if_neg (by decide), mv_2 (by omega)]
    exact ⟨_, rfl, fun p' a b c hx => (by cases hx), e5⟩
  | some d =>
    have hd := rd_ca h (by omega)
    rw [h] at e5
    rw [fz_s, if_pos (nI_pos' (by omega)), show nI p + 2 = nI (p + 2) from nI_add p 2]
    refine ⟨_, rfl, fun p' a b c hx => ?_, e5⟩
    cases hx
    exact ⟨by rw [up_o (by omega), up_o (by omega)]; exact h3, fun _ => by rw [up_o (by omega), up_e], fun h => absurd h (by omega)⟩
theorem mo_trig (hL : mo_L M m) (hR : mt_R f m T) (hp : p ≤ 500) (hj : j < 20) : ∃ f', fn_Mo_readTrigger (mm_wi M f) m (nI j) (nI p) = some (mt_v (ps_t T p), mm_wi M f') ∧ (∀ p' a b c, ps_t T p = .inr (p', a, b, c) → mg_R f' m j a b c) ∧ fr_M f f' (m + 3) (m + 6) j := by
  have hca := ca_lt (p := p) hR
  have hrn : ∀ c, ca_n T p = c → (c < 65 ∨ 68 ≤ c) → rd_n T p 65 3 = none := fun c hc h => by
    unfold rd_n; rw [hc, if_neg (by omega)]
  have hne : ∀ c d : Nat, c < 127 → d < 127 → c ≠ d → ¬ nI c = nI d := fun c d h1 h2 h => by rw [nI_eq (by omega) (by omega)]; exact h
  rw [fn_Mo_readTrigger, mo_charAt hL hR (by omega), xi_cv hL.1, mo_party hL hR (by omega), xi_cv hL.1, xi_gr hL.1 (mr_8 hL), xi_jp]
  dsimp only
  have e3 : ∀ v, fr_M f (up_2 f (m + 3) j v) (m + 3) (m + 6) j := fun v => fm_up (by omega) (by omega)
  unfold ps_t
  by_cases c1 : ca_n T p = 115
  · rw [c1, if_pos (show nI 115 = 115 from rfl), xi_si (ms_8 hL) hj (by decide), xi_jp, if_pos (show nI 115 = 115 from rfl), if_pos rfl, nI_1]
    exact ⟨_, rfl, fun p' a b c hx => (by cases hx; exact ⟨up_e, fun h => absurd h.1 (by omega), fun h => (by cases h)⟩), e3 _⟩
  · rw [if_neg c1, if_neg (show ¬ nI (ca_n T p) = 115 from hne _ 115 hca (by omega) c1)]
    cases hw : rd_n T p 65 3 with
    | some w =>
      have hw1 := rd_ca hw (by omega)
      have k1 : ∀ d : Nat, (d = 61 ∨ d = 120 ∨ d = 102) → ¬ ca_n T p = d := fun d hd h => by omega
      rw [fz_s, if_neg (nI_pos (by omega)), xi_si (ms_8 hL) hj (by decide), xi_jp, if_neg (show ¬ nI (ca_n T p) = 115 from hne _ 115 hca (by omega) c1), if_neg (show ¬ nI (ca_n T p) = 61 from hne _ 61 hca (by omega) (k1 61 (by omega))), xi_jp, if_pos (nI_pos' (by omega)), xi_gr hL.1 (mr_9 hL), xi_jp, if_neg (nI_pos (by omega)), if_neg (k1 61 (by omega)), if_neg (k1 120 (by omega)), if_neg (k1 102 (by omega))]
      dsimp only
      have e4 := fm_tr (e3 1) (fm_up (lo := m + 3) (hi := m + 6) (a := m + 4) (v := nI w) (by omega) (by omega))
      have e5 := fm_tr e4 (fm_up (lo := m + 3) (hi := m + 6) (a := m + 5) (v := fz (rd_n T (p + 1) 97 5)) (by omega) (by omega))
      rw [xi_si (ms_9 hL) hj (by decide), xi_gr hL.1 (mr_10 hL), nI_1, mo_kind hL (fm_mt (by omega) e4 hR) (by omega), xi_cv hL.1, xi_si (ms_10 hL) hj (by decide), xi_jp, if_neg (nI_pos (by omega)), mo_kind hL (fm_mt (by omega) e5 hR) (by omega), xi_cv hL.1]
      dsimp only
      cases hk : rd_n T (p + 1) 97 5 with
      | none =>
        rw [hk] at e5
        rw [fz_n, if_neg (by decide), mv_2 (by omega)]
        exact ⟨_, rfl, fun p' a b c hx => (by cases hx), e5⟩
      | some k =>
        have hk1 := rd_ca hk (by omega)
        rw [hk] at e5
        rw [fz_s, if_pos (nI_pos' (by omega)), show nI p + 2 = nI (p + 2) from nI_add p 2]
        refine ⟨_, rfl, fun p' a b c hx => ?_, e5⟩
        cases hx
        exact ⟨by rw [up_o (by omega), up_o (by omega), up_e]; rfl, fun _ => by rw [up_o (by omega), up_e], fun _ => by rw [up_e]⟩
    | none =>
      rw [fz_n, if_pos (by decide)]
      by_cases c2 : ca_n T p = 61
      · rw [c2, if_neg (show ¬ nI 61 = 120 by decide), if_neg (show ¬ nI 61 = 102 by decide), xi_si (ms_8 hL) hj (by decide), xi_jp, if_neg (show ¬ nI 61 = 115 by decide), if_pos (show nI 61 = 61 from rfl), if_pos rfl, nI_1]
        exact ⟨_, rfl, fun p' a b c hx => (by cases hx; exact ⟨up_e, fun h => absurd h.2 (by omega), fun h => (by cases h)⟩), e3 _⟩
      · rw [if_neg c2]
        by_cases c3 : ca_n T p = 120
        · rw [c3, if_pos (show nI 120 = 120 from rfl), xi_si (ms_8 hL) hj (by decide), xi_jp, if_neg (show ¬ nI 120 = 115 by decide), if_neg (show ¬ nI 120 = 61 by decide), xi_jp, if_neg (show ¬ (0 : Int32) ≤ -1 by decide), if_pos (show nI 120 = 120 from rfl), xi_gr hL.1 (mr_9 hL), xi_jp, if_pos (show (-1 : Int32) < 0 by decide), if_pos rfl]
          obtain ⟨f1, x1, a1, b1⟩ := mo_trig_d (tt := 2) hL (fm_mt (by omega) (e3 2) hR) hp hj up_e (.inl rfl)
          exact ⟨f1, x1, a1, fm_tr (e3 2) b1⟩
        · rw [if_neg c3, if_neg (show ¬ nI (ca_n T p) = 120 from hne _ 120 hca (by omega) c3)]
          by_cases c4 : ca_n T p = 102
          · rw [c4, if_pos (show nI 102 = 102 from rfl), xi_si (ms_8 hL) hj (by decide), xi_jp, if_neg (show ¬ nI 102 = 115 by decide), if_neg (show ¬ nI 102 = 61 by decide), xi_jp, if_neg (show ¬ (0 : Int32) ≤ -1 by decide), if_neg (show ¬ nI 102 = 120 by decide), if_pos (show nI 102 = 102 from rfl), xi_gr hL.1 (mr_9 hL), xi_jp, if_pos (show (-1 : Int32) < 0 by decide), if_pos rfl]
            obtain ⟨f1, x1, a1, b1⟩ := mo_trig_d (tt := 3) hL (fm_mt (by omega) (e3 3) hR) hp hj up_e (.inr rfl)
            exact ⟨f1, x1, a1, fm_tr (e3 3) b1⟩
          · rw [if_neg c4, if_neg (show ¬ nI (ca_n T p) = 102 from hne _ 102 hca (by omega) c4), xi_si (ms_8 hL) hj (by decide), xi_jp, if_neg (show ¬ nI (ca_n T p) = 115 from hne _ 115 hca (by omega) c1), if_neg (show ¬ nI (ca_n T p) = 61 from hne _ 61 hca (by omega) c2), xi_jp, if_neg (show ¬ (0 : Int32) ≤ -1 by decide), if_neg (show ¬ nI (ca_n T p) = 120 from hne _ 120 hca (by omega) c3), if_neg (show ¬ nI (ca_n T p) = 102 from hne _ 102 hca (by omega) c4), mv_1]
            exact ⟨_, rfl, fun p' a b c hx => (by cases hx), e3 _⟩
end
