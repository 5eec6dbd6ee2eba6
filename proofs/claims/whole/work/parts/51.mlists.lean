/-! the reference's lists: put, takeOut -/
section
variable {M : Mm} {f : Nat → Nat → Int32} {m s o : Nat} {o' : Int32} {l k : List Nat}
theorem rm_mid {v x : Nat} (h : k[v]? = some x) : k.Perm (x :: (k.take v ++ k.drop (v + 1))) := by
  have e : k.take v ++ x :: k.drop (v + 1) = k := by rw [← te_drop h, List.take_append_drop]
  have := List.perm_middle (a := x) (l₁ := k.take v) (l₂ := k.drop (v + 1))
  rw [e] at this
  exact this
theorem rm_perm {v i x : Nat} (hp : k.Perm l) (h1 : k[v]? = some x) (h2 : l[i]? = some x) : (k.take v ++ k.drop (v + 1)).Perm (l.take i ++ l.drop (i + 1)) :=
  List.Perm.cons_inv (((rm_mid h1).symm.trans hp).trans (rm_mid h2))
theorem in_perm {x : Nat} (hp : k.Perm l) : (k ++ [x]).Perm (te_ins x l) :=
  (List.perm_append_comm.trans (hp.cons x)).trans (te_ins_perm x l).symm
/-- what changes in a list's stretch alone -/
def fl_R (f f' : Nat → Nat → Int32) (a b : Nat) : Prop := ∀ x j, (x ≠ a ∨ j < b ∨ b + 17 ≤ j) → f' x j = f x j
theorem mo_put {c d : Nat} (hL : mo_L M m) (hs : s ≤ 16) (ho : o' = nI o) (ho2 : o ≤ 35) (hR : ml_R f (m + 14) (71 * s + o) k) (hc : c < 100) (hd : 100 * d + c < 7000) (h23 : f m 23 = 0) : ∃ f', fn_Mo_put (mm_wi M f) m (nI s) o' (nI c) (nI d) = some (0, mm_wi M f') ∧ (k.length < 8 → f' m 23 = 0 ∧ ml_R f' (m + 14) (71 * s + o) (k ++ [100 * d + c])) ∧ (¬ k.length < 8 → f' m 23 = 1 ∧ ∀ j, f' (m + 14) j = f (m + 14) j) ∧ ∀ x j, (x ≠ m ∨ j ≠ 23) → (x ≠ m + 14 ∨ j < 71 * s + o ∨ 71 * s + o + 17 ≤ j) → f' x j = f x j := by
  obtain ⟨h1, h2, h3, h4⟩ := hR
  rw [fn_Mo_put, xi_gr hL.1 (mr_19 hL), ho, nx_1, xi_ai (t := 0) (ms_19 hL) (by omega) (by decide), h1, xi_gi hL.1, h23, xi_jp, xi_jp]
  dsimp only
  rw [if_pos (show (0 : Int32) = 0 from rfl)]
  by_cases h : k.length < 8
  · rw [if_neg (show ¬ nI k.length = 8 from fun hh => by have := (nI_eq (b := 8) (by omega) (by omega)).mp hh; omega), xi_pz0 hL.1, xi_gi hL.1, up_e, if_pos (show (0 : Int32) = 0 from rfl), xi_gr hL.1 (mr_19 hL), ← nx_1, nx_2, xi_si (ms_19 hL) (by omega) (by decide), xi_gr hL.1 (mr_19 hL), nx_3, xi_si (ms_19 hL) (by omega) (by decide), xi_gr hL.1 (mr_19 hL), nx_1, xi_si (ms_19 hL) (by omega) (by decide), nI_1]
    refine ⟨_, rfl, fun _ => ⟨by rw [up_o (by omega), up_o (by omega), up_o (by omega), up_e], ⟨by rw [up_e]; simp, by simp; omega, fun x hx => ?_, fun j x hx => ?_⟩⟩, fun hh => absurd h hh, fun x j g1 g2 => ?_⟩
    · rw [List.mem_append, List.mem_singleton] at hx
      rcases hx with hx | hx
      · exact h3 x hx
      · omega
    · rw [List.getElem?_append] at hx
      by_cases hj : j < k.length
      · rw [if_pos hj] at hx
        have q := h4 j x hx
        rw [up_k (by omega), up_k (by omega), up_k (by omega), up_o (by omega), up_k (by omega), up_k (by omega), up_k (by omega), up_o (by omega)]
        exact q
      · rw [if_neg hj] at hx
        by_cases hj2 : j = k.length
        · subst hj2
          rw [Nat.sub_self] at hx
          cases hx
          rw [up_k (by omega), up_k (by omega), up_e, up_k (by omega), up_e]
          exact ⟨by congr 1; omega, by congr 1; omega⟩
        · rw [show j - k.length = (j - k.length - 1) + 1 by omega] at hx
          simp at hx
    · by_cases hx : x = m + 14
      · rw [up_k (by omega), up_k (by omega), up_k (by omega), up_o (by omega)]
      · rw [up_o hx, up_o hx, up_o hx]
        by_cases hxm : x = m
        · rw [up_k (by omega)]
        · rw [up_o hxm]
  · rw [if_pos (by rw [show k.length = 8 by omega]; rfl), xi_pz1 hL.1, xi_gi hL.1, up_e, if_neg (show ¬ (1 : Int32) = 0 by decide)]
    refine ⟨_, rfl, fun hh => absurd hh h, fun _ => ⟨up_e, fun j => up_o (by omega)⟩, fun x j g1 g2 => ?_⟩
    by_cases hxm : x = m
    · rw [up_k (by omega)]
    · rw [up_o hxm]
theorem mo_take_lp {v w : Nat} (hL : mo_L M m) (hs : s ≤ 16) (ho2 : o ≤ 35) (hv : v ≤ 7) : ∀ kk i f, 2 * w ≤ i → i ≤ 2 * v → 2 * v - i < kk → ∃ f', fo_fx (fun _ _ => none) (lp_Mo_takeOut_33 m (nI s) (nI o) (nI v)) kk (mm_wi M f) (nI i) = some (0, mm_wi M f') ∧ (∀ j, f' (m + 14) (71 * s + o + 1 + j) = if i ≤ j ∧ j < 2 * v then f (m + 14) (71 * s + o + 3 + j) else f (m + 14) (71 * s + o + 1 + j)) ∧ ∀ x j, (x ≠ m + 14 ∨ j < 71 * s + o + 1 ∨ 71 * s + o + 17 ≤ j) → f' x j = f x j := by
  intro kk
  induction kk with
  | zero => intro i f _ _ h; omega
  | succ kk ih =>
    intro i f hw hi hk
    rw [fx_s, lp_Mo_takeOut_33, show 2 * nI v = nI (2 * v) from nI_xm 2 v]
    by_cases h : 2 * v ≤ i
    · rw [if_pos (nI_le h (by omega))]
      exact ⟨f, rfl, fun j => by rw [if_neg (by omega)], fun x j _ => rfl⟩
    · rw [if_neg (by rw [nI_leI (by omega) (by omega)]; exact h), xi_gr hL.1 (mr_19 hL), xi_gr hL.1 (mr_19 hL), nx_4, nx_5, xi_ai (t := 0) (ms_19 hL) (by omega) (by decide), xi_si (ms_19 hL) (by omega) (by decide), nI_1]
      obtain ⟨f', e1, e2, e3⟩ := ih (i + 1) (up_2 f (m + 14) (71 * s + o + 1 + i) (f (m + 14) (71 * s + o + 3 + i))) (by omega) (by omega) (by omega)
      refine ⟨f', e1, fun j => ?_, fun x j hh => ?_⟩
      · rw [e2 j]
        by_cases h1 : i + 1 ≤ j ∧ j < 2 * v
        · rw [if_pos h1, if_pos (by omega), up_k (by omega)]
        · rw [if_neg h1]
          by_cases h2 : i = j
          · subst h2; rw [if_pos (by omega), up_e]
          · rw [if_neg (by omega), up_k (by omega)]
      · rw [e3 x j hh]
        by_cases h1 : x = m + 14
        · rw [up_k (by omega)]
        · rw [up_o h1]
theorem rm_at {v j : Nat} (hv : v < k.length) : (k.take v ++ k.drop (v + 1))[j]? = if j < v then k[j]? else k[j + 1]? := by
  rw [List.getElem?_append, List.length_take, Nat.min_eq_left (by omega)]
  by_cases h : j < v
  · rw [if_pos h, if_pos h, List.getElem?_take, if_pos h]
  · rw [if_neg h, if_neg h, List.getElem?_drop]
    congr 1; omega
theorem rm_len {v : Nat} (hv : v < k.length) : (k.take v ++ k.drop (v + 1)).length = k.length - 1 := by
  rw [List.length_append, List.length_take, List.length_drop]; omega
theorem mo_takeOut {w : Nat} (hL : mo_L M m) (hs : s ≤ 16) (ho : o' = nI o) (ho2 : o ≤ 35) (hR : ml_R f (m + 14) (71 * s + o) k) (hw : w < k.length) : ∃ f', fn_Mo_takeOut (mm_wi M f) m (nI s) o' (nI w) = some (0, mm_wi M f') ∧ ml_R f' (m + 14) (71 * s + o) (k.take w ++ k.drop (w + 1)) ∧ fl_R f f' (m + 14) (71 * s + o) := by
  obtain ⟨h1, h2, h3, h4⟩ := hR
  obtain ⟨v, hv⟩ : ∃ v, k.length = v + 1 := ⟨k.length - 1, by omega⟩
  rw [fn_Mo_takeOut, xi_gr hL.1 (mr_19 hL), ho, nx_1, xi_ai (t := 0) (ms_19 hL) (by omega) (by decide), h1, hv, xi_nm, nI_pred, xi_gr hL.1 (mr_19 hL), xi_si (ms_19 hL) (by omega) (by decide), xi_nm, show 2 * nI w = nI (2 * w) from nI_xm 2 w]
  obtain ⟨f', e1, e2, e3⟩ := mo_take_lp (v := v) (w := w) hL hs ho2 (by omega) fo_N (2 * w) (up_2 f (m + 14) (71 * s + o) (nI v)) (by omega) (by omega) (by show _ < 2000; omega)
  refine ⟨f', e1, ⟨?_, by rw [rm_len hw]; omega, fun x hx => h3 x ?_, fun j x hx => ?_⟩, fun x j hh => ?_⟩
  · rw [e3 _ _ (by omega), up_e, rm_len hw, hv, Nat.add_sub_cancel]
  · rw [List.mem_append] at hx
    rcases hx with hx | hx
    · exact List.mem_of_mem_take hx
    · exact List.mem_of_mem_drop hx
  · have hj := te_lt hx
    rw [rm_len hw] at hj
    rw [rm_at hw] at hx
    have q1 := e2 (2 * j)
    have q2 := e2 (2 * j + 1)
    rw [show 71 * s + o + 1 + (2 * j + 1) = 71 * s + o + 2 + 2 * j by omega] at q2
    rw [q1, q2]
    by_cases hjw : j < w
    · rw [if_pos hjw] at hx
      rw [if_neg (by omega), if_neg (by omega), up_k (by omega), up_k (by omega)]
      exact h4 j x hx
    · rw [if_neg hjw] at hx
      have q := h4 (j + 1) x hx
      rw [if_pos (by omega), if_pos (by omega), up_k (by omega), up_k (by omega)]
      rw [show 71 * s + o + 1 + 2 * (j + 1) = 71 * s + o + 3 + 2 * j by omega, show 71 * s + o + 2 + 2 * (j + 1) = 71 * s + o + 3 + (2 * j + 1) by omega] at q
      exact q
  · rw [e3 x j (by omega)]
    by_cases hx : x = m + 14
    · rw [up_k (by omega)]
    · rw [up_o hx]
end
