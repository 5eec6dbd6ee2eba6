/-! the class's history: the states kept, the latest first -/
section
variable {M : Mm} {f : Nat → Nat → Int32} {h u : Nat} {s : Sp} {H : List Sp}
def hi_L (M : Mm) (h : Nat) : Prop := mm_s M h = (1, 2) ∧ mm_r M h 0 = some (h + 1) ∧ mm_s M (h + 1) = (7, 12) ∧ ∀ i, i < 12 → mm_r M (h + 1) i = some (h + 2 + 9 * i) ∧ st_L M (h + 2 + 9 * i)
def hi_R (f : Nat → Nat → Int32) (h : Nat) (H : List Sp) : Prop := f h 1 = nI H.length ∧ H.length ≤ 12 ∧ ∃ nx, nx < 12 ∧ f h 2 = nI nx ∧ ∀ j s, H[j]? = some s → st_R f (h + 2 + 9 * ((nx + 11 - j) % 12)) s
theorem hi_cg {f' : Nat → Nat → Int32} (hR : hi_R f h H) (h0 : ∀ a, h ≤ a → a < h + 110 → f' a = f a) : hi_R f' h H := by
  obtain ⟨h1, h2, nx, h3, h4, h5⟩ := hR
  refine ⟨by rw [h0 h (by omega) (by omega)]; exact h1, h2, nx, h3, by rw [h0 h (by omega) (by omega)]; exact h4, fun j s hs => st_cg (h5 j s hs) fun a x y => h0 a (by omega) (by omega)⟩
theorem hi_keep (hL : hi_L M h) (hLu : st_L M u) (hR : hi_R f h H) (hS : st_R f u s) (hd : u + 9 ≤ h ∨ h + 110 ≤ u) : ∃ f', fn_Hi_keep (mm_wi M f) h u = some (0, mm_wi M f') ∧ hi_R f' h ((s :: H).take 12) ∧ ∀ a, (a < h ∨ h + 110 ≤ a) → f' a = f a := by
  obtain ⟨h1, h2, nx, h3, h4, h5⟩ := hR
  obtain ⟨l0, l1, l2, l3⟩ := hL
  obtain ⟨r1, r2⟩ := l3 nx h3
  obtain ⟨f1, e1, a1, b1⟩ := st_copyFrom r2 hLu hS (by omega)
  rw [fn_Hi_keep, xi_gr l0 l1, xi_gi l0, h4, xi_ar (t := 5) l2 h3 (by decide) r1, e1, xi_cv r2.1, xi_gi l0, b1 h (by omega), h4, nI_1, show (12 : Int32) = nI 12 from rfl, pk_rem (by omega) (by omega) (by omega), xi_pi l0, xi_gi l0, xi_pi l0, up_k (by omega), b1 h (by omega), h1, nI_1]
  refine ⟨_, rfl, ⟨?_, ?_, (nx + 1) % 12, Nat.mod_lt _ (by omega), ?_, fun j x hx => ?_⟩, fun a ha => ?_⟩
  · rw [up_e]
    by_cases hl : H.length = 12
    · rw [if_pos (nI_lt (by omega) (by omega))]; simp [hl]
    · rw [if_neg (by rw [nI_ltI (by omega) (by omega)]; omega)]; simp; congr 1; omega
  · simp; omega
  · rw [up_k (by omega), up_e]
  · rw [List.getElem?_take] at hx
    by_cases hj : j < 12
    · rw [if_pos hj] at hx
      have hup : ∀ a, a ≠ h → up_2 (up_2 f1 h 2 (nI ((nx + 1) % 12))) h 1 (if nI 12 < nI (H.length + 1) then nI 12 else nI (H.length + 1)) a = f1 a := fun a ha => by rw [up_oa ha, up_oa ha]
      cases j with
      | zero =>
        cases hx
        have e : ((nx + 1) % 12 + 11 - 0) % 12 = nx := by omega
        rw [e]
        exact st_cg a1 fun a x y => hup a (by omega)
      | succ j =>
        rw [List.getElem?_cons_succ] at hx
        have hS2 := h5 j x hx
        have e : ((nx + 1) % 12 + 11 - (j + 1)) % 12 = (nx + 11 - j) % 12 := by omega
        rw [e]
        have hne : (nx + 11 - j) % 12 ≠ nx := by omega
        exact st_cg hS2 fun a x y => by rw [hup a (by omega), b1 a (by omega)]
    · rw [if_neg hj] at hx; cases hx
  · rw [up_oa (by omega), up_oa (by omega), b1 a (by omega)]
theorem hi_forget (hL : hi_L M h) (hR : hi_R f h H) : fn_Hi_forget (mm_wi M f) h = some (0, mm_wi M (up_2 f h 1 0)) ∧ hi_R (up_2 f h 1 0) h [] := by
  obtain ⟨h1, h2, nx, h3, h4, h5⟩ := hR
  rw [fn_Hi_forget, xi_pi hL.1]
  exact ⟨rfl, up_e, by simp, nx, h3, by rw [up_k (by omega)]; exact h4, fun j s hs => by simp at hs⟩
theorem hi_back_0 (hL : hi_L M h) (hR : hi_R f h []) : fn_Hi_giveBack (mm_wi M f) h u = some (0, mm_wi M f) := by
  rw [fn_Hi_giveBack, xi_gi hL.1, hR.1, if_pos (by rfl), xi_rz0]
theorem hi_back (hL : hi_L M h) (hLu : st_L M u) (hR : hi_R f h (s :: H)) (hd : u + 9 ≤ h ∨ h + 110 ≤ u) : ∃ f', fn_Hi_giveBack (mm_wi M f) h u = some (1, mm_wi M f') ∧ hi_R f' h H ∧ st_R f' u s ∧ ∀ a, (a < h ∨ h + 110 ≤ a) → (a < u ∨ u + 9 ≤ a) → f' a = f a := by
  obtain ⟨h1, h2, nx, h3, h4, h5⟩ := hR
  obtain ⟨l0, l1, l2, l3⟩ := hL
  rw [List.length_cons] at h1 h2
  obtain ⟨r1, r2⟩ := l3 ((nx + 11) % 12) (Nat.mod_lt _ (by omega))
  have hS := h5 0 s rfl
  rw [Nat.sub_zero] at hS
  have hup : ∀ a, a ≠ h → up_2 (up_2 f h 2 (nI ((nx + 11) % 12))) h 1 (nI H.length) a = f a := fun a ha => by rw [up_oa ha, up_oa ha]
  obtain ⟨f1, e1, a1, b1⟩ := st_copyFrom (f := up_2 (up_2 f h 2 (nI ((nx + 11) % 12))) h 1 (nI H.length)) hLu r2 (st_cg hS fun a x y => hup a (by omega)) (by omega)
  rw [fn_Hi_giveBack, xi_gi l0, h1, if_neg (nI_ne0 (by omega) (by omega)), xi_gi l0, h4, show (12 : Int32) = nI 12 from rfl, nI_add, show nI (nx + 12) - 1 = nI (nx + 11) from pk_sub (a := nx + 12) (b := 1) (by omega), pk_rem (by omega) (by omega) (by omega), xi_pi l0, xi_gi l0, up_k (by omega), h1, nI_pred, xi_pi l0, xi_gr l0 l1, xi_gi l0, up_k (by omega), up_e, xi_ar (t := 5) l2 (Nat.mod_lt _ (by omega)) (by decide) r1, e1, xi_cv hLu.1, xi_rz1]
  have hh : f1 h = up_2 (up_2 f h 2 (nI ((nx + 11) % 12))) h 1 (nI H.length) h := b1 h (by omega)
  refine ⟨f1, rfl, ⟨by rw [hh, up_e], by omega, (nx + 11) % 12, Nat.mod_lt _ (by omega), by rw [hh, up_k (by omega), up_e], fun j x hx => ?_⟩, a1, fun a x y => by rw [b1 a y, hup a (by omega)]⟩
  have hS2 := h5 (j + 1) x hx
  have hj := (List.getElem?_eq_some_iff.mp hx).1
  have e : ((nx + 11) % 12 + 11 - j) % 12 = (nx + 11 - (j + 1)) % 12 := by omega
  rw [e]
  exact st_cg hS2 fun a x y => by rw [b1 a (by omega), hup a (by omega)]
end
