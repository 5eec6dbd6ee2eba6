/-! STAGE B: the pure theorem. Memories with another int part -/
def mm_wi (M : Mm) (f : Nat → Nat → Int32) : Mm := (mm_z M, mm_e M, mm_s M, f, mm_r M, mm_l M)
theorem wi_s {M : Mm} {f : Nat → Nat → Int32} : mm_s (mm_wi M f) = mm_s M := rfl
theorem wi_z {M : Mm} {f : Nat → Nat → Int32} : mm_z (mm_wi M f) = mm_z M := rfl
theorem wi_e {M : Mm} {f : Nat → Nat → Int32} : mm_e (mm_wi M f) = mm_e M := rfl
theorem wi_r {M : Mm} {f : Nat → Nat → Int32} : mm_r (mm_wi M f) = mm_r M := rfl
theorem wi_l {M : Mm} {f : Nat → Nat → Int32} : mm_l (mm_wi M f) = mm_l M := rfl
theorem wi_i {M : Mm} {f : Nat → Nat → Int32} : mm_i (mm_wi M f) = f := rfl
theorem wi_self (M : Mm) : mm_wi M (mm_i M) = M := rfl
theorem wi_wi {M : Mm} {f g : Nat → Nat → Int32} : mm_wi (mm_wi M f) g = mm_wi M g := rfl
section
variable {M : Mm} {f : Nat → Nat → Int32} {ci q k a t n : Nat}
theorem xi_gi {K : Int32 → Rr} (h : mm_s M q = (1, ci)) : fo_gi (mm_wi M f) ci q k K = K (f q k) := if_pos h
theorem xi_gr {K : Nat → Rr} (h : mm_s M q = (1, ci)) (hr : mm_r M q k = some a) : fo_gr (mm_wi M f) ci q k K = K a := by
  unfold fo_gr
  rw [if_pos (show mm_s (mm_wi M f) q = (1, ci) from h)]
  rw [wi_r, hr]
theorem xi_pi {v : Int32} {K : Mm → Rr} (h : mm_s M q = (1, ci)) : fo_pi (mm_wi M f) ci q k v K = K (mm_wi M (up_2 f q k v)) := if_pos h
theorem xi_pz0 {K : Mm → Rr} (h : mm_s M q = (1, ci)) : fo_pz (mm_wi M f) ci q k 0 K = K (mm_wi M (up_2 f q k 0)) := if_pos ⟨h, .inl rfl⟩
theorem xi_pz1 {K : Mm → Rr} (h : mm_s M q = (1, ci)) : fo_pz (mm_wi M f) ci q k 1 K = K (mm_wi M (up_2 f q k 1)) := if_pos ⟨h, .inr rfl⟩
theorem xi_ok {i : Nat} (hi : i < n) (hn : n < 2 ^ 31) : ¬ (nI i < 0 ∨ n ≤ (nI i).toNatClampNeg) := nI_in hi hn
theorem xi_ai {i : Nat} {K : Int32 → Rr} (h : mm_s M q = (t + 2, n)) (hi : i < n) (hn : n < 2 ^ 31) : fo_ai (mm_wi M f) t q (nI i) K = K (f q i) := by
  unfold fo_ai
  rw [wi_s, h, wi_i, if_pos ⟨rfl, nI_in hi hn⟩, nI_clamp (Nat.lt_trans hi hn)]
theorem xi_ar {i : Nat} {K : Nat → Rr} (h : mm_s M q = (t + 2, n)) (hi : i < n) (hn : n < 2 ^ 31) (hr : mm_r M q i = some a) : fo_ar (mm_wi M f) t q (nI i) K = K a := by
  unfold fo_ar
  rw [wi_s, h, wi_r, if_pos ⟨rfl, nI_in hi hn⟩, nI_clamp (Nat.lt_trans hi hn), hr]
theorem xi_an {K : Int32 → Rr} (h : mm_s M q = (t + 2, n)) : fo_an (mm_wi M f) t q K = K (nI n) := by
  unfold fo_an
  rw [wi_s, h, if_pos rfl]
  rfl
theorem xi_si {i : Nat} {v : Int32} {K : Mm → Rr} (h : mm_s M q = (2, n)) (hi : i < n) (hn : n < 2 ^ 31) : fo_si (mm_wi M f) q (nI i) v K = K (mm_wi M (up_2 f q i v)) := by
  unfold fo_si
  rw [wi_s, h, if_pos ⟨rfl, nI_in hi hn⟩, nI_clamp (Nat.lt_trans hi hn)]
  rfl
theorem xi_cl {r : Int32} {M1 : Mm} {K : Int32 → Mm → Rr} : fo_cl (some (r, M1)) K = K r M1 := rfl
theorem xi_cv {b : Nat} {r : Int32} {M1 : Mm} {K : Int32 → Mm → Rr} (h : mm_s M b = (1, ci)) : fo_cv (mm_wi M f) ci b (some (r, M1)) K = K r M1 := if_pos h
theorem xi_cvo {b : Nat} {o : Rr} {K : Int32 → Mm → Rr} (h : mm_s M b = (1, ci)) : fo_cv (mm_wi M f) ci b o K = fo_cl o K := if_pos h
theorem xi_cp {b m i : Nat} {K : Mm → Rr} (ha : mm_s M a = (2, n)) (hb : mm_s M b = (2, m)) (h1 : i ≤ n) (h2 : i ≤ m) (hi : i < 2 ^ 31) : fo_cp (mm_wi M f) a b 0 0 (nI i) K = K (mm_wi M (fun x y => if x = b then (if y < i then f a y else f b y) else f x y)) := by
  unfold fo_cp
  rw [wi_s, ha, hb, if_pos ⟨rfl, rfl, by decide, by decide, nI_pos hi, by rw [nI_clamp hi]; simpa using h1, by rw [nI_clamp hi]; simpa using h2⟩]
  congr 1
  show mm_wi M _ = _
  congr 1
  funext x y
  by_cases hx : x = b
  · simp only [hx, if_true, va_cpy, wi_i, nI_clamp hi]
    simp
  · simp only [hx, if_false, wi_i]
theorem xi_rz0 : fo_rz 0 M = some (0, M) := if_pos (.inl rfl)
theorem xi_rz1 : fo_rz 1 M = some (1, M) := if_pos (.inr rfl)
theorem xi_rz {v : Int32} (h : v = 0 ∨ v = 1) : fo_rz v M = some (v, M) := if_pos h
theorem xi_jp {α : Type} {x : α} {b : α → Rr} : fo_jp x b = b x := rfl
theorem xi_nm {v : Int32} {K : Int32 → Rr} : fo_nm v K = K v := rfl
end
theorem fx_s {α : Type} {z : α} {F : α → α} {n : Nat} : fo_fx z F (n + 1) = F (fo_fx z F n) := rfl
/-- agreement of int parts outside a stretch of addresses -/
def fr_1 (f f' : Nat → Nat → Int32) (lo n : Nat) : Prop := ∀ a, (a < lo ∨ lo + n ≤ a) → f' a = f a
theorem up_o {f : Nat → Nat → Int32} {q k a b : Nat} {v : Int32} (h : a ≠ q) : up_2 f q k v a b = f a b := if_neg fun h1 => h h1.1
theorem up_oa {f : Nat → Nat → Int32} {q k a : Nat} {v : Int32} (h : a ≠ q) : up_2 f q k v a = f a := funext fun _ => up_o h
theorem up_k {f : Nat → Nat → Int32} {q k a b : Nat} {v : Int32} (h : b ≠ k) : up_2 f q k v a b = f a b := if_neg fun h1 => h h1.2
theorem up_e {f : Nat → Nat → Int32} {q k : Nat} {v : Int32} : up_2 f q k v q k = v := if_pos ⟨rfl, rfl⟩
/-! literals as nI -/
theorem li_0 : (0 : Int32) = nI 0 := rfl
theorem li_1 : (1 : Int32) = nI 1 := rfl
theorem li_2 : (2 : Int32) = nI 2 := rfl
theorem li_3 : (3 : Int32) = nI 3 := rfl
theorem li_8 : (8 : Int32) = nI 8 := rfl
theorem li_10 : (10 : Int32) = nI 10 := rfl
theorem li_100 : (100 : Int32) = nI 100 := rfl
