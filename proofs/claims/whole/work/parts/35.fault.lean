/-! faults of references, and the reading of a whole agreement -/
def rr_n (A : Nat → Nat → Nat) (n c : Nat) : Bool := if A c 7 = 4 ∧ n ≤ A c 8 then false else if A c 0 = 2 ∨ A c 0 = 3 then (if A c 1 < n then (decide (A (A c 1) 7 = 0) || (decide (A (A c 1) 7 = 1) && decide (A c 0 = 2))) else false) else true
def lr_n (A : Nat → Nat → Nat) (c : Nat) : Nat → Nat → Bool
  | 0, _ => false
  | m + 1, x => if A x 7 = 4 then (if A x 8 = c then true else lr_n A c m (A x 8)) else false
def ft_n (A : Nat → Nat → Nat) (n : Nat) : Option Nat := match (List.range n).find? (fun c => !rr_n A n c) with | some c => some (200 + c) | none => ((List.range n).find? (fun c => lr_n A c n c)).map (fun c => 300 + c)
section
variable {M : Mm} {f : Nat → Nat → Int32} {t p q g n : Nat} {T : List Nat} {A : Nat → Nat → Nat}
theorem tc_eq {a b : Nat} (ha : a ≤ 4) (hb : b ≤ 4) : tc_n a = tc_n b ↔ a = b := by
  have h : ∀ a, a ≤ 4 → ∀ b, b ≤ 4 → (tc_n a = tc_n b ↔ a = b) := by decide +kernel
  exact h a ha b hb
theorem ac_eq {a b : Nat} (ha : a ≤ 4) (hb : b ≤ 4) : ac_n a = ac_n b ↔ a = b := by
  have h : ∀ a, a ≤ 4 → ∀ b, b ≤ 4 → (ac_n a = ac_n b ↔ a = b) := by decide +kernel
  exact h a ha b hb
theorem ag_refers {c : Nat} (hLg : ag_L M g) (hA : ag_R f g n A) (hc : c < n) : fn_Ag_refersRightly (mm_wi M f) g (g + 2 + c) = some (bz (rr_n A n c), mm_wi M f) := by
  have h10 := hA.2.1
  obtain ⟨r1, r2⟩ := ag_cl hLg hA hc
  obtain ⟨k1, k2, k3, k4, k5, k6, k7, k8, k9⟩ := (hA.2.2 c hc).1
  obtain ⟨m1, m2, m3, m4, m5, m6, m7, m8, m9⟩ := (hA.2.2 c hc).2
  rw [fn_Ag_refersRightly, xi_gi r2, k6, xi_jp]
  have htail : (fo_gi (mm_wi M f) 1 (g + 2 + c) 0 fun v23 => fo_jp (fo_gi (mm_wi M f) 1 (g + 2 + c) 3 fun v43 => fo_gi (mm_wi M f) 0 g 1 fun v47 => if v43 < v47 then fo_gr (mm_wi M f) 0 g 0 fun a56 => fo_gi (mm_wi M f) 1 (g + 2 + c) 3 fun v60 => fo_ar (mm_wi M f) 4 a56 v60 fun a63 => fo_gi (mm_wi M f) 1 a63 8 fun v64 => if v64 = 33 then fo_rz 1 (mm_wi M f) else if v64 = 126 then fo_gi (mm_wi M f) 1 (g + 2 + c) 0 fun v81 => if v81 = 120 then fo_rz 1 (mm_wi M f) else fo_rz 0 (mm_wi M f) else fo_rz 0 (mm_wi M f) else fo_rz 0 (mm_wi M f)) (fun j42 => if v23 = 120 then j42 else fo_gi (mm_wi M f) 1 (g + 2 + c) 0 fun v32 => if v32 = 102 then j42 else fo_rz 1 (mm_wi M f))) = some (bz (if A c 0 = 2 ∨ A c 0 = 3 then (if A c 1 < n then (decide (A (A c 1) 7 = 0) || (decide (A (A c 1) 7 = 1) && decide (A c 0 = 2))) else false) else true), mm_wi M f) := by
    rw [xi_gi r2, k1, xi_jp]
    have hj : (A c 0 = 2 ∨ A c 0 = 3) → (fo_gi (mm_wi M f) 1 (g + 2 + c) 3 fun v43 => fo_gi (mm_wi M f) 0 g 1 fun v47 => if v43 < v47 then fo_gr (mm_wi M f) 0 g 0 fun a56 => fo_gi (mm_wi M f) 1 (g + 2 + c) 3 fun v60 => fo_ar (mm_wi M f) 4 a56 v60 fun a63 => fo_gi (mm_wi M f) 1 a63 8 fun v64 => if v64 = 33 then fo_rz 1 (mm_wi M f) else if v64 = 126 then fo_gi (mm_wi M f) 1 (g + 2 + c) 0 fun v81 => if v81 = 120 then fo_rz 1 (mm_wi M f) else fo_rz 0 (mm_wi M f) else fo_rz 0 (mm_wi M f) else fo_rz 0 (mm_wi M f)) = some (bz (if A c 1 < n then (decide (A (A c 1) 7 = 0) || (decide (A (A c 1) 7 = 1) && decide (A c 0 = 2))) else false), mm_wi M f) := by
      intro h23
      have e3 := k3 h23
      have e4 := m3 h23
      clear k2 k3 k4 k5 k6 k7 k8 k9 m2 m3 m4 m5 m7 m8 m9
      rw [xi_gi r2, xi_gi hLg.1, e3, hA.1]
      by_cases h : A c 1 < n
      · obtain ⟨s1, s2⟩ := ag_cl hLg hA h
        have s3 := (hA.2.2 (A c 1) h).1.2.2.2.2.2.1
        have s4 := (hA.2.2 (A c 1) h).2.2.2.2.2.2.1
        rw [if_pos (nI_lt h (by omega)), xi_gr hLg.1 hLg.2.1, xi_gi r2, e3, xi_ar (t := 4) hLg.2.2.1 (by omega) (by decide) s1, xi_gi s2, s3, if_pos h]
        by_cases u0 : A (A c 1) 7 = 0
        · rw [if_pos (show ac_n (A (A c 1) 7) = 33 from (ac_eq s4 (by omega)).mpr u0), xi_rz1, decide_eq_true u0]; rfl
        · rw [if_neg (show ¬ ac_n (A (A c 1) 7) = 33 from fun hh => u0 ((ac_eq s4 (by omega)).mp hh)), decide_eq_false u0, Bool.false_or]
          by_cases u1 : A (A c 1) 7 = 1
          · rw [if_pos (show ac_n (A (A c 1) 7) = 126 from (ac_eq s4 (by omega)).mpr u1), decide_eq_true u1, Bool.true_and, xi_gi r2, k1]
            by_cases u2 : A c 0 = 2
            · rw [if_pos (show tc_n (A c 0) = 120 from (tc_eq m1 (by omega)).mpr u2), xi_rz1, decide_eq_true u2]; rfl
            · rw [if_neg (show ¬ tc_n (A c 0) = 120 from fun hh => u2 ((tc_eq m1 (by omega)).mp hh)), xi_rz0, decide_eq_false u2]; rfl
          · rw [if_neg (show ¬ ac_n (A (A c 1) 7) = 126 from fun hh => u1 ((ac_eq s4 (by omega)).mp hh)), xi_rz0, decide_eq_false u1]; rfl
      · rw [if_neg (by rw [nI_ltI (by omega) (by omega)]; exact h), if_neg h, xi_rz0]; rfl
    by_cases u2 : A c 0 = 2
    · rw [if_pos (show tc_n (A c 0) = 120 from (tc_eq m1 (by omega)).mpr u2), if_pos (.inl u2)]
      exact hj (.inl u2)
    · rw [if_neg (show ¬ tc_n (A c 0) = 120 from fun hh => u2 ((tc_eq m1 (by omega)).mp hh)), xi_gi r2, k1]
      by_cases u3 : A c 0 = 3
      · rw [if_pos (show tc_n (A c 0) = 102 from (tc_eq m1 (by omega)).mpr u3), if_pos (.inr u3)]
        exact hj (.inr u3)
      · rw [if_neg (show ¬ tc_n (A c 0) = 102 from fun hh => u3 ((tc_eq m1 (by omega)).mp hh)), if_neg (by omega), xi_rz1]; rfl
  unfold rr_n
  by_cases e : A c 7 = 4
  · obtain ⟨i1, i2⟩ := k9 e
    have i3 := m9 e
    rw [if_pos (show ac_n (A c 7) = 61 from (ac_eq m6 (by omega)).mpr e), xi_gi r2, i1, xi_gi hLg.1, hA.1]
    by_cases h : A c 8 < n
    · rw [if_pos (nI_lt h (by omega)), if_neg (by omega)]
      exact htail
    · rw [if_neg (by rw [nI_ltI (by omega) (by omega)]; exact h), if_pos ⟨e, by omega⟩, xi_rz0]; rfl
  · rw [if_neg (show ¬ ac_n (A c 7) = 61 from fun hh => e ((ac_eq m6 (by omega)).mp hh)), if_neg (fun h => e h.1)]
    exact htail
theorem ag_round_lp {c : Nat} (hLg : ag_L M g) (hA : ag_R f g n A) (hc : c < n) (hr : ∀ x, x < n → A x 7 = 4 → A x 8 < n) : ∀ m i x, i ≤ n → n - i < m → x < n → fo_fx (fun _ _ => none) (lp_Ag_liesOnRound_4 (mm_wi M f) g (nI c)) m (nI x) (nI i) = some (bz (lr_n A c (n - i) x), mm_wi M f) := by
  have h10 := hA.2.1
  intro m
  induction m with
  | zero => intro i x _ h; omega
  | succ m ih =>
    intro i x hi hm hx
    rw [fx_s, lp_Ag_liesOnRound_4, xi_gi hLg.1, hA.1]
    by_cases h : n ≤ i
    · rw [if_pos (nI_le h (by omega)), xi_rz0, show n - i = 0 by omega]; rfl
    · obtain ⟨s1, s2⟩ := ag_cl hLg hA hx
      have s3 := (hA.2.2 x hx).1.2.2.2.2.2.1
      have s5 := (hA.2.2 x hx).1.2.2.2.2.2.2.2.2
      have s4 := (hA.2.2 x hx).2.2.2.2.2.2.1
      rw [if_neg (by rw [nI_leI (by omega) (by omega)]; exact h), xi_gr hLg.1 hLg.2.1, xi_ar (t := 4) hLg.2.2.1 (by omega) (by decide) s1, xi_gi s2, s3, show n - i = (n - (i + 1)) + 1 by omega]
      unfold lr_n
      by_cases e : A x 7 = 4
      · have e8 := hr x hx e
        rw [if_pos (show ac_n (A x 7) = 61 from (ac_eq s4 (by omega)).mpr e), xi_gr hLg.1 hLg.2.1, xi_ar (t := 4) hLg.2.2.1 (by omega) (by decide) s1, xi_gi s2, (s5 e).1, if_pos e]
        by_cases e2 : A x 8 = c
        · rw [if_pos (by rw [e2]), if_pos e2, xi_rz1]; rfl
        · rw [if_neg (by rw [nI_eq (by omega) (by omega)]; exact e2), if_neg e2, nI_1]
          exact ih (i + 1) (A x 8) (by omega) (by omega) e8
      · rw [if_neg (show ¬ ac_n (A x 7) = 61 from fun hh => e ((ac_eq s4 (by omega)).mp hh)), if_neg e, xi_rz0]; rfl
theorem ag_round {c : Nat} (hLg : ag_L M g) (hA : ag_R f g n A) (hc : c < n) (hr : ∀ x, x < n → A x 7 = 4 → A x 8 < n) : fn_Ag_liesOnRound (mm_wi M f) g (nI c) = some (bz (lr_n A c n c), mm_wi M f) := by
  have h10 := hA.2.1
  exact ag_round_lp hLg hA hc hr fo_N 0 c (by omega) (by show _ < 2000; omega) hc
theorem ag_fault2 (hLg : ag_L M g) (hA : ag_R f g n A) (hr : ∀ x, x < n → A x 7 = 4 → A x 8 < n) : ∀ m i, i ≤ n → n - i < m → fo_fx (fun _ _ => none) (lp_Ag_faultOfReferences_37 g) m (mm_wi M f) (nI i) = some (fz ((((List.range n).drop i).find? (fun c => lr_n A c n c)).map (fun c => 300 + c)), mm_wi M f) := by
  have h10 := hA.2.1
  intro m
  induction m with
  | zero => intro i _ h; omega
  | succ m ih =>
    intro i hi hm
    rw [fx_s, lp_Ag_faultOfReferences_37, xi_gi hLg.1, hA.1]
    by_cases h : n ≤ i
    · rw [if_pos (nI_le h (by omega)), rg_end h]; rfl
    · rw [if_neg (by rw [nI_leI (by omega) (by omega)]; exact h), ag_round hLg hA (c := i) (by omega) hr, xi_cv hLg.1, rg_drop (by omega), List.find?_cons]
      cases hb : lr_n A i n i with
      | false => rw [if_pos (by exact bz_f rfl), nI_1]; exact ih (i + 1) (by omega) (by omega)
      | true => rw [if_neg (by exact bz_t rfl), show (300 : Int32) = nI 300 from rfl, nI_add]; rfl
theorem ag_fault1 (hLg : ag_L M g) (hA : ag_R f g n A) : ∀ m i, i ≤ n → n - i < m → (∀ x, x < i → rr_n A n x = true) → fo_fx (fun _ _ => none) (lp_Ag_faultOfReferences_2 g) m (mm_wi M f) (nI i) = some (fz (match ((List.range n).drop i).find? (fun c => !rr_n A n c) with | some c => some (200 + c) | none => ((List.range n).find? (fun c => lr_n A c n c)).map (fun c => 300 + c)), mm_wi M f) := by
  have h10 := hA.2.1
  intro m
  induction m with
  | zero => intro i _ h; omega
  | succ m ih =>
    intro i hi hm hpre
    rw [fx_s, lp_Ag_faultOfReferences_2, xi_gi hLg.1, hA.1]
    by_cases h : n ≤ i
    · rw [if_pos (nI_le h (by omega)), rg_end h]
      have hr : ∀ x, x < n → A x 7 = 4 → A x 8 < n := by
        intro x hx e
        have := hpre x (by omega)
        unfold rr_n at this
        by_cases h8 : A x 8 < n
        · exact h8
        · rw [if_pos ⟨e, by omega⟩] at this; cases this
      have := ag_fault2 hLg hA hr fo_N 0 (by omega) (by show _ < 2000; omega)
      rw [List.drop_zero] at this
      exact this
    · obtain ⟨s1, s2⟩ := ag_cl hLg hA (c := i) (by omega)
      rw [if_neg (by rw [nI_leI (by omega) (by omega)]; exact h), xi_gr hLg.1 hLg.2.1, xi_ar (t := 4) hLg.2.2.1 (by omega) (by decide) s1, ag_refers hLg hA (by omega), xi_cv hLg.1, rg_drop (by omega), List.find?_cons]
      cases hb : rr_n A n i with
      | false => rw [if_pos (by exact bz_f rfl), show (200 : Int32) = nI 200 from rfl, nI_add]; rfl
      | true =>
        rw [if_neg (by exact bz_t rfl), nI_1]
        exact ih (i + 1) (by omega) (by omega) fun x hx => by
          by_cases hxi : x = i
          · rw [hxi]; exact hb
          · exact hpre x (by omega)
theorem ag_fault (hLg : ag_L M g) (hA : ag_R f g n A) : fn_Ag_faultOfReferences (mm_wi M f) g = some (fz (ft_n A n), mm_wi M f) := by
  have h10 := hA.2.1
  have := ag_fault1 hLg hA fo_N 0 (by omega) (by show _ < 2000; omega) fun x hx => absurd hx (by omega)
  rw [List.drop_zero] at this
  exact this
end
def up_A (A : Nat → Nat → Nat) (i : Nat) (C : Nat → Nat) : Nat → Nat → Nat := fun c => if c = i then C else A c
def ra_n (T : List Nat) : Nat → Nat → Nat → (Nat → Nat → Nat) → Nat ⊕ (Nat × (Nat → Nat → Nat))
  | 0, _, p, _ => .inl p
  | m + 1, i, p, A => match ps_cl T p with
    | .inl e => .inl e
    | .inr (p', C) => if p' = T.length then .inr (i + 1, up_A A i C) else if i = 9 ∨ ¬ ca_n T p' = 59 then .inl p' else ra_n T m (i + 1) (p' + 1) (up_A A i C)
def rt_n (T : List Nat) : Nat ⊕ (Nat × (Nat → Nat → Nat)) := match ra_n T 10 0 0 (fun _ _ => 0) with | .inl e => .inl e | .inr (n, A) => match ft_n A n with | some e => .inl e | none => .inr (n, A)
def rt_v (o : Nat ⊕ (Nat × (Nat → Nat → Nat))) : Int32 := match o with | .inl e => nI e | .inr _ => -1
