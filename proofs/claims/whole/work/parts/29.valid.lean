/-! states that an agreement can have; how much waits -/
section
variable {n : Nat} {A : Nat → Nat → Nat} {fr : Nat → Bool}
def tm_V (A : Nat → Nat → Nat) (n a : Nat) (l : List Nat) : Prop := ∀ x ∈ l, x % 100 < n ∧ A (x % 100) 7 = a
def sp_V (A : Nat → Nat → Nat) (n : Nat) (s : Sp) : Prop := tm_V A n 0 (sp_D s) ∧ tm_V A n 1 (sp_B s) ∧ tm_V A n 2 (sp_P s) ∧ (sp_D s).length ≤ 8 ∧ (sp_B s).length ≤ 8 ∧ (sp_P s).length ≤ 8
theorem tm_sub {a : Nat} {l l' : List Nat} (h : tm_V A n a l) (hs : l'.Sublist l) : tm_V A n a l' := fun x hx => h x (hs.subset hx)
theorem tm_ins {a c d : Nat} {l : List Nat} (h : tm_V A n a l) (hc : c < n) (hn : n ≤ 10) (ha : A c 7 = a) : tm_V A n a (te_ins (100 * d + c) l) := by
  intro x hx
  rcases List.mem_cons.mp ((te_ins_perm _ l).mem_iff.mp hx) with rfl | hx
  · have : (100 * d + c) % 100 = c := by omega
    rw [this]; exact ⟨hc, ha⟩
  · exact h x hx
theorem sp_act_V {c : Nat} {s s' : Sp} {E : List Nat} (hV : sp_V A n s) (hc : c < n) (hn : n ≤ 10) (h : sp_act A fr c s = some (s', E)) : sp_V A n s' := by
  obtain ⟨h1, h2, h3, h4, h5, h6⟩ := hV
  unfold sp_act at h
  generalize bd_n fr 70 (sp_d s) (A c 10) = bb at h
  split at h
  · next e =>
    split at h <;> cases h
    exact ⟨tm_ins h1 hc hn e, h2, h3, by show (te_ins _ _).length ≤ 8; rw [te_ins_len]; omega, h5, h6⟩
  · split at h
    · next e =>
      split at h <;> cases h
      exact ⟨h1, tm_ins h2 hc hn e, h3, h4, by show (te_ins _ _).length ≤ 8; rw [te_ins_len]; omega, h6⟩
    · split at h
      · next e =>
        split at h <;> cases h
        exact ⟨h1, h2, tm_ins h3 hc hn e, h4, h5, by show (te_ins _ _).length ≤ 8; rw [te_ins_len]; omega⟩
      · split at h
        · split at h <;> cases h
          exact ⟨h1, h2, h3, h4, h5, h6⟩
        · cases h
          exact ⟨h1, h2, h3, h4, h5, h6⟩
theorem sp_run_V {dp : Nat → Nat} (hn : n ≤ 10) (hdp : dp_W n A dp) (h4 : ∀ c, c < n → A c 7 ≤ 4) : ∀ k Q s s', sp_V A n s → (∀ c ∈ Q, c < n) → sp_run A fr k Q s = some s' → sp_V A n s' := by
  intro k
  induction k with
  | zero => intro Q s s' hV _ h; unfold sp_run at h; cases h; exact hV
  | succ k ih =>
    intro Q s s' hV hQ h
    cases Q with
    | nil => unfold sp_run at h; cases h; exact hV
    | cons c Q =>
      have hcn := hQ c (by simp)
      have hQ' : ∀ x ∈ Q, x < n := fun x hx => hQ x (by simp [hx])
      unfold sp_run at h
      split at h
      · cases hact : sp_act A fr c s with
        | none => rw [hact] at h; cases h
        | some y =>
          obtain ⟨s1, E⟩ := y
          rw [hact] at h
          refine ih _ _ _ (sp_act_V hV hcn hn hact) (fun x hx => ?_) h
          rcases List.mem_append.mp hx with hx | hx
          · exact hQ' x hx
          · rcases sp_act_E hact (h4 c hcn) with rfl | ⟨e4, rfl⟩
            · simp at hx
            · rw [List.mem_singleton] at hx
              subst hx
              exact ((hdp c hcn).2.2 e4).1
      · exact ih _ _ _ hV hQ' h
/-- sums -/
def sm_n (F : Nat → Nat) : Nat → Nat
  | 0 => 0
  | n + 1 => sm_n F n + F n
theorem sm_add (F G : Nat → Nat) (n : Nat) : sm_n (fun c => F c + G c) n = sm_n F n + sm_n G n := by
  induction n with
  | zero => rfl
  | succ n ih => unfold sm_n; rw [ih]; omega
theorem sm_one (y : Nat) (n : Nat) : sm_n (fun c => if y = c then 1 else 0) n = if y < n then 1 else 0 := by
  induction n with
  | zero => rfl
  | succ n ih =>
    unfold sm_n
    rw [ih]
    by_cases h : y = n
    · subst h; simp
    · rw [if_neg h]
      by_cases h2 : y < n
      · rw [if_pos h2, if_pos (by omega)]
      · rw [if_neg h2, if_neg (by omega)]
theorem sm_zero (n : Nat) : sm_n (fun _ => 0) n = 0 := by
  induction n with
  | zero => rfl
  | succ n ih => unfold sm_n; rw [ih]
theorem sm_cg {F G : Nat → Nat} (n : Nat) (h : ∀ c, F c = G c) : sm_n F n = sm_n G n := by
  have : F = G := funext h
  rw [this]
theorem on_sum {p k c' : Nat} (l : List Nat) (N : Nat) : (l.filter (ag_ev A p k)).length + sm_n (fun c => (l.filter (ag_on A 2 c)).length) N + (l.filter (ag_on A 3 c')).length ≤ l.length := by
  induction l with
  | nil => simp [sm_zero]
  | cons x l ih =>
    have e1 : ∀ F : Nat → Bool, ((x :: l).filter F).length = (l.filter F).length + if F x = true then 1 else 0 := by
      intro F
      by_cases h : F x = true
      · rw [List.filter_cons_of_pos h, if_pos h]; rfl
      · rw [List.filter_cons_of_neg h, if_neg h]; rfl
    have e2 : sm_n (fun c => ((x :: l).filter (ag_on A 2 c)).length) N = sm_n (fun c => (l.filter (ag_on A 2 c)).length) N + sm_n (fun c => if ag_on A 2 c x = true then 1 else 0) N := by
      rw [← sm_add]
      exact sm_cg N fun c => e1 _
    rw [e1, e1, e2, List.length_cons]
    have e3 : sm_n (fun c => if ag_on A 2 c x = true then 1 else 0) N ≤ if A x 0 = 2 then 1 else 0 := by
      by_cases h : A x 0 = 2
      · rw [if_pos h]
        have : sm_n (fun c => if ag_on A 2 c x = true then 1 else 0) N = sm_n (fun c => if A x 1 = c then 1 else 0) N := sm_cg N fun c => by simp [ag_on, h]
        rw [this, sm_one]
        split <;> omega
      · rw [if_neg h]
        have : sm_n (fun c => if ag_on A 2 c x = true then 1 else 0) N = sm_n (fun _ => 0) N := sm_cg N fun c => by simp [ag_on, h]
        rw [this, sm_zero]; omega
    have e4 : (if ag_ev A p k x = true then 1 else 0) ≤ if A x 0 = 1 then 1 else 0 := by
      by_cases h : A x 0 = 1
      · rw [if_pos h]; split <;> omega
      · rw [if_neg h, if_neg (by simp [ag_ev, h])]; omega
    have e5 : (if ag_on A 3 c' x = true then 1 else 0) ≤ if A x 0 = 3 then 1 else 0 := by
      by_cases h : A x 0 = 3
      · rw [if_pos h]; split <;> omega
      · rw [if_neg h, if_neg (by simp [ag_on, h])]; omega
    generalize sm_n (fun c => if ag_on A 2 c x = true then 1 else 0) N = u at *
    generalize (if ag_ev A p k x = true then 1 else 0) = v at *
    generalize (if ag_on A 3 c' x = true then 1 else 0) = w at *
    clear e1 e2
    rcases (show A x 0 = 1 ∨ A x 0 = 2 ∨ A x 0 = 3 ∨ (A x 0 ≠ 1 ∧ A x 0 ≠ 2 ∧ A x 0 ≠ 3) by omega) with h | h | h | ⟨h, h', h''⟩
    · rw [h] at e3 e4 e5; simp at e3 e4 e5; omega
    · rw [h] at e3 e4 e5; simp at e3 e4 e5; omega
    · rw [h] at e3 e4 e5; simp at e3 e4 e5; omega
    · rw [if_neg h'] at e3; rw [if_neg h] at e4; rw [if_neg h''] at e5; omega
theorem br_sum {l : List Nat} {d : Nat} (hl : l.length ≤ 8) : ∀ i, i ≤ n → (br_q A n d l ((List.range n).take i)).length ≤ 8 * sm_n (fun c => ((List.range n).filter (ag_on A 2 c)).length) i := by
  intro i
  induction i with
  | zero => intro _; simp [br_q]
  | succ i ih =>
    intro hi
    have h1 := ih (by omega)
    rw [br_take (by omega), List.length_append, rp_len]
    unfold sm_n
    have h2 : l.countP (te_due i d) ≤ 8 := Nat.le_trans List.countP_le_length hl
    have h3 : l.countP (te_due i d) * (on_l A n 2 i).length ≤ 8 * (on_l A n 2 i).length := Nat.mul_le_mul_right _ h2
    unfold on_l at *
    omega
theorem ev_lt {p k c : Nat} (h : c ∈ ev_l A n p k) : c < n := by
  unfold ev_l at h
  simpa using (List.mem_filter.mp h).1
theorem f1_lt {p k c : Nat} {s : Sp} (h : c ∈ (sp_f1 A n p k s).2) : c < n := by
  unfold sp_f1 at h
  split at h
  · simp at h
  · exact on_lt h
theorem sp_w_lt {p k c : Nat} {s : Sp} (h : c ∈ sp_w A n p k s) : c < n := by
  unfold sp_w at h
  rcases List.mem_append.mp h with h | h
  · unfold sp_h1 at h
    split at h
    · split at h
      · exact ev_lt h
      · rcases List.mem_append.mp h with h | h
        · exact ev_lt h
        · exact br_lt h
    · exact ev_lt h
  · exact f1_lt h
theorem sp_w_len {p k : Nat} {s : Sp} (hn : n ≤ 10) (hB : (sp_B s).length ≤ 8) : (sp_w A n p k s).length ≤ 80 := by
  have hf : ∃ c', (sp_f1 A n p k (sp_h1 A n p k s).1).2.length ≤ ((List.range n).filter (ag_on A 3 c')).length := by
    unfold sp_f1
    split
    · exact ⟨0, by simp⟩
    · next i _ => exact ⟨_, Nat.le_refl _⟩
  obtain ⟨c', hc'⟩ := hf
  have hs := on_sum (A := A) (p := p) (k := k) (c' := c') (List.range n) n
  rw [List.length_range] at hs
  have hb := br_sum (A := A) (d := 69) (l := bn_l A p k (sp_B s)) (Nat.le_trans bn_len hB) n (Nat.le_refl _)
  rw [List.take_of_length_le (by simp)] at hb
  have he : (ev_l A n p k).length = ((List.range n).filter (ag_ev A p k)).length := rfl
  have hh : (sp_h1 A n p k s).2.1.length ≤ (ev_l A n p k).length + (br_q A n 69 (bn_l A p k (sp_B s)) (List.range n)).length := by
    unfold sp_h1
    split
    · split
      · dsimp only; omega
      · dsimp only; rw [List.length_append]; omega
    · dsimp only; omega
  unfold sp_w
  rw [List.length_append]
  omega
theorem sp_w_ph {dp : Nat → Nat} {p k : Nat} {s : Sp} (hdp : dp_W n A dp) (hn : n ≤ 10) (hB : (sp_B s).length ≤ 8) : ph_n dp (sp_w A n p k s) ≤ 800 := by
  have h1 := ph_le hdp (Q := sp_w A n p k s) fun c hc => sp_w_lt hc
  have h2 := sp_w_len (A := A) (n := n) (p := p) (k := k) hn hB
  omega
theorem h1_V {p k : Nat} {s : Sp} (hV : sp_V A n s) : sp_V A n (sp_h1 A n p k s).1 := by
  obtain ⟨h1, h2, h3, h4, h5, h6⟩ := hV
  unfold sp_h1
  split
  · split
    · next i _ =>
      have hs : ((sp_P s).take i ++ (sp_P s).drop (i + 1)).Sublist (sp_P s) := by
        rw [← List.eraseIdx_eq_take_drop_succ]; exact List.eraseIdx_sublist _ _
      exact ⟨h1, h2, tm_sub h3 hs, h4, h5, Nat.le_trans hs.length_le h6⟩
    · exact ⟨h1, h2, h3, h4, h5, h6⟩
  · exact ⟨h1, h2, h3, h4, h5, h6⟩
theorem f1_V {p k : Nat} {s : Sp} (hV : sp_V A n s) : sp_V A n (sp_f1 A n p k s).1 := by
  have hV0 := hV
  obtain ⟨h1, h2, h3, h4, h5, h6⟩ := hV
  unfold sp_f1
  split
  · exact hV0
  · next i _ =>
    have hs : ((sp_D s).take i ++ (sp_D s).drop (i + 1)).Sublist (sp_D s) := by
      rw [← List.eraseIdx_eq_take_drop_succ]; exact List.eraseIdx_sublist _ _
    exact ⟨tm_sub h1 hs, h2, h3, Nat.le_trans hs.length_le h4, h5, h6⟩
theorem sp_ev_V {dp : Nat → Nat} {p k : Nat} {s s' : Sp} (hn : n ≤ 10) (hdp : dp_W n A dp) (h4 : ∀ c, c < n → A c 7 ≤ 4) (hV : sp_V A n s) (h : sp_ev A n fr p k s = some s') : sp_V A n s' :=
  sp_run_V hn hdp h4 800 _ _ _ (f1_V (h1_V hV)) (fun c hc => sp_w_lt hc) h
theorem e1_V {s : Sp} (hV : sp_V A n s) : sp_V A n (sp_e1 A n s) := by
  obtain ⟨h1, h2, h3, h4, h5, h6⟩ := hV
  have hs := List.dropWhile_sublist (fun x => decide (x / 100 < sp_d s + 1)) (l := sp_D s)
  exact ⟨tm_sub h1 hs, h2, h3, Nat.le_trans hs.length_le h4, h5, h6⟩
theorem e2_V {s : Sp} (hV : sp_V A n s) : sp_V A n (sp_e2 s) := by
  obtain ⟨h1, h2, h3, h4, h5, h6⟩ := hV
  have hs := List.dropWhile_sublist (fun x => decide (x / 100 < sp_d s + 1)) (l := sp_B s)
  have ht := List.dropWhile_sublist (fun x => decide (x / 100 < sp_d s + 1)) (l := sp_P s)
  exact ⟨h1, tm_sub h2 hs, tm_sub h3 ht, h4, Nat.le_trans hs.length_le h5, Nat.le_trans ht.length_le h6⟩
theorem sp_end_V {dp : Nat → Nat} {s s' : Sp} (hn : n ≤ 10) (hdp : dp_W n A dp) (h4 : ∀ c, c < n → A c 7 ≤ 4) (hV : sp_V A n s) (h : sp_end A n fr s = some s') : sp_V A n s' := by
  unfold sp_end at h
  cases hr : sp_run A fr 800 (br_q A n (sp_d s) (sp_D s) (List.range n)) (sp_e1 A n s) with
  | none => rw [hr] at h; cases h
  | some s1 =>
    rw [hr] at h
    cases h
    exact e2_V (sp_run_V hn hdp h4 800 _ _ _ (e1_V hV) (fun c hc => br_lt hc) hr)
theorem h1_d {p k : Nat} {s : Sp} : sp_d (sp_h1 A n p k s).1 = sp_d s := by
  unfold sp_h1
  split
  · split <;> rfl
  · rfl
theorem f1_d {p k : Nat} {s : Sp} : sp_d (sp_f1 A n p k s).1 = sp_d s := by
  unfold sp_f1
  split <;> rfl
theorem sp_ev_d {p k : Nat} {s s' : Sp} (h : sp_ev A n fr p k s = some s') : sp_d s' = sp_d s := by
  rw [sp_run_d _ _ _ _ h, f1_d, h1_d]
theorem sp_end_d {s s' : Sp} (h : sp_end A n fr s = some s') : sp_d s' = sp_d s + 1 := by
  unfold sp_end at h
  cases hr : sp_run A fr 800 (br_q A n (sp_d s) (sp_D s) (List.range n)) (sp_e1 A n s) with
  | none => rw [hr] at h; cases h
  | some s1 =>
    rw [hr] at h
    cases h
    show sp_d s1 + 1 = _
    rw [sp_run_d _ _ _ _ hr]; rfl
end
