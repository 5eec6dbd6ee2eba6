/-! the class's search finds the reference's course -/
def cd_n (c : Nat) : Nat := if c = 0 then 0 else if 6 ≤ c then 100 + 10 * ((c - 6) / 5) + (c - 6) % 5 else 9 + c
section
variable {n p : Nat} {A : Nat → Nat → Nat} {fr : Nat → Bool} {S : Sp} {R : Sp → Bool}
theorem tb_no {k : Nat} (h : tb_n A n p k S = false) : sp_ev A n fr p k S = some S ∧ sp_m A n p k S = 0 := by
  unfold tb_n at h
  rw [Bool.or_eq_false_iff, Bool.or_eq_false_iff] at h
  obtain ⟨⟨h1, h2⟩, h3⟩ := h
  have e1 : ev_l A n p k = [] := by
    unfold ev_l
    rw [List.filter_eq_nil_iff]
    intro x hx
    rw [List.any_eq_false] at h1
    exact h1 x hx
  have e2 : sp_h1 A n p k S = (S, [], 0) := by unfold sp_h1; rw [h2, if_neg (by simp), e1]
  have e3 : fi_n A p k (sp_D S) = none := by
    cases hx : fi_n A p k (sp_D S) with
    | none => rfl
    | some i => rw [hx] at h3; cases h3
  have e4 : sp_f1 A n p k S = (S, []) := by unfold sp_f1; rw [e3]
  refine ⟨?_, by unfold sp_m; rw [e2]⟩
  unfold sp_ev sp_w
  rw [e2]
  dsimp only
  rw [e4]
  rfl
theorem re_no {k : Nat} (h : tb_n A n p k S = false) : re_n A n fr p k S = some S := by
  unfold re_n
  rw [if_pos (tb_no (fr := fr) h).2]
  exact (tb_no h).1
theorem re_ch {k : Nat} (h : tb_n A n p k S = true) : re_n A n fr p k S = ch_n A n fr p k S := by
  unfold re_n ch_n
  rw [h]
  by_cases e : sp_m A n p k S = 0
  · rw [if_pos e, if_pos ⟨rfl, e⟩]
  · rw [if_neg e, if_neg fun hh => e hh.2]
theorem ch_no {k : Nat} (h : tb_n A n p k S = false) : ch_n A n fr p k S = none := by
  unfold ch_n
  rw [h, if_neg (by simp)]
theorem ek_gn : (match gn_n A n fr p S with | some S' => R S' | none => false) = ek_n A n fr p R S := by
  unfold gn_n ek_n
  cases hd_n A p S with
  | true => rfl
  | false =>
    rw [if_neg (by simp)]
    cases sp_end A n fr S <;> rfl
def fe_n (A : Nat → Nat → Nat) (n : Nat) (fr : Nat → Bool) (p : Nat) (R : Sp → Bool) (S : Sp) (k : Nat) : Bool := match re_n A n fr p k S with | some S1 => ek_n A n fr p R S1 | none => false
theorem fe_fa {k : Nat} (h0 : ek_n A n fr p R S = false) : fe_n A n fr p R S k = fa_n A n fr p (ek_n A n fr p R) S k := by
  unfold fe_n fa_n
  cases h : tb_n A n p k S with
  | true => rw [re_ch h]; cases ch_n A n fr p k S <;> rfl
  | false => rw [re_no h, ch_no h]; exact h0
theorem gq_0 : gq_n A n fr p R S 0 = ek_n A n fr p R S := by
  unfold gq_n
  rw [← ek_gn]
  rfl
theorem gq_1 {k : Nat} (hk : k < 5) : gq_n A n fr p R S (1 + k) = fe_n A n fr p R S k := by
  have g0 : ge_n (1 + k) 0 = some k := by unfold ge_n; rw [if_neg (by omega), if_neg (by omega), if_pos rfl, Nat.add_sub_cancel_left]
  have g1 : ge_n (1 + k) 1 = none := by unfold ge_n; rw [if_neg (by omega), if_neg (by omega), if_neg (by omega)]
  unfold gq_n go_n fe_n
  rw [g0, g1, show rs_n A n fr p S (some k) = re_n A n fr p k S from rfl]
  cases re_n A n fr p k S with
  | none => rfl
  | some S1 => exact ek_gn
theorem gq_2 {k j : Nat} (hk : k < 5) (hj : j < 5) : gq_n A n fr p R S (6 + 5 * k + j) = match re_n A n fr p k S with | some S1 => fe_n A n fr p R S1 j | none => false := by
  have g0 : ge_n (6 + 5 * k + j) 0 = some k := by unfold ge_n; rw [if_neg (by omega), if_pos (by omega), if_pos rfl]; congr 1; omega
  have g1 : ge_n (6 + 5 * k + j) 1 = some j := by unfold ge_n; rw [if_neg (by omega), if_pos (by omega), if_neg (by omega)]; congr 1; omega
  unfold gq_n go_n fe_n
  rw [g0, g1, show rs_n A n fr p S (some k) = re_n A n fr p k S from rfl]
  cases re_n A n fr p k S with
  | none => rfl
  | some S1 =>
    rw [Option.bind_some, show rs_n A n fr p S1 (some j) = re_n A n fr p j S1 from rfl]
    dsimp only
    cases re_n A n fr p j S1 with
    | none => rfl
    | some S2 => exact ek_gn
theorem fd_cg {l : List Nat} {F G : Nat → Bool} (h : ∀ x ∈ l, F x = G x) : l.find? F = l.find? G := by
  induction l with
  | nil => rfl
  | cons x l ih =>
    rw [List.find?_cons, List.find?_cons, h x (by simp), ih fun y hy => h y (by simp [hy])]
theorem fs_cg {l : List Nat} {F G : Nat → Option Nat} (h : ∀ x ∈ l, F x = G x) : l.findSome? F = l.findSome? G := by
  induction l with
  | nil => rfl
  | cons x l ih =>
    rw [List.findSome?_cons, List.findSome?_cons, h x (by simp), ih fun y hy => h y (by simp [hy])]
theorem fs_mp {l : List Nat} {F : Nat → Option Nat} {g : Nat → Nat} : (l.findSome? F).map g = l.findSome? fun x => (F x).map g := by
  induction l with
  | nil => rfl
  | cons x l ih =>
    rw [List.findSome?_cons, List.findSome?_cons]
    cases F x with
    | none => exact ih
    | some y => rfl
theorem r31 : List.range 31 = [0] ++ ((List.range 5).map (fun k => 1 + k) ++ (List.range 5).flatMap fun k => (List.range 5).map fun j => 6 + 5 * k + j) := by decide +kernel
theorem cd_1 {k : Nat} (hk : k < 5) : cd_n (1 + k) = 10 + k := by
  unfold cd_n; rw [if_neg (by omega), if_neg (by omega)]; omega
theorem cd_2 {k j : Nat} (hk : k < 5) (hj : j < 5) : cd_n (6 + 5 * k + j) = 100 + 10 * k + j := by
  unfold cd_n; rw [if_neg (by omega), if_pos (by omega)]; omega
theorem fc_eq : fc_n A n fr p (ek_n A n fr p R) S = ((List.range 31).find? (gq_n A n fr p R S)).map cd_n := by
  rw [r31, List.find?_append, List.find?_append, List.find?_map, List.find?_flatMap, List.find?_singleton, gq_0]
  unfold fc_n
  cases h0 : ek_n A n fr p R S with
  | true => rfl
  | false =>
    rw [if_neg (by simp), if_neg (by simp), Option.none_or]
    have h1 : (List.range 5).find? (fa_n A n fr p (ek_n A n fr p R) S) = (List.range 5).find? (gq_n A n fr p R S ∘ fun k => 1 + k) := fd_cg fun k hk => by
      rw [List.mem_range] at hk
      rw [← fe_fa h0, ← gq_1 hk]; rfl
    rw [← h1]
    cases h2 : (List.range 5).find? (fa_n A n fr p (ek_n A n fr p R) S) with
    | some k =>
      have hk : k < 5 := List.mem_range.mp (List.mem_of_find?_eq_some h2)
      show some (10 + k) = some (cd_n (1 + k))
      rw [cd_1 hk]
    | none =>
      rw [Option.map_none, Option.none_or, fs_mp]
      apply fs_cg
      intro k hk
      rw [List.mem_range] at hk
      have hz : ∀ j, j < 5 → fe_n A n fr p R S j = false := by
        intro j hj
        rw [List.find?_eq_none] at h2
        have := h2 j (List.mem_range.mpr hj)
        rw [← fe_fa h0] at this
        simpa using this
      rw [List.find?_map, Option.map_map]
      have hcm : ∀ o : Option Nat, (∀ j, o = some j → j < 5) → o.map (cd_n ∘ fun j => 6 + 5 * k + j) = o.map fun j => 100 + 10 * k + j := by
        intro o ho
        cases o with
        | none => rfl
        | some j => show some (cd_n (6 + 5 * k + j)) = some _; rw [cd_2 hk (ho j rfl)]
      rw [hcm _ fun j hj => List.mem_range.mp (List.mem_of_find?_eq_some hj)]
      have hn : (∀ j, j < 5 → gq_n A n fr p R S (6 + 5 * k + j) = false) → (List.range 5).find? (gq_n A n fr p R S ∘ fun j => 6 + 5 * k + j) = none := by
        intro hh
        rw [List.find?_eq_none]
        intro j hj
        rw [List.mem_range] at hj
        show ¬ gq_n A n fr p R S (6 + 5 * k + j) = true
        rw [hh j hj]; simp
      cases htb : tb_n A n p k S with
      | false =>
        rw [fb_none (ch_no htb), hn fun j hj => by rw [gq_2 hk hj, re_no htb]; exact hz j hj]; rfl
      | true =>
        cases hch : ch_n A n fr p k S with
        | none =>
          rw [fb_none hch, hn fun j hj => by rw [gq_2 hk hj, re_ch htb, hch]]; rfl
        | some S1 =>
          have hE : ek_n A n fr p R S1 = false := by
            have := hz k hk
            unfold fe_n at this
            rw [re_ch htb, hch] at this
            exact this
          rw [fb_some hch]
          congr 1
          apply fd_cg
          intro j hj
          rw [List.mem_range] at hj
          show _ = gq_n A n fr p R S (6 + 5 * k + j)
          rw [gq_2 hk hj, re_ch htb, hch]
          exact (fe_fa hE).symm
theorem rd_1' : rd_2 A n fr p 1 = fun _ => true := by
  funext s; unfold rd_2; rw [if_pos rfl]
theorem rd_2' : rd_2 A n fr p 2 = fun s2 => (fc_n A n fr p (ek_n A n fr p fun _ => true) s2).isSome := by
  funext s
  unfold rd_2
  rw [if_neg (by omega), fc_eq, Option.isSome_map, Bool.eq_iff_iff, List.any_eq_true, List.find?_isSome]
  constructor
  · rintro ⟨c, hc, h⟩
    refine ⟨c, hc, ?_⟩
    unfold gq_n
    cases hg : go_n A n fr p c s with
    | none => rw [hg] at h; cases h
    | some S' => rfl
  · rintro ⟨c, hc, h⟩
    refine ⟨c, hc, ?_⟩
    unfold gq_n at h
    cases hg : go_n A n fr p c s with
    | none => rw [hg] at h; cases h
    | some S' => rfl
end
