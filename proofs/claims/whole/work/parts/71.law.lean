/-! the law: a step of each kind -/
def lq_R (M : Mm) (f : Nat → Nat → Int32) (x b L : Nat) (xs : Nat → Int32) : Prop := ∃ g h T E fr o bk, sl_L M x g h ∧ mo_L M (x + 216) ∧ mm_s M (x + 232) = (5, 1) ∧ mm_s M b = (8, L) ∧ b < x ∧ (∀ j, f b j = xs j) ∧ tx_R f (x + 1) T ∧ pq_R f x g E fr o ∧ mt_R f (x + 216) T ∧ mo_Q f (x + 216) bk E fr o ∧ vo_P o
section
variable {M M1 : Mm} {f f1 f2 : Nat → Nat → Int32} {x b L g h bk i : Nat} {xs : Nat → Int32} {T : List Nat} {E : Int32} {fr : Nat → Bool} {o : So}
theorem tx_cg {t : Nat} (hT : tx_R f t T) (h0 : f1 t = f t) (h1 : f1 (t + 1) = f (t + 1)) : tx_R f1 t T := by
  obtain ⟨a1, a2, a3, a4⟩ := hT
  exact ⟨by rw [h0]; exact a1, a2, a3, fun j y hy => by rw [h1]; exact a4 j y hy⟩
theorem lq_mk (hL : sl_L M x g h) (hm : mo_L M (x + 216)) (hu : mm_s M (x + 232) = (5, 1)) (hb : mm_s M b = (8, L)) (hbx : b < x) (hx : ∀ j, f1 b j = xs j) (hT : tx_R f1 (x + 1) T) (hP : pq_R f1 x g E fr o) (hT2 : mt_R f2 (x + 216) T) (hQ : mo_Q f2 (x + 216) bk E fr o) (hV : vo_P o) (hf : ∀ a, (a < x + 216 ∨ x + 216 + 16 ≤ a) → f2 a = f1 a) : lq_R M f2 x b L xs := by
  have lgh := hL.2.2.2.2.2.2.2.2.2.2.2.2.2.2.2.2
  exact ⟨g, h, T, E, fr, o, bk, hL, hm, hu, hb, hbx, fun j => by rw [hf b (by omega)]; exact hx j, tx_cg hT (hf _ (by omega)) (hf _ (by omega)), pq_cg hP (by rw [hf x (by omega)]) (by rw [hf x (by omega)]) (hf _ (by omega)) (fun a q1 q2 => hf _ (by omega)) (fun a q1 q2 => hf _ (by omega)) (fun a q1 q2 => hf _ (by omega)), hT2, hQ, hV⟩
theorem lq_mt (hT : mt_R f (x + 216) T) (hf : ∀ a, (a < x ∨ x + 216 ≤ a) → f1 a = f a) : mt_R f1 (x + 216) T := mt_cg hT (by rw [hf _ (by omega)]) (hf _ (by omega))
theorem lq_mq (hQ : mo_Q f (x + 216) bk E fr o) (hf : ∀ a, (a < x ∨ x + 216 ≤ a) → f1 a = f a) : mo_Q f1 (x + 216) bk E fr o := by
  obtain ⟨a1, a2, a3, a4, a5, a6, a7⟩ := hQ
  exact ⟨by rw [hf _ (by omega)]; exact a1, by rw [hf _ (by omega)]; exact a2, fun j hj => by rw [hf _ (by omega)]; exact a3 j hj, by rw [hf _ (by omega)]; exact a4, a5, fun e => by rw [hf _ (by omega)]; exact a6 e, fun n A S H e => ⟨mw_cg (a7 n A S H e).1 (by rw [hf _ (by omega)]) (by rw [hf _ (by omega)]) fun a j q1 q2 => by rw [hf _ (by omega)], mh_cg (a7 n A S H e).2 (by rw [hf _ (by omega)]) fun j hj => by rw [hf _ (by omega)]⟩⟩
theorem ai_s {K : Int32 → Rr} (hb : mm_s M b = (8, L)) (hi : i < L) (hL : L ≤ 1536) (hx : ∀ j, f b j = xs j) : fo_ai (mm_wi M f) 6 b (nI i) K = K (xs i) := by
  rw [xi_ai (t := 6) hb hi (by omega), hx]
theorem h4_P (hP : pq_R f x g E fr o) : ∀ n A S H, o = some (n, A, S, H) → n ≤ 10 ∧ ∀ c, c < n → A c 7 ≤ 4 := fun n A S H e => ⟨(hP.2.2.2.2 n A S H e).1.2.1, ag_4 (hP.2.2.2.2 n A S H e).1⟩
theorem fr_0 {m : Nat} {v : Int32} (a : Nat) (ha : a < m ∨ m + 16 ≤ a) : up_2 f m 0 v a = f a := up_oa (by omega)
variable {J : Mm → Rr}
theorem lo_erase (h0 : lq_R M f x b L xs) : ∃ M2 f2, (fo_cv (mm_wi M f) 8 x (fn_Pm_erase (mm_wi M f) x) fun v178 M178 => fo_cv M178 9 (x + 216) (fn_Mo_erase M178 (x + 216)) fun v182 M182 => if v178 = v182 then J M182 else some (0, M182)) = J (mm_wi M2 f2) ∧ lq_R M2 f2 x b L xs := by
  obtain ⟨g, h, T, E, fr, o, bk, hL, hm, hu, hb, hbx, hx, hT, hP, hT2, hQ, hV⟩ := h0
  have lgh := hL.2.2.2.2.2.2.2.2.2.2.2.2.2.2.2.2
  obtain ⟨e1, e2⟩ := pm_erase hL hT
  have fr1 : ∀ a, (a < x ∨ x + 216 ≤ a) → up_2 f (x + 1) 1 0 a = f a := fun a ha => up_oa (by omega)
  obtain ⟨d1, d2⟩ := mo_erase hm (lq_mt hT2 fr1)
  rw [e1, xi_cv hL.1, d1, xi_cv hm.1, if_pos rfl]
  refine ⟨M, _, rfl, lq_mk hL hm hu hb hbx (fun j => by rw [fr1 b (by omega)]; exact hx j) e2 (pq_cg hP (by rw [up_oa (by omega)]) (by rw [up_oa (by omega)]) (up_oa (by omega)) (fun a q1 q2 => up_oa (by omega)) (fun a q1 q2 => up_oa (by omega)) (fun a q1 q2 => up_oa (by omega))) d2 (mo_Q_cg (lq_mq hQ fr1) fun a j q1 q2 q3 q4 => ?_) hV fun a ha => by rw [up_oa (by omega), up_oa (by omega)]⟩
  by_cases ha : a = x + 216
  · rw [up_k (by omega), up_k (by omega)]
  · rw [up_o ha, up_o ha]
theorem lo_type {v : Int64} (h0 : lq_R M f x b L xs) : ∃ f1 M2 f2, (∃ u, fn_Pm_type (mm_wi M f) x v = some (u, mm_wi M f1) ∧ fn_Mo_type (mm_wi M f1) (x + 216) v = some (u, mm_wi M2 f2)) ∧ (∀ j, f1 b j = xs j) ∧ lq_R M2 f2 x b L xs := by
  obtain ⟨g, h, T, E, fr, o, bk, hL, hm, hu, hb, hbx, hx, hT, hP, hT2, hQ, hV⟩ := h0
  have lgh := hL.2.2.2.2.2.2.2.2.2.2.2.2.2.2.2.2
  obtain ⟨f1, e1, e2, e3⟩ := pm_type (v := v) hL hT
  have fr1 : ∀ a, (a < x ∨ x + 216 ≤ a) → f1 a = f a := fun a ha => e3 a (by omega) (by omega)
  obtain ⟨f2, d1, d2, d3⟩ := mo_type (x := v) hm (lq_mt hT2 fr1)
  refine ⟨f1, M, f2, ⟨_, e1, d1⟩, fun j => by rw [fr1 b (by omega)]; exact hx j, lq_mk hL hm hu hb hbx (fun j => by rw [fr1 b (by omega)]; exact hx j) e2 (pq_cg hP (by rw [e3 _ (by omega) (by omega)]) (by rw [e3 _ (by omega) (by omega)]) (e3 _ (by omega) (by omega)) (fun a q1 q2 => e3 _ (by omega) (by omega)) (fun a q1 q2 => e3 _ (by omega) (by omega)) (fun a q1 q2 => e3 _ (by omega) (by omega))) d2 (mo_Q_cg (lq_mq hQ fr1) fun a j q1 q2 q3 q4 => d3 a j (by omega) q2) hV fun a ha => funext fun j => d3 a j (by omega) (by omega)⟩
theorem lo_free {p : Int32} (h0 : lq_R M f x b L xs) : ∃ f1 M2 f2, (∃ u, fn_Pm_free (mm_wi M f) x p = some (u, mm_wi M f1) ∧ fn_Mo_free (mm_wi M f1) (x + 216) p = some (u, mm_wi M2 f2)) ∧ (∀ j, f1 b j = xs j) ∧ lq_R M2 f2 x b L xs := by
  obtain ⟨g, h, T, E, fr, o, bk, hL, hm, hu, hb, hbx, hx, hT, hP, hT2, hQ, hV⟩ := h0
  obtain ⟨f1, e1, e2, e3⟩ := pm_free (p := p) hL hP
  have fr1 : ∀ a, (a < x ∨ x + 216 ≤ a) → f1 a = f a := fun a ha => e3 a (by omega)
  obtain ⟨f2, d1, d2, d3⟩ := mo_free (p := p) hm (lq_mq hQ fr1)
  exact ⟨f1, M, f2, ⟨_, e1, d1⟩, fun j => by rw [fr1 b (by omega)]; exact hx j, lq_mk hL hm hu hb hbx (fun j => by rw [fr1 b (by omega)]; exact hx j) (tx_cg hT (e3 _ (by omega)) (e3 _ (by omega))) e2 (mt_cg (lq_mt hT2 fr1) (d3 _ _ (by omega) (by omega)) (funext fun j => d3 _ _ (by omega) (by omega))) d2 hV fun a ha => funext fun j => d3 a j (by omega) (by omega)⟩
theorem lo_stop (h0 : lq_R M f x b L xs) : ∃ f1 M2 f2, (∃ u, fn_Pm_stop (mm_wi M f) x = some (u, mm_wi M f1) ∧ fn_Mo_stop (mm_wi M f1) (x + 216) = some (u, mm_wi M2 f2)) ∧ (∀ j, f1 b j = xs j) ∧ lq_R M2 f2 x b L xs := by
  obtain ⟨g, h, T, E, fr, o, bk, hL, hm, hu, hb, hbx, hx, hT, hP, hT2, hQ, hV⟩ := h0
  obtain ⟨f1, e1, e2, e3⟩ := pm_stop hL hP
  have fr1 : ∀ a, (a < x ∨ x + 216 ≤ a) → f1 a = f a := fun a ha => e3 a (by omega) (by omega)
  obtain ⟨f2, d1, d2, d3⟩ := mo_stop hm (lq_mq hQ fr1)
  exact ⟨f1, M, f2, ⟨_, e1, d1⟩, fun j => by rw [fr1 b (by omega)]; exact hx j, lq_mk hL hm hu hb hbx (fun j => by rw [fr1 b (by omega)]; exact hx j) (tx_cg hT (e3 _ (by omega) (by omega)) (e3 _ (by omega) (by omega))) e2 (mt_cg (lq_mt hT2 fr1) (d3 _ _ (by omega)) (funext fun j => d3 _ _ (by omega))) d2 (fun n A S H e => (by cases e)) fun a ha => funext fun j => d3 a j (by omega)⟩
theorem lo_undo (h0 : lq_R M f x b L xs) : ∃ f1 M2 f2, (∃ u, fn_Pm_undo (mm_wi M f) x = some (u, mm_wi M f1) ∧ fn_Mo_undo (mm_wi M f1) (x + 216) = some (u, mm_wi M2 f2)) ∧ (∀ j, f1 b j = xs j) ∧ lq_R M2 f2 x b L xs := by
  obtain ⟨g, h, T, E, fr, o, bk, hL, hm, hu, hb, hbx, hx, hT, hP, hT2, hQ, hV⟩ := h0
  obtain ⟨f1, e1, e2, e3⟩ := pm_undo hL hP
  have fr1 : ∀ a, (a < x ∨ x + 216 ≤ a) → f1 a = f a := fun a ha => e3 a (by omega) (by omega)
  obtain ⟨f2, d1, d2, d3⟩ := mo_undo hm (lq_mq hQ fr1)
  exact ⟨f1, M, f2, ⟨_, e1, d1⟩, fun j => by rw [fr1 b (by omega)]; exact hx j, lq_mk hL hm hu hb hbx (fun j => by rw [fr1 b (by omega)]; exact hx j) (tx_cg hT (e3 _ (by omega) (by omega)) (e3 _ (by omega) (by omega))) e2 (mt_cg (lq_mt hT2 fr1) (d3 _ _ (by omega) (by omega)) (funext fun j => d3 _ _ (by omega) (by omega))) d2 (vo_undo hV) fun a ha => funext fun j => d3 a j (by omega) (by omega)⟩
theorem lo_ask {FP FM : Mm → Nat → Rr} (h0 : lq_R M f x b L xs) (hh : ∀ g h E fr o bk, sl_L M x g h → mo_L M (x + 216) → pq_R f x g E fr o → mo_Q f (x + 216) bk E fr o → vo_P o → ∃ u, FP (mm_wi M f) x = some (u, mm_wi M f) ∧ FM (mm_wi M f) (x + 216) = some (u, mm_wi M (up_2 f (x + 216) 0 0))) : ∃ f1 M2 f2, (∃ u, FP (mm_wi M f) x = some (u, mm_wi M f1) ∧ FM (mm_wi M f1) (x + 216) = some (u, mm_wi M2 f2)) ∧ (∀ j, f1 b j = xs j) ∧ lq_R M2 f2 x b L xs := by
  obtain ⟨g, h, T, E, fr, o, bk, hL, hm, hu, hb, hbx, hx, hT, hP, hT2, hQ, hV⟩ := h0
  obtain ⟨u, e1, e2⟩ := hh g h E fr o bk hL hm hP hQ hV
  exact ⟨f, M, _, ⟨u, e1, e2⟩, hx, lq_mk hL hm hu hb hbx hx hT hP (mt_0 hT2) (mo_Q_0 hQ) hV fun a ha => fr_0 a ha⟩
theorem lo_two {FP FM : Mm → Nat → Rr} (h0 : lq_R M f x b L xs) (hh : ∃ f1 M2 f2, (∃ u, FP (mm_wi M f) x = some (u, mm_wi M f1) ∧ FM (mm_wi M f1) (x + 216) = some (u, mm_wi M2 f2)) ∧ (∀ j, f1 b j = xs j) ∧ lq_R M2 f2 x b L xs) : ∃ M2 f2, (fo_cv (mm_wi M f) 8 x (FP (mm_wi M f) x) fun v178 M178 => fo_cv M178 9 (x + 216) (FM M178 (x + 216)) fun v182 M182 => if v178 = v182 then J M182 else some (0, M182)) = J (mm_wi M2 f2) ∧ lq_R M2 f2 x b L xs := by
  obtain ⟨g, h, T, E, fr, o, bk, hL, hm, hu, hb, hbx, hx, hT, hP, hT2, hQ, hV⟩ := h0
  obtain ⟨f1, M2, f2, ⟨u, e1, e2⟩, -, hq⟩ := hh
  rw [e1, xi_cv hL.1, e2, xi_cv hm.1, if_pos rfl]
  exact ⟨M2, f2, rfl, hq⟩
theorem lo_one {FP FM : Mm → Nat → Int32 → Rr} (hL : L ≤ 1536) (hi : i + 3 ≤ L) (h0 : lq_R M f x b L xs) (hh : ∃ f1 M2 f2, (∃ u, FP (mm_wi M f) x (xs (i + 1)) = some (u, mm_wi M f1) ∧ FM (mm_wi M f1) (x + 216) (xs (i + 1)) = some (u, mm_wi M2 f2)) ∧ (∀ j, f1 b j = xs j) ∧ lq_R M2 f2 x b L xs) : ∃ M2 f2, (fo_ai (mm_wi M f) 6 b (nI i + 1) fun v196 => fo_cv (mm_wi M f) 8 x (FP (mm_wi M f) x v196) fun v197 M197 => fo_ai M197 6 b (nI i + 1) fun v206 => fo_cv M197 9 (x + 216) (FM M197 (x + 216) v206) fun v207 M207 => if v197 = v207 then J M207 else some (0, M207)) = J (mm_wi M2 f2) ∧ lq_R M2 f2 x b L xs := by
  obtain ⟨g, h, T, E, fr, o, bk, hsl, hm, hu, hb, hbx, hx, hT, hP, hT2, hQ, hV⟩ := h0
  obtain ⟨f1, M2, f2, ⟨u, e1, e2⟩, hx1, hq⟩ := hh
  rw [nI_1, ai_s hb (by omega) hL hx, e1, xi_cv hsl.1, ai_s hb (by omega) hL hx1, e2, xi_cv hm.1, if_pos rfl]
  exact ⟨M2, f2, rfl, hq⟩
theorem lo_pair {FP FM : Mm → Nat → Int32 → Int32 → Rr} (hL : L ≤ 1536) (hi : i + 3 ≤ L) (h0 : lq_R M f x b L xs) (hh : ∃ f1 M2 f2, (∃ u, FP (mm_wi M f) x (xs (i + 1)) (xs (i + 2)) = some (u, mm_wi M f1) ∧ FM (mm_wi M f1) (x + 216) (xs (i + 1)) (xs (i + 2)) = some (u, mm_wi M2 f2)) ∧ (∀ j, f1 b j = xs j) ∧ lq_R M2 f2 x b L xs) : ∃ M2 f2, (fo_ai (mm_wi M f) 6 b (nI i + 1) fun v504 => fo_ai (mm_wi M f) 6 b (nI i + 2) fun v510 => fo_cv (mm_wi M f) 8 x (FP (mm_wi M f) x v504 v510) fun v511 M511 => fo_ai M511 6 b (nI i + 1) fun v520 => fo_ai M511 6 b (nI i + 2) fun v526 => fo_cv M511 9 (x + 216) (FM M511 (x + 216) v520 v526) fun v527 M527 => if v511 = v527 then J M527 else some (0, M527)) = J (mm_wi M2 f2) ∧ lq_R M2 f2 x b L xs := by
  obtain ⟨g, h, T, E, fr, o, bk, hsl, hm, hu, hb, hbx, hx, hT, hP, hT2, hQ, hV⟩ := h0
  obtain ⟨f1, M2, f2, ⟨u, e1, e2⟩, hx1, hq⟩ := hh
  rw [nI_1, show nI i + 2 = nI (i + 2) from nI_add i 2, ai_s hb (by omega) hL hx, ai_s hb (by omega) hL hx, e1, xi_cv hsl.1, ai_s hb (by omega) hL hx1, ai_s hb (by omega) hL hx1, e2, xi_cv hm.1, if_pos rfl]
  exact ⟨M2, f2, rfl, hq⟩
end
