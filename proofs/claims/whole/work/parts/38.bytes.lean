/-! bytes of a row of characters -/
def by_n (x : Int64) (i : Nat) : Nat := x.toBitVec.toNat / 2 ^ (8 * i) % 2 ^ 8
theorem by_lt (x : Int64) (i : Nat) : by_n x i < 256 := Nat.mod_lt _ (by decide)
theorem by_k1 : ∀ i, i < 8 → ((8 * nI i).toInt64.toUInt64 &&& Int64.toUInt64 63) = UInt64.ofNat (8 * i) := by decide +kernel
theorem by_k2 : ∀ i, i < 8 → (((8 * nI i).toInt64 &&& 63).toBitVec.smod 64) = BitVec.ofNat 64 (8 * i) := by decide +kernel
theorem by_k3 : ∀ i, i < 8 → (UInt64.ofNat (8 * i)).toNat % 64 = 8 * i := by decide +kernel
theorem by_c (x : Int64) {i : Nat} (hi : i < 8) : ((((x.toUInt64 >>> ((8 * nI i).toInt64.toUInt64 &&& Int64.toUInt64 63)).toInt64).toInt32) &&& 255) = nI (by_n x i) := by
  rw [by_k1 i hi, pk_and _ 8 (by decide)]
  congr 1
  have e1 : ((x.toUInt64 >>> UInt64.ofNat (8 * i)).toInt64.toInt32).toBitVec.toNat = (x.toUInt64 >>> UInt64.ofNat (8 * i)).toNat % 2 ^ 32 := by
    rw [Int64.toBitVec_toInt32, BitVec.signExtend_eq_setWidth_of_le _ (by decide), BitVec.toNat_setWidth]
    rfl
  rw [e1, UInt64.toNat_shiftRight, by_k3 i hi, Nat.shiftRight_eq_div_pow]
  unfold by_n
  rw [Nat.mod_mod_of_dvd _ (by decide : 2 ^ 8 ∣ 2 ^ 32)]
  rfl
theorem by_r (x : Int64) {i : Nat} (hi : i < 8) : ((x >>> ((8 * nI i).toInt64 &&& 63)) &&& 255) = lN (by_n x i) := by
  apply Int64.toBitVec_inj.mp
  apply BitVec.eq_of_getLsbD_eq
  intro j hj
  rw [Int64.toBitVec_and, Int64.toBitVec_shiftRight, by_k2 i hi, BitVec.getLsbD_and, show (lN (by_n x i)).toBitVec = BitVec.ofNat 64 (by_n x i) from rfl, BitVec.getLsbD_ofNat]
  unfold by_n
  rw [Nat.testBit_mod_two_pow, Nat.testBit_div_two_pow]
  have h255 : (255 : Int64).toBitVec.getLsbD j = decide (j < 8) := by
    have : ∀ j, j < 64 → (255 : Int64).toBitVec.getLsbD j = decide (j < 8) := by decide +kernel
    exact this j hj
  rw [h255]
  by_cases h8 : j < 8
  · have e : (BitVec.ofNat 64 (8 * i)).toNat = 8 * i := by
      rw [BitVec.toNat_ofNat]; exact Nat.mod_eq_of_lt (by omega)
    rw [BitVec.sshiftRight_eq', e, BitVec.getLsbD_sshiftRight]
    rw [decide_eq_true h8, decide_eq_true hj, Bool.and_true, Bool.true_and, Bool.true_and, show (!decide (64 ≤ j)) = true by simp; omega, Bool.true_and, if_pos (by omega), Nat.add_comm (8 * i) j]
    rfl
  · simp [h8]
theorem by_z (x : Int64) {i : Nat} (hi : i < 8) : (lg_cmp ((x >>> ((8 * nI i).toInt64 &&& 63)) &&& 255) 0 = 0) ↔ by_n x i = 0 := by
  have hb := by_lt x i
  rw [by_r x hi]
  have h : ∀ b, b < 256 → (lg_cmp (lN b) 0 = 0 ↔ b = 0) := by decide +kernel
  exact h _ hb
theorem by_i (x : Int64) {i : Nat} (hi : i < 8) : ((x >>> ((8 * nI i).toInt64 &&& 63)) &&& 255).toInt32 = nI (by_n x i) := by
  rw [by_r x hi, lN_i]
/-- how many characters a row has, and which -/
def bl_n (x : Int64) : Nat → Nat → Nat
  | 0, i => i
  | m + 1, i => if by_n x i = 0 then i else bl_n x m (i + 1)
def bs_l (x : Int64) : List Nat := (List.range (bl_n x 8 0)).map (by_n x)
def bg_n (x : Int64) : Bool := (bs_l x).all fun c => decide (33 ≤ c) && decide (c ≤ 126)
theorem bl_le (x : Int64) : ∀ m i, bl_n x m i ≤ m + i ∧ i ≤ bl_n x m i := by
  intro m
  induction m with
  | zero => intro i; unfold bl_n; omega
  | succ m ih =>
    intro i
    unfold bl_n
    split
    · omega
    · have := ih (i + 1); omega
