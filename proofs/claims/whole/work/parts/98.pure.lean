theorem pu_law (sz b L : Nat) (xs : Nat → Int32) (hb : b < sz) (hL : L ≤ 1536) : ∃ M', fn_Lw_law (mm_0 sz b L xs) b = some (1, M') := by
  sorry
