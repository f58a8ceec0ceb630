theorem pure_law (b L : Nat) (xs : Nat → Int32) (lo : Nat) (hL : L ≤ 2048) : ∃ res, pL_law_0 1000 b L xs (mm_0 lo) = some res ∧ res.2 = 1 := by
  sorry
