/-! What is still owed: the law answers 1 in the pure machine, on every script. -/
theorem pz_all (L : Nat) (xs : Nat → Int32) (hL : L ≤ 2560) : pz_goal L (fun k => (xs k).toInt) := by
  sorry
