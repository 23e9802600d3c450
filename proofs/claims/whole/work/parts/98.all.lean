/-! The law answers 1 in the pure machine, on every script. -/
theorem pz_all (L : Nat) (xs : Nat → Int32) (hL : L ≤ 2560) : pz_goal L (fun k => (xs k).toInt) := by
  unfold pz_goal
  refine pz_law1 (pz_g148_20 ?_)
  exact pz_loop hL 513 0 _ _ _ _ _ _ (by decide) pz_LI_0 (by decide) pz_s0s_le
