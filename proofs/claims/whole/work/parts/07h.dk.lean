theorem zdk_ok {m : Nat} (h : m < 266) : zdk m = true := by
  sorry
