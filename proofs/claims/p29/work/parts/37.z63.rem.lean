/-! A rest. -/
theorem n_ne8 : ¬ (8 : Int32) = 0 := by decide
theorem n_rem8 {a : Nat} (h : a < 2 ^ 31) : nI a - nI a / 8 * 8 = nI (a % 8) := pk_rem (d := 8) h (by decide) (by decide)
