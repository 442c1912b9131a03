/-! more rows of whole's pure parts -/
theorem fr_txt {r : Nat} (h : r < 4) : fr (107 + 2 * r) 0 = 108 + 2 * r := by
  rcases (by omega : r = 0 ∨ r = 1 ∨ r = 2 ∨ r = 3) with rfl | rfl | rfl | rfl <;> rfl
theorem ln_txt {r : Nat} (h : r < 4) : ln (108 + 2 * r) = 80 := by
  rcases (by omega : r = 0 ∨ r = 1 ∨ r = 2 ∨ r = 3) with rfl | rfl | rfl | rfl <;> rfl
