/-! part 20: bars, text, yarn -/
theorem ur_ur (σ : Nat → Nat → Int32) (o : Nat) (f g : Nat → Int32) : ur (ur σ o f) o g = ur σ o g := by
  funext a
  by_cases h : a = o
  · subst h; rw [ur_at, ur_at]
  · rw [ur_ne h, ur_ne h, ur_ne h]
