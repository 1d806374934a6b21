/-! a step of Option.bind that simp does not take for a mere unfolding (the kernel would compare both heads by evaluation) -/
theorem am_bs {α β : Type} (x : α) (f : α → Option β) : (some x).bind f = f x := by
  cases h : f x with
  | none => exact h
  | some y => exact h
