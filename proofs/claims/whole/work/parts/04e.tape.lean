theorem gtape1 : ∀ j, j ≠ 6 → ([some 28, some 29, none, none, none, some 30, some 9999, none, none, none, none, none] : List (Option Nat))[j]? ≠ some (some 9999) := by
  intro j hj
  by_cases h : j < 12
  · have h1 : ∀ j, j < 12 → j ≠ 6 → ([some 28, some 29, none, none, none, some 30, some 9999, none, none, none, none, none] : List (Option Nat))[j]? ≠ some (some 9999) := by decide
    exact h1 j h hj
  · rw [List.getElem?_eq_none (by simpa using Nat.le_of_not_lt h)]
    simp
theorem glook2 {a b d x : Int} (h0 : ¬ x = 0) (h1 : ¬ x = 1) : Op.lookupswitch.offset [(0, a), (1, b)] d x = d := by
  have h0' : ¬ 0 = x := fun e => h0 e.symm
  have h1' : ¬ 1 = x := fun e => h1 e.symm
  simp [Op.lookupswitch.offset, h0, h1, h0', h1']
