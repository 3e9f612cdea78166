/-- how often a loop may go round: far above what any run needs -/
def fuel : Nat := 2000
theorem pf1 {α β : Type} {a : α} {b : β} {z : α × β} (h : (a, b) = z) : a = z.1 := by subst h; rfl
theorem pf2 {α β : Type} {a : α} {b : β} {z : α × β} (h : (a, b) = z) : b = z.2 := by subst h; rfl
theorem bi_fit (b : Bool) : fits .boolean (.int (bi b)) = true := by cases b <;> decide
