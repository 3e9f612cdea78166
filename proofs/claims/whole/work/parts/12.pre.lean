/-- how often a loop may go round: far above what any run needs -/
def fuel : Nat := 2000
theorem bi_fit (b : Bool) : fits .boolean (.int (bi b)) = true := by cases b <;> decide
