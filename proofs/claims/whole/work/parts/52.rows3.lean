/-! SET and COPY -/
section R3
variable {B : Nat} {M : Mem}
theorem miss_cg {M M' : Mem} (h : M' 141 = M 141) (x : Int32) : f_X9_isMissing M' x = f_X9_isMissing M x := by
  unfold f_X9_isMissing
  rw [h]
/-- a row's part, both say the same -/
def prt (n : Nat) (p c : Int32) : Prop := 0 ≤ p.toInt ∧ 0 ≤ c.toInt ∧ p.toInt + c.toInt ≤ n
theorem has_iff {i n : Nat} (hn : n ≤ 40) (h : M i 2 = nI n) (p c : Int32) : f_X5_has M i p c = true ↔ prt n p c := by
  have e0 : (0 : Int32).toInt = 0 := rfl
  have en : (nI n).toInt = (n : Int) := ti (by omega)
  unfold f_X5_has prt
  rw [h]
  by_cases a : p < 0
  · rw [if_pos a]; rw [i_lt] at a
    constructor
    · intro h; cases h
    · intro h; omega
  rw [if_neg a]
  by_cases b : c < 0
  · rw [if_pos b]; rw [i_lt] at b
    constructor
    · intro h; cases h
    · intro h; omega
  rw [if_neg b]
  by_cases d : nI n < c
  · rw [if_pos d]; rw [i_lt] at d
    constructor
    · intro h; cases h
    · intro h; rw [i_lt] at a b; omega
  rw [if_neg d]
  rw [i_lt] at a b d
  have es : (nI n - c).toInt = (n : Int) - c.toInt := by rw [ti_sub (by omega) (by omega)]; omega
  by_cases e : nI n - c < p
  · rw [if_pos e]; rw [i_lt] at e
    constructor
    · intro h; cases h
    · intro h; omega
  · rw [if_neg e]; rw [i_lt] at e
    constructor
    · intro h; omega
    · intro h; rfl
theorem isPart_iff {j n : Nat} (hj : j < 8) (hn : n ≤ 40) (h : M 142 j = nI n) (p c : Int32) : ∃ b, f_X9_isPart M (nI j) p c = some b ∧ (b = true ↔ prt n p c) := by
  have e0 : (0 : Int32).toInt = 0 := rfl
  have en : (nI n).toInt = (n : Int) := ti (by omega)
  unfold f_X9_isPart prt
  rw [chk_ix (by omega) (by decide), cl_nI (by omega), h]
  by_cases a : p < 0
  · rw [if_pos a]; rw [i_lt] at a
    exact ⟨false, rfl, by constructor; · intro h; cases h
                          · intro h; omega⟩
  rw [if_neg a]
  by_cases b : c < 0
  · rw [if_pos b]; rw [i_lt] at b
    exact ⟨false, rfl, by constructor; · intro h; cases h
                          · intro h; omega⟩
  rw [if_neg b]
  by_cases d : nI n < p
  · rw [if_pos d]; rw [i_lt] at d
    rw [i_lt] at a b
    exact ⟨false, rfl, by constructor; · intro h; cases h
                          · intro h; omega⟩
  rw [if_neg d]
  rw [i_lt] at a b d
  have es : (nI n - p).toInt = (n : Int) - p.toInt := by rw [ti_sub (by omega) (by omega)]; omega
  by_cases e : nI n - p < c
  · rw [if_pos e]; rw [i_lt] at e
    exact ⟨false, rfl, by constructor; · intro h; cases h
                          · intro h; omega⟩
  · rw [if_neg e]; rw [i_lt] at e
    exact ⟨true, rfl, by constructor; · intro h; omega
                         · intro h; rfl⟩
end R3
