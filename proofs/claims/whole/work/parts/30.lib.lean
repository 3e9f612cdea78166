/-! PURE: numbers, bits, memory, loops -/
theorem st_ap (M : Mem) (i k : Nat) (v : Int32) (a : Nat) : st M i k v a = if a = i then upd (M i) k v else M a := rfl
theorem stA_ap (M : Mem) (i : Nat) (f : Nat → Int32) (a : Nat) : stA M i f a = if a = i then f else M a := rfl
theorem st_st (M : Mem) (i k : Nat) (v : Int32) : st M i k v = stA M i (upd (M i) k v) := rfl
theorem stA_stA (M : Mem) (i : Nat) (f g : Nat → Int32) : stA (stA M i f) i g = stA M i g := by
  funext a
  unfold stA
  by_cases h : a = i
  · rw [if_pos h, if_pos h]
  · rw [if_neg h, if_neg h, if_neg h]
theorem stA_self (M : Mem) (i : Nat) : stA M i (M i) = M := by
  funext a
  unfold stA
  by_cases h : a = i
  · rw [if_pos h, h]
  · rw [if_neg h]
theorem st_same (M : Mem) (i k : Nat) (v : Int32) : st M i k v i k = v := by rw [st_i]; exact if_pos rfl
theorem st_slot {M : Mem} {i k j : Nat} {v : Int32} (h : j ≠ k) : st M i k v i j = M i j := by rw [st_i]; exact if_neg h
theorem st_cell {M : Mem} {i k a j : Nat} {v : Int32} (h : a ≠ i) : st M i k v a j = M a j := by rw [st_ne h]
theorem chk_ix {β : Type} {b n : Nat} {k : Option β} (h : b < n) (hn : n < 2 ^ 31) : chk (ixb (nI b) n) k = k := chk_t (ixb_iff.mpr (vp_in_nI h hn))
theorem cl_nI {n : Nat} (h : n < 2 ^ 31) : (nI n).toNatClampNeg = n := nI_clamp h
theorem nI_sub {a b : Nat} (h : b ≤ a) : nI a - nI b = nI (a - b) := pk_sub h
theorem ti {n : Nat} (h : n < 2 ^ 31) : (nI n).toInt = (n : Int) := nI_toInt h
theorem i_lt (a b : Int32) : a < b ↔ a.toInt < b.toInt := Int32.lt_iff_toInt_lt
theorem i_le (a b : Int32) : a ≤ b ↔ a.toInt ≤ b.toInt := Int32.le_iff_toInt_le
theorem i_eq (a b : Int32) : a = b ↔ a.toInt = b.toInt := Int32.toInt_inj.symm
/-- an int between 0 and n is a number -/
theorem nI_ex {x : Int32} (h : 0 ≤ x.toInt) : ∃ j : Nat, j < 2 ^ 31 ∧ x = nI j ∧ x.toInt = j := by
  obtain ⟨j, h1, h2⟩ := nI_of (x := x) (fun q => by rw [i_lt] at q; have : (0 : Int32).toInt = 0 := rfl; omega)
  exact ⟨j, h1, h2, by rw [h2]; exact ti h1⟩
theorem ifp {α : Type} {c : Prop} [Decidable c] {a b : α} (h : c) : (if c then a else b) = a := if_pos h
theorem ifn {α : Type} {c : Prop} [Decidable c] {a b : α} (h : ¬ c) : (if c then a else b) = b := if_neg h
/-- a loop that counts up -/
theorem iter_inv {α β : Type} {F : (α → Option β) → α → Option β} (I : Nat → α → Prop) (n : Nat) (P : β → Prop)
    (hs : ∀ b a, b < n → I b a → (∃ a', I (b + 1) a' ∧ ∀ rec, F rec a = rec a') ∨ (∃ z, P z ∧ ∀ rec, F rec a = some z)) (he : ∀ a, I n a → ∃ z, P z ∧ ∀ rec, F rec a = some z) :
    ∀ k b a, b ≤ n → n < b + k → I b a → ∃ z, P z ∧ iter F k a = some z := by
  intro k
  induction k with
  | zero => intro b a h1 h2; omega
  | succ k ih =>
    intro b a h1 h2 hI
    rcases Nat.lt_or_ge b n with q | q
    · rcases hs b a q hI with ⟨a', hI', hF⟩ | ⟨z, hz, hF⟩
      · obtain ⟨z, hz, e⟩ := ih (b + 1) a' q (by omega) hI'
        exact ⟨z, hz, (hF _).trans e⟩
      · exact ⟨z, hz, hF _⟩
    · have : b = n := by omega
      subst this
      obtain ⟨z, hz, hF⟩ := he a hI
      exact ⟨z, hz, hF _⟩
/-- a loop whose state is told by the counter -/
theorem iter_for {α β : Type} {F : (α → Option β) → α → Option β} (t : Nat → α) (n : Nat) (z : β) (hs : ∀ b, b < n → ∀ rec, F rec (t b) = rec (t (b + 1))) (he : ∀ rec, F rec (t n) = some z) : ∀ k b, b ≤ n → n < b + k → iter F k (t b) = some z := by
  intro k
  induction k with
  | zero => intro b h1 h2; omega
  | succ k ih =>
    intro b h1 h2
    rcases Nat.lt_or_ge b n with q | q
    · exact (hs b q _).trans (ih (b + 1) q (by omega))
    · have : b = n := by omega
      subst this
      exact he _
/-- a loop whose state is told by the counter, and goes over into something else -/
theorem iter_to {α β : Type} {F : (α → Option β) → α → Option β} (t : Nat → α) (n : Nat) (z : Option β) (hs : ∀ b, b < n → ∀ rec, F rec (t b) = rec (t (b + 1))) (he : ∀ rec, F rec (t n) = z) : ∀ k b, b ≤ n → n < b + k → iter F k (t b) = z := by
  intro k
  induction k with
  | zero => intro b h1 h2; omega
  | succ k ih =>
    intro b h1 h2
    rcases Nat.lt_or_ge b n with q | q
    · exact (hs b q _).trans (ih (b + 1) q (by omega))
    · have : b = n := by omega
      subst this
      exact he _
theorem fuel_eq : fuel = 2000 := rfl
/-- sets of birds as numbers below 64: how many -/
def pc (S : Nat) : Nat := (if S.testBit 0 then 1 else 0) + (if S.testBit 1 then 1 else 0) + (if S.testBit 2 then 1 else 0) + (if S.testBit 3 then 1 else 0) + (if S.testBit 4 then 1 else 0) + (if S.testBit 5 then 1 else 0)
def bt (S b : Nat) : Int32 := if S.testBit b = true then 1 else 0
theorem b_sh : ∀ b, b < 31 → (1 : Int32) <<< (nI b &&& 31) = nI (2 ^ b) := by decide +kernel
theorem b_bit : ∀ S, S < 64 → ∀ b, b < 8 → ((nI S >>> (nI b &&& 31)) &&& (1 : Int32)) = bt S b := by decide +kernel
theorem b_pc : ∀ S, S < 64 → f_J6_bitCount_0f7a4 (nI S) = nI (pc S) := by decide +kernel
theorem b_ones : ∀ S, S < 64 → f_X9_ones (nI S) = some (nI (pc S)) := by decide +kernel
theorem b_andn : ∀ F, F < 64 → ∀ S, S < 64 → nI F &&& (nI S ^^^ (-1 : Int32)) = nI (F &&& (63 ^^^ S)) := by decide +kernel
theorem pc_le : ∀ S, S < 64 → pc S ≤ 6 := by decide +kernel
theorem pc_pos : ∀ S, S < 64 → S ≠ 0 → 0 < pc S := by decide +kernel
theorem pc_diff : ∀ F, F < 64 → ∀ S, S < 64 → F &&& S = S → pc (F &&& (63 ^^^ S)) + pc S = pc F := by decide +kernel
theorem nI_or (a b : Nat) : nI a ||| nI b = nI (a ||| b) := by
  apply Int32.toBitVec_inj.1
  show BitVec.ofNat 32 a ||| BitVec.ofNat 32 b = BitVec.ofNat 32 (a ||| b)
  apply BitVec.eq_of_getLsbD_eq
  intro i hi
  simp [BitVec.getLsbD_ofNat, Nat.testBit_or, hi]
theorem nI_and (a b : Nat) : nI a &&& nI b = nI (a &&& b) := by
  apply Int32.toBitVec_inj.1
  show BitVec.ofNat 32 a &&& BitVec.ofNat 32 b = BitVec.ofNat 32 (a &&& b)
  apply BitVec.eq_of_getLsbD_eq
  intro i hi
  simp [BitVec.getLsbD_ofNat, Nat.testBit_and, hi]
theorem nI_or0 (a : Nat) : nI a ||| (0 : Int32) = nI a := nI_or a 0 |>.trans (by rw [Nat.or_zero])
/-- the set of those below n of which p holds -/
def so (p : Nat → Bool) : Nat → Nat
  | 0 => 0
  | n + 1 => so p n ||| (if p n = true then 2 ^ n else 0)
theorem so_bit (p : Nat → Bool) : ∀ n b, (so p n).testBit b = (decide (b < n) && p b)
  | 0, b => by simp [so]
  | n + 1, b => by
    have ih := so_bit p n b
    unfold so
    rw [Nat.testBit_or, ih]
    by_cases h : p n = true
    · rw [if_pos h, Nat.testBit_two_pow]
      by_cases q : n = b
      · subst q; simp [h]
      · have e1 : decide (n = b) = false := by simp [q]
        have e2 : decide (b < n + 1) = decide (b < n) := by apply decide_eq_decide.mpr; omega
        rw [e1, e2]; simp
    · rw [if_neg h]
      by_cases q : b = n
      · subst q; simp [h]
      · have e2 : decide (b < n + 1) = decide (b < n) := by apply decide_eq_decide.mpr; omega
        rw [e2]; simp
theorem so_lt (p : Nat → Bool) (n : Nat) : so p n < 2 ^ n := by
  apply Nat.lt_pow_two_of_testBit
  intro i hi
  rw [so_bit]
  simp
  omega
theorem so_lt64 {p : Nat → Bool} {n : Nat} (h : n ≤ 6) : so p n < 64 := Nat.lt_of_lt_of_le (so_lt p n) (Nat.pow_le_pow_right (by decide) h)
theorem so_cong {p q : Nat → Bool} : ∀ {n : Nat}, (∀ b, b < n → p b = q b) → so p n = so q n
  | 0, _ => rfl
  | n + 1, h => by
    unfold so
    rw [so_cong (fun b hb => h b (by omega)), h n (by omega)]
theorem pow_64 {n : Nat} (h : n ≤ 6) : 2 ^ n ≤ 64 := Nat.pow_le_pow_right (n := 2) (j := 6) (by decide) h
theorem tb_lt {F n b : Nat} (h : F < 2 ^ n) (hb : n ≤ b) : F.testBit b = false := Nat.testBit_lt_two_pow (Nat.lt_of_lt_of_le h (Nat.pow_le_pow_right (by decide) hb))
theorem tb_63 : ∀ b, (63 : Nat).testBit b = decide (b < 6) := by
  intro b
  rw [show (63 : Nat) = 2 ^ 6 - 1 by rfl, Nat.testBit_two_pow_sub_one]
theorem tb_andn {F S b : Nat} : (F &&& (63 ^^^ S)).testBit b = (F.testBit b && (decide (b < 6) ^^ S.testBit b)) := by
  rw [Nat.testBit_and, Nat.testBit_xor, tb_63]
theorem and_lt {F G n : Nat} (h : F < 2 ^ n) : F &&& G < 2 ^ n := Nat.lt_of_le_of_lt Nat.and_le_left h
