/-! WHAT A FLIGHT IS: what is told (T), and the moment (D) -/
abbrev TT : Type := Int32 × Nat × Nat × (Nat → Int32) × (Nat → Int32) × (Nat → Int32) × (Nat → Int32) × (Nat → Nat)
abbrev DD : Type := (Nat → Int32) × Nat × Nat × Nat × Nat × (Nat → Nat)
def Tfd (T : TT) : Int32 := T.1
def Tnv (T : TT) : Nat := T.2.1
def Tnb (T : TT) : Nat := T.2.2.1
def Tas (T : TT) : Nat → Int32 := T.2.2.2.1
def Tls (T : TT) : Nat → Int32 := T.2.2.2.2.1
def Tkd (T : TT) : Nat → Int32 := T.2.2.2.2.2.1
def Tlv (T : TT) : Nat → Int32 := T.2.2.2.2.2.2.1
def Tlo (T : TT) : Nat → Nat := T.2.2.2.2.2.2.2
def Dst (D : DD) : Nat → Int32 := D.1
def DF (D : DD) : Nat := D.2.1
def DK (D : DD) : Nat := D.2.2.1
def Dtu (D : DD) : Nat := D.2.2.2.1
def Dth (D : DD) : Nat := D.2.2.2.2.1
def Dln (D : DD) : Nat → Nat := D.2.2.2.2.2
def WT (T : TT) : Prop := Tnv T ≤ 5 ∧ Tnb T ≤ 6 ∧ (0 ≤ (Tfd T).toInt ∧ (Tfd T).toInt ≤ 9) ∧ (∀ v, v < Tnv T → 0 ≤ (Tls T v).toInt ∧ (Tls T v).toInt ≤ 9) ∧ (∀ b, b < Tnb T → (1 ≤ (Tkd T b).toInt ∧ (Tkd T b).toInt ≤ 5) ∧ Tlo T b < 6)
def WD (T : TT) (D : DD) (B : Nat) : Prop := DF D < 2 ^ Tnb T ∧ DK D < 2 ^ Tnb T ∧ Dth D ≤ Tnv T ∧ Dtu D ≤ B ∧ (∀ j, j < Tnv T → Dln D j < Tnv T) ∧ (∀ i j, i < Tnv T → j < Tnv T → Dln D i = Dln D j → i = j) ∧ (∀ b, b < Tnb T → 0 ≤ (Dst D b).toInt ∧ (Dst D b).toInt ≤ 30)
/-- a moment of the class at cell i -/
def EMo (M : Mem) (i : Nat) (T : TT) (D : DD) : Prop := M i 0 = nI (DF D) ∧ M i 1 = nI (DK D) ∧ M i 2 = nI (Dtu D) ∧ M i 3 = nI (Dth D) ∧ (∀ b, b < Tnb T → M (i + 1) b = Dst D b) ∧ (∀ j, j < Tnv T → M (i + 2) j = nI (Dln D j))
def ETo (M : Mem) (i : Nat) (T : TT) : Prop := M i 0 = Tfd T ∧ M i 1 = nI (Tnv T) ∧ M i 2 = nI (Tnb T) ∧ (∀ v, v < Tnv T → M (i + 1) v = Tas T v ∧ M (i + 2) v = Tls T v) ∧ (∀ b, b < Tnb T → M (i + 3) b = Tkd T b ∧ M (i + 4) b = Tlv T b ∧ M (i + 5) b = nI (Tlo T b))
/-- a flight of the class at cell f -/
def EC (M : Mem) (f : Nat) (T : TT) (D : DD) : Prop := ETo M (f + 1) T ∧ EMo M (f + 7) T D
/-- a flight of the reference, in 57 numbers -/
def EM (w : Nat → Int32) (T : TT) (D : DD) : Prop := w 0 = Tfd T ∧ w 1 = (if Tnv T = 0 then 0 else 1) ∧ w 2 = nI (Tnv T) ∧ w 3 = nI (Dth D) ∧ w 4 = nI (Dtu D) ∧ w 5 = nI (Tnb T) ∧ (∀ j, j < Tnv T → w (6 + j) = nI (Dln D j)) ∧ (∀ v, v < Tnv T → w (11 + v) = Tas T v ∧ w (16 + v) = Tls T v) ∧
  (∀ b, b < Tnb T → w (21 + 6 * b) = Tkd T b ∧ w (22 + 6 * b) = Dst D b ∧ w (23 + 6 * b) = Tlv T b ∧ w (24 + 6 * b) = nI (Tlo T b) ∧ w (25 + 6 * b) = bt (DF D) b ∧ w (26 + 6 * b) = bt (DK D) b)
/-! a valley flown through -/
def mx (x : Int32) : Int32 := if 0 < x then x else 0
def tk (T : TT) (D : DD) (b : Nat) : Int32 :=
  if Tkd T b = 2 then Tls T (Dln D (Dth D)) + nI (Dtu D) else if Tkd T b = 3 then 2 * Tls T (Dln D (Dth D)) else
  if Tkd T b = 4 then (if (DF D).testBit (Tlo T b) = true then 0 else Tls T (Dln D (Dth D))) else if Tkd T b = 5 then (if (DF D).testBit (Tlo T b) = true then 0 else 3) else Tls T (Dln D (Dth D))
def st1 (T : TT) (D : DD) (b : Nat) : Int32 := if (DF D).testBit b = true then mx (Dst D b - tk T D b) else Dst D b
def wkS (T : TT) (D : DD) : Nat := so (fun b => (DF D).testBit b && !(DK D).testBit b && decide (st1 T D b < Tas T (Dln D (Dth D)))) (Tnb T)
def lvS (T : TT) (K : Nat) (a : Nat × Nat) : Nat := so (fun b => a.1.testBit b && !K.testBit b && decide (0 < Tlv T b) && decide (Tlv T b ≤ nI a.2)) (Tnb T)
def tbk (a : Nat × Nat) (S : Nat) : Nat × Nat := (a.1 &&& (63 ^^^ S), a.2 + pc S)
def rnd (T : TT) (K : Nat) : Nat → Nat × Nat → Nat × Nat
  | 0, a => a
  | k + 1, a => rnd T K k (tbk a (lvS T K a))
def pass (T : TT) (D : DD) : DD := (st1 T D, (rnd T (DK D) 6 (tbk (DF D, Dtu D) (wkS T D))).1, DK D, (rnd T (DK D) 6 (tbk (DF D, Dtu D) (wkS T D))).2, Dth D + 1, Dln D)
/-- those in a set that is in another -/
theorem so_sub {p : Nat → Bool} {n F : Nat} (h : ∀ b, b < n → p b = true → F.testBit b = true) : F &&& so p n = so p n := by
  apply Nat.eq_of_testBit_eq
  intro b
  rw [Nat.testBit_and, so_bit]
  by_cases q : b < n
  · by_cases q2 : p b = true
    · rw [h b q q2]; rfl
    · simp [q2]
  · simp [q]
theorem lvS_sub (T : TT) (K : Nat) (a : Nat × Nat) : a.1 &&& lvS T K a = lvS T K a := so_sub (fun b _ h => by simp at h; exact h.1.1.1)
theorem wkS_sub (T : TT) (D : DD) : DF D &&& wkS T D = wkS T D := so_sub (fun b _ h => by simp at h; exact h.1.1)
theorem lvS_lt {T : TT} (hT : WT T) (K : Nat) (a : Nat × Nat) : lvS T K a < 64 := so_lt64 hT.2.1
theorem wkS_lt {T : TT} (hT : WT T) (D : DD) : wkS T D < 64 := so_lt64 hT.2.1
/-- how the rounds of leaving go on -/
theorem rnd_le {T : TT} (hT : WT T) (K : Nat) : ∀ k a, a.1 < 64 → (rnd T K k a).1 < 64 ∧ (rnd T K k a).2 + pc (rnd T K k a).1 = a.2 + pc a.1
  | 0, a, h => ⟨h, rfl⟩
  | k + 1, a, h => by
    have h2 := rnd_le hT K k (tbk a (lvS T K a)) (Nat.lt_of_le_of_lt Nat.and_le_left h)
    have h3 := pc_diff a.1 h (lvS T K a) (lvS_lt hT K a) (lvS_sub T K a)
    refine ⟨h2.1, ?_⟩
    show (rnd T K k (tbk a (lvS T K a))).2 + pc (rnd T K k (tbk a (lvS T K a))).1 = _
    rw [h2.2]
    show a.2 + pc (lvS T K a) + pc (a.1 &&& (63 ^^^ lvS T K a)) = _
    omega
theorem rnd_in {T : TT} (K : Nat) {n : Nat} : ∀ k a, a.1 < 2 ^ n → (rnd T K k a).1 < 2 ^ n
  | 0, _, h => h
  | k + 1, a, h => rnd_in K k _ (and_lt h)
theorem rnd_fix {T : TT} {K : Nat} {a : Nat × Nat} (h : lvS T K a = 0) (ha : a.1 < 64) : ∀ k, rnd T K k a = a
  | 0 => rfl
  | k + 1 => by
    have e : tbk a (lvS T K a) = a := by
      rw [h]
      show (a.1 &&& (63 ^^^ 0), a.2 + pc 0) = a
      have : a.1 &&& (63 ^^^ 0) = a.1 := (by decide +kernel : ∀ F, F < 64 → F &&& (63 ^^^ 0) = F) a.1 ha
      rw [this]
      rfl
    show rnd T K k (tbk a (lvS T K a)) = a
    rw [e]
    exact rnd_fix h ha k
/-- as many rounds as there are birds are enough -/
theorem rnd_more {T : TT} (hT : WT T) {K : Nat} : ∀ k a, a.1 < 64 → pc a.1 ≤ k → rnd T K (k + 1) a = rnd T K k a
  | 0, a, h, hp => by
    have h0 : a.1 = 0 := by
      rcases Nat.eq_zero_or_pos a.1 with q | q
      · exact q
      · have := pc_pos a.1 h (by omega); omega
    have : lvS T K a = 0 := by have := lvS_sub T K a; rw [h0, Nat.zero_and] at this; exact this.symm
    exact (rnd_fix this h 1)
  | k + 1, a, h, hp => by
    by_cases q : lvS T K a = 0
    · rw [rnd_fix q h, rnd_fix q h]
    · show rnd T K (k + 1) (tbk a (lvS T K a)) = rnd T K k (tbk a (lvS T K a))
      have h3 := pc_diff a.1 h (lvS T K a) (lvS_lt hT K a) (lvS_sub T K a)
      have h4 := pc_pos _ (lvS_lt hT K a) q
      exact rnd_more hT k _ (Nat.lt_of_le_of_lt Nat.and_le_left h) (by show pc (a.1 &&& (63 ^^^ lvS T K a)) ≤ k; omega)
theorem mx_in {x : Int32} (h : x.toInt ≤ 30) : 0 ≤ (mx x).toInt ∧ (mx x).toInt ≤ 30 := by
  unfold mx
  have h0 : (0 : Int32).toInt = 0 := rfl
  by_cases q : 0 < x
  · rw [if_pos q]
    rw [i_lt, h0] at q
    omega
  · rw [if_neg q, h0]; omega
