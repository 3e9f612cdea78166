/-! WHAT HOLDS BETWEEN CLASS AND REFERENCE after every call -/
def RRw (M : Mem) : Prop := ∀ j, j < 8 → (M (104 + 2 * j) 0 = 0 ∧ M 141 j = -1000000) ∨ (M (104 + 2 * j) 0 = 1 ∧ (0 ≤ (M 141 j).toInt ∧ (M 141 j).toInt ≤ 2) ∧ M (104 + 2 * j) 1 = M 141 j ∧ ∃ n : Nat, n ≤ 40 ∧ M (104 + 2 * j) 2 = nI n ∧ M 142 j = nI n ∧ ∀ t, t < n → M (104 + 2 * j + 1) t = M 143 (40 * j + t))
def RTp (M : Mem) : Prop := ∃ t : Nat, t ≤ 120 ∧ M 2 1 = nI t ∧ M 140 6 = nI t ∧ ∀ j, j < t → M 3 j = M 145 j ∧ 0 ≤ (M 3 j).toInt ∧ (M 3 j).toInt ≤ 255
def RTr (M : Mem) : Prop := ∃ n : Nat, n ≤ 16 ∧ M 102 1 = nI n ∧ M 140 23 = nI n ∧ ∀ j, j < n → M 103 j = M 154 j
def RIm (B : Nat) (M : Mem) : Prop := ∀ k, k < 2 → (M 151 k = 0 ∧ M (120 + 10 * k + 1) 1 = 0) ∨ (M 151 k = 1 ∧ ∃ T D, 0 < Tnv T ∧ WT T ∧ WD T D B ∧ EC M (120 + 10 * k) T D ∧ EM (fun j => M 150 (57 * k + j)) T D)
def RFl (B : Nat) (M : Mem) : Prop := ∃ T D n P, WT T ∧ WD T D B ∧ n ≤ 24 ∧ (∀ q, q < n → WD T (P q) B) ∧ EC M 4 T D ∧ EM (M 146) T D ∧ CA M T n P ∧ MA M T n P
def Rst (B : Nat) (M : Mem) : Prop := M 0 8 = M 140 4 ∧ M 2 2 = M 140 7 ∧ RRw M ∧ RTp M ∧ RTr M ∧ RIm B M
def Rel (B : Nat) (M : Mem) : Prop := Rst B M ∧ RFl B M
/-- the cells of the rest -/
def rstc (a : Nat) : Prop := a ≤ 3 ∨ (102 ≤ a ∧ a ≤ 139) ∨ (141 ≤ a ∧ a ≤ 143) ∨ a = 145 ∨ a = 150 ∨ a = 151 ∨ a = 154
theorem rst_cg {B : Nat} {M M' : Mem} (h : Rst B M) (e : ∀ a, rstc a → M' a = M a) (e4 : M' 140 4 = M 140 4) (e6 : M' 140 6 = M 140 6) (e7 : M' 140 7 = M 140 7) (e23 : M' 140 23 = M 140 23) : Rst B M' := by
  obtain ⟨h1, h2, h3, h4, h5, h6⟩ := h
  have g : ∀ a, (a ≤ 3 ∨ (102 ≤ a ∧ a ≤ 139) ∨ (141 ≤ a ∧ a ≤ 143) ∨ a = 145 ∨ a = 150 ∨ a = 151 ∨ a = 154) → M' a = M a := e
  refine ⟨?_, ?_, fun j hj => ?_, ?_, ?_, fun k hk => ?_⟩
  · rw [g 0 (by omega), e4]; exact h1
  · rw [g 2 (by omega), e7]; exact h2
  · rw [g (104 + 2 * j) (by omega), g 141 (by omega), g 142 (by omega), g (104 + 2 * j + 1) (by omega), g 143 (by omega)]; exact h3 j hj
  · obtain ⟨t, t1, t2, t3, t4⟩ := h4
    refine ⟨t, t1, ?_, ?_, fun j hj => ?_⟩
    · rw [g 2 (by omega)]; exact t2
    · rw [e6]; exact t3
    · rw [g 3 (by omega), g 145 (by omega)]; exact t4 j hj
  · obtain ⟨t, t1, t2, t3, t4⟩ := h5
    refine ⟨t, t1, ?_, ?_, fun j hj => ?_⟩
    · rw [g 102 (by omega)]; exact t2
    · rw [e23]; exact t3
    · rw [g 103 (by omega), g 154 (by omega)]; exact t4 j hj
  · rcases h6 k hk with ⟨a1, a2⟩ | ⟨a1, T, D, a2, a3, a4, a5, a6⟩
    · left
      rw [g 151 (by omega), g (120 + 10 * k + 1) (by omega)]; exact ⟨a1, a2⟩
    · right
      refine ⟨by rw [g 151 (by omega)]; exact a1, T, D, a2, a3, a4, ec_cg a5 (fun a b1 b2 => g a (by omega)), ?_⟩
      rw [g 150 (by omega)]; exact a6
theorem rst_mono {B B' : Nat} {M : Mem} (h : Rst B M) (hb : B ≤ B') : Rst B' M := by
  obtain ⟨h1, h2, h3, h4, h5, h6⟩ := h
  refine ⟨h1, h2, h3, h4, h5, fun k hk => ?_⟩
  rcases h6 k hk with q | ⟨a1, T, D, a2, a3, a4, a5, a6⟩
  · exact Or.inl q
  · exact Or.inr ⟨a1, T, D, a2, a3, WD_mono a4 hb, a5, a6⟩
theorem rfl_mono {B B' : Nat} {M : Mem} (h : RFl B M) (hb : B ≤ B') : RFl B' M := by
  obtain ⟨T, D, n, P, h1, h2, h3, h4, h5⟩ := h
  exact ⟨T, D, n, P, h1, WD_mono h2 hb, h3, fun q hq => WD_mono (h4 q hq) hb, h5⟩
theorem rel_mono {B B' : Nat} {M : Mem} (h : Rel B M) (hb : B ≤ B') : Rel B' M := ⟨rst_mono h.1 hb, rfl_mono h.2 hb⟩
theorem rst_fr {B : Nat} {M M' : Mem} (h : Rst B M) (f : fr M M') : Rst B M' := by
  have e140 : M' 140 = M 140 := fr_at f (by omega)
  exact rst_cg h (fun a ha => fr_at f (by unfold rstc at ha; omega)) (by rw [e140]) (by rw [e140]) (by rw [e140]) (by rw [e140])
/-- the flight's part, from cells that stayed -/
theorem rfl_cg {B : Nat} {M M' : Mem} (h : RFl B M) (e : ∀ a, (4 ≤ a ∧ a ≤ 13) ∨ a = 25 ∨ (27 ≤ a ∧ a ≤ 98) ∨ a = 146 ∨ a = 149 → M' a = M a) (e17 : M' 140 17 = M 140 17) : RFl B M' := by
  obtain ⟨T, D, n, P, h1, h2, h3, h4, h5, h6, h7, h8⟩ := h
  refine ⟨T, D, n, P, h1, h2, h3, h4, ec_cg h5 (fun a b1 b2 => e a (by omega)), ?_, ca_cg h7 (fun a ha => e a (by omega)), ma_cg h8 (e 149 (by omega)) e17⟩
  rw [e 146 (by omega)]; exact h6
theorem rfl_fr {B : Nat} {M M' : Mem} (h : RFl B M) (f : fr M M') : RFl B M' := by
  have e140 : M' 140 = M 140 := fr_at f (by omega)
  exact rfl_cg h (fun a ha => fr_at f (by omega)) (by rw [e140])
theorem rel_fr {B : Nat} {M M' : Mem} (h : Rel B M) (f : fr M M') : Rel B M' := ⟨rst_fr h.1 f, rfl_fr h.2 f⟩
/-- a call of both answers the same, and all holds again -/
def Ok2 (B : Nat) (M : Mem) (c m : Mem → Option (Int32 × Mem)) : Prop := ∃ r M1 M2, c M = some (r, M1) ∧ m M1 = some (r, M2) ∧ Rel (B + 6) M2
theorem ok_q {B : Nat} {M : Mem} {c m : Mem → Option (Int32 × Mem)} (h : Rel B M) {r : Int32} {M1 : Mem} (hc : c M = some (r, M1)) (f1 : fr M M1) {M2 : Mem} (hm : m M1 = some (r, M2)) (f2 : fr M1 M2) : Ok2 B M c m :=
  ⟨r, M1, M2, hc, hm, rel_mono (rel_fr h (fr_trans f1 f2)) (by omega)⟩
/-! arguments -/
def inB (n : Nat) (x : Int32) : Prop := ∃ b, b < n ∧ x = nI b
theorem in_8 (x y : Int32) : f_X8_isWithin x y = f_X9_in x 0 y := Eq.trans rfl rfl
theorem row_8 (x : Int32) : f_X8_isRow x = f_X9_isRow x := Eq.trans rfl rfl
theorem nI_m1 {n : Nat} (h : n < 1000) : (nI n - 1).toInt = (n : Int) - 1 := by
  have e1 : (1 : Int32).toInt = 1 := rfl
  have en : (nI n).toInt = (n : Int) := ti (by omega)
  rw [ti_sub (by omega) (by omega)]; omega
theorem in_iff {x y z : Int32} : f_X9_in x y z = true ↔ y.toInt ≤ x.toInt ∧ x.toInt ≤ z.toInt := by
  unfold f_X9_in
  by_cases a : x < y
  · rw [if_pos a]; rw [i_lt] at a; constructor
    · intro h; cases h
    · intro h; omega
  · rw [if_neg a]
    by_cases b : z < x
    · rw [if_pos b]; rw [i_lt] at b; constructor
      · intro h; cases h
      · intro h; omega
    · rw [if_neg b]; rw [i_lt] at a b; constructor
      · intro h; omega
      · intro h; rfl
theorem inB_iff {n : Nat} (hn : n < 2 ^ 31) {x : Int32} : inB n x ↔ 0 ≤ x.toInt ∧ x.toInt < n := by
  constructor
  · rintro ⟨b, hb, rfl⟩
    have : (nI b).toInt = (b : Int) := ti (by omega)
    omega
  · intro ⟨h1, h2⟩
    obtain ⟨j, j1, j2, j3⟩ := nI_ex h1
    exact ⟨j, by omega, j2⟩
theorem within_iff {n : Nat} (hn : n + 1 < 2 ^ 31) {x : Int32} : f_X9_in x 0 (nI n) = true ↔ inB (n + 1) x := by
  have e0 : (0 : Int32).toInt = 0 := rfl
  have en : (nI n).toInt = (n : Int) := ti (by omega)
  rw [in_iff, inB_iff hn]
  omega
theorem below_iff {n : Nat} (hn : n < 1000) {x : Int32} : f_X9_in x 0 (nI n - 1) = true ↔ inB n x := by
  have e0 : (0 : Int32).toInt = 0 := rfl
  rw [in_iff, inB_iff (by omega), nI_m1 hn]
  omega
theorem isB_iff {M : Mem} {T : TT} {D : DD} (hT : WT T) (hE : EC M 4 T D) {x : Int32} : f_X8_isBird M x = true ↔ inB (Tnb T) x := by
  have h6 := hT.2.1
  have e0 : (0 : Int32).toInt = 0 := rfl
  have en : (nI (Tnb T)).toInt = (Tnb T : Int) := ti (by omega)
  have hnb : M 5 2 = nI (Tnb T) := ec_nb hE
  rw [inB_iff (by omega)]
  unfold f_X8_isBird
  rw [hnb]
  by_cases a : x < 0
  · rw [if_pos a]; rw [i_lt] at a; constructor
    · intro h; cases h
    · intro h; omega
  · rw [if_neg a]
    by_cases b : nI (Tnb T) ≤ x
    · rw [if_pos b]; rw [i_le] at b; constructor
      · intro h; cases h
      · intro h; omega
    · rw [if_neg b]; rw [i_lt] at a; rw [i_le] at b; constructor
      · intro h; omega
      · intro h; rfl
theorem isBm_iff {M : Mem} {T : TT} {D : DD} (hT : WT T) (hE : EM (M 146) T D) {x : Int32} : f_X9_isBird M x = true ↔ inB (Tnb T) x := by
  have h6 := hT.2.1
  unfold f_X9_isBird
  rw [em_nb hE]
  exact below_iff (by omega)
theorem isF_iff {M : Mem} {T : TT} {D : DD} (hE : EM (M 146) T D) : f_X9_isFlight M = true ↔ 0 < Tnv T := by
  unfold f_X9_isFlight
  rw [em_1 hE]
  by_cases q : Tnv T = 0
  · rw [if_pos q, if_neg (by decide)]; constructor
    · intro h; cases h
    · intro h; omega
  · rw [if_neg q, if_pos rfl]; constructor
    · intro h; omega
    · intro h; rfl
theorem isT_iff {M : Mem} {f : Nat} {T : TT} {D : DD} (hT : WT T) (hE : EC M f T D) : f_X2_isThere M f = true ↔ 0 < Tnv T := by
  have h5 := hT.1
  unfold f_X2_isThere
  rw [ec_nv hE]
  have c : (nI (Tnv T) ≤ (0 : Int32)) ↔ Tnv T ≤ 0 := nI_leI (b := 0) (by omega) (by decide)
  by_cases q : Tnv T ≤ 0
  · rw [if_pos (c.mpr q)]; constructor
    · intro h; cases h
    · intro h; omega
  · rw [if_neg (fun h => q (c.mp h))]; constructor
    · intro h; omega
    · intro h; rfl
