/-! THE CLASS'S FLIGHTS -/
theorem ti_add {a b : Int32} (h1 : -2147483648 ≤ a.toInt + b.toInt) (h2 : a.toInt + b.toInt < 2147483648) : (a + b).toInt = a.toInt + b.toInt := by
  rw [Int32.toInt_add]
  apply Int.bmod_eq_of_le <;> omega
theorem ti_sub {a b : Int32} (h1 : -2147483648 ≤ a.toInt - b.toInt) (h2 : a.toInt - b.toInt < 2147483648) : (a - b).toInt = a.toInt - b.toInt := by
  rw [Int32.toInt_sub]
  apply Int.bmod_eq_of_le <;> omega
theorem ti_mul {a b : Int32} (h1 : -2147483648 ≤ a.toInt * b.toInt) (h2 : a.toInt * b.toInt < 2147483648) : (a * b).toInt = a.toInt * b.toInt := by
  rw [Int32.toInt_mul]
  apply Int.bmod_eq_of_le <;> omega
section EA
variable {M : Mem} {f : Nat} {T : TT} {D : DD}
theorem ec_fd (h : EC M f T D) : M (f + 1) 0 = Tfd T := h.1.1
theorem ec_nv (h : EC M f T D) : M (f + 1) 1 = nI (Tnv T) := h.1.2.1
theorem ec_nb (h : EC M f T D) : M (f + 1) 2 = nI (Tnb T) := h.1.2.2.1
theorem ec_as (h : EC M f T D) {v : Nat} (hv : v < Tnv T) : M (f + 2) v = Tas T v := (h.1.2.2.2.1 v hv).1
theorem ec_ls (h : EC M f T D) {v : Nat} (hv : v < Tnv T) : M (f + 3) v = Tls T v := (h.1.2.2.2.1 v hv).2
theorem ec_kd (h : EC M f T D) {b : Nat} (hb : b < Tnb T) : M (f + 4) b = Tkd T b := (h.1.2.2.2.2 b hb).1
theorem ec_lv (h : EC M f T D) {b : Nat} (hb : b < Tnb T) : M (f + 5) b = Tlv T b := (h.1.2.2.2.2 b hb).2.1
theorem ec_lo (h : EC M f T D) {b : Nat} (hb : b < Tnb T) : M (f + 6) b = nI (Tlo T b) := (h.1.2.2.2.2 b hb).2.2
theorem ec_F (h : EC M f T D) : M (f + 7) 0 = nI (DF D) := h.2.1
theorem ec_K (h : EC M f T D) : M (f + 7) 1 = nI (DK D) := h.2.2.1
theorem ec_tu (h : EC M f T D) : M (f + 7) 2 = nI (Dtu D) := h.2.2.2.1
theorem ec_th (h : EC M f T D) : M (f + 7) 3 = nI (Dth D) := h.2.2.2.2.1
theorem ec_st (h : EC M f T D) {b : Nat} (hb : b < Tnb T) : M (f + 8) b = Dst D b := h.2.2.2.2.2.1 b hb
theorem ec_ln (h : EC M f T D) {j : Nat} (hj : j < Tnv T) : M (f + 9) j = nI (Dln D j) := h.2.2.2.2.2.2 j hj
/-- nothing of the flight is elsewhere -/
theorem ec_cg {M' : Mem} (h : EC M f T D) (e : ∀ a, f + 1 ≤ a → a ≤ f + 9 → M' a = M a) : EC M' f T D := by
  obtain ⟨⟨a1, a2, a3, a4, a5⟩, b1, b2, b3, b4, b5, b6⟩ := h
  refine ⟨⟨?_, ?_, ?_, fun v hv => ?_, fun b hb => ?_⟩, ?_, ?_, ?_, ?_, fun b hb => ?_, fun j hj => ?_⟩
  · rw [e (f + 1) (by omega) (by omega)]; exact a1
  · rw [e (f + 1) (by omega) (by omega)]; exact a2
  · rw [e (f + 1) (by omega) (by omega)]; exact a3
  · rw [e (f + 1 + 1) (by omega) (by omega), e (f + 1 + 2) (by omega) (by omega)]; exact a4 v hv
  · rw [e (f + 1 + 3) (by omega) (by omega), e (f + 1 + 4) (by omega) (by omega), e (f + 1 + 5) (by omega) (by omega)]; exact a5 b hb
  · rw [e (f + 7) (by omega) (by omega)]; exact b1
  · rw [e (f + 7) (by omega) (by omega)]; exact b2
  · rw [e (f + 7) (by omega) (by omega)]; exact b3
  · rw [e (f + 7) (by omega) (by omega)]; exact b4
  · rw [e (f + 7 + 1) (by omega) (by omega)]; exact b5 b hb
  · rw [e (f + 7 + 2) (by omega) (by omega)]; exact b6 j hj
end EA
theorem wd_F {T : TT} {D : DD} {B : Nat} (hT : WT T) (h : WD T D B) : DF D < 64 := Nat.lt_of_lt_of_le h.1 (pow_64 hT.2.1)
theorem wd_K {T : TT} {D : DD} {B : Nat} (hT : WT T) (h : WD T D B) : DK D < 64 := Nat.lt_of_lt_of_le h.2.1 (pow_64 hT.2.1)
theorem cFl {M : Mem} {i F b : Nat} (h : M i 0 = nI F) (hF : F < 64) (hb : b < 8) : f_X3_flies M i (nI b) = F.testBit b := by
  unfold f_X3_flies
  rw [h, b_bit F hF b hb]
  unfold bt
  cases F.testBit b <;> decide
theorem cCom {M : Mem} {f : Nat} {T : TT} {D : DD} {B : Nat} (hE : EC M f T D) (hD : WD T D B) : f_X2_coming M f = nI (Tnv T - Dth D) := by
  unfold f_X2_coming
  rw [ec_nv hE, ec_th hE, nI_sub hD.2.2.1]
theorem cNxt {M : Mem} {f : Nat} {T : TT} {D : DD} (hT : WT T) (hE : EC M f T D) (hth : Dth D < Tnv T) : f_X2_nextValley M f = some (nI (Dln D (Dth D))) := by
  have := hT.1
  unfold f_X2_nextValley
  rw [ec_th hE, chk_ix (by omega) (by decide), cl_nI (by omega), ec_ln hE hth]
theorem cLoss {M : Mem} {f : Nat} {T : TT} {D : DD} (hT : WT T) (hE : EC M f T D) (hF64 : DF D < 64) (hv : Dln D (Dth D) < Tnv T) (hth : Dth D < Tnv T) {b : Nat} (hb : b < Tnb T) : f_X2_lossOf M f (nI b) = some (tk T D b) := by
  have h5 := hT.1
  have h6 := hT.2.1
  have hlo := (hT.2.2.2.2 b hb).2
  have hF := cFl (ec_F hE) hF64 (show Tlo T b < 8 by omega)
  simp (disch := omega) only [f_X2_lossOf, nm, cNxt hT hE hth, Option.bind_some, chk_ix, cl_nI, ec_ls hE hv, ec_lo hE hb, hF, ec_kd hE hb, ec_tu hE]
  unfold tk
  simp only [apply_ite some]
/-- what is taken is small -/
theorem tk_in {T : TT} {D : DD} {B : Nat} (hT : WT T) (hD : WD T D B) (hB : B ≤ 1000000) (hth : Dth D < Tnv T) (b : Nat) : 0 ≤ (tk T D b).toInt ∧ (tk T D b).toInt ≤ B + 20 := by
  have hl := hT.2.2.2.1 _ (hD.2.2.2.2.1 _ hth)
  have htu := hD.2.2.2.1
  have e0 : (0 : Int32).toInt = 0 := rfl
  have e3 : (3 : Int32).toInt = 3 := rfl
  have e2 : (2 : Int32).toInt = 2 := rfl
  have et : (nI (Dtu D)).toInt = (Dtu D : Int) := ti (by omega)
  unfold tk
  by_cases k2 : Tkd T b = 2
  · rw [if_pos k2, ti_add (by omega) (by omega)]; omega
  · rw [if_neg k2]
    by_cases k3 : Tkd T b = 3
    · rw [if_pos k3, ti_mul (by rw [e2]; omega) (by rw [e2]; omega), e2]; omega
    · rw [if_neg k3]
      by_cases k4 : Tkd T b = 4
      · rw [if_pos k4]
        by_cases q : (DF D).testBit (Tlo T b) = true
        · rw [if_pos q]; omega
        · rw [if_neg q]; omega
      · rw [if_neg k4]
        by_cases k5 : Tkd T b = 5
        · rw [if_pos k5]
          by_cases q : (DF D).testBit (Tlo T b) = true
          · rw [if_pos q]; omega
          · rw [if_neg q]; omega
        · rw [if_neg k5]; omega
theorem st1_in {T : TT} {D : DD} {B : Nat} (hT : WT T) (hD : WD T D B) (hB : B ≤ 1000000) (hth : Dth D < Tnv T) {b : Nat} (hb : b < Tnb T) : 0 ≤ (st1 T D b).toInt ∧ (st1 T D b).toInt ≤ 30 := by
  have hs := hD.2.2.2.2.2.2 b hb
  have ht := tk_in hT hD hB hth b
  unfold st1
  by_cases q : (DF D).testBit b = true
  · rw [if_pos q]
    apply mx_in
    rw [ti_sub (by omega) (by omega)]
    omega
  · rw [if_neg q]; exact hs
theorem pass_WD {T : TT} {D : DD} {B : Nat} (hT : WT T) (hD : WD T D B) (hB : B ≤ 1000000) (hth : Dth D < Tnv T) : WD T (pass T D) (B + 6) := by
  have hF := wd_F hT hD
  have h1 := rnd_le hT (DK D) 6 (tbk (DF D, Dtu D) (wkS T D)) (Nat.lt_of_le_of_lt Nat.and_le_left hF)
  have h3 := pc_diff (DF D) hF (wkS T D) (wkS_lt hT D) (wkS_sub T D)
  have h4 := pc_le (DF D) hF
  refine ⟨rnd_in (DK D) 6 _ (and_lt hD.1), hD.2.1, hth, ?_, hD.2.2.2.2.1, hD.2.2.2.2.2.1, fun b hb => st1_in hT hD hB hth hb⟩
  show (rnd T (DK D) 6 (tbk (DF D, Dtu D) (wkS T D))).2 ≤ B + 6
  have h5 : (tbk (DF D, Dtu D) (wkS T D)).2 + pc (tbk (DF D, Dtu D) (wkS T D)).1 = Dtu D + pc (wkS T D) + pc (DF D &&& (63 ^^^ wkS T D)) := rfl
  have h6 := hD.2.2.2.1
  omega
