/-! DRAWN -/
theorem lbm {n : Int} (h1 : -9223372036854775808 ≤ n) (h2 : n < 9223372036854775808) : n.bmod (2 ^ 64) = n := by
  apply Int.bmod_eq_of_le <;> omega
theorem i64_rm {x m : Int64} (hx : 0 ≤ x.toInt) (hm : 0 < m.toInt) : (x - x / m * m).toInt = x.toInt % m.toInt := by
  have hx63 : x.toInt < 9223372036854775808 := Int64.toInt_lt x
  have hq0 : 0 ≤ x.toInt / m.toInt := Int.ediv_nonneg hx (by omega)
  have hq1 : x.toInt / m.toInt ≤ x.toInt := Int.ediv_le_self _ hx
  have hd : (x / m).toInt = x.toInt / m.toInt := by
    rw [Int64.toInt_div, Int.tdiv_eq_ediv_of_nonneg hx]
    exact lbm (by omega) (by omega)
  have hq2 : x.toInt / m.toInt * m.toInt ≤ x.toInt := Int.ediv_mul_le _ (by omega)
  have hq3 : 0 ≤ x.toInt / m.toInt * m.toInt := Int.mul_nonneg hq0 (by omega)
  have hmul : (x / m * m).toInt = x.toInt / m.toInt * m.toInt := by
    rw [Int64.toInt_mul, hd]
    exact lbm (by omega) (by omega)
  have he := Int.emod_def x.toInt m.toInt
  rw [Int.mul_comm] at he
  rw [Int64.toInt_sub, hmul, lbm (by omega) (by omega), he]
theorem i64_nx {x : Int64} (hx : 0 ≤ x.toInt) (hx2 : x.toInt < 2147483647) : 0 ≤ ((x * (16807 : Int64)) - (x * (16807 : Int64)) / (2147483647 : Int64) * (2147483647 : Int64)).toInt ∧ ((x * (16807 : Int64)) - (x * (16807 : Int64)) / (2147483647 : Int64) * (2147483647 : Int64)).toInt < 2147483647 := by
  have e1 : (16807 : Int64).toInt = 16807 := by decide
  have e2 : (2147483647 : Int64).toInt = 2147483647 := by decide
  have hm : (x * (16807 : Int64)).toInt = x.toInt * 16807 := by
    rw [Int64.toInt_mul, e1]
    exact lbm (by omega) (by omega)
  rw [i64_rm (by rw [hm]; omega) (by rw [e2]; omega), hm, e2]
  exact ⟨Int.emod_nonneg _ (by omega), Int.emod_lt_of_pos _ (by omega)⟩
def bN (T : TT) (x : Int64) : Nat := (x.toInt % (Tnb T : Int)).toNat
theorem bN_lt {T : TT} {x : Int64} (h : 0 < Tnb T) : bN T x < Tnb T := by
  have h1 : 0 ≤ x.toInt % (Tnb T : Int) := Int.emod_nonneg _ (by omega)
  have h2 : x.toInt % (Tnb T : Int) < (Tnb T : Int) := Int.emod_lt_of_pos _ (by omega)
  unfold bN
  omega
theorem bN_eq {T : TT} (hT : WT T) {x : Int64} (hx : 0 ≤ x.toInt) (h : 0 < Tnb T) : (x - x / (nI (Tnb T)).toInt64 * (nI (Tnb T)).toInt64).toInt32 = nI (bN T x) ∧ ¬ (nI (Tnb T)).toInt64 = 0 := by
  have h6 := hT.2.1
  have em : (nI (Tnb T)).toInt64.toInt = (Tnb T : Int) := by rw [Int32.toInt_toInt64, ti (by omega)]
  constructor
  · rw [i_eq, Int64.toInt_toInt32, i64_rm hx (by omega), em, ti (by have := bN_lt (x := x) h; omega)]
    have h1 : 0 ≤ x.toInt % (Tnb T : Int) := Int.emod_nonneg _ (by omega)
    have h2 : x.toInt % (Tnb T : Int) < (Tnb T : Int) := Int.emod_lt_of_pos _ (by omega)
    have h3 : (x.toInt % (Tnb T : Int)).bmod (2 ^ 32) = x.toInt % (Tnb T : Int) := by
      apply Int.bmod_eq_of_le <;> omega
    rw [h3]
    unfold bN
    omega
  · intro e
    rw [e] at em
    have e0 : (0 : Int64).toInt = 0 := by decide
    omega
def strD (T : TT) (D : DD) (x : Int64) : DD :=
  if Tnb T = 0 then D else
  if lg_cmp (x - x / (3 : Int64) * (3 : Int64)) (0 : Int64) = (0 : Int32) ∧ (DF D).testBit (bN T x) = true then (Dst D, (tbk (DF D, Dtu D) (2 ^ bN T x)).1, DK D, (tbk (DF D, Dtu D) (2 ^ bN T x)).2, Dth D, Dln D) else
  if lg_cmp (x - x / (3 : Int64) * (3 : Int64)) (1 : Int64) = (0 : Int32) then eatD T D (bN T x) else D
section DW
variable {B : Nat} {M : Mem} {T : TT} {D : DD}
theorem pow_b64 (hT : WT T) {b : Nat} (hb : b < Tnb T) : 2 ^ b < 64 := Nat.lt_of_lt_of_le (pow_in hb) (pow_64 hT.2.1)
theorem trn_WD (hT : WT T) (hD : WD T D B) {b : Nat} (hb : b < Tnb T) : WD T (Dst D, (tbk (DF D, Dtu D) (2 ^ b)).1, DK D, (tbk (DF D, Dtu D) (2 ^ b)).2, Dth D, Dln D) (B + 6) := ⟨and_lt hD.1, hD.2.1, hD.2.2.1, by
  have h1 : Dtu D ≤ B := hD.2.2.2.1
  have h2 := pc_le _ (pow_b64 hT hb)
  show Dtu D + pc (2 ^ b) ≤ B + 6
  omega, hD.2.2.2.2⟩
theorem str_WD (hT : WT T) (hD : WD T D B) (x : Int64) : WD T (strD T D x) (B + 6) := by
  unfold strD
  by_cases q : Tnb T = 0
  · rw [if_pos q]; exact WD_mono hD (by omega)
  · rw [if_neg q]
    by_cases q1 : lg_cmp (x - x / (3 : Int64) * (3 : Int64)) (0 : Int64) = (0 : Int32) ∧ (DF D).testBit (bN T x) = true
    · rw [if_pos q1]; exact trn_WD hT hD (bN_lt (by omega))
    · rw [if_neg q1]
      by_cases q2 : lg_cmp (x - x / (3 : Int64) * (3 : Int64)) (1 : Int64) = (0 : Int32)
      · rw [if_pos q2]; exact WD_mono (eat_WD hT hD _) (by omega)
      · rw [if_neg q2]; exact WD_mono hD (by omega)
theorem cStrike (hT : WT T) (hD : WD T D B) (hE : EC M 14 T D) {x : Int64} (hx : 0 ≤ x.toInt) : ∃ M', f_X2_strike M 14 x = some M' ∧ EC M' 14 T (strD T D x) ∧ fr M M' := by
  have h6 := hT.2.1
  have hF64 := wd_F hT hD
  have hnb : M (14 + 1) 2 = nI (Tnb T) := ec_nb hE
  by_cases q : Tnb T = 0
  · refine ⟨M, ?_, ?_, fr_refl M⟩
    · unfold f_X2_strike
      rw [hnb, q, if_neg (by decide)]
    · rw [show strD T D x = D from if_pos q]; exact hE
  · have c1 : (1 : Int32) ≤ nI (Tnb T) := (nI_leI (a := 1) (by decide) (by omega)).mpr (by omega)
    obtain ⟨eb, e0⟩ := bN_eq hT hx (show 0 < Tnb T by omega)
    have hb : bN T x < Tnb T := bN_lt (by omega)
    have hfl : f_X3_flies M (14 + 7) (nI (bN T x)) = (DF D).testBit (bN T x) := cFl (ec_F hE) hF64 (by omega)
    have es : strD T D x = (if lg_cmp (x - x / (3 : Int64) * (3 : Int64)) (0 : Int64) = (0 : Int32) ∧ (DF D).testBit (bN T x) = true then (Dst D, (tbk (DF D, Dtu D) (2 ^ bN T x)).1, DK D, (tbk (DF D, Dtu D) (2 ^ bN T x)).2, Dth D, Dln D) else if lg_cmp (x - x / (3 : Int64) * (3 : Int64)) (1 : Int64) = (0 : Int32) then eatD T D (bN T x) else D) := if_neg q
    rw [es]
    have h62 : ∀ Dn : DD, Dn = (if lg_cmp (x - x / (3 : Int64) * (3 : Int64)) (1 : Int64) = (0 : Int32) then eatD T D (bN T x) else D) → ∃ M', f_X2_strike_62 14 M (nI (bN T x)) (x - x / (3 : Int64) * (3 : Int64)) = some M' ∧ EC M' 14 T Dn ∧ fr M M' := by
      intro Dn eD
      unfold f_X2_strike_62
      by_cases q2 : lg_cmp (x - x / (3 : Int64) * (3 : Int64)) (1 : Int64) = (0 : Int32)
      · rw [if_pos q2] at eD
        obtain ⟨e2, hE2⟩ := cStr hT hE hb
        rw [if_pos q2, e2, bdE, eD]
        exact ⟨_, rfl, hE2, fr_st (by unfold Jk; omega)⟩
      · rw [if_neg q2] at eD
        rw [if_neg q2, eD]
        exact ⟨M, rfl, hE, fr_refl M⟩
    unfold f_X2_strike
    rw [hnb, if_pos c1, chk_t (by simpa using e0), eb, nmE, nmE]
    by_cases q1 : lg_cmp (x - x / (3 : Int64) * (3 : Int64)) (0 : Int64) = (0 : Int32)
    · rw [if_pos q1, hfl]
      by_cases q2 : (DF D).testBit (bN T x) = true
      · obtain ⟨M4, e4, hE4, f4⟩ := cTurn hE hF64 (pow_b64 hT hb)
        rw [if_pos q2, if_pos ⟨q1, q2⟩, b_sh _ (by omega), e4, nmE]
        exact ⟨M4, rfl, hE4, fun a ha => f4 a (fun z => ha (by unfold Jk; omega))⟩
      · rw [if_neg q2, if_neg (fun w => q2 w.2)]
        exact h62 _ rfl
    · rw [if_neg q1, if_neg (fun w => q1 w.1)]
      exact h62 _ rfl
/-- the draws -/
def dw (T : TT) (D : DD) (x0 : Int64) : Nat → Int64 × Int32 × Int32
  | 0 => (x0, 0, 0)
  | k + 1 => nm (((dw T D x0 k).1 * (16807 : Int64)) - ((dw T D x0 k).1 * (16807 : Int64)) / (2147483647 : Int64) * (2147483647 : Int64)) fun x =>
    (x, (dw T D x0 k).2.1 + nI (pc (DF (arr T (strD T D x)))), if nI (pc (DF (arr T (strD T D x)))) ≤ (0 : Int32) then (dw T D x0 k).2.2 + 0 else (dw T D x0 k).2.2 + 1)
theorem dw_in {x0 : Int64} (h1 : 0 ≤ x0.toInt) (h2 : x0.toInt < 2147483647) : ∀ k, 0 ≤ (dw T D x0 k).1.toInt ∧ (dw T D x0 k).1.toInt < 2147483647
  | 0 => ⟨h1, h2⟩
  | k + 1 => by
    obtain ⟨a, b⟩ := dw_in h1 h2 k
    exact i64_nx a b
theorem dw_s (x0 : Int64) (k : Nat) {x : Int64} (hx : x = ((dw T D x0 k).1 * (16807 : Int64)) - ((dw T D x0 k).1 * (16807 : Int64)) / (2147483647 : Int64) * (2147483647 : Int64)) : dw T D x0 (k + 1) = (x, (dw T D x0 k).2.1 + nI (pc (DF (arr T (strD T D x)))), if nI (pc (DF (arr T (strD T D x)))) ≤ (0 : Int32) then (dw T D x0 k).2.2 + 0 else (dw T D x0 k).2.2 + 1) := by
  subst hx
  exact Eq.trans rfl rfl
theorem cDrawn (hT : WT T) (hD : WD T D B) (hB : B ≤ 900000) (hE : EC M 4 T D) {x0 : Int64} (h1 : 0 ≤ x0.toInt) (h2 : x0.toInt < 2147483647) {n : Nat} (hn : n ≤ 40) (w : Int32) : ∃ M', iter (fun rec a => f_X8_drawn_58 (nI n) w rec a.1 a.2.1 a.2.2.1 a.2.2.2.1 a.2.2.2.2) fuel (M, x0, (0 : Int32), (0 : Int32), (0 : Int32)) = some ((if w = (0 : Int32) then (dw T D x0 n).2.1 else (dw T D x0 n).2.2), M') ∧ fr M M' := by
  have key := iter_inv (F := fun rec a => f_X8_drawn_58 (nI n) w rec a.1 a.2.1 a.2.2.1 a.2.2.2.1 a.2.2.2.2) (fun k a => a.2 = ((dw T D x0 k).1, (dw T D x0 k).2.1, (dw T D x0 k).2.2, nI k) ∧ fr M a.1) n (fun z => z.1 = (if w = (0 : Int32) then (dw T D x0 n).2.1 else (dw T D x0 n).2.2) ∧ fr M z.2) (fun k a hk hI => ?_) (fun a hI => ?_) fuel 0 (M, x0, (0 : Int32), (0 : Int32), (0 : Int32)) (by omega) (by rw [fuel_eq]; omega) ⟨rfl, fr_refl M⟩
  · obtain ⟨⟨r, M'⟩, ⟨er, f1⟩, e1⟩ := key
    have er : r = (if w = (0 : Int32) then (dw T D x0 n).2.1 else (dw T D x0 n).2.2) := er
    rw [er] at e1
    exact ⟨M', e1, f1⟩
  · obtain ⟨Mk, aj⟩ := a
    obtain ⟨ea, fk⟩ := hI
    have ea : aj = ((dw T D x0 k).1, (dw T D x0 k).2.1, (dw T D x0 k).2.2, nI k) := ea
    subst ea
    have fk : fr M Mk := fk
    obtain ⟨a1, a2⟩ := dw_in (T := T) (D := D) h1 h2 k
    obtain ⟨x, ex⟩ : ∃ x, x = ((dw T D x0 k).1 * (16807 : Int64)) - ((dw T D x0 k).1 * (16807 : Int64)) / (2147483647 : Int64) * (2147483647 : Int64) := ⟨_, rfl⟩
    have hx : 0 ≤ x.toInt := by rw [ex]; exact (i64_nx a1 a2).1
    obtain ⟨hE1, f1⟩ := cTri hT (fr_EC fk (by omega) hE)
    obtain ⟨M2, e2, hE2, f2⟩ := cStrike hT hD hE1 hx
    have hD2 := str_WD hT hD x
    obtain ⟨M3, e3, hE3, f3⟩ := cArr hT hE2 hD2 (by omega)
    have hp := wd_F hT (arr_WD hT hD2 (by omega))
    left
    refine ⟨(M3, (dw T D x0 (k + 1)).1, (dw T D x0 (k + 1)).2.1, (dw T D x0 (k + 1)).2.2, nI (k + 1)), ⟨rfl, fr_trans fk (fr_trans f1 (fr_trans f2 (fr_14 f3)))⟩, fun rec => ?_⟩
    show f_X8_drawn_58 (nI n) w rec Mk (dw T D x0 k).1 (dw T D x0 k).2.1 (dw T D x0 k).2.2 (nI k) = _
    unfold f_X8_drawn_58
    rw [dw_s x0 k ex, if_neg (by rw [nI_leI (by omega) (by omega)]; omega), ← ex, nmE, nmE, e2, bdE, e3, bdE, b_pc _ hp, nmE, nmE]
    by_cases z : nI (pc (DF (arr T (strD T D x)))) ≤ (0 : Int32)
    · rw [if_pos z, if_pos z, nmE, nmE, nI_sc]
    · rw [if_neg z, if_neg z, nmE, nmE, nI_sc]
  · obtain ⟨Mk, aj⟩ := a
    obtain ⟨ea, fk⟩ := hI
    have ea : aj = ((dw T D x0 n).1, (dw T D x0 n).2.1, (dw T D x0 n).2.2, nI n) := ea
    subst ea
    refine ⟨((if w = (0 : Int32) then (dw T D x0 n).2.1 else (dw T D x0 n).2.2), Mk), ⟨rfl, fk⟩, fun rec => ?_⟩
    show f_X8_drawn_58 (nI n) w rec Mk (dw T D x0 n).1 (dw T D x0 n).2.1 (dw T D x0 n).2.2 (nI n) = _
    unfold f_X8_drawn_58
    rw [if_pos (by rw [nI_leI (by omega) (by omega)]; omega)]
    split <;> rfl
theorem mDrawn (hT : WT T) (hD : WD T D B) (hB : B ≤ 900000) (hE : EM (M 146) T D) {x0 : Int64} (h1 : 0 ≤ x0.toInt) (h2 : x0.toInt < 2147483647) {n : Nat} (hn : n ≤ 40) (w : Int32) : ∃ M', iter (fun rec a => f_X9_drawn_55 (nI n) w rec a.1 a.2.1 a.2.2.1 a.2.2.2.1 a.2.2.2.2) fuel (M, x0, (0 : Int32), (0 : Int32), (0 : Int32)) = some ((if w = (0 : Int32) then (dw T D x0 n).2.1 else (dw T D x0 n).2.2), M') ∧ fr M M' := by
  have h6 := hT.2.1
  have hF64 := wd_F hT hD
  have key := iter_inv (F := fun rec a => f_X9_drawn_55 (nI n) w rec a.1 a.2.1 a.2.2.1 a.2.2.2.1 a.2.2.2.2) (fun k a => a.2 = ((dw T D x0 k).1, (dw T D x0 k).2.1, (dw T D x0 k).2.2, nI k) ∧ fr M a.1) n (fun z => z.1 = (if w = (0 : Int32) then (dw T D x0 n).2.1 else (dw T D x0 n).2.2) ∧ fr M z.2) (fun k a hk hI => ?_) (fun a hI => ?_) fuel 0 (M, x0, (0 : Int32), (0 : Int32), (0 : Int32)) (by omega) (by rw [fuel_eq]; omega) ⟨rfl, fr_refl M⟩
  · obtain ⟨⟨r, M'⟩, ⟨er, f1⟩, e1⟩ := key
    have er : r = (if w = (0 : Int32) then (dw T D x0 n).2.1 else (dw T D x0 n).2.2) := er
    rw [er] at e1
    exact ⟨M', e1, f1⟩
  · obtain ⟨Mk, aj⟩ := a
    obtain ⟨ea, fk⟩ := hI
    have ea : aj = ((dw T D x0 k).1, (dw T D x0 k).2.1, (dw T D x0 k).2.2, nI k) := ea
    subst ea
    have fk : fr M Mk := fk
    obtain ⟨a1, a2⟩ := dw_in (T := T) (D := D) h1 h2 k
    obtain ⟨x, ex⟩ : ∃ x, x = ((dw T D x0 k).1 * (16807 : Int64)) - ((dw T D x0 k).1 * (16807 : Int64)) / (2147483647 : Int64) * (2147483647 : Int64) := ⟨_, rfl⟩
    have hx : 0 ≤ x.toInt := by rw [ex]; exact (i64_nx a1 a2).1
    have hEk : EM (Mk 146) T D := by rw [fr_at fk (by omega)]; exact hE
    obtain ⟨g, t1, hg⟩ := mTri hT hEk
    have hD2 := str_WD hT hD x
    have hp := wd_F hT (arr_WD hT hD2 (by omega))
    -- behind the draw
    have e156 : ∀ g2 : Nat → Int32, EM g2 T (strD T D x) → ∃ g3, ∀ rec, f_X9_drawn_156 rec (stA Mk 148 g2) (nI n) w x (dw T D x0 k).2.1 (dw T D x0 k).2.2 (nI k) = rec (stA Mk 148 g3, (dw T D x0 (k + 1)).1, (dw T D x0 (k + 1)).2.1, (dw T D x0 (k + 1)).2.2, nI (k + 1)) := by
      intro g2 hg2
      obtain ⟨g3, t3, hg3⟩ := mEnds (M := Mk) hT hg2 hD2 (by omega)
      refine ⟨g3, fun rec => ?_⟩
      unfold f_X9_drawn_156
      rw [dw_s x0 k ex, t3, bdE, b_ones _ hp, bdE, nmE]
      by_cases z : nI (pc (DF (arr T (strD T D x)))) ≤ (0 : Int32)
      · rw [if_pos z, if_pos z, nmE, nmE, nI_sc]
      · rw [if_neg z, if_neg z, nmE, nmE, nI_sc]
    have e55 : ∃ g3, ∀ rec, f_X9_drawn_55 (nI n) w rec Mk (dw T D x0 k).1 (dw T D x0 k).2.1 (dw T D x0 k).2.2 (nI k) = rec (stA Mk 148 g3, (dw T D x0 (k + 1)).1, (dw T D x0 (k + 1)).2.1, (dw T D x0 (k + 1)).2.2, nI (k + 1)) := by
      have e5 : stA Mk 148 g 146 5 = nI (Tnb T) := by rw [stA_ne (by decide)]; exact em_nb hEk
      have hEg : EM ((stA Mk 148 g) 148) T D := by rw [stA_i]; exact hg
      have st55 : ∀ rec, f_X9_drawn_55 (nI n) w rec Mk (dw T D x0 k).1 (dw T D x0 k).2.1 (dw T D x0 k).2.2 (nI k) = (if nI (Tnb T) ≤ (0 : Int32) then f_X9_drawn_156 rec (stA Mk 148 g) (nI n) w x (dw T D x0 k).2.1 (dw T D x0 k).2.2 (nI k) else (chk (decide (¬ (nI (Tnb T)).toInt64 = 0)) <|
          nm ((x - x / (nI (Tnb T)).toInt64 * (nI (Tnb T)).toInt64).toInt32) fun x9 =>
          if (lg_cmp (x - x / (3 : Int64) * (3 : Int64)) (0 : Int64)) = (0 : Int32) then (
            (f_X9_flies (stA Mk 148 g) 148 x9).bind fun q116 =>
            if q116 = true then (
              (f_X9_turns (stA Mk 148 g) 148 ((1 : Int32) <<< (x9 &&& 31))).bind fun q130 =>
              f_X9_drawn_156 rec q130 (nI n) w x (dw T D x0 k).2.1 (dw T D x0 k).2.2 (nI k)
            ) else (
              f_X9_drawn_136 rec (stA Mk 148 g) (nI n) w x (dw T D x0 k).2.1 (dw T D x0 k).2.2 (nI k) x9
            )
          ) else (
            f_X9_drawn_136 rec (stA Mk 148 g) (nI n) w x (dw T D x0 k).2.1 (dw T D x0 k).2.2 (nI k) x9
          ))) := by
        intro rec
        unfold f_X9_drawn_55
        rw [if_neg (by rw [nI_leI (by omega) (by omega)]; omega), ← ex, nmE, t1, bdE, e5]
      by_cases q : Tnb T = 0
      · obtain ⟨g3, e3⟩ := e156 g (by rw [show strD T D x = D from if_pos q]; exact hg)
        refine ⟨g3, fun rec => ?_⟩
        rw [st55, q, if_pos (show nI 0 ≤ (0 : Int32) by decide)]
        exact e3 rec
      · obtain ⟨eb, e0⟩ := bN_eq hT hx (show 0 < Tnb T by omega)
        have hb : bN T x < Tnb T := bN_lt (by omega)
        have hfl := mFl hT hEg hD.1 (show bN T x < 64 by omega)
        have es : strD T D x = (if lg_cmp (x - x / (3 : Int64) * (3 : Int64)) (0 : Int64) = (0 : Int32) ∧ (DF D).testBit (bN T x) = true then (Dst D, (tbk (DF D, Dtu D) (2 ^ bN T x)).1, DK D, (tbk (DF D, Dtu D) (2 ^ bN T x)).2, Dth D, Dln D) else if lg_cmp (x - x / (3 : Int64) * (3 : Int64)) (1 : Int64) = (0 : Int32) then eatD T D (bN T x) else D) := if_neg q
        have c1 : ¬ nI (Tnb T) ≤ (0 : Int32) := nI_nle (by omega) (by omega)
        have h136 : ¬ (lg_cmp (x - x / (3 : Int64) * (3 : Int64)) (0 : Int64) = (0 : Int32) ∧ (DF D).testBit (bN T x) = true) → ∃ g3, ∀ rec, f_X9_drawn_136 rec (stA Mk 148 g) (nI n) w x (dw T D x0 k).2.1 (dw T D x0 k).2.2 (nI k) (nI (bN T x)) = rec (stA Mk 148 g3, (dw T D x0 (k + 1)).1, (dw T D x0 (k + 1)).2.1, (dw T D x0 (k + 1)).2.2, nI (k + 1)) := by
          intro hn1
          rw [if_neg hn1] at es
          by_cases q2 : lg_cmp (x - x / (3 : Int64) * (3 : Int64)) (1 : Int64) = (0 : Int32)
          · rw [if_pos q2] at es
            obtain ⟨g2, t2, hg2⟩ := mEat (M := Mk) (i := 148) hT hg hb
            obtain ⟨g3, e3⟩ := e156 g2 (by rw [es]; exact hg2)
            refine ⟨g3, fun rec => ?_⟩
            unfold f_X9_drawn_136
            rw [if_pos q2, t2, bdE]
            exact e3 rec
          · rw [if_neg q2] at es
            obtain ⟨g3, e3⟩ := e156 g (by rw [es]; exact hg)
            refine ⟨g3, fun rec => ?_⟩
            unfold f_X9_drawn_136
            rw [if_neg q2]
            exact e3 rec
        by_cases q1 : lg_cmp (x - x / (3 : Int64) * (3 : Int64)) (0 : Int64) = (0 : Int32)
        · by_cases q2 : (DF D).testBit (bN T x) = true
          · rw [if_pos ⟨q1, q2⟩] at es
            obtain ⟨g4, t4, hg4⟩ := mTurn (M := stA Mk 148 g) (i := 148) (s := Dst D) (a := (DF D, Dtu D)) (K := DK D) (th := Dth D) (ln := Dln D) hT (by rw [stA_i]; exact hg) (pow_b64 hT hb)
            rw [stA_stA] at t4
            obtain ⟨g3, e3⟩ := e156 g4 (by rw [es]; exact hg4)
            refine ⟨g3, fun rec => ?_⟩
            rw [st55, if_neg c1, chk_t (by simpa using e0), eb, nmE, if_pos q1, hfl, bdE, if_pos q2, b_sh _ (by omega), t4, bdE]
            exact e3 rec
          · obtain ⟨g3, e3⟩ := h136 (fun z => q2 z.2)
            refine ⟨g3, fun rec => ?_⟩
            rw [st55, if_neg c1, chk_t (by simpa using e0), eb, nmE, if_pos q1, hfl, bdE, if_neg q2]
            exact e3 rec
        · obtain ⟨g3, e3⟩ := h136 (fun z => q1 z.1)
          refine ⟨g3, fun rec => ?_⟩
          rw [st55, if_neg c1, chk_t (by simpa using e0), eb, nmE, if_neg q1]
          exact e3 rec
    obtain ⟨g3, e3⟩ := e55
    left
    exact ⟨(stA Mk 148 g3, (dw T D x0 (k + 1)).1, (dw T D x0 (k + 1)).2.1, (dw T D x0 (k + 1)).2.2, nI (k + 1)), ⟨rfl, fr_trans fk (fr_stA (by unfold Jk; omega))⟩, e3⟩
  · obtain ⟨Mk, aj⟩ := a
    obtain ⟨ea, fk⟩ := hI
    have ea : aj = ((dw T D x0 n).1, (dw T D x0 n).2.1, (dw T D x0 n).2.2, nI n) := ea
    subst ea
    refine ⟨((if w = (0 : Int32) then (dw T D x0 n).2.1 else (dw T D x0 n).2.2), Mk), ⟨rfl, fk⟩, fun rec => ?_⟩
    show f_X9_drawn_55 (nI n) w rec Mk (dw T D x0 n).1 (dw T D x0 n).2.1 (dw T D x0 n).2.2 (nI n) = _
    unfold f_X9_drawn_55
    rw [if_pos (by rw [nI_leI (by omega) (by omega)]; omega)]
    split <;> rfl
end DW
section DW2
variable {B : Nat} {M : Mem}
theorem ok_drawn (hR : Rel B M) (hB : B ≤ 900000) (x s w : Int32) : Ok2 B M (fun M => f_X8_drawn M x s w) (fun M => f_X9_drawn M x s w) := by
  obtain ⟨T, D, n, P, hT, hD, hn, hP, hE, hEm, hC, hM⟩ := hR.2
  have e1 : (1 : Int32).toInt = 1 := rfl
  have e9 : (999999 : Int32).toInt = 999999 := by decide
  by_cases q : 0 < Tnv T
  · by_cases qx : f_X9_in x 0 40 = true
    · by_cases qs : f_X9_in s 1 999999 = true
      · have qs2 := in_iff.mp qs
        have s1 : ¬ s < (1 : Int32) := by rw [i_lt]; omega
        have s2 : ¬ (999999 : Int32) < s := by rw [i_lt]; omega
        by_cases qw : f_X9_in w 0 1 = true
        · obtain ⟨k, hk, rfl⟩ := (within_iff (n := 40) (by decide)).mp qx
          have hs1 : 0 ≤ s.toInt64.toInt := by rw [Int32.toInt_toInt64]; omega
          have hs2 : s.toInt64.toInt < 2147483647 := by rw [Int32.toInt_toInt64]; omega
          obtain ⟨M1, t1, f1⟩ := cDrawn hT hD hB hE hs1 hs2 (show k ≤ 40 by omega) w
          have hEm1 : EM (M1 146) T D := by rw [fr_at f1 (by omega)]; exact hEm
          obtain ⟨M2, t2, f2⟩ := mDrawn hT hD hB hEm1 hs1 hs2 (show k ≤ 40 by omega) w
          refine ok_q hR (r := (if w = (0 : Int32) then (dw T D s.toInt64 k).2.1 else (dw T D s.toInt64 k).2.2)) (M1 := M1) (M2 := M2) ?_ f1 ?_ f2
          · show f_X8_drawn M (nI k) s w = _
            unfold f_X8_drawn
            rw [if_pos ((isT_iff hT hE).mpr q), in_8, if_pos qx, if_neg s1, if_neg s2, in_8, if_pos qw, nmE]
            exact t1
          · show f_X9_drawn M1 (nI k) s w = _
            unfold f_X9_drawn
            rw [if_pos ((isF_iff hEm1).mpr q), if_pos qx, if_pos qs, if_pos qw, nmE]
            exact t2
        · refine act_no hR (r := -1000001) ?_ ?_
          · unfold f_X8_drawn
            rw [if_pos ((isT_iff hT hE).mpr q), in_8, if_pos qx, if_neg s1, if_neg s2, in_8, if_neg qw]
          · unfold f_X9_drawn
            rw [if_pos ((isF_iff hEm).mpr q), if_pos qx, if_pos qs, if_neg qw]
      · refine act_no hR (r := -1000001) ?_ ?_
        · unfold f_X8_drawn
          rw [if_pos ((isT_iff hT hE).mpr q), in_8, if_pos qx]
          by_cases s1 : s < (1 : Int32)
          · rw [if_pos s1]
          · rw [if_neg s1]
            by_cases s2 : (999999 : Int32) < s
            · rw [if_pos s2]
            · exfalso
              apply qs
              rw [in_iff]
              rw [i_lt] at s1 s2
              omega
        · unfold f_X9_drawn
          rw [if_pos ((isF_iff hEm).mpr q), if_pos qx, if_neg qs]
    · refine act_no hR (r := -1000001) ?_ ?_
      · unfold f_X8_drawn
        rw [if_pos ((isT_iff hT hE).mpr q), in_8, if_neg qx]
      · unfold f_X9_drawn
        rw [if_pos ((isF_iff hEm).mpr q), if_neg qx]
  · refine act_no hR (r := -1000002) ?_ ?_
    · unfold f_X8_drawn
      rw [if_neg (fun h => q ((isT_iff hT hE).mp h))]
    · unfold f_X9_drawn
      rw [if_neg (fun h => q ((isF_iff hEm).mp h))]
end DW2
