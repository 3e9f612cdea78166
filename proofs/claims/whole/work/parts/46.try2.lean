/-! MEAL, CATCHES, BELOVED, AS -/
section T2
variable {B : Nat} {M : Mem}
def ml (T : TT) (D : DD) : Nat → Int32 × Int32
  | 0 => (-1000000, -1000000)
  | b + 1 => if (DF D).testBit b = true then (if nI (pc (DF (arr T (eatD T D b)))) ≤ (ml T D b).2 then ml T D b else (nI b, nI (pc (DF (arr T (eatD T D b)))))) else ml T D b
theorem ml_lo (T : TT) (D : DD) (hx : ∀ b, pc (DF (arr T (eatD T D b))) < 1000) : ∀ b, (-1000000 : Int32) ≤ (ml T D b).2
  | 0 => by show (-1000000 : Int32) ≤ -1000000; decide
  | b + 1 => by
    have ih := ml_lo T D hx b
    unfold ml
    split
    · split
      · exact ih
      · show (-1000000 : Int32) ≤ nI _
        rw [i_le]
        have e : (-1000000 : Int32).toInt = -1000000 := by decide
        have := hx b
        rw [e, ti (by omega)]
        omega
    · exact ih
theorem ok_meal (hR : Rel B M) (hB : B ≤ 900000) (x : Int32) : Ok2 B M (fun M => f_X8_meal M x) (fun M => f_X9_meal M x) := by
  obtain ⟨T, D, n, P, hT, hD, hn, hP, hE, hEm, hC, hM⟩ := hR.2
  have h6 := hT.2.1
  have hF64 := wd_F hT hD
  by_cases q : 0 < Tnv T
  · by_cases qx : f_X9_in x 0 1 = true
    · have hDe : ∀ b, WD T (arr T (eatD T D b)) (B + 30) := fun b => arr_WD hT (eat_WD hT hD b) (by omega)
      have hp : ∀ b, DF (arr T (eatD T D b)) < 64 := fun b => wd_F hT (hDe b)
      have hpc : ∀ b, pc (DF (arr T (eatD T D b))) ≤ 6 := fun b => pc_le _ (hp b)
      have hlo := ml_lo T D (fun b => by have := hpc b; omega)
      have key := iter_inv (F := fun rec a => f_X8_meal_33 x rec a.1 a.2.1 a.2.2.1 a.2.2.2) (fun j a => a.2 = ((ml T D j).1, (ml T D j).2, nI j) ∧ fr M a.1) (Tnb T) (fun z => z.1 = (if x = 0 then (ml T D (Tnb T)).1 else (ml T D (Tnb T)).2) ∧ fr M z.2) (fun j a hj hI => ?_) (fun a hI => ?_) fuel 0 (M, (-1000000 : Int32), (-1000000 : Int32), nI 0) (by omega) (by rw [fuel_eq]; omega) ⟨rfl, fr_refl M⟩
      · obtain ⟨⟨r, M1⟩, ⟨er, f12⟩, e1⟩ := key
        have er : r = (if x = 0 then (ml T D (Tnb T)).1 else (ml T D (Tnb T)).2) := er
        have f12 : fr M M1 := f12
        have hEm1 : EM (M1 146) T D := by rw [fr_at f12 (by omega)]; exact hEm
        have key2 := iter_inv (F := fun rec a => f_X9_meal_31 x rec a.1 a.2.1 a.2.2.1 a.2.2.2) (fun j a => a.2 = ((ml T D j).1, (ml T D j).2, nI j) ∧ fr M1 a.1) (Tnb T) (fun z => z.1 = (if x = 0 then (ml T D (Tnb T)).1 else (ml T D (Tnb T)).2) ∧ fr M1 z.2) (fun j a hj hI => ?_) (fun a hI => ?_) fuel 0 (M1, (-1000000 : Int32), (-1000000 : Int32), nI 0) (by omega) (by rw [fuel_eq]; omega) ⟨rfl, fr_refl M1⟩
        · obtain ⟨⟨r2, M2⟩, ⟨er2, f22⟩, e2⟩ := key2
          have er2 : r2 = (if x = 0 then (ml T D (Tnb T)).1 else (ml T D (Tnb T)).2) := er2
          refine ok_q hR (r := r) (M1 := M1) (M2 := M2) ?_ f12 ?_ f22
          · show f_X8_meal M x = _
            unfold f_X8_meal
            rw [if_pos ((isT_iff hT hE).mpr q), in_8, if_pos qx]
            exact e1
          · show f_X9_meal M1 x = _
            unfold f_X9_meal
            rw [if_pos ((isF_iff hEm1).mpr q), if_pos qx, er, ← er2]
            exact e2
        · obtain ⟨Mj, aj⟩ := a
          obtain ⟨ea, fj⟩ := hI
          have ea : aj = ((ml T D j).1, (ml T D j).2, nI j) := ea
          subst ea
          have fj : fr M1 Mj := fj
          have hEj : EM (Mj 146) T D := by rw [fr_at fj (by omega)]; exact hEm1
          obtain ⟨g, t1, hg⟩ := mTri hT hEj
          obtain ⟨g2, t2, hg2⟩ := mEat (M := Mj) (i := 148) hT hg hj
          have hE2 : EM ((stA Mj 148 g2) 146) T D := by rw [stA_ne (by decide)]; exact hEj
          have t3 := mFl hT hE2 hD.1 (show j < 64 by omega)
          left
          have hml : ml T D (j + 1) = if (DF D).testBit j = true then (if nI (pc (DF (arr T (eatD T D j)))) ≤ (ml T D j).2 then ml T D j else (nI j, nI (pc (DF (arr T (eatD T D j)))))) else ml T D j := rfl
          by_cases z : (DF D).testBit j = true
          · obtain ⟨g3, t4, hg3⟩ := mEnds (M := Mj) hT hg2 (eat_WD hT hD j) (by omega)
            refine ⟨(stA Mj 148 g3, (ml T D (j + 1)).1, (ml T D (j + 1)).2, nI (j + 1)), ⟨rfl, fr_trans fj (fr_stA (by unfold Jk; omega))⟩, fun rec => ?_⟩
            show f_X9_meal_31 x rec Mj (ml T D j).1 (ml T D j).2 (nI j) = _
            unfold f_X9_meal_31
            rw [em_nb hEj, if_neg (by rw [nI_leI (by omega) (by omega)]; omega), t1, bdE, t2, bdE, t3, bdE, if_pos z, t4, bdE, b_ones _ (hp j), bdE, hml, if_pos z]
            unfold f_X9_meal_79 f_X9_meal_93
            by_cases z2 : nI (pc (DF (arr T (eatD T D j)))) ≤ (ml T D j).2
            · simp only [if_pos z2, nm, nI_sc]
            · simp only [if_neg z2, nm, nI_sc]
          · refine ⟨(stA Mj 148 g2, (ml T D (j + 1)).1, (ml T D (j + 1)).2, nI (j + 1)), ⟨rfl, fr_trans fj (fr_stA (by unfold Jk; omega))⟩, fun rec => ?_⟩
            show f_X9_meal_31 x rec Mj (ml T D j).1 (ml T D j).2 (nI j) = _
            unfold f_X9_meal_31
            rw [em_nb hEj, if_neg (by rw [nI_leI (by omega) (by omega)]; omega), t1, bdE, t2, bdE, t3, bdE, if_neg z, hml, if_neg z]
            unfold f_X9_meal_79 f_X9_meal_93
            simp only [if_pos (hlo j), nm, nI_sc]
        · obtain ⟨Mj, aj⟩ := a
          obtain ⟨ea, fj⟩ := hI
          have ea : aj = ((ml T D (Tnb T)).1, (ml T D (Tnb T)).2, nI (Tnb T)) := ea
          subst ea
          have fj : fr M1 Mj := fj
          have hEj : EM (Mj 146) T D := by rw [fr_at fj (by omega)]; exact hEm1
          refine ⟨(if x = 0 then (ml T D (Tnb T)).1 else (ml T D (Tnb T)).2, Mj), ⟨rfl, fj⟩, fun rec => ?_⟩
          show f_X9_meal_31 x rec Mj (ml T D (Tnb T)).1 (ml T D (Tnb T)).2 (nI (Tnb T)) = _
          unfold f_X9_meal_31
          rw [em_nb hEj, if_pos (by rw [nI_leI (by omega) (by omega)]; omega)]
          split <;> rfl
      · obtain ⟨Mj, aj⟩ := a
        obtain ⟨ea, fj⟩ := hI
        have ea : aj = ((ml T D j).1, (ml T D j).2, nI j) := ea
        subst ea
        have fj : fr M Mj := fj
        have hEj : EC Mj 4 T D := fr_EC fj (by omega) hE
        have hnb : Mj 5 2 = nI (Tnb T) := ec_nb hEj
        have hfl : f_X3_flies Mj 11 (nI j) = (DF D).testBit j := cFl (ec_F hEj) hF64 (by omega)
        left
        have hml : ml T D (j + 1) = if (DF D).testBit j = true then (if nI (pc (DF (arr T (eatD T D j)))) ≤ (ml T D j).2 then ml T D j else (nI j, nI (pc (DF (arr T (eatD T D j)))))) else ml T D j := rfl
        by_cases z : (DF D).testBit j = true
        · obtain ⟨hE1, f1⟩ := cTri hT hEj
          obtain ⟨e2, hE2⟩ := cStr hT hE1 hj
          obtain ⟨M3, e3, hE3, f3⟩ := cArr hT hE2 (eat_WD hT hD j) (by omega)
          refine ⟨(M3, (ml T D (j + 1)).1, (ml T D (j + 1)).2, nI (j + 1)), ⟨rfl, fr_trans fj (fr_trans f1 (fr_trans (fr_st (by unfold Jk; omega)) (fr_14 f3)))⟩, fun rec => ?_⟩
          show f_X8_meal_33 x rec Mj (ml T D j).1 (ml T D j).2 (nI j) = _
          unfold f_X8_meal_33
          rw [hnb, if_neg (by rw [nI_leI (by omega) (by omega)]; omega), hfl, if_pos z, nmE, e2, bdE, e3, bdE, b_pc _ (hp j), nmE, hml, if_pos z]
          by_cases z2 : nI (pc (DF (arr T (eatD T D j)))) ≤ (ml T D j).2
          · simp only [if_pos z2, nm, nI_sc]
          · simp only [if_neg z2, nm, nI_sc]
        · refine ⟨(Mj, (ml T D (j + 1)).1, (ml T D (j + 1)).2, nI (j + 1)), ⟨rfl, fj⟩, fun rec => ?_⟩
          show f_X8_meal_33 x rec Mj (ml T D j).1 (ml T D j).2 (nI j) = _
          unfold f_X8_meal_33
          rw [hnb, if_neg (by rw [nI_leI (by omega) (by omega)]; omega), hfl, if_neg z, nmE, nI_sc, hml, if_neg z]
      · obtain ⟨Mj, aj⟩ := a
        obtain ⟨ea, fj⟩ := hI
        have ea : aj = ((ml T D (Tnb T)).1, (ml T D (Tnb T)).2, nI (Tnb T)) := ea
        subst ea
        have fj : fr M Mj := fj
        have hEj : EC Mj 4 T D := fr_EC fj (by omega) hE
        have hnb : Mj 5 2 = nI (Tnb T) := ec_nb hEj
        refine ⟨(if x = 0 then (ml T D (Tnb T)).1 else (ml T D (Tnb T)).2, Mj), ⟨rfl, fj⟩, fun rec => ?_⟩
        show f_X8_meal_33 x rec Mj (ml T D (Tnb T)).1 (ml T D (Tnb T)).2 (nI (Tnb T)) = _
        unfold f_X8_meal_33
        rw [hnb, if_pos (by rw [nI_leI (by omega) (by omega)]; omega)]
        split <;> rfl
    · refine act_no hR (r := -1000001) ?_ ?_
      · unfold f_X8_meal
        rw [if_pos ((isT_iff hT hE).mpr q), in_8, if_neg qx]
      · unfold f_X9_meal
        rw [if_pos ((isF_iff hEm).mpr q), if_neg qx]
  · refine act_no hR (r := -1000002) ?_ ?_
    · unfold f_X8_meal
      rw [if_neg (fun h => q ((isT_iff hT hE).mp h))]
    · unfold f_X9_meal
      rw [if_neg (fun h => q ((isF_iff hEm).mp h))]
theorem ok_catches (hR : Rel B M) (hB : B ≤ 900000) (x : Int32) : Ok2 B M (fun M => f_X8_catches M x) (fun M => f_X9_catches M x) := by
  obtain ⟨T, D, n, P, hT, hD, hn, hP, hE, hEm, hC, hM⟩ := hR.2
  have h6 := hT.2.1
  have hF64 := wd_F hT hD
  by_cases q : inB (Tnb T) x
  · obtain ⟨b, hb, rfl⟩ := q
    have hbB : inB (Tnb T) (nI b) := ⟨b, hb, rfl⟩
    have hcf : f_X3_flies M 11 (nI b) = (DF D).testBit b := cFl (ec_F hE) hF64 (by omega)
    have hb64 : 2 ^ b < 64 := Nat.lt_of_lt_of_le (pow_in hb) (pow_64 h6)
    by_cases qf : (DF D).testBit b = true
    · have hD2 : WD T (Dst D, (tbk (DF D, Dtu D) (2 ^ b)).1, DK D, (tbk (DF D, Dtu D) (2 ^ b)).2, Dth D, Dln D) (B + 6) := ⟨and_lt hD.1, hD.2.1, hD.2.2.1, by
        have h1 : Dtu D ≤ B := hD.2.2.2.1
        have h2 := pc_le _ hb64
        show Dtu D + pc (2 ^ b) ≤ B + 6
        omega, hD.2.2.2.2⟩
      obtain ⟨D2, eD2⟩ : ∃ y : DD, y = (Dst D, (tbk (DF D, Dtu D) (2 ^ b)).1, DK D, (tbk (DF D, Dtu D) (2 ^ b)).2, Dth D, Dln D) := ⟨_, rfl⟩
      rw [← eD2] at hD2
      have hA1 := wd_F hT (arr_WD hT hD (by omega))
      have hA2 := wd_F hT (arr_WD hT hD2 (by omega))
      have l1 : (DF (arr T D)) &&& (63 ^^^ 2 ^ b) < 64 := Nat.lt_of_le_of_lt Nat.and_le_left hA1
      have l2 : (DF (arr T D2)) &&& (63 ^^^ 2 ^ b) < 64 := Nat.lt_of_le_of_lt Nat.and_le_left hA2
      obtain ⟨hE1, f1⟩ := cTri hT hE
      obtain ⟨M1, e1, _, f2⟩ := cArr hT hE1 hD (by omega)
      have f12 : fr M M1 := fr_trans f1 (fr_14 f2)
      obtain ⟨hE3, f3⟩ := cTri hT (fr_EC f12 (by omega) hE)
      obtain ⟨M4, e4, hE4, f4⟩ := cTurn hE3 hF64 hb64
      rw [← eD2] at hE4
      obtain ⟨M5, e5, _, f5⟩ := cArr hT hE4 hD2 (by omega)
      have f15 : fr M M5 := fr_trans f12 (fr_trans f3 (fr_trans (fun a ha => f4 a (fun z => ha (by unfold Jk; omega))) (fr_14 f5)))
      have hEm1 : EM (M5 146) T D := by rw [fr_at f15 (by omega)]; exact hEm
      obtain ⟨g, t1, hg⟩ := mTri hT hEm1
      obtain ⟨g2, t2, hg2⟩ := mEnds (M := M5) hT hg hD (by omega)
      obtain ⟨g3, t3, hg3⟩ := mTri (M := stA M5 148 g2) hT (by rw [stA_ne (by decide)]; exact hEm1)
      rw [stA_stA] at t3
      obtain ⟨g4, t4, hg4⟩ := mTurn (M := stA M5 148 g3) (i := 148) (s := Dst D) (a := (DF D, Dtu D)) (K := DK D) (th := Dth D) (ln := Dln D) hT (by rw [stA_i]; exact hg3) hb64
      rw [stA_stA] at t4
      rw [← eD2] at hg4
      obtain ⟨g5, t5, hg5⟩ := mEnds (M := M5) hT hg4 hD2 (by omega)
      refine ok_q hR (r := nI (pc (DF (arr T D) &&& (63 ^^^ 2 ^ b))) - nI (pc (DF (arr T D2) &&& (63 ^^^ 2 ^ b)))) (M1 := M5) (M2 := stA M5 148 g5) ?_ f15 ?_ (fr_stA (by unfold Jk; omega))
      · show f_X8_catches M (nI b) = _
        unfold f_X8_catches
        rw [if_pos ((isB_iff hT hE).mpr hbB), hcf, if_pos qf, b_sh b (by omega), nmE, nmE, e1, bdE, b_andn _ hA1 _ hb64, b_pc _ l1, nmE, nmE]
        rw [e4, nmE, e5, bdE, b_andn _ hA2 _ hb64, b_pc _ l2]
      · show f_X9_catches M5 (nI b) = _
        unfold f_X9_catches
        rw [if_pos ((isBm_iff hT hEm1).mpr hbB), mFl hT hEm1 hD.1 (by omega), bdE, if_pos qf, b_sh b (by omega), nmE, t1, bdE, t2, bdE, b_andn _ hA1 _ hb64, b_ones _ l1, bdE, t3, bdE, t4, bdE, t5, bdE, b_andn _ hA2 _ hb64, b_ones _ l2, bdE]
    · refine act_no hR (r := -1000002) ?_ ?_
      · unfold f_X8_catches
        rw [if_pos ((isB_iff hT hE).mpr hbB), hcf, if_neg qf]
      · unfold f_X9_catches
        rw [if_pos ((isBm_iff hT hEm).mpr hbB), mFl hT hEm hD.1 (by omega), bdE, if_neg qf]
  · refine act_no hR (r := -1000001) ?_ ?_
    · unfold f_X8_catches
      rw [if_neg (fun h => q ((isB_iff hT hE).mp h))]
    · unfold f_X9_catches
      rw [if_neg (fun h => q ((isBm_iff hT hEm).mp h))]
end T2
