section KP2
variable {B : Nat} {M : Mem}
theorem vv_ne {o : Option Nat} (h : ∀ t, o = some t → t < 64) (hs : o ≠ none) : ∃ t, t < 64 ∧ vv o = nI t ∧ ¬ vv o = -1000000 := by
  cases o with
  | none => exact absurd rfl hs
  | some t =>
    have ht := h t rfl
    refine ⟨t, ht, rfl, ?_⟩
    show ¬ nI t = -1000000
    rw [i_eq, ti (by omega)]
    have : (-1000000 : Int32).toInt = -1000000 := by decide
    omega
theorem fw_some {T : TT} {D : DD} (hT : WT T) (hD : WD T D B) : fw (los D) (pk T D (nI (pc (DF D)))) (los D + 1) ≠ none := by
  have hF64 := wd_F hT hD
  have hL64 : los D < 64 := Nat.lt_of_lt_of_le (los_lt hD) (pow_64 hT.2.1)
  have hk : ∀ b, (DF D).testBit b = true → (DK D ||| los D).testBit b = true := by
    intro b hb
    rw [Nat.testBit_or]
    unfold los
    rw [tb_andn, hb]
    have hb6 : b < 6 := by
      rcases Nat.lt_or_ge b 6 with z | z
      · exact z
      · rw [tb_lt (n := 6) hF64 z] at hb; cases hb
    cases (DK D).testBit b <;> simp [hb6]
  have hA : DF (arr T (kpD D (los D))) = DF D := kept_arr 5 (kpD D (los D)) hF64 hk
  have hp : pk T D (nI (pc (DF D))) (los D) = true := by
    unfold pk
    rw [hA]
    have : ¬ nI (pc (DF D)) < nI (pc (DF D)) := by rw [i_lt]; omega
    simp [this]
  intro h
  have e : fw (los D) (pk T D (nI (pc (DF D)))) (los D + 1) = if (decide (los D &&& (63 ^^^ los D) = 0) && decide (pc (los D) < cc (fw (los D) (pk T D (nI (pc (DF D)))) (los D))) && pk T D (nI (pc (DF D))) (los D)) = true then some (los D) else fw (los D) (pk T D (nI (pc (DF D)))) (los D) := rfl
  rw [e] at h
  split at h
  · cases h
  · rename_i z
    apply z
    rw [h, hp]
    have h1 := sub_self (los D) hL64
    have h2 := pc_le (los D) hL64
    have h3 : pc (los D) < cc none := by show pc (los D) < 7; omega
    simp [h1, h3]
theorem ok_toKeep (hR : Rel B M) (hB : B ≤ 900000) (x : Int32) : Ok2 B M (fun M => f_X8_toKeep M x) (fun M => f_X9_toKeep M x) := by
  obtain ⟨T, D, n, P, hT, hD, hn, hP, hE, hEm, hC, hM⟩ := hR.2
  have hF64 := wd_F hT hD
  by_cases q : 0 < Tnv T
  · by_cases qx : f_X9_in x 0 1 = true
    · have k1 : M 11 0 = nI (DF D) := ec_F hE
      obtain ⟨M1, e1, f1⟩ := cFew hT hD hB hE (nI (pc (DF D)))
      have hEm1 : EM (M1 146) T D := by rw [fr_at f1 (by omega)]; exact hEm
      obtain ⟨M2, e2, f2⟩ := mFew hT hD hB hEm1 (nI (pc (DF D)))
      have hL64 : los D < 64 := Nat.lt_of_lt_of_le (los_lt hD) (pow_64 hT.2.1)
      obtain ⟨t, ht, ev, ne⟩ := vv_ne (fun t h => by have := fw_lt _ _ _ _ h; omega) (fw_some hT hD)
      by_cases q1 : x = 1
      · refine ok_q hR (r := vv (fw (los D) (pk T D (nI (pc (DF D)))) (los D + 1))) (M1 := M1) (M2 := M2) ?_ f1 ?_ f2
        · show f_X8_toKeep M x = _
          unfold f_X8_toKeep f_X8_toldOfSet
          rw [if_pos ((isT_iff hT hE).mpr q), in_8, if_pos qx, k1, b_pc _ hF64, nmE, e1, bdE, if_neg ne, if_pos q1]
        · show f_X9_toKeep M1 x = _
          unfold f_X9_toKeep
          rw [if_pos ((isF_iff hEm1).mpr q), if_pos qx, mFly hT hEm1 hD.1, bdE, b_ones _ hF64, bdE, e2, bdE, if_pos q1]
      · refine ok_q hR (r := nI (pc t)) (M1 := M1) (M2 := M2) ?_ f1 ?_ f2
        · show f_X8_toKeep M x = _
          unfold f_X8_toKeep f_X8_toldOfSet
          rw [if_pos ((isT_iff hT hE).mpr q), in_8, if_pos qx, k1, b_pc _ hF64, nmE, e1, bdE, if_neg ne, if_neg q1, ev, b_pc _ ht]
        · show f_X9_toKeep M1 x = _
          unfold f_X9_toKeep
          rw [if_pos ((isF_iff hEm1).mpr q), if_pos qx, mFly hT hEm1 hD.1, bdE, b_ones _ hF64, bdE, e2, bdE, if_neg q1, ev, b_ones _ ht, bdE]
    · refine act_no hR (r := -1000001) ?_ ?_
      · unfold f_X8_toKeep
        rw [if_pos ((isT_iff hT hE).mpr q), in_8, if_neg qx]
      · unfold f_X9_toKeep
        rw [if_pos ((isF_iff hEm).mpr q), if_neg qx]
  · refine act_no hR (r := -1000002) ?_ ?_
    · unfold f_X8_toKeep
      rw [if_neg (fun h => q ((isT_iff hT hE).mp h))]
    · unfold f_X9_toKeep
      rw [if_neg (fun h => q ((isF_iff hEm).mp h))]
theorem ok_whole (hR : Rel B M) (hB : B ≤ 900000) (x y : Int32) : Ok2 B M (fun M => f_X8_whole M x y) (fun M => f_X9_whole M x y) := by
  obtain ⟨T, D, n, P, hT, hD, hn, hP, hE, hEm, hC, hM⟩ := hR.2
  by_cases q : 0 < Tnv T
  · by_cases qx : f_X9_in x 0 6 = true
    · by_cases qy : f_X9_in y 0 1 = true
      · obtain ⟨M1, e1, f1⟩ := cFew hT hD hB hE x
        have hEm1 : EM (M1 146) T D := by rw [fr_at f1 (by omega)]; exact hEm
        obtain ⟨M2, e2, f2⟩ := mFew hT hD hB hEm1 x
        have hL64 : los D < 64 := Nat.lt_of_lt_of_le (los_lt hD) (pow_64 hT.2.1)
        by_cases qn : fw (los D) (pk T D x) (los D + 1) = none
        · have ev : vv (fw (los D) (pk T D x) (los D + 1)) = -1000000 := by rw [qn]; rfl
          refine ok_q hR (r := vv (fw (los D) (pk T D x) (los D + 1))) (M1 := M1) (M2 := M2) ?_ f1 ?_ f2
          · show f_X8_whole M x y = _
            unfold f_X8_whole f_X8_toldOfSet
            rw [if_pos ((isT_iff hT hE).mpr q), in_8, if_pos qx, in_8, if_pos qy, e1, bdE, if_pos ev]
          · show f_X9_whole M1 x y = _
            unfold f_X9_whole
            rw [if_pos ((isF_iff hEm1).mpr q), if_pos qx, if_pos qy, e2, bdE, if_pos ev]
        · obtain ⟨t, ht, ev, ne⟩ := vv_ne (fun t h => by have := fw_lt _ _ _ _ h; omega) qn
          by_cases q1 : y = 1
          · refine ok_q hR (r := vv (fw (los D) (pk T D x) (los D + 1))) (M1 := M1) (M2 := M2) ?_ f1 ?_ f2
            · show f_X8_whole M x y = _
              unfold f_X8_whole f_X8_toldOfSet
              rw [if_pos ((isT_iff hT hE).mpr q), in_8, if_pos qx, in_8, if_pos qy, e1, bdE, if_neg ne, if_pos q1]
            · show f_X9_whole M1 x y = _
              unfold f_X9_whole
              rw [if_pos ((isF_iff hEm1).mpr q), if_pos qx, if_pos qy, e2, bdE, if_neg ne, if_pos q1]
          · refine ok_q hR (r := nI (pc t)) (M1 := M1) (M2 := M2) ?_ f1 ?_ f2
            · show f_X8_whole M x y = _
              unfold f_X8_whole f_X8_toldOfSet
              rw [if_pos ((isT_iff hT hE).mpr q), in_8, if_pos qx, in_8, if_pos qy, e1, bdE, if_neg ne, if_neg q1, ev, b_pc _ ht]
            · show f_X9_whole M1 x y = _
              unfold f_X9_whole
              rw [if_pos ((isF_iff hEm1).mpr q), if_pos qx, if_pos qy, e2, bdE, if_neg ne, if_neg q1, ev, b_ones _ ht, bdE]
      · refine act_no hR (r := -1000001) ?_ ?_
        · unfold f_X8_whole
          rw [if_pos ((isT_iff hT hE).mpr q), in_8, if_pos qx, in_8, if_neg qy]
        · unfold f_X9_whole
          rw [if_pos ((isF_iff hEm).mpr q), if_pos qx, if_neg qy]
    · refine act_no hR (r := -1000001) ?_ ?_
      · unfold f_X8_whole
        rw [if_pos ((isT_iff hT hE).mpr q), in_8, if_neg qx]
      · unfold f_X9_whole
        rw [if_pos ((isF_iff hEm).mpr q), if_neg qx]
  · refine act_no hR (r := -1000002) ?_ ?_
    · unfold f_X8_whole
      rw [if_neg (fun h => q ((isT_iff hT hE).mp h))]
    · unfold f_X9_whole
      rw [if_neg (fun h => q ((isF_iff hEm).mp h))]
end KP2
