/-! IMAGE, RESTORE, and what only looks -/
def Rs5 (M : Mem) : Prop := M 0 8 = M 140 4 ∧ M 2 2 = M 140 7 ∧ RRw M ∧ RTp M ∧ RTr M
theorem rs5_of {B : Nat} {M : Mem} (h : Rst B M) : Rs5 M := ⟨h.1, h.2.1, h.2.2.1, h.2.2.2.1, h.2.2.2.2.1⟩
theorem rs5_to {B : Nat} {M : Mem} (h : Rs5 M) (h6 : RIm B M) : Rst B M := ⟨h.1, h.2.1, h.2.2.1, h.2.2.2.1, h.2.2.2.2, h6⟩
theorem rs5_cg {M M' : Mem} (h : Rs5 M) (g : ∀ a, (a ≤ 3 ∨ (102 ≤ a ∧ a ≤ 119) ∨ (141 ≤ a ∧ a ≤ 143) ∨ a = 145 ∨ a = 154) → M' a = M a) (e4 : M' 140 4 = M 140 4) (e6 : M' 140 6 = M 140 6) (e7 : M' 140 7 = M 140 7) (e23 : M' 140 23 = M 140 23) : Rs5 M' := by
  obtain ⟨h1, h2, h3, h4, h5⟩ := h
  refine ⟨?_, ?_, fun j hj => ?_, ?_, ?_⟩
  · rw [g 0 (by omega), e4]; exact h1
  · rw [g 2 (by omega), e7]; exact h2
  · rw [g (104 + 2 * j) (by omega), g 141 (by omega), g 142 (by omega), g (104 + 2 * j + 1) (by omega), g 143 (by omega)]; exact h3 j hj
  · obtain ⟨t, t1, t2, t3, t4⟩ := h4
    refine ⟨t, t1, ?_, ?_, fun j hj => ?_⟩
    · rw [g 2 (by omega)]; exact t2
    · rw [e6]; exact t3
    · rw [g 3 (by omega), g 145 (by omega)]; exact t4 j hj
  · obtain ⟨t, t1, t2, t3, t4⟩ := h5
    refine ⟨t, t1, ?_, ?_, fun j hj => ?_⟩
    · rw [g 102 (by omega)]; exact t2
    · rw [e23]; exact t3
    · rw [g 103 (by omega), g 154 (by omega)]; exact t4 j hj
section IM
variable {B : Nat} {M : Mem}
theorem ok_image (hR : Rel B M) (x : Int32) : Ok2 B M (fun M => f_X8_image M x) (fun M => f_X9_image M x) := by
  obtain ⟨T, D, n, P, hT, hD, hn, hP, hE, hEm, hC, hM⟩ := hR.2
  by_cases qx : f_X9_in x 0 1 = true
  · obtain ⟨k, hk, rfl⟩ := (within_iff (n := 1) (by decide)).mp qx
    by_cases q : 0 < Tnv T
    · obtain ⟨M1, e1⟩ : ∃ y, y = f_X2_become M (120 + 10 * k) 4 := ⟨_, rfl⟩
      have f1 : ∀ a, a ≤ 120 + 10 * k ∨ 120 + 10 * k + 9 < a → M1 a = M a := fun a ha => by rw [e1]; exact cBecF _ _ _ _ ha
      have hE1 : EC M1 (120 + 10 * k) T D := by rw [e1]; exact cBec hT hE (by omega)
      have hc := mCop (M := M1) (i0 := 146) (i2 := 150) (a := 0) (c := 57 * k) (by decide) (by decide) (by rw [show gL 150 = 114 by decide]; omega) (by decide) (by decide)
      have hc' : f_X9_copies M1 146 (0 : Int32) 150 (nI (57 * k)) = _ := hc
      have hEm1 : EM (M1 146) T D := by rw [f1 146 (by omega)]; exact hEm
      obtain ⟨M2, e2⟩ : ∃ y, y = st (stA M1 150 (va_cpy (M1 146) (M1 150) 0 (57 * k) 57)) 151 k 1 := ⟨_, rfl⟩
      have f2 : ∀ a, a ≠ 150 → a ≠ 151 → M2 a = M1 a := fun a h1 h2 => by rw [e2]; exact (st_ne h2).trans (stA_ne h1)
      have f12 : ∀ a, a ≠ 150 → a ≠ 151 → (a ≤ 120 + 10 * k ∨ 120 + 10 * k + 9 < a) → M2 a = M a := fun a h1 h2 h3 => (f2 a h1 h2).trans (f1 a h3)
      have e140 : M2 140 = M 140 := f12 140 (by decide) (by decide) (by omega)
      refine ⟨1, M1, M2, ?_, ?_, rel_mono ⟨rs5_to (rs5_cg (rs5_of hR.1) (fun a ha => f12 a (by omega) (by omega) (by omega)) (by rw [e140]) (by rw [e140]) (by rw [e140]) (by rw [e140])) (fun j hj => ?_), rfl_cg hR.2 (fun a ha => f12 a (by omega) (by omega) (by omega)) (by rw [e140])⟩ (by omega)⟩
      · show f_X8_image M (nI k) = _
        unfold f_X8_image
        rw [in_8, if_pos qx, if_pos ((isT_iff hT hE).mpr q), chk_ix (by omega) (by decide), cl_nI (by omega), ← e1, nmE]
      · show f_X9_image M1 (nI k) = _
        unfold f_X9_image
        rw [if_pos qx, if_pos ((isF_iff hEm1).mpr q), m57, hc', bdE, chk_ix (by omega) (by decide), cl_nI (by omega), ← e2, nmE]
      · by_cases qj : j = k
        · right
          subst qj
          refine ⟨by rw [e2, st_same], T, D, q, hT, hD, ec_cg hE1 (fun a a1 a2 => f2 a (by omega) (by omega)), em_cg hEm1 (fun t ht => ?_) hT⟩
          show M2 150 (57 * j + t) = M1 146 t
          rw [e2, st_ne (by decide), stA_i, pk_cpy_in (by omega) (by omega)]
          congr 1
          omega
        · have e151 : M2 151 j = M 151 j := by rw [e2, st_slot qj, stA_ne (by decide), f1 151 (by omega)]
          rw [e151]
          rcases hR.1.2.2.2.2.2 j hj with ⟨a1, a2⟩ | ⟨a1, T', D', a2, a3, a4, a5, a6⟩
          · left
            exact ⟨a1, by rw [f12 _ (by omega) (by omega) (by omega)]; exact a2⟩
          · right
            refine ⟨a1, T', D', a2, a3, a4, ec_cg a5 (fun a b1 b2 => f12 a (by omega) (by omega) (by omega)), em_cg a6 (fun t ht => ?_) a3⟩
            show M2 150 (57 * j + t) = M 150 (57 * j + t)
            rw [e2, st_ne (by decide), stA_i, pk_cpy_out (by omega), f1 150 (by omega)]
    · refine act_no hR (r := -1000002) ?_ ?_
      · unfold f_X8_image
        rw [in_8, if_pos qx, if_neg (fun h => q ((isT_iff hT hE).mp h))]
      · unfold f_X9_image
        rw [if_pos qx, if_neg (fun h => q ((isF_iff hEm).mp h))]
  · refine act_no hR (r := -1000001) ?_ ?_
    · unfold f_X8_image
      rw [in_8, if_neg qx]
    · unfold f_X9_image
      rw [if_neg qx]
theorem ok_restore (hR : Rel B M) (x : Int32) : Ok2 B M (fun M => f_X8_restore M x) (fun M => f_X9_restore M x) := by
  obtain ⟨T0, D0, n, P, hT0, hD0, hn, hP, hE0, hEm0, hC, hM⟩ := hR.2
  by_cases qx : f_X9_in x 0 1 = true
  · obtain ⟨k, hk, rfl⟩ := (within_iff (n := 1) (by decide)).mp qx
    rcases hR.1.2.2.2.2.2 k hk with ⟨a1, a2⟩ | ⟨a1, T, D, q, hT, hD, hE, hEm⟩
    · refine act_no hR (r := -1000002) ?_ ?_
      · have hn : ¬ f_X2_isThere M (120 + 10 * k) = true := by
          unfold f_X2_isThere
          rw [a2, if_pos (by decide)]
          decide
        unfold f_X8_restore
        rw [in_8, if_pos qx, chk_ix (by omega) (by decide), cl_nI (by omega), if_neg hn]
      · unfold f_X9_restore
        rw [if_pos qx, chk_ix (by omega) (by decide), cl_nI (by omega), a1, if_pos rfl]
    · obtain ⟨M0, e0⟩ : ∃ y, y = f_X2_become M 4 (120 + 10 * k) := ⟨_, rfl⟩
      have f0 : ∀ a, a ≤ 4 ∨ 13 < a → M0 a = M a := fun a ha => by rw [e0]; exact cBecF _ _ _ _ (by omega)
      have hE0' : EC M0 4 T D := by rw [e0]; exact cBec hT hE (by omega)
      obtain ⟨M1, e1⟩ : ∃ y, y = st M0 25 2 0 := ⟨_, rfl⟩
      have f1 : ∀ a, a ≠ 25 → M1 a = M0 a := fun a ha => by rw [e1]; exact st_ne ha
      have e151 : M1 151 = M 151 := (f1 151 (by decide)).trans (f0 151 (by omega))
      have e150 : M1 150 = M 150 := (f1 150 (by decide)).trans (f0 150 (by omega))
      have hc := mCop (M := M1) (i0 := 150) (i2 := 146) (a := 57 * k) (c := 0) (by decide) (by rw [show gL 150 = 114 by decide]; omega) (by decide) (by decide) (by decide)
      have hc' : f_X9_copies M1 150 (nI (57 * k)) 146 (0 : Int32) = _ := hc
      obtain ⟨M2, e2⟩ : ∃ y, y = st (stA M1 146 (va_cpy (M1 150) (M1 146) (57 * k) 0 57)) 140 17 0 := ⟨_, rfl⟩
      have f2 : ∀ a, a ≠ 146 → a ≠ 140 → M2 a = M1 a := fun a h1 h2 => by rw [e2]; exact (st_ne h2).trans (stA_ne h1)
      refine ⟨1, M1, M2, ?_, ?_, rel_act (n := 0) (P := P) hR.1 hT (WD_mono hD (by omega)) (by omega) (fun q hq => by omega) (ec_cg hE0' (fun a b1 b2 => (f2 a (by omega) (by omega)).trans (f1 a (by omega)))) ?_ ?_ ⟨?_, fun q hq => by omega⟩ (fun a ha => ?_) (fun s hs => ?_)⟩
      · show f_X8_restore M (nI k) = _
        unfold f_X8_restore
        rw [in_8, if_pos qx, chk_ix (by omega) (by decide), cl_nI (by omega), if_pos ((isT_iff hT hE).mpr q), ← e0, nmE]
        unfold f_X0_forgetAll
        rw [nmE, nmE, ← e1]
      · show f_X9_restore M1 (nI k) = _
        unfold f_X9_restore
        rw [if_pos qx, chk_ix (by omega) (by decide), cl_nI (by omega), e151, a1, if_neg (by decide), m57, hc', bdE, ← e2, nmE]
      · rw [e2, st_ne (by decide), stA_i]
        exact em_cg hEm (fun t ht => by
          rw [pk_cpy_in (by omega) (by omega), e150]
          congr 1) hT
      · obtain ⟨p, hp, h1, h2, h3⟩ := hC
        refine ⟨p, hp, ?_, ?_, fun q hq => by omega⟩
        · rw [f2 25 (by decide) (by decide), e1, st_slot (by decide), f0 25 (by omega)]; exact h1
        · rw [f2 25 (by decide) (by decide), e1, st_same]; rfl
      · rw [e2, st_same]; rfl
      · unfold rstc at ha
        exact ((f2 a (by omega) (by omega)).trans (f1 a (by omega))).trans (f0 a (by omega))
      · rw [e2, st_slot hs, stA_ne (by decide), f1 140 (by decide), f0 140 (by omega)]
  · refine act_no hR (r := -1000001) ?_ ?_
    · unfold f_X8_restore
      rw [in_8, if_neg qx]
    · unfold f_X9_restore
      rw [if_neg qx]
theorem ok_bird (hR : Rel B M) (x y : Int32) : ∃ r, f_X8_bird M x y = some r ∧ f_X9_bird M x y = some r := by
  obtain ⟨T, D, n, P, hT, hD, hn, hP, hE, hEm, hC, hM⟩ := hR.2
  have h5 := hT.1
  have h6 := hT.2.1
  have hF64 := wd_F hT hD
  have hK64 := wd_K hT hD
  unfold f_X8_bird f_X9_bird
  by_cases q : inB (Tnb T) x
  · rw [if_pos ((isB_iff hT hE).mpr q), if_pos ((isBm_iff hT hEm).mpr q)]
    obtain ⟨b, hb, rfl⟩ := q
    have k0 : M 12 b = Dst D b := ec_st hE hb
    have k1 : M 9 b = Tlv T b := ec_lv hE hb
    have k2 : M 10 b = nI (Tlo T b) := ec_lo hE hb
    have k3 : f_X8_bitOf (M 11 0) (nI b) = bt (DF D) b := by
      have : M 11 0 = nI (DF D) := ec_F hE
      rw [this]; exact b_bit _ hF64 b (by omega)
    have k4 : f_X8_bitOf (M 11 1) (nI b) = bt (DK D) b := by
      have : M 11 1 = nI (DK D) := ec_K hE
      rw [this]; exact b_bit _ hK64 b (by omega)
    have k5 : f_X3_flies M 11 (nI b) = (DF D).testBit b := cFl (ec_F hE) hF64 (by omega)
    rw [i6, nmE, nI_sc, p2, p3, p4, p5, chk_ix (by omega) (by decide), chk_ix (by omega) (by decide), chk_ix (by omega) (by decide), chk_ix (by omega) (by decide), chk_ix (by omega) (by decide), chk_ix (by omega) (by decide), chk_ix (by omega) (by decide), chk_ix (by omega) (by decide), cl_nI (by omega), cl_nI (by omega), cl_nI (by omega), cl_nI (by omega), cl_nI (by omega), cl_nI (by omega), k0, k1, k2, k3, k4, k5, em_st hEm hb, em_lv hEm hb, em_lo hEm hb, em_F hEm hb, em_K hEm hb, mFl hT hEm hD.1 (by omega), bdE, cCom hE hD, mLeft hEm hD]
    by_cases y0 : y = 0
    · rw [if_pos y0, if_pos y0]; exact ⟨_, rfl, rfl⟩
    rw [if_neg y0, if_neg y0]
    by_cases y1 : y = 1
    · rw [if_pos y1, if_pos y1]; exact ⟨_, rfl, rfl⟩
    rw [if_neg y1, if_neg y1]
    by_cases y2 : y = 2
    · rw [if_pos y2, if_pos y2]; exact ⟨_, rfl, rfl⟩
    rw [if_neg y2, if_neg y2]
    by_cases y3 : y = 3
    · rw [if_pos y3, if_pos y3]; exact ⟨_, rfl, rfl⟩
    rw [if_neg y3, if_neg y3]
    by_cases y4 : y = 4
    · rw [if_pos y4, if_pos y4]; exact ⟨_, rfl, rfl⟩
    rw [if_neg y4, if_neg y4]
    by_cases y5 : y = 5
    · rw [if_pos y5, if_pos y5]
      by_cases c : nI (Tnv T - Dth D) ≤ 0
      · rw [if_pos c, if_pos c]
        refine ⟨0, rfl, ?_⟩
        split <;> rfl
      · rw [if_neg c, if_neg c]
        have hth : Dth D < Tnv T := by
          rcases Nat.lt_or_ge (Dth D) (Tnv T) with z | z
          · exact z
          · exfalso; apply c; rw [show Tnv T - Dth D = 0 by omega]; decide
        have hv := hD.2.2.2.2.1 _ hth
        rw [cLoss hT hE hF64 hv hth hb, bdE, mTk hT hEm hD.1 hv hth hb, bdE]
        split
        · exact ⟨_, rfl, rfl⟩
        · exact ⟨_, rfl, rfl⟩
    rw [if_neg y5, if_neg y5]
    exact ⟨_, rfl, rfl⟩
  · rw [if_neg (fun h => q ((isB_iff hT hE).mp h)), if_neg (fun h => q ((isBm_iff hT hEm).mp h))]
    exact ⟨_, rfl, rfl⟩
end IM
