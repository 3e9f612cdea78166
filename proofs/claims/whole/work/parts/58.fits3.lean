/-! FITS, ASKED -/
section F3
variable {B : Nat} {M : Mem}
theorem may_8 {T : TT} {D : DD} (hE : EC M 4 T D) (hD : WD T D B) (x : Int32) : f_X8_mayCome M x = f_X9_in x 1 (nI (Tnv T - Dth D)) := by
  unfold f_X8_mayCome f_X9_in
  rw [cCom hE hD]
theorem in1_nat {n : Nat} (hn : n ≤ 5) {x : Int32} (h : f_X9_in x 1 (nI n) = true) : ∃ c, 1 ≤ c ∧ c ≤ n ∧ x = nI c := by
  rw [in_iff] at h
  have e1 : (1 : Int32).toInt = 1 := rfl
  have en : (nI n).toInt = (n : Int) := ti (by omega)
  obtain ⟨j, j1, j2, j3⟩ := nI_ex (x := x) (by omega)
  exact ⟨j, by omega, by omega, j2⟩
theorem ok_fits (hR : Rel B M) (hB : B ≤ 900000) (x y p c w : Int32) : Ok2 B M (fun M => f_X8_fits M x y p c w) (fun M => f_X9_fits M x y p c w) := by
  obtain ⟨T, D, n, P, hT, hD, hn, hP, hE, hEm, hC, hM⟩ := hR.2
  have h5 := hT.1
  have h6 := hT.2.1
  have hle := hD.2.2.1
  by_cases q : inB (Tnb T) x
  · obtain ⟨b, hb, rfl⟩ := q
    have hbB : inB (Tnb T) (nI b) := ⟨b, hb, rfl⟩
    have cB := (isB_iff hT hE).mpr hbB
    have mB : ∀ N : Mem, N 146 = M 146 → f_X9_isBird N (nI b) = true := fun N e => (isBm_iff hT (by rw [e]; exact hEm)).mpr hbB
    have mL : ∀ N : Mem, N 146 = M 146 → f_X9_left N 146 = nI (Tnv T - Dth D) := fun N e => mLeft (by rw [e]; exact hEm) hD
    by_cases qy : f_X9_isRow y = true
    · by_cases qc : f_X9_in c 1 (nI (Tnv T - Dth D)) = true
      · by_cases qw : f_X9_in w 0 1 = true
        · obtain ⟨j, hj, rfl⟩ := (within_iff (n := 7) (by decide)).mp qy
          have hms : f_X9_isMissing M (nI j) = some (decide (M (104 + 2 * j) 0 = 0)) := rw_miss hR.1.2.2.1 (by omega)
          have hne : ¬ (1 : Int32) = 0 := by decide
          rcases hR.1.2.2.1 j (by omega) with ⟨r1, r2⟩ | ⟨r1, r2, r3, m, r4, r5, r6, r7⟩
          · refine ok_f hR (r := -1000010 - 1) (v := 1) (fr_refl M) ?_ (fr_refl _) ?_
            · show f_X8_fits M (nI b) (nI j) p c w = _
              unfold f_X8_fits
              rw [if_pos cB, row_8, if_pos qy, may_8 hE hD, if_pos qc, in_8, if_pos qw, chk_ix (by omega) (by decide), cl_nI (by omega), r1, if_pos rfl]
              rfl
            · show f_X9_fits (st M 0 8 1) (nI b) (nI j) p c w = _
              unfold f_X9_fits
              rw [if_pos (mB _ (st_ne (by decide))), if_pos qy, mL _ (st_ne (by decide)), if_pos qc, if_pos qw, miss_cg (st_ne (by decide)), hms, r1, bdE, if_pos (by decide)]
              rfl
          · obtain ⟨b1, hb1, hp1⟩ := isPart_iff (M := M) (show j < 8 by omega) r4 r6 p c
            by_cases w1 : prt m p c
            · obtain ⟨p', c', rfl, rfl, hpc⟩ := prt_nat r4 w1
              obtain ⟨c2, d1, d2, d3⟩ := in1_nat (by omega) qc
              have hcc : c' = c2 := (nI_eq (by omega) (by omega)).mp d3
              subst hcc
              obtain ⟨it, eit⟩ : ∃ it : Nat → Int32, it = fun t => M (104 + 2 * j + 1) (p' + t) := ⟨_, rfl⟩
              have hit : ∀ t, t < c' → M (104 + 2 * j + 1) (p' + t) = it t := fun t _ => by rw [eit]
              have hit2 : ∀ N : Mem, N 143 = M 143 → ∀ t, t < c' → N 143 (40 * j + p' + t) = it t := fun N e t ht => by
                rw [e, eit, show 40 * j + p' + t = 40 * j + (p' + t) by omega]
                exact (r7 (p' + t) (by omega)).symm
              have k1 : ∀ (N : Mem), N 141 = M 141 → N 142 = M 142 → N 146 = M 146 → f_X9_fits N (nI b) (nI j) (nI p') (nI c') w = (if w = (0 : Int32) then f_X9_fits_92 N (nI j) (nI p') (nI c') w (nI (21 + 6 * b)) (0 : Int32) else f_X9_fits_92 N (nI j) (nI p') (nI c') w (nI (21 + 6 * b)) (2 : Int32)) := by
                intro N e1 e2 e3
                unfold f_X9_fits
                rw [if_pos (mB _ e3), if_pos qy, mL _ e3, if_pos qc, if_pos qw, miss_cg e1, hms, r1, bdE, if_neg (by decide), part_cg e2, hb1, bdE, if_pos (hp1.mpr w1), i6]
              by_cases z : w = 0
              · obtain ⟨M1, e1, f1⟩ := cSorts (i := 104 + 2 * j) (p := p') (c := c') hT hD hB hE hb (by omega) (by omega) (by omega) hit
                have g : ∀ a, (a = 141 ∨ a = 142 ∨ a = 143 ∨ a = 146) → (st M1 0 8 0) a = M a := fun a ha => by rw [st_ne (by omega)]; exact fr_at f1 (by omega)
                obtain ⟨M2, e2, f2⟩ := mSorts (M := st M1 0 8 0) (j := j) (p := p') (c := c') hT hD hB (by rw [g 146 (by omega)]; exact hEm) hb (by omega) (by omega) (by omega) (by omega) (hit2 _ (g 143 (by omega)))
                refine ok_f hR (r := (nI (so (fun v => decide (1 ≤ v) && sn (Tk T b (nI v)) it c' 0 D) (5 + 1)))) (v := 0) f1 (M2 := M2) ?_ f2 ?_
                · show f_X8_fits M (nI b) (nI j) (nI p') (nI c') w = _
                  unfold f_X8_fits f_X8_sortsSeen
                  rw [if_pos cB, row_8, if_pos qy, may_8 hE hD, if_pos qc, in_8, if_pos qw, chk_ix (by omega) (by decide), cl_nI (by omega), r1, if_neg hne, if_pos ((has_iff r4 r5 _ _).mpr w1), if_pos z, e1, bdE]
                  rfl
                · show f_X9_fits (st M1 0 8 0) (nI b) (nI j) (nI p') (nI c') w = _
                  rw [k1 _ (g 141 (by omega)) (g 142 (by omega)) (g 146 (by omega)), if_pos z]
                  unfold f_X9_fits_92 f_X9_fits_105
                  rw [nmE, if_pos z, if_pos z, Int32.add_zero]
                  exact e2
              · obtain ⟨M1, e1, f1⟩ := cLeav3 (i := 104 + 2 * j) (p := p') (c := c') hT hD hB hE hb (by omega) (by omega) (by omega) hit
                have g : ∀ a, (a = 141 ∨ a = 142 ∨ a = 143 ∨ a = 146) → (st M1 0 8 0) a = M a := fun a ha => by rw [st_ne (by omega)]; exact fr_at f1 (by omega)
                obtain ⟨M2, e2, f2⟩ := mLeav3 (M := st M1 0 8 0) (j := j) (p := p') (c := c') hT hD hB (by rw [g 146 (by omega)]; exact hEm) hb (by omega) (by omega) (by omega) (by omega) (hit2 _ (g 143 (by omega)))
                refine ok_f hR (r := (nI (so (fun v => decide (0 ≤ v) && sn (Tl T b (nI v)) it c' 0 D) (6 + 1)))) (v := 0) f1 (M2 := M2) ?_ f2 ?_
                · show f_X8_fits M (nI b) (nI j) (nI p') (nI c') w = _
                  unfold f_X8_fits f_X8_leavesSeen
                  rw [if_pos cB, row_8, if_pos qy, may_8 hE hD, if_pos qc, in_8, if_pos qw, chk_ix (by omega) (by decide), cl_nI (by omega), r1, if_neg hne, if_pos ((has_iff r4 r5 _ _).mpr w1), if_neg z, e1, bdE]
                  rfl
                · show f_X9_fits (st M1 0 8 0) (nI b) (nI j) (nI p') (nI c') w = _
                  rw [k1 _ (g 141 (by omega)) (g 142 (by omega)) (g 146 (by omega)), if_neg z]
                  unfold f_X9_fits_92 f_X9_fits_105
                  rw [nmE, if_neg z, if_neg z, p2]
                  exact e2
            · refine ok_f hR (r := -1000010 - 2) (v := 2) (fr_refl M) ?_ (fr_refl _) ?_
              · show f_X8_fits M (nI b) (nI j) p c w = _
                unfold f_X8_fits
                rw [if_pos cB, row_8, if_pos qy, may_8 hE hD, if_pos qc, in_8, if_pos qw, chk_ix (by omega) (by decide), cl_nI (by omega), r1, if_neg hne, if_neg (fun h => w1 ((has_iff r4 r5 _ _).mp h))]
                rfl
              · show f_X9_fits (st M 0 8 2) (nI b) (nI j) p c w = _
                unfold f_X9_fits
                rw [if_pos (mB _ (st_ne (by decide))), if_pos qy, mL _ (st_ne (by decide)), if_pos qc, if_pos qw, miss_cg (st_ne (by decide)), hms, r1, bdE, if_neg (by decide), part_cg (st_ne (by decide)), hb1, bdE, if_neg (fun h => w1 (hp1.mp h))]
                rfl
        · refine act_no hR (r := -1000001) ?_ ?_
          · unfold f_X8_fits
            rw [if_pos cB, row_8, if_pos qy, may_8 hE hD, if_pos qc, in_8, if_neg qw]
          · unfold f_X9_fits
            rw [if_pos (mB _ rfl), if_pos qy, mL _ rfl, if_pos qc, if_neg qw]
      · refine act_no hR (r := -1000001) ?_ ?_
        · unfold f_X8_fits
          rw [if_pos cB, row_8, if_pos qy, may_8 hE hD, if_neg qc]
        · unfold f_X9_fits
          rw [if_pos (mB _ rfl), if_pos qy, mL _ rfl, if_neg qc]
    · refine act_no hR (r := -1000001) ?_ ?_
      · unfold f_X8_fits
        rw [if_pos cB, row_8, if_neg qy]
      · unfold f_X9_fits
        rw [if_pos (mB _ rfl), if_neg qy]
  · refine act_no hR (r := -1000001) ?_ ?_
    · unfold f_X8_fits
      rw [if_neg (fun h => q ((isB_iff hT hE).mp h))]
    · unfold f_X9_fits
      rw [if_neg (fun h => q ((isBm_iff hT hEm).mp h))]
theorem ok_asked (hR : Rel B M) (hB : B ≤ 900000) (y p c : Int32) : Ok2 B M (fun M => f_X8_asked M y p c) (fun M => f_X9_asked M y p c) := by
  obtain ⟨T, D, n, P, hT, hD, hn, hP, hE, hEm, hC, hM⟩ := hR.2
  have h5 := hT.1
  have h6 := hT.2.1
  have hle := hD.2.2.1
  by_cases q : Dth D < Tnv T
  · have c1 : (1 : Int32) ≤ nI (Tnv T - Dth D) := (nI_leI (a := 1) (by decide) (by omega)).mpr (by omega)
    have hv := hD.2.2.2.2.1 _ q
    have mF : ∀ N : Mem, N 146 = M 146 → f_X9_isFlight N = true := fun N e => (isF_iff (T := T) (D := D) (by rw [e]; exact hEm)).mpr (by omega)
    have mL : ∀ N : Mem, N 146 = M 146 → f_X9_left N 146 = nI (Tnv T - Dth D) := fun N e => mLeft (by rw [e]; exact hEm) hD
    have n0 : ¬ nI (Tnv T - Dth D) = 0 := nI_ne0 (by omega) (by omega)
    by_cases qy : f_X9_isRow y = true
    · by_cases qc : f_X9_in c 1 (nI (Tnv T - Dth D)) = true
      · obtain ⟨j, hj, rfl⟩ := (within_iff (n := 7) (by decide)).mp qy
        have hms : f_X9_isMissing M (nI j) = some (decide (M (104 + 2 * j) 0 = 0)) := rw_miss hR.1.2.2.1 (by omega)
        have hne : ¬ (1 : Int32) = 0 := by decide
        rcases hR.1.2.2.1 j (by omega) with ⟨r1, r2⟩ | ⟨r1, r2, r3, m, r4, r5, r6, r7⟩
        · refine ok_f hR (r := -1000010 - 1) (v := 1) (fr_refl M) ?_ (fr_refl _) ?_
          · show f_X8_asked M (nI j) p c = _
            unfold f_X8_asked
            rw [cCom hE hD, if_pos c1, row_8, if_pos qy, may_8 hE hD, if_pos qc, chk_ix (by omega) (by decide), cl_nI (by omega), r1, if_pos rfl]
            rfl
          · show f_X9_asked (st M 0 8 1) (nI j) p c = _
            unfold f_X9_asked
            rw [if_pos (mF _ (st_ne (by decide))), mL _ (st_ne (by decide)), if_neg n0, if_pos qy, if_pos qc, miss_cg (st_ne (by decide)), hms, r1, bdE, if_pos (by decide)]
            rfl
        · obtain ⟨b1, hb1, hp1⟩ := isPart_iff (M := M) (show j < 8 by omega) r4 r6 p c
          by_cases w1 : prt m p c
          · obtain ⟨p', c', rfl, rfl, hpc⟩ := prt_nat r4 w1
            obtain ⟨c2, d1, d2, d3⟩ := in1_nat (by omega) qc
            have hcc : c' = c2 := (nI_eq (by omega) (by omega)).mp d3
            subst hcc
            obtain ⟨it, eit⟩ : ∃ it : Nat → Int32, it = fun t => M (104 + 2 * j + 1) (p' + t) := ⟨_, rfl⟩
            have hit : ∀ t, t < c' → M (104 + 2 * j + 1) (p' + t) = it t := fun t _ => by rw [eit]
            have hit2 : ∀ N : Mem, N 143 = M 143 → ∀ t, t < c' → N 143 (40 * j + p' + t) = it t := fun N e t ht => by
              rw [e, eit, show 40 * j + p' + t = 40 * j + (p' + t) by omega]
              exact (r7 (p' + t) (by omega)).symm
            obtain ⟨M1, e1, f1⟩ := cAsks (i := 104 + 2 * j) (p := p') (c := c') hT hD hB hE hv (by omega) (by omega) (by omega) hit
            have g : ∀ a, (a = 141 ∨ a = 142 ∨ a = 143 ∨ a = 146) → (st M1 0 8 0) a = M a := fun a ha => by rw [st_ne (by omega)]; exact fr_at f1 (by omega)
            obtain ⟨M2, e2, f2⟩ := mAsks (M := st M1 0 8 0) (j := j) (p := p') (c := c') hT hD hB (by rw [g 146 (by omega)]; exact hEm) hv rfl (by omega) (by omega) (by omega) (by omega) (hit2 _ (g 143 (by omega)))
            refine ok_f hR (r := (nI (so (fun v => decide (0 ≤ v) && sn (Ta T (Dln D (Dth D)) (nI v)) it c' 0 D) (20 + 1)))) (v := 0) f1 (M2 := M2) ?_ f2 ?_
            · show f_X8_asked M (nI j) (nI p') (nI c') = _
              unfold f_X8_asked f_X8_asksSeen
              rw [cCom hE hD, if_pos c1, row_8, if_pos qy, may_8 hE hD, if_pos qc, chk_ix (by omega) (by decide), cl_nI (by omega), r1, if_neg hne, if_pos ((has_iff r4 r5 _ _).mpr w1), cNxt hT hE q, bdE, e1, bdE]
              rfl
            · show f_X9_asked (st M1 0 8 0) (nI j) (nI p') (nI c') = _
              unfold f_X9_asked
              rw [if_pos (mF _ (g 146 (by omega))), mL _ (g 146 (by omega)), if_neg n0, if_pos qy, if_pos qc, miss_cg (g 141 (by omega)), hms, r1, bdE, if_neg (by decide), part_cg (g 142 (by omega)), hb1, bdE, if_pos (hp1.mpr w1)]
              exact e2
          · refine ok_f hR (r := -1000010 - 2) (v := 2) (fr_refl M) ?_ (fr_refl _) ?_
            · show f_X8_asked M (nI j) p c = _
              unfold f_X8_asked
              rw [cCom hE hD, if_pos c1, row_8, if_pos qy, may_8 hE hD, if_pos qc, chk_ix (by omega) (by decide), cl_nI (by omega), r1, if_neg hne, if_neg (fun h => w1 ((has_iff r4 r5 _ _).mp h))]
              rfl
            · show f_X9_asked (st M 0 8 2) (nI j) p c = _
              unfold f_X9_asked
              rw [if_pos (mF _ (st_ne (by decide))), mL _ (st_ne (by decide)), if_neg n0, if_pos qy, if_pos qc, miss_cg (st_ne (by decide)), hms, r1, bdE, if_neg (by decide), part_cg (st_ne (by decide)), hb1, bdE, if_neg (fun h => w1 (hp1.mp h))]
              rfl
      · refine act_no hR (r := -1000001) ?_ ?_
        · unfold f_X8_asked
          rw [cCom hE hD, if_pos c1, row_8, if_pos qy, may_8 hE hD, if_neg qc]
        · unfold f_X9_asked
          rw [if_pos (mF _ rfl), mL _ rfl, if_neg n0, if_pos qy, if_neg qc]
    · refine act_no hR (r := -1000001) ?_ ?_
      · unfold f_X8_asked
        rw [cCom hE hD, if_pos c1, row_8, if_neg qy]
      · unfold f_X9_asked
        rw [if_pos (mF _ rfl), mL _ rfl, if_neg n0, if_neg qy]
  · refine act_no hR (r := -1000002) ?_ ?_
    · unfold f_X8_asked
      rw [cCom hE hD, show Tnv T - Dth D = 0 by omega, if_neg (by decide)]
    · unfold f_X9_asked
      rw [mLeft hEm hD, show Tnv T - Dth D = 0 by omega, if_pos (show nI 0 = (0 : Int32) by decide)]
      split <;> rfl
end F3
