/-! ARRIVE, WHERE, STRENGTH, MEAL, CATCHES, BELOVED -/
section TR
variable {B : Nat} {M : Mem}
theorem ok_arrive (hR : Rel B M) (hB : B ≤ 900000) : Ok2 B M f_X8_arrive f_X9_arrive := by
  obtain ⟨T, D, n, P, hT, hD, hn, hP, hE, hEm, hC, hM⟩ := hR.2
  by_cases q : 0 < Tnv T
  · obtain ⟨hE1, f1⟩ := cTri hT hE
    obtain ⟨M1, e1, hE2, f2⟩ := cArr hT hE1 hD (by omega)
    have f12 : fr M M1 := fr_trans f1 (fr_14 f2)
    have hEm1 : EM (M1 146) T D := by rw [fr_at f12 (by omega)]; exact hEm
    obtain ⟨g, t1, hg⟩ := mTri hT hEm1
    obtain ⟨g2, t2, hg2⟩ := mEnds (M := M1) hT hg hD (by omega)
    refine ok_q hR (r := nI (DF (arr T D))) (M1 := M1) (M2 := stA M1 148 g2) ?_ f12 ?_ (fr_stA (by unfold Jk; omega))
    · unfold f_X8_arrive
      rw [if_pos ((isT_iff hT hE).mpr q), nmE, e1, bdE]
    · unfold f_X9_arrive
      rw [if_pos ((isF_iff hEm1).mpr q), t1, bdE, t2, bdE]
  · refine act_no hR (r := -1000002) ?_ ?_
    · unfold f_X8_arrive
      rw [if_neg (fun h => q ((isT_iff hT hE).mp h))]
    · unfold f_X9_arrive
      rw [if_neg (fun h => q ((isF_iff hEm).mp h))]
/-- where a bird turns back -/
def whS (T : TT) (b : Nat) : Nat → DD → Int32
  | 0, _ => -1000000
  | k + 1, D => if Dth D < Tnv T then (if (DF (pass T D)).testBit b = true then whS T b k (pass T D) else nI (Dth D)) else -1000000
theorem cWh {T : TT} (hT : WT T) {b : Nat} (hb : b < 6) : ∀ (k : Nat) (D : DD) (M : Mem) (fu B : Nat), WD T D B → B + 6 * k ≤ 1000000 → Tnv T ≤ Dth D + k → k < fu → EC M 14 T D → M 5 1 = nI (Tnv T) → ∃ M', iter (fun rec a => f_X8_where_49 (nI b) rec a.1 a.2) fu (M, nI (Dth D)) = some (whS T b k D, M') ∧ fr M M' := by
  intro k
  induction k with
  | zero =>
    intro D M fu B hD hB hth hfu hE hnv
    obtain ⟨fu, rfl⟩ : ∃ y, fu = y + 1 := ⟨fu - 1, by omega⟩
    have h5 := hT.1
    have := hD.2.2.1
    refine ⟨M, ?_, fr_refl M⟩
    rw [iter_s]
    show f_X8_where_49 (nI b) _ M (nI (Dth D)) = _
    unfold f_X8_where_49
    rw [hnv, if_pos (by rw [nI_leI (by omega) (by omega)]; omega)]
    rfl
  | succ k ih =>
    intro D M fu B hD hB hth hfu hE hnv
    obtain ⟨fu, rfl⟩ : ∃ y, fu = y + 1 := ⟨fu - 1, by omega⟩
    have h5 := hT.1
    have hle := hD.2.2.1
    rw [iter_s]
    show ∃ M', f_X8_where_49 (nI b) _ M (nI (Dth D)) = _ ∧ _
    unfold f_X8_where_49
    rw [hnv]
    by_cases q : Dth D < Tnv T
    · obtain ⟨M1, e1, hE1, f1⟩ := cFly hT hE hD q
      have hD1 := pass_WD hT hD (by omega) q
      have hfl : f_X3_flies M1 21 (nI b) = (DF (pass T D)).testBit b := cFl (ec_F hE1) (wd_F hT hD1) (by omega)
      rw [if_neg (by rw [nI_leI (by omega) (by omega)]; omega), e1, bdE, hfl]
      have ew : whS T b (k + 1) D = if (DF (pass T D)).testBit b = true then whS T b k (pass T D) else nI (Dth D) := if_pos q
      rw [ew]
      by_cases z : (DF (pass T D)).testBit b = true
      · rw [if_pos z, if_pos z, nmE, nI_sc]
        obtain ⟨M2, e2, f2⟩ := ih (pass T D) M1 fu (B + 6) hD1 (by omega) (by show Tnv T ≤ Dth D + 1 + k; omega) (by omega) hE1 (by rw [f1 5 (by decide) (by decide)]; exact hnv)
        exact ⟨M2, e2, fr_trans (fr_14 f1) f2⟩
      · rw [if_neg z, if_neg z]
        exact ⟨M1, rfl, fr_14 f1⟩
    · rw [if_pos (by rw [nI_leI (by omega) (by omega)]; omega)]
      refine ⟨M, ?_, fr_refl M⟩
      rw [show whS T b (k + 1) D = -1000000 from if_neg q]
theorem mWh {T : TT} (hT : WT T) {b : Nat} (hb : b < 6) : ∀ (k : Nat) (D : DD) (g : Nat → Int32) (fu B : Nat), WD T D B → B + 6 * k ≤ 1000000 → Tnv T ≤ Dth D + k → k < fu → EM g T D → ∃ g', iter (fun rec a => f_X9_where_28 (nI b) rec a) fu (stA M 148 g) = some (whS T b k D, stA M 148 g') := by
  intro k
  induction k with
  | zero =>
    intro D g fu B hD hB hth hfu hE
    obtain ⟨fu, rfl⟩ : ∃ y, fu = y + 1 := ⟨fu - 1, by omega⟩
    have hl : f_X9_left (stA M 148 g) 148 = nI (Tnv T - Dth D) := mLeft (by rw [stA_i]; exact hE) hD
    refine ⟨g, ?_⟩
    rw [iter_s]
    unfold f_X9_where_28
    rw [hl, show Tnv T - Dth D = 0 by omega, if_pos (by decide)]
    rfl
  | succ k ih =>
    intro D g fu B hD hB hth hfu hE
    obtain ⟨fu, rfl⟩ : ∃ y, fu = y + 1 := ⟨fu - 1, by omega⟩
    have h5 := hT.1
    have hle := hD.2.2.1
    have hEg : EM ((stA M 148 g) 148) T D := by rw [stA_i]; exact hE
    have hl : f_X9_left (stA M 148 g) 148 = nI (Tnv T - Dth D) := mLeft hEg hD
    rw [iter_s]
    unfold f_X9_where_28
    rw [hl]
    by_cases q : Dth D < Tnv T
    · obtain ⟨g1, e1, hE1⟩ := mPass hT hEg hD q
      rw [stA_stA] at e1
      have hD1 := pass_WD hT hD (by omega) q
      have hEg1 : EM ((stA M 148 g1) 148) T (pass T D) := by rw [stA_i]; exact hE1
      have hfl := mFl hT hEg1 hD1.1 (show b < 64 by omega)
      have h3 : stA M 148 g1 148 3 = nI (Dth D + 1) := em_th hEg1
      rw [if_neg (nI_nle (by omega) (by omega)), e1, bdE, hfl, bdE, h3]
      have ew : whS T b (k + 1) D = if (DF (pass T D)).testBit b = true then whS T b k (pass T D) else nI (Dth D) := if_pos q
      rw [ew]
      by_cases z : (DF (pass T D)).testBit b = true
      · rw [if_pos z, if_pos z]
        exact ih (pass T D) g1 fu (B + 6) hD1 (by omega) (by show Tnv T ≤ Dth D + 1 + k; omega) (by omega) hE1
      · rw [if_neg z, if_neg z, nI_pred]
        exact ⟨g1, rfl⟩
    · rw [show Tnv T - Dth D = 0 by omega, if_pos (by decide), show whS T b (k + 1) D = -1000000 from if_neg q]
      exact ⟨g, rfl⟩
theorem ok_where (hR : Rel B M) (hB : B ≤ 900000) (x : Int32) : Ok2 B M (fun M => f_X8_where M x) (fun M => f_X9_where M x) := by
  obtain ⟨T, D, n, P, hT, hD, hn, hP, hE, hEm, hC, hM⟩ := hR.2
  have h5 := hT.1
  have h6 := hT.2.1
  have hF64 := wd_F hT hD
  by_cases q : inB (Tnb T) x
  · obtain ⟨b, hb, rfl⟩ := q
    have hbB : inB (Tnb T) (nI b) := ⟨b, hb, rfl⟩
    have hcf : f_X3_flies M 11 (nI b) = (DF D).testBit b := cFl (ec_F hE) hF64 (by omega)
    by_cases qf : (DF D).testBit b = true
    · obtain ⟨hE1, f1⟩ := cTri hT hE
      have h3 : (f_X2_become M 14 4) 11 3 = nI (Dth D) := by rw [fr_at f1 (by omega)]; exact ec_th hE
      have hnv : (f_X2_become M 14 4) 5 1 = nI (Tnv T) := by rw [fr_at f1 (by omega)]; exact ec_nv hE
      obtain ⟨M1, e1, f2⟩ := cWh hT (show b < 6 by omega) 5 D (f_X2_become M 14 4) fuel B hD (by omega) (by omega) (by rw [fuel_eq]; omega) hE1 hnv
      have f12 : fr M M1 := fr_trans f1 f2
      have hEm1 : EM (M1 146) T D := by rw [fr_at f12 (by omega)]; exact hEm
      obtain ⟨g, t1, hg⟩ := mTri hT hEm1
      obtain ⟨g2, t2⟩ := mWh (M := M1) hT (show b < 6 by omega) 5 D g fuel B hD (by omega) (by omega) (by rw [fuel_eq]; omega) hg
      refine ok_q hR (r := whS T b 5 D) (M1 := M1) (M2 := stA M1 148 g2) ?_ f12 ?_ (fr_stA (by unfold Jk; omega))
      · show f_X8_where M (nI b) = _
        unfold f_X8_where
        rw [if_pos ((isB_iff hT hE).mpr hbB), hcf, if_pos qf, nmE, h3, nmE]
        exact e1
      · show f_X9_where M1 (nI b) = _
        unfold f_X9_where
        rw [if_pos ((isBm_iff hT hEm1).mpr hbB), mFl hT hEm1 hD.1 (by omega), bdE, if_pos qf, t1, bdE]
        exact t2
    · refine act_no hR (r := -1) ?_ ?_
      · unfold f_X8_where
        rw [if_pos ((isB_iff hT hE).mpr hbB), hcf, if_neg qf]
      · unfold f_X9_where
        rw [if_pos ((isBm_iff hT hEm).mpr hbB), mFl hT hEm hD.1 (by omega), bdE, if_neg qf]
  · refine act_no hR (r := -1000001) ?_ ?_
    · unfold f_X8_where
      rw [if_neg (fun h => q ((isB_iff hT hE).mp h))]
    · unfold f_X9_where
      rw [if_neg (fun h => q ((isBm_iff hT hEm).mp h))]
theorem ok_strength (hR : Rel B M) (hB : B ≤ 900000) (x y : Int32) : Ok2 B M (fun M => f_X8_strength M x y) (fun M => f_X9_strength M x y) := by
  obtain ⟨T, D, n, P, hT, hD, hn, hP, hE, hEm, hC, hM⟩ := hR.2
  have h5 := hT.1
  have h6 := hT.2.1
  have hle := hD.2.2.1
  by_cases q : inB (Tnb T) x
  · obtain ⟨b, hb, rfl⟩ := q
    have hbB : inB (Tnb T) (nI b) := ⟨b, hb, rfl⟩
    by_cases qy : f_X9_in y 0 5 = true
    · obtain ⟨k, hk, rfl⟩ := (within_iff (n := 5) (by decide)).mp qy
      obtain ⟨hE1, f1⟩ := cTri hT hE
      have hcm : f_X2_coming (f_X2_become M 14 4) 4 = nI (Tnv T - Dth D) := cCom (fr_EC f1 (by omega) hE) hD
      obtain ⟨s, es⟩ : ∃ s, s = (if Tnv T - Dth D < k then Tnv T - Dth D else k) := ⟨_, rfl⟩
      have hs : (if nI (Tnv T - Dth D) < nI k then nI (Tnv T - Dth D) else nI k) = nI s := by
        rw [es]
        by_cases z : Tnv T - Dth D < k
        · rw [if_pos z, if_pos (nI_lt z (by omega))]
        · rw [if_neg z, if_neg (by rw [nI_ltI (by omega) (by omega)]; exact z)]
      have hs5 : s ≤ 5 ∧ s ≤ Tnv T - Dth D := by rw [es]; split <;> omega
      have hsk : s ≤ k ∧ (s = k ∨ s = Tnv T - Dth D) := by rw [es]; split <;> omega
      have hth : ∀ j, j ≤ s → Dth (pn T j D) = Dth D + j := by
        intro j
        induction j with
        | zero => intro _; rfl
        | succ j ih =>
          intro hj
          have e := ih (by omega)
          rw [pn_snoc, if_pos (by omega)]
          show Dth (pn T j D) + 1 = _
          omega
      have key := iter_inv (F := fun rec a => f_X8_strength_45 (nI b) (nI s) rec a.1 a.2) (fun j a => a.2 = nI j ∧ EC a.1 14 T (pn T j D) ∧ fr M a.1) s (fun z => z.1 = Dst (pn T s D) b ∧ fr M z.2) (fun j a hj hI => ?_) (fun a hI => ?_) fuel 0 (f_X2_become M 14 4, nI 0) (by omega) (by rw [fuel_eq]; omega) ⟨rfl, hE1, f1⟩
      · obtain ⟨⟨r, M1⟩, ⟨er, f12⟩, e1⟩ := key
        have er : r = Dst (pn T s D) b := er
        have f12 : fr M M1 := f12
        have hEm1 : EM (M1 146) T D := by rw [fr_at f12 (by omega)]; exact hEm
        obtain ⟨g, t1, hg⟩ := mTri hT hEm1
        have ext : ∀ (g : Nat → Int32), EM g T (pn T s D) → f_X9_strength_54 (stA M1 148 g) (nI b) = some (Dst (pn T s D) b, stA M1 148 g) := by
          intro g hg
          unfold f_X9_strength_54
          rw [i6, nI_sc, chk_ix (by omega) (by decide), cl_nI (by omega), stA_i, em_st hg hb]
        have key2 := iter_inv (F := fun rec a => f_X9_strength_26 (nI b) (nI k) rec a.1 a.2) (fun j a => ∃ g, a = (stA M1 148 g, nI j) ∧ EM g T (pn T j D)) s (fun z => ∃ g, z = (Dst (pn T s D) b, stA M1 148 g)) (fun j a hj hI => ?_) (fun a hI => ?_) fuel 0 (stA M1 148 g, nI 0) (by omega) (by rw [fuel_eq]; omega) ⟨g, rfl, hg⟩
        · obtain ⟨z, ⟨g2, rfl⟩, t2⟩ := key2
          refine ok_q hR (r := Dst (pn T s D) b) (M1 := M1) (M2 := stA M1 148 g2) ?_ f12 ?_ (fr_stA (by unfold Jk; omega))
          · show f_X8_strength M (nI b) (nI k) = _
            unfold f_X8_strength
            rw [if_pos ((isB_iff hT hE).mpr hbB), in_8, if_pos qy, nmE, hcm, hs, nmE, ← er]
            exact e1
          · show f_X9_strength M1 (nI b) (nI k) = _
            unfold f_X9_strength
            rw [if_pos ((isBm_iff hT hEm1).mpr hbB), if_pos qy, t1, bdE]
            exact t2
        · obtain ⟨g, rfl, hg⟩ := hI
          have hDj := pn_WD hT j D B hD (by omega)
          have hEg : EM ((stA M1 148 g) 148) T (pn T j D) := by rw [stA_i]; exact hg
          have ej := hth j (by omega)
          have hj2 : Dth (pn T j D) < Tnv T := by omega
          obtain ⟨g2, e2, hg2⟩ := mPass hT hEg hDj hj2
          rw [stA_stA] at e2
          left
          refine ⟨(stA M1 148 g2, nI (j + 1)), ⟨g2, rfl, by rw [pn_snoc, if_pos hj2]; exact hg2⟩, fun rec => ?_⟩
          show f_X9_strength_26 (nI b) (nI k) rec (stA M1 148 g) (nI j) = _
          unfold f_X9_strength_26
          rw [if_neg (by rw [nI_leI (by omega) (by omega)]; omega), mLeft hEg hDj, if_neg (nI_nle (by omega) (by omega)), e2, bdE, nmE, nI_sc]
        · obtain ⟨g, rfl, hg⟩ := hI
          have hDj := pn_WD hT s D B hD (by omega)
          have hEg : EM ((stA M1 148 g) 148) T (pn T s D) := by rw [stA_i]; exact hg
          refine ⟨_, ⟨g, rfl⟩, fun rec => ?_⟩
          show f_X9_strength_26 (nI b) (nI k) rec (stA M1 148 g) (nI s) = _
          unfold f_X9_strength_26
          rw [mLeft hEg hDj, hth s (by omega), ext g hg]
          rcases hsk.2 with z | z
          · rw [if_pos (by rw [nI_leI (by omega) (by omega)]; omega)]
          · rw [show Tnv T - (Dth D + s) = 0 by omega, if_pos (show nI 0 ≤ (0 : Int32) by decide)]
            split <;> rfl
      · obtain ⟨Mj, xj⟩ := a
        obtain ⟨rfl, hEj, fj⟩ := hI
        have hEj : EC Mj 14 T (pn T j D) := hEj
        have fj : fr M Mj := fj
        have hDj := pn_WD hT j D B hD (by omega)
        obtain ⟨M3, l2, hE3, f3⟩ := cFly1 hT hEj hDj
        left
        refine ⟨(M3, nI (j + 1)), ⟨rfl, by rw [pn_1] at hE3; exact hE3, fr_trans fj (fr_14 f3)⟩, fun rec => ?_⟩
        show f_X8_strength_45 (nI b) (nI s) rec Mj (nI j) = _
        unfold f_X8_strength_45
        rw [if_neg (by rw [nI_leI (by omega) (by omega)]; omega), l2, bdE, nmE, nI_sc]
      · obtain ⟨Mj, xj⟩ := a
        obtain ⟨rfl, hEj, fj⟩ := hI
        have hEj : EC Mj 14 T (pn T s D) := hEj
        have fj : fr M Mj := fj
        have k0 : Mj 22 b = Dst (pn T s D) b := ec_st hEj hb
        refine ⟨(Dst (pn T s D) b, Mj), ⟨rfl, fj⟩, fun rec => ?_⟩
        show f_X8_strength_45 (nI b) (nI s) rec Mj (nI s) = _
        unfold f_X8_strength_45
        rw [if_pos (by rw [nI_leI (by omega) (by omega)]; omega), chk_ix (by omega) (by decide), cl_nI (by omega), k0]
    · refine act_no hR (r := -1000001) ?_ ?_
      · unfold f_X8_strength
        rw [if_pos ((isB_iff hT hE).mpr hbB), in_8, if_neg qy]
      · unfold f_X9_strength
        rw [if_pos ((isBm_iff hT hEm).mpr hbB), if_neg qy]
  · refine act_no hR (r := -1000001) ?_ ?_
    · unfold f_X8_strength
      rw [if_neg (fun h => q ((isB_iff hT hE).mp h))]
    · unfold f_X9_strength
      rw [if_neg (fun h => q ((isBm_iff hT hEm).mp h))]
end TR
