/-! STORM: the loops -/
theorem wv_le {F c s w0 : Nat} (hc : c ≤ 10) : ∀ n, wv F c s w0 n ≤ w0 * 10 ^ n
  | 0 => by show w0 ≤ w0 * 1; omega
  | n + 1 => by
    have ih := wv_le (F := F) (s := s) (w0 := w0) hc n
    unfold wv
    rw [Nat.pow_succ, ← Nat.mul_assoc]
    apply Nat.mul_le_mul ih
    split
    · split <;> omega
    · omega
section SM
variable {B : Nat} {M : Mem} {T : TT} {D : DD}
theorem cStormW (hT : WT T) (hD : WD T D B) (hB : B ≤ 900000) (hE : EC M 4 T D) {c : Nat} (hc : c ≤ 10) (m : Int32) : ∃ M', f_X8_stormWeight M m (nI c) = some (nI (swt T D m (DF D) c (DF D + 1)), M') ∧ fr M M' := by
  have hF64 := wd_F hT hD
  have h0 : M 11 0 = nI (DF D) := ec_F hE
  have e10 : (10 : Int32) - nI c = nI (10 - c) := nI_sub (a := 10) hc
  obtain ⟨F, eF⟩ : ∃ F, F = DF D := ⟨_, rfl⟩
  rw [← eF] at hF64 h0 ⊢
  unfold f_X8_stormWeight
  rw [h0, nmE]
  have key := iter_inv (F := fun rec a => f_X8_stormWeight_17 m (nI c) (nI F) rec a.1 a.2.1 a.2.2) (fun s a => a.2 = (nI (swt T D m F c s), nI s) ∧ fr M a.1) (F + 1) (fun z => z.1 = nI (swt T D m F c (F + 1)) ∧ fr M z.2) (fun s a hs hI => ?_) (fun a hI => ?_) fuel 0 (M, (0 : Int32), (0 : Int32)) (by omega) (by rw [fuel_eq]; omega) ⟨rfl, fr_refl M⟩
  · obtain ⟨⟨r, M'⟩, ⟨er, f1⟩, e1⟩ := key
    have er : r = nI (swt T D m F c (F + 1)) := er
    rw [er] at e1
    exact ⟨M', e1, f1⟩
  · obtain ⟨Mk, aj⟩ := a
    obtain ⟨ea, fk⟩ := hI
    have ea : aj = (nI (swt T D m F c s), nI s) := ea
    subst ea
    have fk : fr M Mk := fk
    have hs64 : s < 64 := by omega
    have c1 : ¬ nI F < nI s := by rw [nI_ltI (by omega) (by omega)]; omega
    have hsw : swt T D m F c (s + 1) = swt T D m F c s + (if s &&& (63 ^^^ F) = 0 ∧ ¬ nI (pc (DF (arr T (wkn D s, D.2)))) < m then Wt F c s else 0) := rfl
    have hx : s &&& (63 ^^^ F) < 64 := Nat.lt_of_le_of_lt Nat.and_le_left hs64
    have c2 : (nI s &&& (nI F ^^^ (-1 : Int32)) = (0 : Int32)) ↔ s &&& (63 ^^^ F) = 0 := by
      rw [b_andn s hs64 F hF64]
      exact nI_eq (b := 0) (by omega) (by decide)
    left
    by_cases q : s &&& (63 ^^^ F) = 0
    · obtain ⟨hE1, f1⟩ := cTri hT (fr_EC fk (by omega) hE)
      obtain ⟨e2, hE2⟩ := cWkn hT hE1 hs64
      have hD2 := wkn_WD hD s
      obtain ⟨M3, e3, hE3, f3⟩ := cArr hT hE2 hD2 (by omega)
      have hp := wd_F hT (arr_WD hT hD2 (by omega))
      have f123 : fr M M3 := fr_trans fk (fr_trans f1 (fr_trans (fr_stA (by unfold Jk; omega)) (fr_14 f3)))
      have hy : F &&& (63 ^^^ s) < 64 := Nat.lt_of_le_of_lt Nat.and_le_left hF64
      by_cases z : nI (pc (DF (arr T (wkn D s, D.2)))) < m
      · refine ⟨(M3, nI (swt T D m F c (s + 1)), nI (s + 1)), ⟨rfl, f123⟩, fun rec => ?_⟩
        show f_X8_stormWeight_17 m (nI c) (nI F) rec Mk (nI (swt T D m F c s)) (nI s) = _
        unfold f_X8_stormWeight_17
        rw [if_neg c1, if_pos (c2.mpr q), nmE, e2, bdE, e3, bdE, b_pc _ hp, if_pos z, nmE, nI_sc, hsw, if_neg (fun w => w.2 z), Nat.add_zero (swt T D m F c s)]
      · refine ⟨(M3, nI (swt T D m F c (s + 1)), nI (s + 1)), ⟨rfl, f123⟩, fun rec => ?_⟩
        show f_X8_stormWeight_17 m (nI c) (nI F) rec Mk (nI (swt T D m F c s)) (nI s) = _
        have p1 := pc_le s hs64
        have p2 := pc_le _ hy
        unfold f_X8_stormWeight_17
        rw [if_neg c1, if_pos (c2.mpr q), nmE, e2, bdE, e3, bdE, b_pc _ hp, if_neg z, b_andn F hF64 s hs64, b_pc _ hy, nmE, b_pc s hs64, b_pow c (by omega) _ (by omega), bdE, e10, b_pow (10 - c) (by omega) _ (by omega), bdE, pk_mul, nI_add, nmE, nmE, nI_sc, hsw, if_pos ⟨q, z⟩]
        rfl
    · refine ⟨(Mk, nI (swt T D m F c (s + 1)), nI (s + 1)), ⟨rfl, fk⟩, fun rec => ?_⟩
      show f_X8_stormWeight_17 m (nI c) (nI F) rec Mk (nI (swt T D m F c s)) (nI s) = _
      unfold f_X8_stormWeight_17
      rw [if_neg c1, if_neg (fun w => q (c2.mp w)), nmE, nI_sc, hsw, if_neg (fun w => q w.1), Nat.add_zero (swt T D m F c s)]
  · obtain ⟨Mk, aj⟩ := a
    obtain ⟨ea, fk⟩ := hI
    have ea : aj = (nI (swt T D m F c (F + 1)), nI (F + 1)) := ea
    subst ea
    refine ⟨(nI (swt T D m F c (F + 1)), Mk), ⟨rfl, fk⟩, fun rec => ?_⟩
    show f_X8_stormWeight_17 m (nI c) (nI F) rec Mk (nI (swt T D m F c (F + 1))) (nI (F + 1)) = _
    unfold f_X8_stormWeight_17
    rw [if_pos (by rw [nI_ltI (by omega) (by omega)]; omega)]
theorem wk_ge {D : DD} {s b : Nat} (hs : s.testBit b = true) (h : 5 ≤ Dst D b) (h2 : (Dst D b).toInt ≤ 30) : Dst D b - 5 = wkn D s b := by
  have e5 : (5 : Int32).toInt = 5 := rfl
  rw [i_le, e5] at h
  unfold wkn
  rw [if_pos hs, mx_id]
  rw [ti_sub (by omega) (by omega)]
  omega
theorem wk_lt {D : DD} {s b : Nat} (hs : s.testBit b = true) (h : ¬ 5 ≤ Dst D b) (h2 : 0 ≤ (Dst D b).toInt) : (0 : Int32) = wkn D s b := by
  have e5 : (5 : Int32).toInt = 5 := rfl
  have e0 : (0 : Int32).toInt = 0 := rfl
  rw [i_le, e5] at h
  unfold wkn mx
  rw [if_pos hs, if_neg]
  rw [i_lt, ti_sub (by omega) (by omega)]
  omega
/-- the birds of a set are less strong, and their weight -/
theorem mStormI (hT : WT T) (hD : WD T D B) (hB : B ≤ 900000) {F : Nat} (eF : F = DF D) (hE : EM (M 146) T D) {g : Nat → Int32} (hg : EM g T D) {c : Nat} (hc : c ≤ 10) (m w : Int32) {s A Bl : Nat} (hs : s < 64) {w0 : Nat} (hw : w0 ≤ 1) : ∃ g', ∀ r101, iter (fun rec a => f_X9_storm_132 r101 m (nI c) w (nI F) (nI A) (nI Bl) (nI s) rec a.1 a.2.1 a.2.2) fuel (stA M 148 g, nI w0, nI 0) = r101 (stA M 148 g', nI (A + (if 0 < wv F c s w0 (Tnb T) ∧ ¬ nI (pc (DF (arr T (wkn D s, D.2)))) < m then wv F c s w0 (Tnb T) else 0)), nI (s + 1)) := by
  have h6 := hT.2.1
  have hF64 := wd_F hT hD
  rw [← eF] at hF64
  have e10 : (10 : Int32) - nI c = nI (10 - c) := nI_sub (a := 10) hc
  have hD2 := wkn_WD hD s
  have hp := wd_F hT (arr_WD hT hD2 (by omega))
  have hgn : EM (pf 1 (wkn D s) g (Tnb T)) T (wkn D s, D.2) := em_st2 (D := (wkn D s, D.2)) (pf_st hT hg (wkn D s) (Tnb T)) (fun b hb => if_pos hb) rfl
  obtain ⟨g2, t2, hg2⟩ := mEnds (M := M) hT hgn hD2 (by omega)
  have hw6 : wv F c s w0 (Tnb T) ≤ 1000000 := by
    have h1 := wv_le (F := F) (s := s) (w0 := w0) hc (Tnb T)
    have h2 : 10 ^ Tnb T ≤ 10 ^ 6 := Nat.pow_le_pow_right (by decide) h6
    have h3 := Nat.mul_le_mul hw h2
    exact Nat.le_trans h1 (Nat.le_trans h3 (by decide))
  obtain ⟨W, eW⟩ : ∃ W, W = wv F c s w0 (Tnb T) := ⟨_, rfl⟩
  rw [← eW] at hw6 ⊢
  -- a step
  have stp : ∀ b, b < Tnb T → ∀ (r101 r132 : Mem × Int32 × Int32 → Option (Int32 × Mem)), f_X9_storm_132 r101 m (nI c) w (nI F) (nI A) (nI Bl) (nI s) r132 (stA M 148 (pf 1 (wkn D s) g b)) (nI (wv F c s w0 b)) (nI b) = r132 (stA M 148 (pf 1 (wkn D s) g (b + 1)), nI (wv F c s w0 (b + 1)), nI (b + 1)) := by
    intro b hb r101 r132
    have e5 : (stA M 148 (pf 1 (wkn D s) g b)) 146 5 = nI (Tnb T) := by rw [stA_ne (by decide)]; exact em_nb hE
    have eD : (stA M 148 (pf 1 (wkn D s) g b)) 148 (21 + 6 * b + 1) = Dst D b := by rw [stA_i, pf_out (by omega)]; exact em_st hg hb
    have hst := hD.2.2.2.2.2.2 b hb
    have e189 : ∀ v f1 : Nat, f_X9_storm_189 r132 (stA M 148 (pf 1 (wkn D s) g b)) m (nI c) w (nI F) (nI A) (nI Bl) (nI s) (nI b) (nI (21 + 6 * b + 1)) (nI v) (nI f1) = r132 (stA M 148 (pf 1 (wkn D s) g (b + 1)), nI (v * f1), nI (b + 1)) := by
      intro v f1
      unfold f_X9_storm_189
      rw [pk_mul, nmE, b_has s hs b (by omega)]
      by_cases z : s.testBit b = true
      · rw [if_pos z, chk_ix (by omega) (by decide), cl_nI (by omega), eD]
        by_cases z2 : 5 ≤ Dst D b
        · rw [if_pos z2, nmE, nmE, nI_sc, stA_put (pf_up (by decide) (wk_ge z z2 hst.2))]
        · rw [if_neg z2, nmE, nmE, nI_sc, stA_put (pf_up (by decide) (wk_lt z z2 hst.1))]
      · have hv : Dst D b = wkn D s b := (if_neg z).symm
        rw [if_neg z, chk_ix (by omega) (by decide), cl_nI (by omega), eD, nmE, nmE, nI_sc, stA_put (pf_up (by decide) hv)]
    have hwv : wv F c s w0 (b + 1) = wv F c s w0 b * (if F.testBit b = true then (if s.testBit b = true then c else 10 - c) else 1) := rfl
    unfold f_X9_storm_132
    rw [e5, if_neg (by rw [nI_leI (by omega) (by omega)]; omega), i6, nI_sc, nmE, b_has F hF64 b (by omega), hwv]
    by_cases z : F.testBit b = true
    · rw [if_pos z, if_pos z, b_has s hs b (by omega)]
      by_cases z2 : s.testBit b = true
      · rw [if_pos z2, if_pos z2]
        exact e189 _ _
      · rw [if_neg z2, if_neg z2, e10]
        exact e189 _ _
    · rw [if_neg z, if_neg z]
      exact e189 _ 1
  have e5 : (stA M 148 (pf 1 (wkn D s) g (Tnb T))) 146 5 = nI (Tnb T) := by rw [stA_ne (by decide)]; exact em_nb hE
  have go : ∀ (g' : Nat → Int32) (r101 : Mem × Int32 × Int32 → Option (Int32 × Mem)), (∀ r132, f_X9_storm_132 r101 m (nI c) w (nI F) (nI A) (nI Bl) (nI s) r132 (stA M 148 (pf 1 (wkn D s) g (Tnb T))) (nI W) (nI (Tnb T)) = r101 (stA M 148 g', nI (A + (if 0 < W ∧ ¬ nI (pc (DF (arr T (wkn D s, D.2)))) < m then W else 0)), nI (s + 1))) → iter (fun rec a => f_X9_storm_132 r101 m (nI c) w (nI F) (nI A) (nI Bl) (nI s) rec a.1 a.2.1 a.2.2) fuel (stA M 148 g, nI w0, nI 0) = r101 (stA M 148 g', nI (A + (if 0 < W ∧ ¬ nI (pc (DF (arr T (wkn D s, D.2)))) < m then W else 0)), nI (s + 1)) := by
    intro g' r101 h
    have k2 := iter_to (F := fun rec a => f_X9_storm_132 r101 m (nI c) w (nI F) (nI A) (nI Bl) (nI s) rec a.1 a.2.1 a.2.2) (fun b => (stA M 148 (pf 1 (wkn D s) g b), nI (wv F c s w0 b), nI b)) (Tnb T) (r101 (stA M 148 g', nI (A + (if 0 < W ∧ ¬ nI (pc (DF (arr T (wkn D s, D.2)))) < m then W else 0)), nI (s + 1))) (fun b hb rec => stp b hb r101 rec) (fun rec => by rw [← eW]; exact h rec) fuel 0 (Nat.zero_le _) (by rw [fuel_eq]; omega)
    rw [pf_0] at k2
    exact k2
  by_cases z : 0 < W
  · have c1 : ¬ nI W ≤ (0 : Int32) := nI_nle z (by omega)
    refine ⟨g2, fun r101 => go g2 r101 (fun r132 => ?_)⟩
    unfold f_X9_storm_132
    rw [e5, if_pos (by rw [nI_leI (by omega) (by omega)]; omega), if_neg c1, t2, bdE, b_ones _ hp, bdE]
    by_cases z2 : nI (pc (DF (arr T (wkn D s, D.2)))) < m
    · rw [if_pos z2, if_neg (fun q => q.2 z2), nmE, nmE, nI_sc, Nat.add_zero A, Int32.add_zero]
    · rw [if_neg z2, if_pos ⟨z, z2⟩, nmE, nmE, nI_sc, nI_add]
  · have w0' : W = 0 := by omega
    refine ⟨pf 1 (wkn D s) g (Tnb T), fun r101 => go _ r101 (fun r132 => ?_)⟩
    unfold f_X9_storm_132
    rw [e5, if_pos (by rw [nI_leI (by omega) (by omega)]; omega), w0', if_pos (show nI 0 ≤ (0 : Int32) by decide), nmE, nmE, nI_sc, if_neg (fun q => absurd q.1 (by decide)), Nat.add_zero A, Int32.add_zero]
theorem mStormO (hT : WT T) (hD : WD T D B) (hB : B ≤ 900000) (hE : EM (M 146) T D) {c : Nat} (hc : c ≤ 10) (m w : Int32) {F A Bl : Nat} (eF : F = DF D) (eA : A = swt T D m F c (F + 1)) {z : Int32} (hz : ∀ M' : Mem, iter (fun rec z => f_X9_storm_290 M' w (nI A) (nI Bl) rec z.1 z.2) fuel (nI A, nI Bl) = some (z, M')) : ∃ M', iter (fun rec a => f_X9_storm_101 m (nI c) w (nI F) (nI Bl) rec a.1 a.2.1 a.2.2) fuel (M, (0 : Int32), (0 : Int32)) = some (z, M') ∧ fr M M' := by
  have h6 := hT.2.1
  have hF64 := wd_F hT hD
  have hFn := hD.1
  rw [← eF] at hF64 hFn
  have key := iter_inv (F := fun rec a => f_X9_storm_101 m (nI c) w (nI F) (nI Bl) rec a.1 a.2.1 a.2.2) (fun s a => a.2 = (nI (swt T D m F c s), nI s) ∧ fr M a.1) (F + 1) (fun q => q.1 = z ∧ fr M q.2) (fun s a hs hI => ?_) (fun a hI => ?_) fuel 0 (M, (0 : Int32), (0 : Int32)) (by omega) (by rw [fuel_eq]; omega) ⟨rfl, fr_refl M⟩
  · obtain ⟨⟨r, M'⟩, ⟨er, f1⟩, e1⟩ := key
    have er : r = z := er
    rw [er] at e1
    exact ⟨M', e1, f1⟩
  · obtain ⟨Mk, aj⟩ := a
    obtain ⟨ea, fk⟩ := hI
    have ea : aj = (nI (swt T D m F c s), nI s) := ea
    subst ea
    have fk : fr M Mk := fk
    have hs64 : s < 64 := by omega
    have hEk : EM (Mk 146) T D := by rw [fr_at fk (by omega)]; exact hE
    obtain ⟨g, t1, hg⟩ := mTri hT hEk
    have c1 : ¬ nI F < nI s := by rw [nI_ltI (by omega) (by omega)]; omega
    have hsw : swt T D m F c (s + 1) = swt T D m F c s + (if s &&& (63 ^^^ F) = 0 ∧ ¬ nI (pc (DF (arr T (wkn D s, D.2)))) < m then Wt F c s else 0) := rfl
    have hx : s &&& (63 ^^^ F) < 64 := Nat.lt_of_le_of_lt Nat.and_le_left hs64
    have c2 : (nI s &&& (nI F ^^^ (-1 : Int32)) = (0 : Int32)) ↔ s &&& (63 ^^^ F) = 0 := by
      rw [b_andn s hs64 F hF64]
      exact nI_eq (b := 0) (by omega) (by decide)
    left
    by_cases q : s &&& (63 ^^^ F) = 0
    · obtain ⟨g', e'⟩ := mStormI (M := Mk) hT hD hB eF hEk hg hc m w (A := swt T D m F c s) (Bl := Bl) hs64 (w0 := 1) (by omega)
      refine ⟨(stA Mk 148 g', nI (swt T D m F c (s + 1)), nI (s + 1)), ⟨rfl, fr_trans fk (fr_stA (by unfold Jk; omega))⟩, fun rec => ?_⟩
      show f_X9_storm_101 m (nI c) w (nI F) (nI Bl) rec Mk (nI (swt T D m F c s)) (nI s) = _
      unfold f_X9_storm_101
      rw [if_neg c1, if_pos (c2.mpr q), t1, bdE]
      have e2 := e' rec
      have eq1 : (if 0 < wv F c s 1 (Tnb T) ∧ ¬ nI (pc (DF (arr T (wkn D s, D.2)))) < m then wv F c s 1 (Tnb T) else 0) = (if s &&& (63 ^^^ F) = 0 ∧ ¬ nI (pc (DF (arr T (wkn D s, D.2)))) < m then Wt F c s else 0) := by
        rw [wv_W h6 hFn hs64 q]
        by_cases y : nI (pc (DF (arr T (wkn D s, D.2)))) < m
        · rw [if_neg (fun w => w.2 y), if_neg (fun w => w.2 y)]
        · have p2 : s &&& (63 ^^^ F) = 0 ∧ ¬ nI (pc (DF (arr T (wkn D s, D.2)))) < m := ⟨q, y⟩
          by_cases y2 : 0 < Wt F c s
          · have p1 : 0 < Wt F c s ∧ ¬ nI (pc (DF (arr T (wkn D s, D.2)))) < m := ⟨y2, y⟩
            rw [if_pos p1, if_pos p2]
          · have p1 : ¬ (0 < Wt F c s ∧ ¬ nI (pc (DF (arr T (wkn D s, D.2)))) < m) := fun w => y2 w.1
            have p3 : Wt F c s = 0 := Nat.eq_zero_of_not_pos y2
            rw [if_neg p1, if_pos p2, p3]
      rw [eq1, ← hsw] at e2
      exact e2
    · obtain ⟨g', e'⟩ := mStormI (M := Mk) hT hD hB eF hEk hg hc m w (A := swt T D m F c s) (Bl := Bl) hs64 (w0 := 0) (by omega)
      refine ⟨(stA Mk 148 g', nI (swt T D m F c (s + 1)), nI (s + 1)), ⟨rfl, fr_trans fk (fr_stA (by unfold Jk; omega))⟩, fun rec => ?_⟩
      show f_X9_storm_101 m (nI c) w (nI F) (nI Bl) rec Mk (nI (swt T D m F c s)) (nI s) = _
      unfold f_X9_storm_101
      rw [if_neg c1, if_neg (fun w => q (c2.mp w)), t1, bdE]
      have e2 := e' rec
      rw [wv_0, if_neg (fun w => absurd w.1 (by decide))] at e2
      rw [hsw, if_neg (fun w => q w.1)]
      exact e2
  · obtain ⟨Mk, aj⟩ := a
    obtain ⟨ea, fk⟩ := hI
    have ea : aj = (nI (swt T D m F c (F + 1)), nI (F + 1)) := ea
    subst ea
    refine ⟨(z, Mk), ⟨rfl, fk⟩, fun rec => ?_⟩
    show f_X9_storm_101 m (nI c) w (nI F) (nI Bl) rec Mk (nI (swt T D m F c (F + 1))) (nI (F + 1)) = _
    unfold f_X9_storm_101
    rw [if_pos (by rw [nI_ltI (by omega) (by omega)]; omega), ← eA]
    exact hz Mk
theorem mStorm (hT : WT T) (hD : WD T D B) (hB : B ≤ 900000) (hE : EM (M 146) T D) {c : Nat} (hc : c ≤ 10) (m w : Int32) {F A Bl : Nat} (eF : F = DF D) (eA : A = swt T D m F c (F + 1)) (eB : Bl = 10 ^ pc F) {z : Int32} (hz : ∀ M' : Mem, iter (fun rec z => f_X9_storm_290 M' w (nI A) (nI Bl) rec z.1 z.2) fuel (nI A, nI Bl) = some (z, M')) : ∃ M', iter (fun rec a => f_X9_storm_60 M m (nI c) w (nI F) false rec a.1 a.2) fuel ((1 : Int32), (0 : Int32)) = some (z, M') ∧ fr M M' := by
  have h6 := hT.2.1
  have hF64 := wd_F hT hD
  have hFn := hD.1
  rw [← eF] at hF64 hFn
  obtain ⟨M', e1, f1⟩ := mStormO hT hD hB hE hc m w eF eA hz
  refine ⟨M', ?_, f1⟩
  exact iter_to (F := fun rec a => f_X9_storm_60 M m (nI c) w (nI F) false rec a.1 a.2) (fun b => (nI (10 ^ cnt (fun b => F.testBit b) b), nI b)) (Tnb T) (some (z, M')) (fun b hb rec => by
    show f_X9_storm_60 M m (nI c) w (nI F) false rec (nI (10 ^ cnt (fun b => F.testBit b) b)) (nI b) = rec (nI (10 ^ (cnt (fun b => F.testBit b) b + (if F.testBit b = true then 1 else 0))), nI (b + 1))
    unfold f_X9_storm_60
    rw [em_nb hE, if_neg (by rw [nI_leI (by omega) (by omega)]; omega), b_has F hF64 b (by omega)]
    by_cases y : F.testBit b = true
    · rw [if_pos y, if_pos y, nmE, nmE, nI_sc, show (10 : Int32) = nI 10 from rfl, pk_mul, Nat.pow_succ]
    · rw [if_neg y, if_neg y, nmE, nmE, nI_sc, Int32.mul_one, Nat.add_zero (cnt (fun b => F.testBit b) b)]) (fun rec => by
    show f_X9_storm_60 M m (nI c) w (nI F) false rec (nI (10 ^ cnt (fun b => F.testBit b) (Tnb T))) (nI (Tnb T)) = _
    unfold f_X9_storm_60
    rw [em_nb hE, if_pos (by rw [nI_leI (by omega) (by omega)]; omega), cnt_F h6 hFn, ← eB]
    exact e1) fuel 0 (Nat.zero_le _) (by rw [fuel_eq]; omega)
end SM
section SM2
variable {B : Nat} {M : Mem}
theorem ok_storm (hR : Rel B M) (hB : B ≤ 900000) (m y w : Int32) : Ok2 B M (fun M => f_X8_storm M m y w) (fun M => f_X9_storm M m y w) := by
  obtain ⟨T, D, n, P, hT, hD, hn, hP, hE, hEm, hC, hM⟩ := hR.2
  have hF64 := wd_F hT hD
  by_cases q : 0 < Tnv T
  · by_cases qm : f_X9_in m 0 6 = true
    · by_cases qy : f_X9_in y 0 10 = true
      · by_cases qw : f_X9_in w 0 1 = true
        · obtain ⟨c, hc, rfl⟩ := (within_iff (n := 10) (by decide)).mp qy
          obtain ⟨F, eF⟩ : ∃ F, F = DF D := ⟨_, rfl⟩
          obtain ⟨A, eA⟩ : ∃ A, A = swt T D m F c (F + 1) := ⟨_, rfl⟩
          obtain ⟨Bl, eB⟩ : ∃ Bl, Bl = 10 ^ pc F := ⟨_, rfl⟩
          have hF : F < 64 := by rw [eF]; exact hF64
          have hpF := pc_le F hF
          have hBl : Bl ≤ 1000000 := by
            rw [eB]
            exact Nat.le_trans (Nat.pow_le_pow_right (by decide) hpF) (by decide)
          have hBl0 : 0 < Bl := by rw [eB]; exact Nat.pow_pos (by decide)
          have hA : A ≤ 64000000 := by
            have h1 := swt_le (T := T) (D := D) (m := m) hF (show c ≤ 10 by omega) (F + 1) (by omega)
            rw [← eA] at h1
            omega
          obtain ⟨g, g1, g2, g3, g4⟩ := eucl 20 A Bl (by omega) (by omega) (by omega) (by omega)
          obtain ⟨M1, e1, f1⟩ := cStormW hT hD hB hE (show c ≤ 10 by omega) m
          rw [← eF, ← eA] at e1
          have hF1 : M1 11 0 = nI F := by rw [fr_at f1 (by omega), eF]; exact ec_F hE
          have hEm1 : EM (M1 146) T D := by rw [fr_at f1 (by omega)]; exact hEm
          obtain ⟨M2, e2, f2⟩ := mStorm (z := if w = (0 : Int32) then nI A / nI g else nI Bl / nI g) hT hD hB hEm1 (show c ≤ 10 by omega) m w eF eA eB (fun M' => g4 M' w (nI A) (nI Bl) fuel (by rw [fuel_eq]; omega))
          have hg0 : ¬ nI g = 0 := nI_ne0 (by omega) (by omega)
          have hg1 : (1 : Int32) ≤ nI g := (nI_leI (a := 1) (by decide) (by omega)).mpr g1
          have hcd : f_X8_commonDivisor (nI A) (nI Bl) = some (nI g) := by
            unfold f_X8_commonDivisor
            exact g3 0 fuel (by omega) (by rw [fuel_eq]; omega)
          have hpw : f_X8_power (10 : Int32) (nI (pc F)) = some (nI Bl) := by
            rw [eB]
            exact b_pow 10 (by decide) (pc F) (by omega)
          refine ok_q hR (r := if w = (0 : Int32) then nI A / nI g else nI Bl / nI g) (M1 := M1) (M2 := M2) ?_ f1 ?_ f2
          · show f_X8_storm M m (nI c) w = _
            unfold f_X8_storm
            rw [if_pos ((isT_iff hT hE).mpr q), in_8, if_pos qm, in_8, if_pos qy, in_8, if_pos qw, e1, bdE]
            dsimp only
            rw [hF1, b_pc F hF, hpw, bdE, hcd, bdE, if_pos hg1, chk_t (by simpa using hg0), chk_t (by simpa using hg0)]
            split <;> rfl
          · show f_X9_storm M1 m (nI c) w = _
            unfold f_X9_storm
            rw [if_pos ((isF_iff hEm1).mpr q), if_pos qm, if_pos qy, if_pos qw, mFly hT hEm1 hD.1, bdE, ← eF]
            exact e2
        · refine act_no hR (r := -1000001) ?_ ?_
          · unfold f_X8_storm
            rw [if_pos ((isT_iff hT hE).mpr q), in_8, if_pos qm, in_8, if_pos qy, in_8, if_neg qw]
          · unfold f_X9_storm
            rw [if_pos ((isF_iff hEm).mpr q), if_pos qm, if_pos qy, if_neg qw]
      · refine act_no hR (r := -1000001) ?_ ?_
        · unfold f_X8_storm
          rw [if_pos ((isT_iff hT hE).mpr q), in_8, if_pos qm, in_8, if_neg qy]
        · unfold f_X9_storm
          rw [if_pos ((isF_iff hEm).mpr q), if_pos qm, if_neg qy]
    · refine act_no hR (r := -1000001) ?_ ?_
      · unfold f_X8_storm
        rw [if_pos ((isT_iff hT hE).mpr q), in_8, if_neg qm]
      · unfold f_X9_storm
        rw [if_pos ((isF_iff hEm).mpr q), if_neg qm]
  · refine act_no hR (r := -1000002) ?_ ?_
    · unfold f_X8_storm
      rw [if_neg (fun h => q ((isT_iff hT hE).mp h))]
    · unfold f_X9_storm
      rw [if_neg (fun h => q ((isF_iff hEm).mp h))]
end SM2
