/-! FITS and ASKED: the loops over what is supposed -/
section F2
variable {B : Nat} {M : Mem} {T : TT} {D : DD}
theorem cSeen (hT : WT T) {i p c : Nat} (hi : 104 ≤ i ∧ i ≤ 118) (hpc : p + c ≤ 40) {it : Nat → Int32} (hD : WD T D B) (hB : B ≤ 900000) (hth : Dth D + c ≤ Tnv T) (hE : EC M 14 T D) (hit : ∀ t, t < c → M (i + 1) (p + t) = it t) : ∃ M', f_X8_isSeen M i (nI p) (nI c) = some (sn T it c 0 D, M') ∧ fr M M' := by
  unfold f_X8_isSeen
  exact cSn hT hi hpc c 0 D M fuel B (by omega) hD (by omega) hth (by rw [fuel_eq]; omega) hE hit
theorem mSeen (hT : WT T) {p c : Nat} (hpc : p + c ≤ 320) (hc : c ≤ 40) {it : Nat → Int32} {g : Nat → Int32} (hD : WD T D B) (hB : B ≤ 900000) (hth : Dth D + c ≤ Tnv T) (hE : EM g T D) (hit : ∀ t, t < c → M 143 (p + t) = it t) : ∃ g', f_X9_goesSo (stA M 148 g) (nI p) (nI c) = some (sn T it c 0 D, stA M 148 g') := by
  obtain ⟨g', e⟩ := mSn (M := M) hT hpc c 0 D g true fuel B (by omega) hc hD (by omega) hth (by rw [fuel_eq]; omega) hE hit
  rw [Bool.true_and] at e
  unfold f_X9_goesSo
  exact ⟨g', e⟩
theorem so_st {P : Nat → Bool} {v : Nat} (h : P v = true) (hv : v < 31) : nI (so P v) ||| ((1 : Int32) <<< (nI v &&& 31)) = nI (so P (v + 1)) := by
  rw [b_sh v hv, nI_or]
  show _ = nI (so P v ||| (if P v = true then 2 ^ v else 0))
  rw [if_pos h]
theorem so_sf {P : Nat → Bool} {v : Nat} (h : ¬ P v = true) : nI (so P v) ||| (0 : Int32) = nI (so P (v + 1)) := by
  rw [nI_or0]
  show _ = nI (so P v ||| (if P v = true then 2 ^ v else 0))
  rw [if_neg h, Nat.or_zero]
theorem cSorts (hT : WT T) (hD : WD T D B) (hB : B ≤ 900000) (hE : EC M 4 T D) {b : Nat} (hb : b < Tnb T) {i p c : Nat} (hi : 104 ≤ i ∧ i ≤ 118) (hpc : p + c ≤ 40) (hth : Dth D + c ≤ Tnv T) {it : Nat → Int32} (hit : ∀ t, t < c → M (i + 1) (p + t) = it t) : ∃ M', iter (fun rec a => f_X8_sortsSeen_6 i (nI b) (nI p) (nI c) rec a.1 a.2.1 a.2.2) fuel (M, (0 : Int32), (1 : Int32)) = some (nI (so (fun v => decide (1 ≤ v) && sn (Tk T b (nI v)) it c 0 D) (5 + 1)), M') ∧ fr M M' := by
  have h5 := hT.1
  have h6 := hT.2.1
  obtain ⟨P, eP⟩ : ∃ P : Nat → Bool, P = (fun v => decide (1 ≤ v) && sn (Tk T b (nI v)) it c 0 D) := ⟨_, rfl⟩
  rw [← eP]
  have hP : ∀ v, P v = (decide (1 ≤ v) && sn (Tk T b (nI v)) it c 0 D) := fun v => by rw [eP]
  have h0 : so P 1 = 0 := by
    show so P 0 ||| (if P 0 = true then 2 ^ 0 else 0) = 0
    rw [hP, if_neg (by simp), Nat.or_zero]
    rfl
  have key := iter_inv (F := fun rec a => f_X8_sortsSeen_6 i (nI b) (nI p) (nI c) rec a.1 a.2.1 a.2.2) (fun v a => 1 ≤ v ∧ a.2 = (nI (so P v), nI v) ∧ fr M a.1) (5 + 1) (fun z => z.1 = nI (so P (5 + 1)) ∧ fr M z.2) (fun v a hv hI => ?_) (fun a hI => ?_) fuel 1 (M, (0 : Int32), (1 : Int32)) (by omega) (by rw [fuel_eq]; omega) ⟨by omega, by rw [h0]; rfl, fr_refl M⟩
  · obtain ⟨⟨r, M'⟩, ⟨er, f1⟩, e1⟩ := key
    have er : r = nI (so P (5 + 1)) := er
    rw [er] at e1
    exact ⟨M', e1, f1⟩
  · obtain ⟨Mk, aj⟩ := a
    obtain ⟨hlo, ea, fk⟩ := hI
    have ea : aj = (nI (so P v), nI v) := ea
    subst ea
    have fk : fr M Mk := fk
    obtain ⟨hE1, f1⟩ := cTri hT (fr_EC fk (by omega) hE)
    have hE2 : EC (st (f_X2_become Mk 14 4) 18 b (nI v)) 14 (Tk T b (nI v)) D := ec_Tk hE1 b (nI v)
    have f2 : fr M (st (f_X2_become Mk 14 4) 18 b (nI v)) := fr_trans fk (fr_trans f1 (fr_st (by unfold Jk; omega)))
    have hW : WT (Tk T b (nI v)) := Tk_WT hT (by rw [ti (by omega)]; omega)
    obtain ⟨M3, e3, f3⟩ := cSeen (B := B) (it := it) hW hi hpc hD hB hth hE2 (fun t ht => by rw [fr_at f2 (by omega)]; exact hit t ht)
    left
    refine ⟨(M3, nI (so P (v + 1)), nI (v + 1)), ⟨by omega, rfl, fr_trans f2 f3⟩, fun rec => ?_⟩
    show f_X8_sortsSeen_6 i (nI b) (nI p) (nI c) rec Mk (nI (so P v)) (nI v) = _
    unfold f_X8_sortsSeen_6
    have c1 : ¬ (5 : Int32) < nI v := fun h => by
      have := (nI_ltI (a := 5) (b := v) (by decide) (by omega)).mp h
      omega
    rw [if_neg c1, nmE, chk_ix (by omega) (by decide), cl_nI (by omega), nmE, e3, bdE]
    by_cases z : sn (Tk T b (nI v)) it c 0 D = true
    · rw [if_pos z, nmE, nmE, nI_sc, so_st (P := P) (by rw [hP, z, decide_eq_true hlo]; rfl) (by omega)]
    · rw [if_neg z, nmE, nmE, nI_sc, so_sf (P := P) (by rw [hP]; simp [z])]
  · obtain ⟨Mk, aj⟩ := a
    obtain ⟨hlo, ea, fk⟩ := hI
    have ea : aj = (nI (so P (5 + 1)), nI (5 + 1)) := ea
    subst ea
    refine ⟨(nI (so P (5 + 1)), Mk), ⟨rfl, fk⟩, fun rec => ?_⟩
    show f_X8_sortsSeen_6 i (nI b) (nI p) (nI c) rec Mk (nI (so P (5 + 1))) (nI (5 + 1)) = _
    unfold f_X8_sortsSeen_6
    have c1 : (5 : Int32) < nI (5 + 1) := by decide
    rw [if_pos c1]
theorem mSorts (hT : WT T) (hD : WD T D B) (hB : B ≤ 900000) (hE : EM (M 146) T D) {b : Nat} (hb : b < Tnb T) {j p c : Nat} (hc1 : 1 ≤ c) (hpc : 40 * j + p + c ≤ 320) (hc : c ≤ 40) (hth : Dth D + c ≤ Tnv T) {it : Nat → Int32} (hit : ∀ t, t < c → M 143 (40 * j + p + t) = it t) : ∃ M', iter (fun rec a => f_X9_fits_127 (nI j) (nI p) (nI c) (nI (21 + 6 * b)) (5 : Int32) rec a.1 a.2.1 a.2.2) fuel (M, (0 : Int32), (1 : Int32)) = some (nI (so (fun v => decide (1 ≤ v) && sn (Tk T b (nI v)) it c 0 D) (5 + 1)), st M' 140 4 0) ∧ fr M M' := by
  have h5 := hT.1
  have h6 := hT.2.1
  obtain ⟨P, eP⟩ : ∃ P : Nat → Bool, P = (fun v => decide (1 ≤ v) && sn (Tk T b (nI v)) it c 0 D) := ⟨_, rfl⟩
  rw [← eP]
  have hP : ∀ v, P v = (decide (1 ≤ v) && sn (Tk T b (nI v)) it c 0 D) := fun v => by rw [eP]
  have h0 : so P 1 = 0 := by
    show so P 0 ||| (if P 0 = true then 2 ^ 0 else 0) = 0
    rw [hP, if_neg (by simp), Nat.or_zero]
    rfl
  have key := iter_inv (F := fun rec a => f_X9_fits_127 (nI j) (nI p) (nI c) (nI (21 + 6 * b)) (5 : Int32) rec a.1 a.2.1 a.2.2) (fun v a => 1 ≤ v ∧ a.2 = (nI (so P v), nI v) ∧ fr M a.1) (5 + 1) (fun z => z.1 = nI (so P (5 + 1)) ∧ ∃ M', z.2 = st M' 140 4 0 ∧ fr M M') (fun v a hv hI => ?_) (fun a hI => ?_) fuel 1 (M, (0 : Int32), (1 : Int32)) (by omega) (by rw [fuel_eq]; omega) ⟨by omega, by rw [h0]; rfl, fr_refl M⟩
  · obtain ⟨⟨r, M'⟩, ⟨er, M2, em, f1⟩, e1⟩ := key
    have er : r = nI (so P (5 + 1)) := er
    have em : M' = st M2 140 4 0 := em
    rw [er, em] at e1
    exact ⟨M2, e1, f1⟩
  · obtain ⟨Mk, aj⟩ := a
    obtain ⟨hlo, ea, fk⟩ := hI
    have ea : aj = (nI (so P v), nI v) := ea
    subst ea
    have fk : fr M Mk := fk
    have hEk : EM (Mk 146) T D := by rw [fr_at fk (by omega)]; exact hE
    obtain ⟨g, t1, hg⟩ := mTri hT hEk
    have hg2 : EM (upd g (21 + 6 * b) (nI v)) (Tk T b (nI v)) D := em_Tk hT hg b (nI v)
    have hW : WT (Tk T b (nI v)) := Tk_WT hT (by rw [ti (by omega)]; omega)
    obtain ⟨g3, e3⟩ := mSeen (M := Mk) (B := B) (it := it) hW hpc hc hD hB hth hg2 (fun t ht => by rw [fr_at fk (by omega)]; exact hit t ht)
    left
    refine ⟨(stA Mk 148 g3, nI (so P (v + 1)), nI (v + 1)), ⟨by omega, rfl, fr_trans fk (fr_stA (by unfold Jk; omega))⟩, fun rec => ?_⟩
    show f_X9_fits_127 (nI j) (nI p) (nI c) (nI (21 + 6 * b)) (5 : Int32) rec Mk (nI (so P v)) (nI v) = _
    unfold f_X9_fits_127
    have c1 : ¬ (5 : Int32) < nI v := fun h => by
      have := (nI_ltI (a := 5) (b := v) (by decide) (by omega)).mp h
      omega
    rw [if_neg c1, t1, bdE, chk_ix (by omega) (by decide), cl_nI (by omega), stA_put rfl, nmE, m40, nI_add, e3, bdE]
    by_cases z : sn (Tk T b (nI v)) it c 0 D = true
    · rw [if_pos z, nmE, nmE, nI_sc, so_st (P := P) (by rw [hP, z, decide_eq_true hlo]; rfl) (by omega)]
    · rw [if_neg z, nmE, nmE, nI_sc, so_sf (P := P) (by rw [hP]; simp [z])]
  · obtain ⟨Mk, aj⟩ := a
    obtain ⟨hlo, ea, fk⟩ := hI
    have ea : aj = (nI (so P (5 + 1)), nI (5 + 1)) := ea
    subst ea
    refine ⟨(nI (so P (5 + 1)), st Mk 140 4 0), ⟨rfl, Mk, rfl, fk⟩, fun rec => ?_⟩
    show f_X9_fits_127 (nI j) (nI p) (nI c) (nI (21 + 6 * b)) (5 : Int32) rec Mk (nI (so P (5 + 1))) (nI (5 + 1)) = _
    unfold f_X9_fits_127
    have c1 : (5 : Int32) < nI (5 + 1) := by decide
    rw [if_pos c1]
    rfl
theorem cLeav3 (hT : WT T) (hD : WD T D B) (hB : B ≤ 900000) (hE : EC M 4 T D) {b : Nat} (hb : b < Tnb T) {i p c : Nat} (hi : 104 ≤ i ∧ i ≤ 118) (hpc : p + c ≤ 40) (hth : Dth D + c ≤ Tnv T) {it : Nat → Int32} (hit : ∀ t, t < c → M (i + 1) (p + t) = it t) : ∃ M', iter (fun rec a => f_X8_leavesSeen_6 i (nI b) (nI p) (nI c) rec a.1 a.2.1 a.2.2) fuel (M, (0 : Int32), (0 : Int32)) = some (nI (so (fun v => decide (0 ≤ v) && sn (Tl T b (nI v)) it c 0 D) (6 + 1)), M') ∧ fr M M' := by
  have h5 := hT.1
  have h6 := hT.2.1
  obtain ⟨P, eP⟩ : ∃ P : Nat → Bool, P = (fun v => decide (0 ≤ v) && sn (Tl T b (nI v)) it c 0 D) := ⟨_, rfl⟩
  rw [← eP]
  have hP : ∀ v, P v = (decide (0 ≤ v) && sn (Tl T b (nI v)) it c 0 D) := fun v => by rw [eP]
  have h0 : so P 0 = 0 := rfl
  have key := iter_inv (F := fun rec a => f_X8_leavesSeen_6 i (nI b) (nI p) (nI c) rec a.1 a.2.1 a.2.2) (fun v a => 0 ≤ v ∧ a.2 = (nI (so P v), nI v) ∧ fr M a.1) (6 + 1) (fun z => z.1 = nI (so P (6 + 1)) ∧ fr M z.2) (fun v a hv hI => ?_) (fun a hI => ?_) fuel 0 (M, (0 : Int32), (0 : Int32)) (by omega) (by rw [fuel_eq]; omega) ⟨by omega, by rw [h0]; rfl, fr_refl M⟩
  · obtain ⟨⟨r, M'⟩, ⟨er, f1⟩, e1⟩ := key
    have er : r = nI (so P (6 + 1)) := er
    rw [er] at e1
    exact ⟨M', e1, f1⟩
  · obtain ⟨Mk, aj⟩ := a
    obtain ⟨hlo, ea, fk⟩ := hI
    have ea : aj = (nI (so P v), nI v) := ea
    subst ea
    have fk : fr M Mk := fk
    obtain ⟨hE1, f1⟩ := cTri hT (fr_EC fk (by omega) hE)
    have hE2 : EC (st (f_X2_become Mk 14 4) 19 b (nI v)) 14 (Tl T b (nI v)) D := ec_Tl hE1 b (nI v)
    have f2 : fr M (st (f_X2_become Mk 14 4) 19 b (nI v)) := fr_trans fk (fr_trans f1 (fr_st (by unfold Jk; omega)))
    have hW : WT (Tl T b (nI v)) := Tl_WT hT
    obtain ⟨M3, e3, f3⟩ := cSeen (B := B) (it := it) hW hi hpc hD hB hth hE2 (fun t ht => by rw [fr_at f2 (by omega)]; exact hit t ht)
    left
    refine ⟨(M3, nI (so P (v + 1)), nI (v + 1)), ⟨by omega, rfl, fr_trans f2 f3⟩, fun rec => ?_⟩
    show f_X8_leavesSeen_6 i (nI b) (nI p) (nI c) rec Mk (nI (so P v)) (nI v) = _
    unfold f_X8_leavesSeen_6
    have c1 : ¬ (6 : Int32) < nI v := fun h => by
      have := (nI_ltI (a := 6) (b := v) (by decide) (by omega)).mp h
      omega
    rw [if_neg c1, nmE, chk_ix (by omega) (by decide), cl_nI (by omega), nmE, e3, bdE]
    by_cases z : sn (Tl T b (nI v)) it c 0 D = true
    · rw [if_pos z, nmE, nmE, nI_sc, so_st (P := P) (by rw [hP, z, decide_eq_true hlo]; rfl) (by omega)]
    · rw [if_neg z, nmE, nmE, nI_sc, so_sf (P := P) (by rw [hP]; simp [z])]
  · obtain ⟨Mk, aj⟩ := a
    obtain ⟨hlo, ea, fk⟩ := hI
    have ea : aj = (nI (so P (6 + 1)), nI (6 + 1)) := ea
    subst ea
    refine ⟨(nI (so P (6 + 1)), Mk), ⟨rfl, fk⟩, fun rec => ?_⟩
    show f_X8_leavesSeen_6 i (nI b) (nI p) (nI c) rec Mk (nI (so P (6 + 1))) (nI (6 + 1)) = _
    unfold f_X8_leavesSeen_6
    have c1 : (6 : Int32) < nI (6 + 1) := by decide
    rw [if_pos c1]
theorem mLeav3 (hT : WT T) (hD : WD T D B) (hB : B ≤ 900000) (hE : EM (M 146) T D) {b : Nat} (hb : b < Tnb T) {j p c : Nat} (hc1 : 1 ≤ c) (hpc : 40 * j + p + c ≤ 320) (hc : c ≤ 40) (hth : Dth D + c ≤ Tnv T) {it : Nat → Int32} (hit : ∀ t, t < c → M 143 (40 * j + p + t) = it t) : ∃ M', iter (fun rec a => f_X9_fits_127 (nI j) (nI p) (nI c) (nI (21 + 6 * b + 2)) (6 : Int32) rec a.1 a.2.1 a.2.2) fuel (M, (0 : Int32), (0 : Int32)) = some (nI (so (fun v => decide (0 ≤ v) && sn (Tl T b (nI v)) it c 0 D) (6 + 1)), st M' 140 4 0) ∧ fr M M' := by
  have h5 := hT.1
  have h6 := hT.2.1
  obtain ⟨P, eP⟩ : ∃ P : Nat → Bool, P = (fun v => decide (0 ≤ v) && sn (Tl T b (nI v)) it c 0 D) := ⟨_, rfl⟩
  rw [← eP]
  have hP : ∀ v, P v = (decide (0 ≤ v) && sn (Tl T b (nI v)) it c 0 D) := fun v => by rw [eP]
  have h0 : so P 0 = 0 := rfl
  have key := iter_inv (F := fun rec a => f_X9_fits_127 (nI j) (nI p) (nI c) (nI (21 + 6 * b + 2)) (6 : Int32) rec a.1 a.2.1 a.2.2) (fun v a => 0 ≤ v ∧ a.2 = (nI (so P v), nI v) ∧ fr M a.1) (6 + 1) (fun z => z.1 = nI (so P (6 + 1)) ∧ ∃ M', z.2 = st M' 140 4 0 ∧ fr M M') (fun v a hv hI => ?_) (fun a hI => ?_) fuel 0 (M, (0 : Int32), (0 : Int32)) (by omega) (by rw [fuel_eq]; omega) ⟨by omega, by rw [h0]; rfl, fr_refl M⟩
  · obtain ⟨⟨r, M'⟩, ⟨er, M2, em, f1⟩, e1⟩ := key
    have er : r = nI (so P (6 + 1)) := er
    have em : M' = st M2 140 4 0 := em
    rw [er, em] at e1
    exact ⟨M2, e1, f1⟩
  · obtain ⟨Mk, aj⟩ := a
    obtain ⟨hlo, ea, fk⟩ := hI
    have ea : aj = (nI (so P v), nI v) := ea
    subst ea
    have fk : fr M Mk := fk
    have hEk : EM (Mk 146) T D := by rw [fr_at fk (by omega)]; exact hE
    obtain ⟨g, t1, hg⟩ := mTri hT hEk
    have hg2 : EM (upd g (21 + 6 * b + 2) (nI v)) (Tl T b (nI v)) D := em_Tl hT hg b (nI v)
    have hW : WT (Tl T b (nI v)) := Tl_WT hT
    obtain ⟨g3, e3⟩ := mSeen (M := Mk) (B := B) (it := it) hW hpc hc hD hB hth hg2 (fun t ht => by rw [fr_at fk (by omega)]; exact hit t ht)
    left
    refine ⟨(stA Mk 148 g3, nI (so P (v + 1)), nI (v + 1)), ⟨by omega, rfl, fr_trans fk (fr_stA (by unfold Jk; omega))⟩, fun rec => ?_⟩
    show f_X9_fits_127 (nI j) (nI p) (nI c) (nI (21 + 6 * b + 2)) (6 : Int32) rec Mk (nI (so P v)) (nI v) = _
    unfold f_X9_fits_127
    have c1 : ¬ (6 : Int32) < nI v := fun h => by
      have := (nI_ltI (a := 6) (b := v) (by decide) (by omega)).mp h
      omega
    rw [if_neg c1, t1, bdE, chk_ix (by omega) (by decide), cl_nI (by omega), stA_put rfl, nmE, m40, nI_add, e3, bdE]
    by_cases z : sn (Tl T b (nI v)) it c 0 D = true
    · rw [if_pos z, nmE, nmE, nI_sc, so_st (P := P) (by rw [hP, z, decide_eq_true hlo]; rfl) (by omega)]
    · rw [if_neg z, nmE, nmE, nI_sc, so_sf (P := P) (by rw [hP]; simp [z])]
  · obtain ⟨Mk, aj⟩ := a
    obtain ⟨hlo, ea, fk⟩ := hI
    have ea : aj = (nI (so P (6 + 1)), nI (6 + 1)) := ea
    subst ea
    refine ⟨(nI (so P (6 + 1)), st Mk 140 4 0), ⟨rfl, Mk, rfl, fk⟩, fun rec => ?_⟩
    show f_X9_fits_127 (nI j) (nI p) (nI c) (nI (21 + 6 * b + 2)) (6 : Int32) rec Mk (nI (so P (6 + 1))) (nI (6 + 1)) = _
    unfold f_X9_fits_127
    have c1 : (6 : Int32) < nI (6 + 1) := by decide
    rw [if_pos c1]
    rfl
theorem cAsks (hT : WT T) (hD : WD T D B) (hB : B ≤ 900000) (hE : EC M 4 T D) {b : Nat} (hb : b < Tnv T) {i p c : Nat} (hi : 104 ≤ i ∧ i ≤ 118) (hpc : p + c ≤ 40) (hth : Dth D + c ≤ Tnv T) {it : Nat → Int32} (hit : ∀ t, t < c → M (i + 1) (p + t) = it t) : ∃ M', iter (fun rec a => f_X8_asksSeen_15 i (nI p) (nI c) (nI b) rec a.1 a.2.1 a.2.2) fuel (M, (0 : Int32), (0 : Int32)) = some (nI (so (fun v => decide (0 ≤ v) && sn (Ta T b (nI v)) it c 0 D) (20 + 1)), M') ∧ fr M M' := by
  have h5 := hT.1
  have h6 := hT.2.1
  obtain ⟨P, eP⟩ : ∃ P : Nat → Bool, P = (fun v => decide (0 ≤ v) && sn (Ta T b (nI v)) it c 0 D) := ⟨_, rfl⟩
  rw [← eP]
  have hP : ∀ v, P v = (decide (0 ≤ v) && sn (Ta T b (nI v)) it c 0 D) := fun v => by rw [eP]
  have h0 : so P 0 = 0 := rfl
  have key := iter_inv (F := fun rec a => f_X8_asksSeen_15 i (nI p) (nI c) (nI b) rec a.1 a.2.1 a.2.2) (fun v a => 0 ≤ v ∧ a.2 = (nI (so P v), nI v) ∧ fr M a.1) (20 + 1) (fun z => z.1 = nI (so P (20 + 1)) ∧ fr M z.2) (fun v a hv hI => ?_) (fun a hI => ?_) fuel 0 (M, (0 : Int32), (0 : Int32)) (by omega) (by rw [fuel_eq]; omega) ⟨by omega, by rw [h0]; rfl, fr_refl M⟩
  · obtain ⟨⟨r, M'⟩, ⟨er, f1⟩, e1⟩ := key
    have er : r = nI (so P (20 + 1)) := er
    rw [er] at e1
    exact ⟨M', e1, f1⟩
  · obtain ⟨Mk, aj⟩ := a
    obtain ⟨hlo, ea, fk⟩ := hI
    have ea : aj = (nI (so P v), nI v) := ea
    subst ea
    have fk : fr M Mk := fk
    obtain ⟨hE1, f1⟩ := cTri hT (fr_EC fk (by omega) hE)
    have hE2 : EC (st (f_X2_become Mk 14 4) 16 b (nI v)) 14 (Ta T b (nI v)) D := ec_Ta hE1 b (nI v)
    have f2 : fr M (st (f_X2_become Mk 14 4) 16 b (nI v)) := fr_trans fk (fr_trans f1 (fr_st (by unfold Jk; omega)))
    have hW : WT (Ta T b (nI v)) := Ta_WT hT
    obtain ⟨M3, e3, f3⟩ := cSeen (B := B) (it := it) hW hi hpc hD hB hth hE2 (fun t ht => by rw [fr_at f2 (by omega)]; exact hit t ht)
    left
    refine ⟨(M3, nI (so P (v + 1)), nI (v + 1)), ⟨by omega, rfl, fr_trans f2 f3⟩, fun rec => ?_⟩
    show f_X8_asksSeen_15 i (nI p) (nI c) (nI b) rec Mk (nI (so P v)) (nI v) = _
    unfold f_X8_asksSeen_15
    have c1 : ¬ (20 : Int32) < nI v := fun h => by
      have := (nI_ltI (a := 20) (b := v) (by decide) (by omega)).mp h
      omega
    rw [if_neg c1, nmE, chk_ix (by omega) (by decide), cl_nI (by omega), nmE, e3, bdE]
    by_cases z : sn (Ta T b (nI v)) it c 0 D = true
    · rw [if_pos z, nmE, nmE, nI_sc, so_st (P := P) (by rw [hP, z, decide_eq_true hlo]; rfl) (by omega)]
    · rw [if_neg z, nmE, nmE, nI_sc, so_sf (P := P) (by rw [hP]; simp [z])]
  · obtain ⟨Mk, aj⟩ := a
    obtain ⟨hlo, ea, fk⟩ := hI
    have ea : aj = (nI (so P (20 + 1)), nI (20 + 1)) := ea
    subst ea
    refine ⟨(nI (so P (20 + 1)), Mk), ⟨rfl, fk⟩, fun rec => ?_⟩
    show f_X8_asksSeen_15 i (nI p) (nI c) (nI b) rec Mk (nI (so P (20 + 1))) (nI (20 + 1)) = _
    unfold f_X8_asksSeen_15
    have c1 : (20 : Int32) < nI (20 + 1) := by decide
    rw [if_pos c1]
theorem mAsks (hT : WT T) (hD : WD T D B) (hB : B ≤ 900000) (hE : EM (M 146) T D) {b : Nat} (hb : b < Tnv T) (hbv : Dln D (Dth D) = b) {j p c : Nat} (hc1 : 1 ≤ c) (hpc : 40 * j + p + c ≤ 320) (hc : c ≤ 40) (hth : Dth D + c ≤ Tnv T) {it : Nat → Int32} (hit : ∀ t, t < c → M 143 (40 * j + p + t) = it t) : ∃ M', iter (fun rec a => f_X9_asked_81 (nI j) (nI p) (nI c) rec a.1 a.2.1 a.2.2) fuel (M, (0 : Int32), (0 : Int32)) = some (nI (so (fun v => decide (0 ≤ v) && sn (Ta T b (nI v)) it c 0 D) (20 + 1)), st M' 140 4 0) ∧ fr M M' := by
  have h5 := hT.1
  have h6 := hT.2.1
  obtain ⟨P, eP⟩ : ∃ P : Nat → Bool, P = (fun v => decide (0 ≤ v) && sn (Ta T b (nI v)) it c 0 D) := ⟨_, rfl⟩
  rw [← eP]
  have hP : ∀ v, P v = (decide (0 ≤ v) && sn (Ta T b (nI v)) it c 0 D) := fun v => by rw [eP]
  have h0 : so P 0 = 0 := rfl
  have key := iter_inv (F := fun rec a => f_X9_asked_81 (nI j) (nI p) (nI c) rec a.1 a.2.1 a.2.2) (fun v a => 0 ≤ v ∧ a.2 = (nI (so P v), nI v) ∧ fr M a.1) (20 + 1) (fun z => z.1 = nI (so P (20 + 1)) ∧ ∃ M', z.2 = st M' 140 4 0 ∧ fr M M') (fun v a hv hI => ?_) (fun a hI => ?_) fuel 0 (M, (0 : Int32), (0 : Int32)) (by omega) (by rw [fuel_eq]; omega) ⟨by omega, by rw [h0]; rfl, fr_refl M⟩
  · obtain ⟨⟨r, M'⟩, ⟨er, M2, em, f1⟩, e1⟩ := key
    have er : r = nI (so P (20 + 1)) := er
    have em : M' = st M2 140 4 0 := em
    rw [er, em] at e1
    exact ⟨M2, e1, f1⟩
  · obtain ⟨Mk, aj⟩ := a
    obtain ⟨hlo, ea, fk⟩ := hI
    have ea : aj = (nI (so P v), nI v) := ea
    subst ea
    have fk : fr M Mk := fk
    have hEk : EM (Mk 146) T D := by rw [fr_at fk (by omega)]; exact hE
    obtain ⟨g, t1, hg⟩ := mTri hT hEk
    have hg2 : EM (upd g (11 + b) (nI v)) (Ta T b (nI v)) D := em_Ta hT hg hb (nI v)
    have hW : WT (Ta T b (nI v)) := Ta_WT hT
    obtain ⟨g3, e3⟩ := mSeen (M := Mk) (B := B) (it := it) hW hpc hc hD hB hth hg2 (fun t ht => by rw [fr_at fk (by omega)]; exact hit t ht)
    left
    refine ⟨(stA Mk 148 g3, nI (so P (v + 1)), nI (v + 1)), ⟨by omega, rfl, fr_trans fk (fr_stA (by unfold Jk; omega))⟩, fun rec => ?_⟩
    show f_X9_asked_81 (nI j) (nI p) (nI c) rec Mk (nI (so P v)) (nI v) = _
    unfold f_X9_asked_81
    have c1 : ¬ (21 : Int32) ≤ nI v := nI_ge (b := 21) (by omega) (by decide)
    have h3 : stA Mk 148 g 146 3 = nI (Dth D) := by rw [stA_ne (by decide)]; exact em_th hEk
    have h7 : stA Mk 148 g 146 (6 + Dth D) = nI b := by rw [stA_ne (by decide), ← hbv]; exact em_ln hEk (by omega)
    rw [if_neg c1, t1, bdE, h3, q6, chk_ix (by omega) (by decide), cl_nI (by omega), h7, q11, chk_ix (by omega) (by decide), cl_nI (by omega), stA_put rfl, nmE, m40, nI_add, e3, bdE]
    by_cases z : sn (Ta T b (nI v)) it c 0 D = true
    · rw [if_pos z, nmE, nmE, nI_sc, so_st (P := P) (by rw [hP, z, decide_eq_true hlo]; rfl) (by omega)]
    · rw [if_neg z, nmE, nmE, nI_sc, so_sf (P := P) (by rw [hP]; simp [z])]
  · obtain ⟨Mk, aj⟩ := a
    obtain ⟨hlo, ea, fk⟩ := hI
    have ea : aj = (nI (so P (20 + 1)), nI (20 + 1)) := ea
    subst ea
    refine ⟨(nI (so P (20 + 1)), st Mk 140 4 0), ⟨rfl, Mk, rfl, fk⟩, fun rec => ?_⟩
    show f_X9_asked_81 (nI j) (nI p) (nI c) rec Mk (nI (so P (20 + 1))) (nI (20 + 1)) = _
    unfold f_X9_asked_81
    have c1 : (21 : Int32) ≤ nI (20 + 1) := by decide
    rw [if_pos c1]
    rfl
end F2
