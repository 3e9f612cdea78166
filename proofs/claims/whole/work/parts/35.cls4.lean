/-! THE CLASS'S FLIGHTS: becoming another, eating, the acts -/
theorem x3_fr (M : Mem) (i j a : Nat) (h : a < i ∨ i + 2 < a) : f_X3_become M i j a = M a := by
  have h1 : a ≠ i := by omega
  have h2 : a ≠ i + 1 := by omega
  have h3 : a ≠ i + 2 := by omega
  simp only [f_X3_become, nm, stA_ne h3, stA_ne h2, st_ne h1]
theorem x7_fr (M : Mem) (i j a : Nat) (h : a < i ∨ i + 5 < a) : f_X7_become M i j a = M a := by
  have h1 : a ≠ i := by omega
  have h2 : a ≠ i + 1 := by omega
  have h3 : a ≠ i + 2 := by omega
  have h4 : a ≠ i + 3 := by omega
  have h5 : a ≠ i + 4 := by omega
  have h6 : a ≠ i + 5 := by omega
  simp only [f_X7_become, nm, stA_ne h3, stA_ne h2, stA_ne h4, stA_ne h5, stA_ne h6, st_ne h1]
theorem x3_bec {M : Mem} {i j : Nat} {T : TT} {D : DD} (hT : WT T) (hE : EMo M j T D) (h : i + 2 < j ∨ j + 2 < i) : EMo (f_X3_become M i j) i T D := by
  have h5 := hT.1
  have h6 := hT.2.1
  obtain ⟨b1, b2, b3, b4, b5, b6⟩ := hE
  refine ⟨?_, ?_, ?_, ?_, fun b hb => ?_, fun v hv => ?_⟩
  · simp (disch := omega) only [f_X3_become, nm, stA_ne, st_ne, st_i, pk_us, pk_un, b1]
  · simp (disch := omega) only [f_X3_become, nm, stA_ne, st_ne, st_i, pk_us, pk_un, b2]
  · simp (disch := omega) only [f_X3_become, nm, stA_ne, st_ne, st_i, pk_us, pk_un, b3]
  · simp (disch := omega) only [f_X3_become, nm, stA_ne, st_ne, st_i, pk_us, pk_un, b4]
  · simp (disch := omega) only [f_X3_become, nm, stA_ne, st_ne, stA_i, pk_cpy_in, Nat.zero_add, Nat.sub_zero, b5 b hb]
  · simp (disch := omega) only [f_X3_become, nm, stA_ne, st_ne, stA_i, pk_cpy_in, Nat.zero_add, Nat.sub_zero, b6 v hv]
theorem x7_bec {M : Mem} {i j : Nat} {T : TT} (hT : WT T) (hE : ETo M j T) (h : i + 5 < j ∨ j + 5 < i) : ETo (f_X7_become M i j) i T := by
  have h5 := hT.1
  have h6 := hT.2.1
  obtain ⟨b1, b2, b3, b4, b5⟩ := hE
  refine ⟨?_, ?_, ?_, fun v hv => ⟨?_, ?_⟩, fun b hb => ⟨?_, ?_, ?_⟩⟩
  · simp (disch := omega) only [f_X7_become, nm, stA_ne, st_ne, st_i, pk_us, pk_un, b1]
  · simp (disch := omega) only [f_X7_become, nm, stA_ne, st_ne, st_i, pk_us, pk_un, b2]
  · simp (disch := omega) only [f_X7_become, nm, stA_ne, st_ne, st_i, pk_us, pk_un, b3]
  · simp (disch := omega) only [f_X7_become, nm, stA_ne, st_ne, stA_i, pk_cpy_in, Nat.zero_add, Nat.sub_zero, (b4 v hv).1]
  · simp (disch := omega) only [f_X7_become, nm, stA_ne, st_ne, stA_i, pk_cpy_in, Nat.zero_add, Nat.sub_zero, (b4 v hv).2]
  · simp (disch := omega) only [f_X7_become, nm, stA_ne, st_ne, stA_i, pk_cpy_in, Nat.zero_add, Nat.sub_zero, (b5 b hb).1]
  · simp (disch := omega) only [f_X7_become, nm, stA_ne, st_ne, stA_i, pk_cpy_in, Nat.zero_add, Nat.sub_zero, (b5 b hb).2.1]
  · simp (disch := omega) only [f_X7_become, nm, stA_ne, st_ne, stA_i, pk_cpy_in, Nat.zero_add, Nat.sub_zero, (b5 b hb).2.2]
theorem mo_cg {M M' : Mem} {i : Nat} {T : TT} {D : DD} (h : EMo M i T D) (e : ∀ a, i ≤ a → a ≤ i + 2 → M' a = M a) : EMo M' i T D := by
  obtain ⟨b1, b2, b3, b4, b5, b6⟩ := h
  refine ⟨?_, ?_, ?_, ?_, fun b hb => ?_, fun j hj => ?_⟩
  · rw [e i (by omega) (by omega)]; exact b1
  · rw [e i (by omega) (by omega)]; exact b2
  · rw [e i (by omega) (by omega)]; exact b3
  · rw [e i (by omega) (by omega)]; exact b4
  · rw [e (i + 1) (by omega) (by omega)]; exact b5 b hb
  · rw [e (i + 2) (by omega) (by omega)]; exact b6 j hj
theorem to_cg {M M' : Mem} {i : Nat} {T : TT} (h : ETo M i T) (e : ∀ a, i ≤ a → a ≤ i + 5 → M' a = M a) : ETo M' i T := by
  obtain ⟨a1, a2, a3, a4, a5⟩ := h
  refine ⟨?_, ?_, ?_, fun v hv => ?_, fun b hb => ?_⟩
  · rw [e i (by omega) (by omega)]; exact a1
  · rw [e i (by omega) (by omega)]; exact a2
  · rw [e i (by omega) (by omega)]; exact a3
  · rw [e (i + 1) (by omega) (by omega), e (i + 2) (by omega) (by omega)]; exact a4 v hv
  · rw [e (i + 3) (by omega) (by omega), e (i + 4) (by omega) (by omega), e (i + 5) (by omega) (by omega)]; exact a5 b hb
theorem cBecF (M : Mem) (i j a : Nat) (h : a ≤ i ∨ i + 9 < a) : f_X2_become M i j a = M a := by
  show f_X3_become (f_X7_become M (i + 1) (j + 1)) (i + 7) (j + 7) a = M a
  rw [x3_fr _ _ _ _ (by omega), x7_fr _ _ _ _ (by omega)]
theorem cBec {M : Mem} {i j : Nat} {T : TT} {D : DD} (hT : WT T) (hE : EC M j T D) (h : i + 9 < j ∨ j + 9 < i) : EC (f_X2_become M i j) i T D := by
  unfold f_X2_become nm
  refine ⟨to_cg (x7_bec (i := i + 1) hT hE.1 (by omega)) (fun a h1 h2 => x3_fr _ _ _ _ (by omega)), x3_bec hT (mo_cg hE.2 (fun a h1 h2 => x7_fr _ _ _ _ (by omega))) (by omega)⟩
/-- what is not kept of a call -/
def Jk (a : Nat) : Prop := (14 ≤ a ∧ a ≤ 23) ∨ (99 ≤ a ∧ a ≤ 101) ∨ a = 144 ∨ a = 147 ∨ a = 148 ∨ a = 152 ∨ a = 153
def fr (M M' : Mem) : Prop := ∀ a, ¬ Jk a → M' a = M a
theorem fr_refl (M : Mem) : fr M M := fun _ _ => rfl
theorem fr_trans {M M1 M2 : Mem} (h1 : fr M M1) (h2 : fr M1 M2) : fr M M2 := fun a ha => (h2 a ha).trans (h1 a ha)
theorem fr_14 {M M' : Mem} (h : ∀ a, a ≠ 21 → a ≠ 22 → M' a = M a) : fr M M' := fun a ha => h a (fun q => ha (by unfold Jk; omega)) (fun q => ha (by unfold Jk; omega))
theorem fr_st {M : Mem} {i k : Nat} {v : Int32} (h : Jk i) : fr M (st M i k v) := fun a ha => st_ne (fun q => ha (q ▸ h))
theorem fr_stA {M : Mem} {i : Nat} {g : Nat → Int32} (h : Jk i) : fr M (stA M i g) := fun a ha => stA_ne (fun q => ha (q ▸ h))
theorem fr_bec (M : Mem) (j : Nat) : fr M (f_X2_become M 14 j) := fun a ha => cBecF M 14 j a (by unfold Jk at ha; omega)
theorem jk_out {a : Nat} (h : Jk a) : ¬ (a ≤ 13 ∨ (24 ≤ a ∧ a ≤ 98) ∨ (102 ≤ a ∧ a ≤ 143) ∨ a = 145 ∨ a = 146 ∨ (149 ≤ a ∧ a ≤ 151) ∨ a = 154) := by unfold Jk at h; omega
theorem fr_at {M M' : Mem} (h : fr M M') {a : Nat} (ha : a ≤ 13 ∨ (24 ≤ a ∧ a ≤ 98) ∨ (102 ≤ a ∧ a ≤ 143) ∨ a = 145 ∨ a = 146 ∨ (149 ≤ a ∧ a ≤ 151) ∨ a = 154) : M' a = M a := h a (fun q => jk_out q ha)
theorem fr_EC {M M' : Mem} (h : fr M M') {f : Nat} {T : TT} {D : DD} (hf : f = 4 ∨ f = 120 ∨ f = 130) (hE : EC M f T D) : EC M' f T D := ec_cg hE (fun a h1 h2 => fr_at h (by omega))
/-- the trial takes the flight -/
theorem cTri {M : Mem} {T : TT} {D : DD} (hT : WT T) (hE : EC M 4 T D) : EC (f_X2_become M 14 4) 14 T D ∧ fr M (f_X2_become M 14 4) := ⟨cBec hT hE (by omega), fr_bec M 4⟩
def eatS (T : TT) (D : DD) (b : Nat) : Int32 := if Dst D b + Tfd T < 30 then Dst D b + Tfd T else 30
def upN (g : Nat → Int32) (k : Nat) (v : Int32) : Nat → Int32 := upd g k v
def eatD (T : TT) (D : DD) (b : Nat) : DD := (upd (Dst D) b (eatS T D b), D.2)
section C4
variable {M : Mem} {f : Nat} {T : TT} {D : DD} {B : Nat}
theorem cStr (hT : WT T) (hE : EC M f T D) {b : Nat} (hb : b < Tnb T) : f_X2_strengthen M f (nI b) = some (st M (f + 8) b (eatS T D b)) ∧ EC (st M (f + 8) b (eatS T D b)) f T (eatD T D b) := by
  have h6 := hT.2.1
  constructor
  · unfold f_X2_strengthen
    rw [chk_ix (by omega) (by decide), cl_nI (by omega), ec_st hE hb, ec_fd hE]
    rfl
  · refine ec_st2 (ec_str hE (g := upd (M (f + 8)) b (eatS T D b))) (fun c hc => ?_) rfl
    show upd (M (f + 8)) b (eatS T D b) c = upd (Dst D) b (eatS T D b) c
    by_cases q : c = b
    · rw [q, pk_us, pk_us]
    · rw [pk_un q, pk_un q, ec_st hE hc]
theorem eat_WD (hT : WT T) (hD : WD T D B) (b : Nat) : WD T (eatD T D b) B := by
  refine ⟨hD.1, hD.2.1, hD.2.2.1, hD.2.2.2.1, hD.2.2.2.2.1, hD.2.2.2.2.2.1, fun c hc => ?_⟩
  show 0 ≤ (upd (Dst D) b (eatS T D b) c).toInt ∧ (upd (Dst D) b (eatS T D b) c).toInt ≤ 30
  have hs := hD.2.2.2.2.2.2 c hc
  by_cases q : c = b
  · rw [q, pk_us]
    rw [q] at hs
    have hf := hT.2.2.1
    have e : (Dst D b + Tfd T).toInt = (Dst D b).toInt + (Tfd T).toInt := ti_add (by omega) (by omega)
    have e30 : (30 : Int32).toInt = 30 := rfl
    unfold eatS
    by_cases q2 : Dst D b + Tfd T < 30
    · rw [if_pos q2]; rw [i_lt, e30] at q2; omega
    · rw [if_neg q2, e30]; omega
  · rw [pk_un q]; exact hs
def wkn (D : DD) (S b : Nat) : Int32 := if S.testBit b = true then mx (Dst D b - 5) else Dst D b
theorem cWkn (hT : WT T) (hE : EC M f T D) {S : Nat} (hS : S < 64) : f_X2_weaken M f (nI S) = some (stA M (f + 8) (ff (wkn D S) (M (f + 8)) (Tnb T))) ∧ EC (stA M (f + 8) (ff (wkn D S) (M (f + 8)) (Tnb T))) f T (wkn D S, D.2) := by
  have h6 := hT.2.1
  refine ⟨?_, ec_st2 (ec_str hE) (fun b hb => ff_in hb) rfl⟩
  have key := iter_for (F := fun rec a => f_X2_weaken_2 f (nI S) rec a.1 a.2) (fun b => (stA M (f + 8) (ff (wkn D S) (M (f + 8)) b), nI b)) (Tnb T) (stA M (f + 8) (ff (wkn D S) (M (f + 8)) (Tnb T))) (fun b hb rec => ?_) (fun rec => ?_) fuel 0 (Nat.zero_le _) (by rw [fuel_eq]; omega)
  · rw [ff_0, stA_self] at key
    exact key
  · have hEb := ec_str hE (g := ff (wkn D S) (M (f + 8)) b)
    have hgb : (stA M (f + 8) (ff (wkn D S) (M (f + 8)) b)) (f + 8) b = Dst D b := by rw [stA_i, ff_out (Nat.le_refl b)]; exact ec_st hE hb
    have hbit : f_X8_bitOf (nI S) (nI b) = bt S b := b_bit S hS b (by omega)
    by_cases q : S.testBit b = true
    · have hs : mx (Dst D b - 5) = wkn D S b := (if_pos q).symm
      have hb1 : bt S b = 1 := if_pos q
      simp (disch := omega) only [f_X2_weaken_2, nm, ec_nb hEb, nI_leI, ifn, hbit, hb1, if_true, chk_ix, cl_nI, hgb, nI_sc]
      have e := stA_put (M := M) (i := f + 8) (ff_up (h := M (f + 8)) hs)
      unfold mx at e
      rw [e]
    · have hs : wkn D S b = M (f + 8) b := (if_neg q).trans (ec_st hE hb).symm
      have hb1 : ¬ bt S b = 1 := by unfold bt; rw [if_neg q]; decide
      simp (disch := omega) only [f_X2_weaken_2, nm, ec_nb hEb, nI_leI, ifn, hbit, hb1, nI_sc]
      rw [ff_eq hs]
      rfl
  · have hEb := ec_str hE (g := ff (wkn D S) (M (f + 8)) (Tnb T))
    simp (disch := omega) only [f_X2_weaken_2, ec_nb hEb, nI_leI, ifp]
theorem wkn_WD (hD : WD T D B) (S : Nat) : WD T (wkn D S, D.2) B := by
  refine ⟨hD.1, hD.2.1, hD.2.2.1, hD.2.2.2.1, hD.2.2.2.2.1, hD.2.2.2.2.2.1, fun c hc => ?_⟩
  show 0 ≤ (wkn D S c).toInt ∧ (wkn D S c).toInt ≤ 30
  have hs := hD.2.2.2.2.2.2 c hc
  have e5 : (5 : Int32).toInt = 5 := rfl
  unfold wkn
  by_cases q : S.testBit c = true
  · rw [if_pos q]
    exact mx_in (by rw [ti_sub (by omega) (by omega)]; omega)
  · rw [if_neg q]; exact hs
end C4
