theorem stA_cell {M : Mem} {i a : Nat} {g : Nat → Int32} (h : a ≠ i) : stA M i g a = M a := stA_ne h
theorem stA_put {M : Mem} {i k : Nat} {g g2 : Nat → Int32} {v : Int32} (h : upd g k v = g2) : st (stA M i g) i k v = stA M i g2 := by
  rw [st_st, stA_i, h, stA_stA]
/-- g up to b, then h -/
def ff (g h : Nat → Int32) (b : Nat) : Nat → Int32 := fun t => if t < b then g t else h t
theorem ff_0 (g h : Nat → Int32) : ff g h 0 = h := by funext t; exact if_neg (Nat.not_lt_zero t)
theorem ff_in {g h : Nat → Int32} {b t : Nat} (q : t < b) : ff g h b t = g t := if_pos q
theorem ff_out {g h : Nat → Int32} {b t : Nat} (q : b ≤ t) : ff g h b t = h t := if_neg (Nat.not_lt.mpr q)
theorem ff_up {g h : Nat → Int32} {b : Nat} {v : Int32} (hv : v = g b) : upd (ff g h b) b v = ff g h (b + 1) := by
  funext t
  unfold upd ff
  by_cases q : t = b
  · rw [if_pos q, if_pos (by omega), hv, q]
  · rw [if_neg q]
    by_cases q2 : t < b
    · rw [if_pos q2, if_pos (by omega)]
    · rw [if_neg q2, if_neg (by omega)]
theorem ff_eq {g h : Nat → Int32} {b : Nat} (e : g b = h b) : ff g h (b + 1) = ff g h b := by
  funext t
  unfold ff
  by_cases q : t = b
  · rw [if_pos (by omega), if_neg (by omega), q, e]
  · by_cases q2 : t < b
    · rw [if_pos q2, if_pos (by omega)]
    · rw [if_neg q2, if_neg (by omega)]
theorem nI_sc (a : Nat) : nI a + 1 = nI (a + 1) := nI_1 a
section C2
variable {M : Mem} {f : Nat} {T : TT} {D : DD} {B : Nat}
/-- the flight with another strength -/
theorem ec_str (hE : EC M f T D) {g : Nat → Int32} : EC (stA M (f + 8) g) f T (g, D.2) := by
  obtain ⟨⟨a1, a2, a3, a4, a5⟩, b1, b2, b3, b4, b5, b6⟩ := hE
  refine ⟨⟨?_, ?_, ?_, fun v hv => ?_, fun b hb => ?_⟩, ?_, ?_, ?_, ?_, fun b hb => ?_, fun j hj => ?_⟩
  · rw [stA_ne (by omega)]; exact a1
  · rw [stA_ne (by omega)]; exact a2
  · rw [stA_ne (by omega)]; exact a3
  · rw [stA_ne (by omega), stA_ne (by omega)]; exact a4 v hv
  · rw [stA_ne (by omega), stA_ne (by omega), stA_ne (by omega)]; exact a5 b hb
  · rw [stA_ne (by omega)]; exact b1
  · rw [stA_ne (by omega)]; exact b2
  · rw [stA_ne (by omega)]; exact b3
  · rw [stA_ne (by omega)]; exact b4
  · rw [show f + 7 + 1 = f + 8 by omega, stA_i]; rfl
  · rw [stA_ne (by omega)]; exact b6 j hj
theorem cTake (hT : WT T) (hE : EC M f T D) (hD : WD T D B) (hth : Dth D < Tnv T) : f_X2_takeStrength M f = some (stA M (f + 8) (ff (st1 T D) (M (f + 8)) (Tnb T))) := by
  have h6 := hT.2.1
  have hv := hD.2.2.2.2.1 _ hth
  have hF64 := wd_F hT hD
  have key := iter_for (F := fun rec a => f_X2_takeStrength_2 f rec a.1 a.2) (fun b => (stA M (f + 8) (ff (st1 T D) (M (f + 8)) b), nI b)) (Tnb T) (stA M (f + 8) (ff (st1 T D) (M (f + 8)) (Tnb T))) (fun b hb rec => ?_) (fun rec => ?_) fuel 0 (Nat.zero_le _) (by rw [fuel_eq]; omega)
  · rw [ff_0, stA_self] at key
    exact key
  · have hEb := ec_str hE (g := ff (st1 T D) (M (f + 8)) b)
    have hl : f_X2_lossOf (stA M (f + 8) (ff (st1 T D) (M (f + 8)) b)) f (nI b) = some (tk T D b) := cLoss hT hEb hF64 hv hth hb
    have hfl : f_X3_flies (stA M (f + 8) (ff (st1 T D) (M (f + 8)) b)) (f + 7) (nI b) = (DF D).testBit b := by
      have hF0 := ec_F hEb
      exact cFl (F := DF D) hF0 hF64 (show b < 8 by omega)
    have hgb : (stA M (f + 8) (ff (st1 T D) (M (f + 8)) b)) (f + 8) b = Dst D b := by rw [stA_i, ff_out (Nat.le_refl b)]; exact ec_st hE hb
    by_cases q : (DF D).testBit b = true
    · have hs : mx (Dst D b - tk T D b) = st1 T D b := (if_pos q).symm
      rw [q] at hfl
      simp (disch := omega) only [f_X2_takeStrength_2, nm, ec_nb hEb, nI_leI, ifn, hfl, if_true, chk_ix, hl, Option.bind_some, cl_nI, hgb, nI_sc]
      have e := stA_put (M := M) (i := f + 8) (ff_up (h := M (f + 8)) hs)
      unfold mx at e
      rw [e]
    · have hs : st1 T D b = M (f + 8) b := (if_neg q).trans (ec_st hE hb).symm
      have q' : (DF D).testBit b = false := by simpa using q
      rw [q'] at hfl
      simp (disch := omega) only [f_X2_takeStrength_2, nm, ec_nb hEb, nI_leI, ifn, hfl, nI_sc]
      rw [ff_eq hs]
      rfl
  · have hEb := ec_str hE (g := ff (st1 T D) (M (f + 8)) (Tnb T))
    simp (disch := omega) only [f_X2_takeStrength_2, ec_nb hEb, nI_leI, ifp]
theorem cWeak (hT : WT T) (hE : EC M f T D) (hF64 : DF D < 64) (hK64 : DK D < 64) (x : Int32) : f_X2_tooWeak M f x = some (nI (so (fun b => (DF D).testBit b && !(DK D).testBit b && decide (Dst D b < x)) (Tnb T))) := by
  have h6 := hT.2.1
  have key := iter_for (F := fun rec a => f_X2_tooWeak_4 f M x rec a.1 a.2) (fun b => (nI (so (fun b => decide (Dst D b < x)) b), nI b)) (Tnb T) (nI (so (fun b => (DF D).testBit b && !(DK D).testBit b && decide (Dst D b < x)) (Tnb T))) (fun b hb rec => ?_) (fun rec => ?_) fuel 0 (Nat.zero_le _) (by rw [fuel_eq]; omega)
  · exact key
  · have hs := ec_st hE hb
    by_cases q : Dst D b < x
    · have q2 : ¬ x ≤ Dst D b := by rw [i_le]; rw [i_lt] at q; omega
      simp (disch := omega) only [f_X2_tooWeak_4, nm, ec_nb hE, nI_leI, ifn, chk_ix, cl_nI, hs, b_sh, nI_or, nI_sc]
      try rw [if_neg q2]
      show rec _ = rec (nI (so (fun b => decide (Dst D b < x)) b ||| (if decide (Dst D b < x) = true then 2 ^ b else 0)), _)
      rw [if_pos (by simpa using q)]
    · have q2 : x ≤ Dst D b := by rw [i_le]; rw [i_lt] at q; omega
      simp (disch := omega) only [f_X2_tooWeak_4, nm, ec_nb hE, nI_leI, ifn, chk_ix, cl_nI, hs, nI_or0, nI_sc]
      try rw [if_pos q2]
      show rec _ = rec (nI (so (fun b => decide (Dst D b < x)) b ||| (if decide (Dst D b < x) = true then 2 ^ b else 0)), _)
      rw [if_neg (by simpa using q), Nat.or_zero]
  · have hlt := so_lt64 (p := fun b => decide (Dst D b < x)) h6
    simp (disch := omega) only [f_X2_tooWeak_4, ec_nb hE, ec_F hE, ec_K hE, nI_leI, ifp, nI_and]
    rw [b_andn _ (Nat.lt_of_le_of_lt Nat.and_le_left hlt) _ hK64]
    congr 2
    apply Nat.eq_of_testBit_eq
    intro b
    rw [tb_andn, Nat.testBit_and, so_bit, so_bit]
    by_cases q : b < Tnb T
    · have : b < 6 := by omega
      cases (DF D).testBit b <;> cases (DK D).testBit b <;> simp [q, this]
    · simp [q]
theorem cLeav (hT : WT T) (hE : EC M f T D) (hF64 : DF D < 64) (hK64 : DK D < 64) : f_X2_leavingByOthers M f = some (nI (lvS T (DK D) (DF D, Dtu D))) := by
  have h6 := hT.2.1
  have key := iter_for (F := fun rec a => f_X2_leavingByOthers_4 f M rec a.1 a.2) (fun b => (nI (so (fun b => decide (0 < Tlv T b) && decide (Tlv T b ≤ nI (Dtu D))) b), nI b)) (Tnb T) (nI (lvS T (DK D) (DF D, Dtu D))) (fun b hb rec => ?_) (fun rec => ?_) fuel 0 (Nat.zero_le _) (by rw [fuel_eq]; omega)
  · exact key
  · have hs := ec_lv hE hb
    by_cases q : 0 < Tlv T b
    · have q2 : ¬ Tlv T b ≤ 0 := by rw [i_le]; rw [i_lt] at q; omega
      by_cases r : Tlv T b ≤ nI (Dtu D)
      · have r2 : ¬ nI (Dtu D) < Tlv T b := by rw [i_lt]; rw [i_le] at r; omega
        simp (disch := omega) only [f_X2_leavingByOthers_4, nm, ec_nb hE, ec_tu hE, nI_leI, ifn, chk_ix, cl_nI, hs, b_sh, nI_or, nI_sc]
        try rw [if_neg q2]
        try rw [if_neg r2]
        show rec _ = rec (nI (so (fun b => decide (0 < Tlv T b) && decide (Tlv T b ≤ nI (Dtu D))) b ||| (if (decide (0 < Tlv T b) && decide (Tlv T b ≤ nI (Dtu D))) = true then 2 ^ b else 0)), _)
        rw [if_pos (by simp [q, r])]
      · have r2 : nI (Dtu D) < Tlv T b := by rw [i_lt]; rw [i_le] at r; omega
        simp (disch := omega) only [f_X2_leavingByOthers_4, nm, ec_nb hE, ec_tu hE, nI_leI, ifn, chk_ix, cl_nI, hs, nI_or0, nI_sc]
        try rw [if_neg q2]
        try rw [if_pos r2]
        show rec _ = rec (nI (so (fun b => decide (0 < Tlv T b) && decide (Tlv T b ≤ nI (Dtu D))) b ||| (if (decide (0 < Tlv T b) && decide (Tlv T b ≤ nI (Dtu D))) = true then 2 ^ b else 0)), _)
        rw [if_neg (by simp [r]), Nat.or_zero]
    · have q2 : Tlv T b ≤ 0 := by rw [i_le]; rw [i_lt] at q; omega
      simp (disch := omega) only [f_X2_leavingByOthers_4, nm, ec_nb hE, nI_leI, ifn, chk_ix, cl_nI, hs, nI_or0, nI_sc]
      try rw [if_pos q2]
      show rec _ = rec (nI (so (fun b => decide (0 < Tlv T b) && decide (Tlv T b ≤ nI (Dtu D))) b ||| (if (decide (0 < Tlv T b) && decide (Tlv T b ≤ nI (Dtu D))) = true then 2 ^ b else 0)), _)
      rw [if_neg (by simp [q]), Nat.or_zero]
  · have hlt := so_lt64 (p := fun b => decide (0 < Tlv T b) && decide (Tlv T b ≤ nI (Dtu D))) h6
    simp (disch := omega) only [f_X2_leavingByOthers_4, ec_nb hE, ec_F hE, ec_K hE, nI_leI, ifp, nI_and]
    rw [b_andn _ (Nat.lt_of_le_of_lt Nat.and_le_left hlt) _ hK64]
    congr 2
    apply Nat.eq_of_testBit_eq
    intro b
    unfold lvS
    rw [tb_andn, Nat.testBit_and, so_bit, so_bit]
    by_cases q : b < Tnb T
    · have : b < 6 := by omega
      cases (DF D).testBit b <;> cases (DK D).testBit b <;> simp [q, this]
    · simp [q]
/-- birds turn back -/
theorem cTurn (hE : EC M f T D) (hF64 : DF D < 64) {S : Nat} (hS : S < 64) : ∃ M', f_X3_turnBack M (f + 7) (nI S) = M' ∧ EC M' f T (Dst D, (tbk (DF D, Dtu D) S).1, DK D, (tbk (DF D, Dtu D) S).2, Dth D, Dln D) ∧ (∀ a, a ≠ f + 7 → M' a = M a) := by
  obtain ⟨⟨a1, a2, a3, a4, a5⟩, b1, b2, b3, b4, b5, b6⟩ := hE
  refine ⟨st (st M (f + 7) 0 ((M (f + 7) 0) &&& (nI S ^^^ (-1 : Int32)))) (f + 7) 2 ((st M (f + 7) 0 ((M (f + 7) 0) &&& (nI S ^^^ (-1 : Int32)))) (f + 7) 2 + f_J6_bitCount_0f7a4 (nI S)), rfl, ?_, ?_⟩
  · refine ⟨⟨?_, ?_, ?_, fun v hv => ?_, fun b hb => ?_⟩, ?_, ?_, ?_, ?_, fun b hb => ?_, fun j hj => ?_⟩
    · rw [st_cell (by omega), st_cell (by omega)]; exact a1
    · rw [st_cell (by omega), st_cell (by omega)]; exact a2
    · rw [st_cell (by omega), st_cell (by omega)]; exact a3
    · rw [st_cell (by omega), st_cell (by omega), st_cell (by omega), st_cell (by omega)]; exact a4 v hv
    · rw [st_cell (by omega), st_cell (by omega), st_cell (by omega), st_cell (by omega), st_cell (by omega), st_cell (by omega)]; exact a5 b hb
    · rw [st_slot (by decide), st_same, b1, b_andn _ hF64 _ hS]; rfl
    · rw [st_slot (by decide), st_slot (by decide), b2]; rfl
    · rw [st_same, st_slot (by decide), b3, b_pc S hS, nI_add]; rfl
    · rw [st_slot (by decide), st_slot (by decide), b4]; rfl
    · rw [st_cell (by omega), st_cell (by omega)]; exact b5 b hb
    · rw [st_cell (by omega), st_cell (by omega)]; exact b6 j hj
  · intro a ha
    rw [st_ne ha, st_ne ha]
end C2
