/-! THE REFERENCE'S FLIGHTS -/
theorem i6 (b : Nat) : (21 : Int32) + (6 : Int32) * nI b = nI (21 + 6 * b) := by
  rw [show (6 : Int32) = nI 6 by rfl, show (21 : Int32) = nI 21 by rfl, pk_mul, nI_add]
theorem p2 (a : Nat) : nI a + 2 = nI (a + 2) := nI_add a 2
theorem p3 (a : Nat) : nI a + 3 = nI (a + 3) := nI_add a 3
theorem p4 (a : Nat) : nI a + 4 = nI (a + 4) := nI_add a 4
theorem p5 (a : Nat) : nI a + 5 = nI (a + 5) := nI_add a 5
theorem q6 (a : Nat) : (6 : Int32) + nI a = nI (6 + a) := nI_add 6 a
theorem q11 (a : Nat) : (11 : Int32) + nI a = nI (11 + a) := nI_add 11 a
theorem q16 (a : Nat) : (16 : Int32) + nI a = nI (16 + a) := nI_add 16 a
section EMA
variable {w : Nat → Int32} {T : TT} {D : DD}
theorem em_fd (h : EM w T D) : w 0 = Tfd T := h.1
theorem em_1 (h : EM w T D) : w 1 = (if Tnv T = 0 then 0 else 1) := h.2.1
theorem em_nv (h : EM w T D) : w 2 = nI (Tnv T) := h.2.2.1
theorem em_th (h : EM w T D) : w 3 = nI (Dth D) := h.2.2.2.1
theorem em_tu (h : EM w T D) : w 4 = nI (Dtu D) := h.2.2.2.2.1
theorem em_nb (h : EM w T D) : w 5 = nI (Tnb T) := h.2.2.2.2.2.1
theorem em_ln (h : EM w T D) {j : Nat} (hj : j < Tnv T) : w (6 + j) = nI (Dln D j) := h.2.2.2.2.2.2.1 j hj
theorem em_as (h : EM w T D) {v : Nat} (hv : v < Tnv T) : w (11 + v) = Tas T v := (h.2.2.2.2.2.2.2.1 v hv).1
theorem em_ls (h : EM w T D) {v : Nat} (hv : v < Tnv T) : w (16 + v) = Tls T v := (h.2.2.2.2.2.2.2.1 v hv).2
theorem em_kd (h : EM w T D) {b : Nat} (hb : b < Tnb T) : w (21 + 6 * b) = Tkd T b := (h.2.2.2.2.2.2.2.2 b hb).1
theorem em_st (h : EM w T D) {b : Nat} (hb : b < Tnb T) : w (21 + 6 * b + 1) = Dst D b := by rw [show 21 + 6 * b + 1 = 22 + 6 * b by omega]; exact (h.2.2.2.2.2.2.2.2 b hb).2.1
theorem em_lv (h : EM w T D) {b : Nat} (hb : b < Tnb T) : w (21 + 6 * b + 2) = Tlv T b := by rw [show 21 + 6 * b + 2 = 23 + 6 * b by omega]; exact (h.2.2.2.2.2.2.2.2 b hb).2.2.1
theorem em_lo (h : EM w T D) {b : Nat} (hb : b < Tnb T) : w (21 + 6 * b + 3) = nI (Tlo T b) := by rw [show 21 + 6 * b + 3 = 24 + 6 * b by omega]; exact (h.2.2.2.2.2.2.2.2 b hb).2.2.2.1
theorem em_F (h : EM w T D) {b : Nat} (hb : b < Tnb T) : w (21 + 6 * b + 4) = bt (DF D) b := by rw [show 21 + 6 * b + 4 = 25 + 6 * b by omega]; exact (h.2.2.2.2.2.2.2.2 b hb).2.2.2.2.1
theorem em_K (h : EM w T D) {b : Nat} (hb : b < Tnb T) : w (21 + 6 * b + 5) = bt (DK D) b := by rw [show 21 + 6 * b + 5 = 26 + 6 * b by omega]; exact (h.2.2.2.2.2.2.2.2 b hb).2.2.2.2.2
/-- the same numbers, where they count -/
theorem em_cg {w' : Nat → Int32} (h : EM w T D) (e : ∀ t, t < 57 → w' t = w t) (hT : WT T) : EM w' T D := by
  have h5 := hT.1
  have h6 := hT.2.1
  obtain ⟨a0, a1, a2, a3, a4, a5, a6, a7, a8⟩ := h
  refine ⟨?_, ?_, ?_, ?_, ?_, ?_, fun j hj => ?_, fun v hv => ?_, fun b hb => ?_⟩
  · rw [e 0 (by omega)]; exact a0
  · rw [e 1 (by omega)]; exact a1
  · rw [e 2 (by omega)]; exact a2
  · rw [e 3 (by omega)]; exact a3
  · rw [e 4 (by omega)]; exact a4
  · rw [e 5 (by omega)]; exact a5
  · rw [e (6 + j) (by omega)]; exact a6 j hj
  · rw [e (11 + v) (by omega), e (16 + v) (by omega)]; exact a7 v hv
  · rw [e (21 + 6 * b) (by omega), e (22 + 6 * b) (by omega), e (23 + 6 * b) (by omega), e (24 + 6 * b) (by omega), e (25 + 6 * b) (by omega), e (26 + 6 * b) (by omega)]; exact a8 b hb
end EMA
/-- a field of the birds put anew up to b -/
def pf (o : Nat) (g : Nat → Int32) (w : Nat → Int32) (b : Nat) : Nat → Int32 := fun t => if 21 ≤ t ∧ (t - 21) % 6 = o ∧ (t - 21) / 6 < b then g ((t - 21) / 6) else w t
theorem pf_0 (o : Nat) (g w : Nat → Int32) : pf o g w 0 = w := by funext t; exact if_neg (by omega)
theorem pf_in {o : Nat} {g w : Nat → Int32} {b c : Nat} (ho : o < 6) (h : c < b) : pf o g w b (21 + 6 * c + o) = g c := by
  unfold pf
  have e : (21 + 6 * c + o - 21) / 6 = c := by omega
  rw [if_pos ⟨by omega, by omega, by omega⟩, e]
theorem pf_out {o : Nat} {g w : Nat → Int32} {b t : Nat} (h : t < 21 ∨ (t - 21) % 6 ≠ o ∨ b ≤ (t - 21) / 6) : pf o g w b t = w t := if_neg (by omega)
theorem pf_up {o : Nat} {g w : Nat → Int32} {b : Nat} {v : Int32} (ho : o < 6) (hv : v = g b) : upd (pf o g w b) (21 + 6 * b + o) v = pf o g w (b + 1) := by
  funext t
  by_cases q : t = 21 + 6 * b + o
  · rw [q, pk_us, pf_in ho (by omega), hv]
  · rw [pk_un q]
    by_cases q2 : 21 ≤ t ∧ (t - 21) % 6 = o ∧ (t - 21) / 6 < b
    · unfold pf
      rw [if_pos q2, if_pos ⟨q2.1, q2.2.1, by omega⟩]
    · rw [pf_out (by omega), pf_out (by omega)]
theorem pf_eq {o : Nat} {g w : Nat → Int32} {b : Nat} (ho : o < 6) (e : w (21 + 6 * b + o) = g b) : pf o g w (b + 1) = pf o g w b := by
  rw [← pf_up ho rfl, ← e]
  funext t
  by_cases q : t = 21 + 6 * b + o
  · rw [q, pk_us, pf_out (by omega)]
  · rw [pk_un q]
/-- strength put anew: as far as b -/
theorem pf_st {w : Nat → Int32} {T : TT} {D : DD} (hT : WT T) (h : EM w T D) (g : Nat → Int32) (c : Nat) : EM (pf 1 g w c) T (fun t => if t < c then g t else Dst D t, D.2) := by
  have h5 := hT.1
  have h6 := hT.2.1
  obtain ⟨a0, a1, a2, a3, a4, a5, a6, a7, a8⟩ := h
  refine ⟨?_, ?_, ?_, ?_, ?_, ?_, fun j hj => ?_, fun v hv => ?_, fun b hb => ?_⟩
  · rw [pf_out (by omega)]; exact a0
  · rw [pf_out (by omega)]; exact a1
  · rw [pf_out (by omega)]; exact a2
  · rw [pf_out (by omega)]; exact a3
  · rw [pf_out (by omega)]; exact a4
  · rw [pf_out (by omega)]; exact a5
  · rw [pf_out (by omega)]; exact a6 j hj
  · rw [pf_out (by omega), pf_out (by omega)]; exact a7 v hv
  · obtain ⟨b0, b1, b2, b3, b4, b5⟩ := a8 b hb
    refine ⟨?_, ?_, ?_, ?_, ?_, ?_⟩
    · rw [pf_out (by omega)]; exact b0
    · show pf 1 g w c (22 + 6 * b) = if b < c then g b else Dst D b
      by_cases q : b < c
      · rw [if_pos q, show 22 + 6 * b = 21 + 6 * b + 1 by omega, pf_in (by decide) q]
      · rw [if_neg q, pf_out (by omega)]; exact b1
    · rw [pf_out (by omega)]; exact b2
    · rw [pf_out (by omega)]; exact b3
    · rw [pf_out (by omega)]; exact b4
    · rw [pf_out (by omega)]; exact b5
theorem em_st2 {w : Nat → Int32} {T : TT} {D D' : DD} (hE : EM w T D') (h : ∀ b, b < Tnb T → Dst D' b = Dst D b) (e : D'.2 = D.2) : EM w T D := by
  obtain ⟨s', F, K, tu, th, ln⟩ := D'
  obtain ⟨s, F2, K2, tu2, th2, ln2⟩ := D
  have e : (F, K, tu, th, ln) = (F2, K2, tu2, th2, ln2) := e
  cases e
  obtain ⟨a0, a1, a2, a3, a4, a5, a6, a7, a8⟩ := hE
  exact ⟨a0, a1, a2, a3, a4, a5, a6, a7, fun b hb => ⟨(a8 b hb).1, (a8 b hb).2.1.trans (h b hb), (a8 b hb).2.2⟩⟩
section M1
variable {M : Mem} {i : Nat} {T : TT} {D : DD} {B : Nat}
theorem mFl (hT : WT T) (hE : EM (M i) T D) (hF : DF D < 2 ^ Tnb T) {b : Nat} (hb : b < 64) : f_X9_flies M i (nI b) = some ((DF D).testBit b) := by
  have h6 := hT.2.1
  unfold f_X9_flies
  rw [em_nb hE]
  by_cases q : b < Tnb T
  · rw [if_neg (by rw [nI_leI (by omega) (by omega)]; omega), i6, p4, chk_ix (by omega) (by decide), cl_nI (by omega), em_F hE q]
    unfold bt
    cases (DF D).testBit b <;> decide
  · rw [if_pos (by rw [nI_leI (by omega) (by omega)]; omega), tb_lt hF (by omega)]
theorem mTk (hT : WT T) (hE : EM (M i) T D) (hF : DF D < 2 ^ Tnb T) (hv : Dln D (Dth D) < Tnv T) (hth : Dth D < Tnv T) {b : Nat} (hb : b < Tnb T) : f_X9_takesOf M i (nI b) = some (tk T D b) := by
  have h5 := hT.1
  have h6 := hT.2.1
  have hk := (hT.2.2.2.2 b hb).1
  have hlo := (hT.2.2.2.2 b hb).2
  have hfl := mFl hT hE hF (show Tlo T b < 64 by omega)
  simp (disch := omega) only [f_X9_takesOf, nm, i6, em_th hE, q6, chk_ix, cl_nI, em_ln hE hth, q16, em_ls hE hv, p3, em_lo hE hb, hfl, Option.bind_some, em_kd hE hb, em_tu hE]
  unfold tk
  have d12 : ¬ (1 : Int32) = 2 := by decide
  have d13 : ¬ (1 : Int32) = 3 := by decide
  have d14 : ¬ (1 : Int32) = 4 := by decide
  have d15 : ¬ (1 : Int32) = 5 := by decide
  by_cases k1 : Tkd T b = 1
  · rw [if_pos k1, k1, if_neg d12, if_neg d13, if_neg d14, if_neg d15]
  · rw [if_neg k1]
    by_cases k2 : Tkd T b = 2
    · rw [if_pos k2, if_pos k2]
    · rw [if_neg k2, if_neg k2]
      by_cases k3 : Tkd T b = 3
      · rw [if_pos k3, if_pos k3]
      · rw [if_neg k3, if_neg k3]
        by_cases k4 : Tkd T b = 4
        · rw [if_pos k4, if_pos k4]
          cases (DF D).testBit (Tlo T b) <;> rfl
        · have k5 : Tkd T b = 5 := by
            rw [i_eq] at k1 k2 k3 k4 ⊢
            have e1 : (1 : Int32).toInt = 1 := rfl
            have e2 : (2 : Int32).toInt = 2 := rfl
            have e3 : (3 : Int32).toInt = 3 := rfl
            have e4 : (4 : Int32).toInt = 4 := rfl
            have e5 : (5 : Int32).toInt = 5 := rfl
            omega
          rw [if_neg k4, if_neg k4, if_pos k5]
          cases (DF D).testBit (Tlo T b) <;> rfl
theorem mLo (hT : WT T) (hE : EM (M i) T D) (hF : DF D < 2 ^ Tnb T) {b : Nat} (hb : b < Tnb T) : f_X9_isLoose M i (nI b) = some ((DF D).testBit b && !(DK D).testBit b) := by
  have h6 := hT.2.1
  simp (disch := omega) only [f_X9_isLoose, mFl hT hE hF (show b < 64 by omega), Option.bind_some, i6, p5, chk_ix, cl_nI, em_K hE hb]
  unfold bt
  cases (DF D).testBit b <;> cases (DK D).testBit b <;> decide
theorem mLeft (hE : EM (M i) T D) (hD : WD T D B) : f_X9_left M i = nI (Tnv T - Dth D) := by
  unfold f_X9_left
  rw [em_nv hE, em_th hE, nI_sub hD.2.2.1]
theorem b_shl : ∀ S, S < 64 → ∀ b, b < 8 → bt S b <<< (nI b &&& 31) = nI (if S.testBit b = true then 2 ^ b else 0) := by decide +kernel
theorem so_self {F n : Nat} (h : F < 2 ^ n) : so (fun b => F.testBit b) n = F := by
  apply Nat.eq_of_testBit_eq
  intro b
  rw [so_bit]
  by_cases q : b < n
  · simp [q]
  · rw [tb_lt h (by omega)]; simp
theorem mFly (hT : WT T) (hE : EM (M i) T D) (hF : DF D < 2 ^ Tnb T) : f_X9_flying M i = some (nI (DF D)) := by
  have h6 := hT.2.1
  have hF64 : DF D < 64 := Nat.lt_of_lt_of_le hF (pow_64 h6)
  have key := iter_for (F := fun rec a => f_X9_flying_4 i M rec a.1 a.2) (fun b => (nI (so (fun b => (DF D).testBit b) b), nI b)) (Tnb T) (nI (DF D)) (fun b hb rec => ?_) (fun rec => ?_) fuel 0 (Nat.zero_le _) (by rw [fuel_eq]; omega)
  · exact key
  · simp (disch := omega) only [f_X9_flying_4, nm, em_nb hE, nI_leI, ifn, i6, p4, chk_ix, cl_nI, em_F hE hb, b_shl, nI_or, nI_sc]
    rfl
  · simp (disch := omega) only [f_X9_flying_4, em_nb hE, nI_leI, ifp, so_self hF]
theorem mKep (hT : WT T) (hE : EM (M i) T D) (hF : DK D < 2 ^ Tnb T) : f_X9_keptIn M i = some (nI (DK D)) := by
  have h6 := hT.2.1
  have hF64 : DK D < 64 := Nat.lt_of_lt_of_le hF (pow_64 h6)
  have key := iter_for (F := fun rec a => f_X9_keptIn_4 i M rec a.1 a.2) (fun b => (nI (so (fun b => (DK D).testBit b) b), nI b)) (Tnb T) (nI (DK D)) (fun b hb rec => ?_) (fun rec => ?_) fuel 0 (Nat.zero_le _) (by rw [fuel_eq]; omega)
  · exact key
  · simp (disch := omega) only [f_X9_keptIn_4, nm, em_nb hE, nI_leI, ifn, i6, p5, chk_ix, cl_nI, em_K hE hb, b_shl, nI_or, nI_sc]
    rfl
  · simp (disch := omega) only [f_X9_keptIn_4, em_nb hE, nI_leI, ifp, so_self hF]
theorem b_has : ∀ S, S < 64 → ∀ b, b < 8 → f_X9_has (nI S) (nI b) = S.testBit b := by decide +kernel
/-- birds turn back -/
theorem mTurn {s : Nat → Int32} {a : Nat × Nat} {K th : Nat} {ln : Nat → Nat} (hT : WT T) (hE : EM (M i) T (s, a.1, K, a.2, th, ln)) {S : Nat} (hS : S < 64) : ∃ g, f_X9_turns M i (nI S) = some (stA M i g) ∧ EM g T (s, (tbk a S).1, K, (tbk a S).2, th, ln) := by
  have h5 := hT.1
  have h6 := hT.2.1
  have key := iter_for (F := fun rec a => f_X9_turns_2 i (nI S) rec a.1 a.2) (fun b => (stA M i (pf 4 (fun c => bt (tbk a S).1 c) (M i) b), nI b)) (Tnb T) (stA M i (upd (pf 4 (fun c => bt (tbk a S).1 c) (M i) (Tnb T)) 4 (nI (tbk a S).2))) (fun b hb rec => ?_) (fun rec => ?_) fuel 0 (Nat.zero_le _) (by rw [fuel_eq]; omega)
  · rw [pf_0, stA_self] at key
    refine ⟨_, key, ?_⟩
    obtain ⟨a0, a1, a2, a3, a4, a5, a6, a7, a8⟩ := hE
    refine ⟨?_, ?_, ?_, ?_, ?_, ?_, fun j hj => ?_, fun v hv => ?_, fun b hb => ?_⟩
    · rw [pk_un (by omega), pf_out (by omega)]; exact a0
    · rw [pk_un (by omega), pf_out (by omega)]; exact a1
    · rw [pk_un (by omega), pf_out (by omega)]; exact a2
    · rw [pk_un (by omega), pf_out (by omega)]; exact a3
    · rw [pk_us]; rfl
    · rw [pk_un (by omega), pf_out (by omega)]; exact a5
    · rw [pk_un (by omega), pf_out (by omega)]; exact a6 j hj
    · rw [pk_un (by omega), pk_un (by omega), pf_out (by omega), pf_out (by omega)]; exact a7 v hv
    · obtain ⟨b0, b1, b2, b3, b4, b5⟩ := a8 b hb
      refine ⟨?_, ?_, ?_, ?_, ?_, ?_⟩
      · rw [pk_un (by omega), pf_out (by omega)]; exact b0
      · rw [pk_un (by omega), pf_out (by omega)]; exact b1
      · rw [pk_un (by omega), pf_out (by omega)]; exact b2
      · rw [pk_un (by omega), pf_out (by omega)]; exact b3
      · rw [pk_un (by omega), show 25 + 6 * b = 21 + 6 * b + 4 by omega, pf_in (by decide) hb]; rfl
      · rw [pk_un (by omega), pf_out (by omega)]; exact b5
  · have e5 : stA M i (pf 4 (fun c => bt (tbk a S).1 c) (M i) b) i 5 = nI (Tnb T) := by rw [stA_i, pf_out (by omega)]; exact em_nb hE
    have e4 : stA M i (pf 4 (fun c => bt (tbk a S).1 c) (M i) b) i (21 + 6 * b + 4) = bt a.1 b := by rw [stA_i, pf_out (by omega)]; exact em_F hE hb
    have hb6 : b < 6 := by omega
    by_cases q : S.testBit b = true
    · have hv : (0 : Int32) = bt (tbk a S).1 b := by
        unfold bt tbk
        rw [tb_andn, q]
        simp [hb6]
      simp (disch := omega) only [f_X9_turns_2, nm, e5, nI_leI, ifn, b_has, q, if_true, i6, p4, chk_ix, cl_nI, nI_sc]
      rw [stA_put (pf_up (by decide) hv)]
    · have hv : bt a.1 b = bt (tbk a S).1 b := by
        unfold bt tbk
        rw [tb_andn]
        have q' : S.testBit b = false := by simpa using q
        rw [q']
        simp [hb6]
      simp (disch := omega) only [f_X9_turns_2, nm, e5, nI_leI, ifn, b_has, q, i6, p4, chk_ix, cl_nI, nI_sc, e4]
      rw [stA_put (pf_up (by decide) hv)]
      rfl
  · have e5 : stA M i (pf 4 (fun c => bt (tbk a S).1 c) (M i) (Tnb T)) i 5 = nI (Tnb T) := by rw [stA_i, pf_out (by omega)]; exact em_nb hE
    have e4 : stA M i (pf 4 (fun c => bt (tbk a S).1 c) (M i) (Tnb T)) i 4 = nI a.2 := by rw [stA_i, pf_out (by omega)]; exact em_tu hE
    simp (disch := omega) only [f_X9_turns_2, e5, nI_leI, ifp, b_ones S hS, Option.bind_some, nm, e4, nI_add]
    rw [stA_put rfl]
    rfl
theorem mLeav {s : Nat → Int32} {a : Nat × Nat} {K th : Nat} {ln : Nat → Nat} (hT : WT T) (hE : EM (M i) T (s, a.1, K, a.2, th, ln)) (hF : a.1 < 2 ^ Tnb T) : f_X9_leavers M i = some (nI (lvS T K a)) := by
  have h6 := hT.2.1
  have key := iter_for (F := fun rec a => f_X9_leavers_4 i M rec a.1 a.2) (fun b => (nI (so (fun b => a.1.testBit b && !K.testBit b && decide (0 < Tlv T b) && decide (Tlv T b ≤ nI a.2)) b), nI b)) (Tnb T) (nI (lvS T K a)) (fun b hb rec => ?_) (fun rec => ?_) fuel 0 (Nat.zero_le _) (by rw [fuel_eq]; omega)
  · exact key
  · have hlo : f_X9_isLoose M i (nI b) = some (a.1.testBit b && !K.testBit b) := mLo hT hE hF hb
    have htu : M i 4 = nI a.2 := em_tu hE
    show f_X9_leavers_4 i M rec _ _ = rec (nI (so (fun b => a.1.testBit b && !K.testBit b && decide (0 < Tlv T b) && decide (Tlv T b ≤ nI a.2)) b ||| (if (a.1.testBit b && !K.testBit b && decide (0 < Tlv T b) && decide (Tlv T b ≤ nI a.2)) = true then 2 ^ b else 0)), _)
    by_cases r : (a.1.testBit b && !K.testBit b) = true
    · by_cases q : 0 < Tlv T b
      · have q2 : ¬ Tlv T b ≤ 0 := by rw [i_le]; rw [i_lt] at q; omega
        by_cases u : Tlv T b ≤ nI a.2
        · have u2 : ¬ nI a.2 < Tlv T b := by rw [i_lt]; rw [i_le] at u; omega
          simp (disch := omega) only [f_X9_leavers_4, nm, em_nb hE, nI_leI, ifn, i6, p2, chk_ix, cl_nI, em_lv hE hb, hlo, Option.bind_some, htu, r, q2, u2, q, u, if_true, if_false, b_sh, nI_or, nI_sc, decide_true, Bool.and_self]
        · have u2 : nI a.2 < Tlv T b := by rw [i_lt]; rw [i_le] at u; omega
          simp (disch := omega) only [f_X9_leavers_4, nm, em_nb hE, nI_leI, ifn, i6, p2, chk_ix, cl_nI, em_lv hE hb, hlo, Option.bind_some, htu, r, q2, u2, q, u, if_true, if_false, nI_or0, nI_sc, decide_true, decide_false, Bool.and_false, Bool.false_eq_true, Nat.or_zero]
      · have q2 : Tlv T b ≤ 0 := by rw [i_le]; rw [i_lt] at q; omega
        simp (disch := omega) only [f_X9_leavers_4, nm, em_nb hE, nI_leI, ifn, i6, p2, chk_ix, cl_nI, em_lv hE hb, hlo, Option.bind_some, r, q2, q, if_true, nI_or0, nI_sc, decide_false, Bool.and_false, Bool.false_and, Bool.false_eq_true, if_false, Nat.or_zero]
    · have r' : (a.1.testBit b && !K.testBit b) = false := by simpa using r
      simp (disch := omega) only [f_X9_leavers_4, nm, em_nb hE, nI_leI, ifn, i6, p2, chk_ix, cl_nI, em_lv hE hb, hlo, Option.bind_some, r', nI_or0, nI_sc, Bool.false_and, Bool.false_eq_true, if_false, Nat.or_zero]
  · simp (disch := omega) only [f_X9_leavers_4, em_nb hE, nI_leI, ifp]
    rfl
end M1
