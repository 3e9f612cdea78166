/-! FLY, EAT, KEEP, CALL, SWAP, UNDO -/
/-- the end of an act: class cells and reference cells changed -/
theorem rel_act {B : Nat} {M M2 : Mem} {T : TT} {D' : DD} {n : Nat} {P : Nat → DD} (hR : Rst B M) (hT : WT T) (hD' : WD T D' (B + 6)) (hn : n ≤ 24) (hP : ∀ q, q < n → WD T (P q) (B + 6)) (hE : EC M2 4 T D') (hEm : EM (M2 146) T D') (hC : CA M2 T n P) (hM : MA M2 T n P) (e : ∀ a, rstc a → M2 a = M a) (e140 : ∀ s, s ≠ 17 → M2 140 s = M 140 s) : Rel (B + 6) M2 :=
  ⟨rst_mono (rst_cg hR e (e140 4 (by decide)) (e140 6 (by decide)) (e140 7 (by decide)) (e140 23 (by decide))) (by omega), T, D', n, P, hT, hD', hn, hP, hE, hEm, hC, hM⟩
theorem push_WD {T : TT} {D : DD} {B n : Nat} {P : Nat → DD} (hD : WD T D B) (hP : ∀ q, q < n → WD T (P q) B) : ∀ q, q < n24 n → WD T (push D P q) (B + 6) := by
  intro q hq
  cases q with
  | zero => exact WD_mono hD (by omega)
  | succ q => exact WD_mono (hP q (by unfold n24 at hq; split at hq <;> omega)) (by omega)
theorem ec_mo {M M' : Mem} {f : Nat} {T : TT} {D D' : DD} (hE : EC M f T D) (h : EMo M' (f + 7) T D') (e : ∀ a, f + 1 ≤ a → a ≤ f + 6 → M' a = M a) : EC M' f T D' := ⟨to_cg hE.1 (fun a h1 h2 => e a (by omega) (by omega)), h⟩
section AC2
variable {B : Nat} {M : Mem}
/-- an act: what is remembered, then a change of the flight by both -/
theorem act_do {c m : Mem → Option (Int32 × Mem)} (hR : Rel B M) {T : TT} {D : DD} {n : Nat} {P : Nat → DD} (hT : WT T) (hD : WD T D B) (hn : n ≤ 24) (hP : ∀ q, q < n → WD T (P q) B) (hE : EC M 4 T D) (hEm : EM (M 146) T D) (hC : CA M T n P) (hM : MA M T n P) {D' : DD} (hD' : WD T D' (B + 6)) {r : Int32}
    (hc : ∀ M0, f_X0_remember M 11 = some M0 → EC M0 4 T D → (∀ a, a ≠ 25 → ¬ (27 ≤ a ∧ a ≤ 98) → M0 a = M a) → ∃ M1, c M = some (r, M1) ∧ EC M1 4 T D' ∧ (∀ a, ¬ (11 ≤ a ∧ a ≤ 13) → M1 a = M0 a))
    (hm : ∀ N N0, EM (N 146) T D → f_X9_notes N = some N0 → EM (N0 146) T D → ∃ g, m N = some (r, stA N0 146 g) ∧ EM g T D') : Ok2 B M c m := by
  obtain ⟨M0, e0, hC0, f0⟩ := cRem hT hE hC hn
  have hE0 : EC M0 4 T D := ec_cg hE (fun a a1 a2 => f0 a (by omega) (by omega))
  obtain ⟨M1, e1, hE1, f1⟩ := hc M0 e0 hE0 f0
  have g1 : ∀ a, a ≠ 25 → ¬ (27 ≤ a ∧ a ≤ 98) → ¬ (11 ≤ a ∧ a ≤ 13) → M1 a = M a := fun a h1 h2 h3 => (f1 a h3).trans (f0 a h1 h2)
  have hEm1 : EM (M1 146) T D := by rw [g1 146 (by omega) (by omega) (by omega)]; exact hEm
  have hM1 : MA M1 T n P := ma_cg hM (g1 149 (by omega) (by omega) (by omega)) (by rw [g1 140 (by omega) (by omega) (by omega)])
  obtain ⟨N0, e2, hM2, f2, f3⟩ := mNot hT hEm1 hM1 hn
  have hEm2 : EM (N0 146) T D := by rw [f2 146 (by decide) (by decide)]; exact hEm1
  obtain ⟨g, e3, hg⟩ := hm M1 N0 hEm1 e2 hEm2
  refine ⟨r, M1, stA N0 146 g, e1, e3, ?_⟩
  have k : ∀ a, a < 140 → stA N0 146 g a = M1 a := fun a ha => (stA_ne (by omega)).trans (f2 a (by omega) (by omega))
  refine rel_act hR.1 hT hD' (n24_le n) (push_WD hD hP) (ec_cg hE1 (fun a a1 a2 => k a (by omega))) (by rw [stA_i]; exact hg) (ca_cg hC0 (fun a ha => (k a (by omega)).trans (f1 a (by omega)))) (ma_cg hM2 (stA_ne (by decide)) (by rw [stA_ne (by decide)])) (fun a ha => ?_) (fun s hs => ?_)
  · unfold rstc at ha
    rcases Nat.lt_or_ge a 140 with q | q
    · exact (k a q).trans (g1 a (by omega) (by omega) (by omega))
    · exact ((stA_ne (by omega)).trans (f2 a (by omega) (by omega))).trans (g1 a (by omega) (by omega) (by omega))
  · rw [stA_ne (by decide), f3 s hs, g1 140 (by omega) (by omega) (by omega)]
/-- nothing is done -/
theorem act_no {c m : Mem → Option (Int32 × Mem)} (hR : Rel B M) {r : Int32} (hc : c M = some (r, M)) (hm : m M = some (r, M)) : Ok2 B M c m := ⟨r, M, M, hc, hm, rel_mono hR (by omega)⟩
theorem ok_fly (hR : Rel B M) (hB : B ≤ 900000) : Ok2 B M f_X8_fly f_X9_fly := by
  obtain ⟨T, D, n, P, hT, hD, hn, hP, hE, hEm, hC, hM⟩ := hR.2
  have h5 := hT.1
  have hth := hD.2.2.1
  by_cases q : Dth D < Tnv T
  · have c1 : (1 : Int32) ≤ nI (Tnv T - Dth D) := (nI_leI (a := 1) (by decide) (by omega)).mpr (by omega)
    have hD' := pass_WD hT hD (by omega) q
    refine act_do hR hT hD hn hP hE hEm hC hM (r := nI (DF (pass T D))) hD' (fun M0 e0 hE0 f0 => ?_) (fun N N0 hN e0 hN0 => ?_)
    · obtain ⟨M1, e1, hE1, f1⟩ := cFly hT hE0 hD q
      refine ⟨M1, ?_, hE1, fun a ha => f1 a (by omega) (by omega)⟩
      have hF : M1 11 0 = nI (DF (pass T D)) := ec_F hE1
      unfold f_X8_fly
      rw [cCom hE hD, if_pos c1, e0, bdE, e1, bdE, hF]
    · obtain ⟨g, e1, hg⟩ := mPass hT hN0 hD q
      refine ⟨g, ?_, hg⟩
      have hl : f_X9_left N 146 = nI (Tnv T - Dth D) := mLeft hN hD
      unfold f_X9_fly
      rw [if_pos ((isF_iff hN).mpr (by omega)), hl, if_neg (nI_ne0 (by omega) (by omega)), e0, bdE, e1, bdE, mFly hT (by rw [stA_i]; exact hg) hD'.1, bdE]
  · refine act_no hR (r := -1000002) ?_ ?_
    · unfold f_X8_fly
      rw [cCom hE hD, show Tnv T - Dth D = 0 by omega, if_neg (by decide)]
    · unfold f_X9_fly
      rw [mLeft hEm hD, show Tnv T - Dth D = 0 by omega]
      split
      · rfl
      · rfl
theorem ok_eat (hR : Rel B M) (x : Int32) : Ok2 B M (fun M => f_X8_eat M x) (fun M => f_X9_eat M x) := by
  obtain ⟨T, D, n, P, hT, hD, hn, hP, hE, hEm, hC, hM⟩ := hR.2
  have h6 := hT.2.1
  by_cases q : inB (Tnb T) x
  · obtain ⟨b, hb, rfl⟩ := q
    have hbB : inB (Tnb T) (nI b) := ⟨b, hb, rfl⟩
    refine act_do hR hT hD hn hP hE hEm hC hM (r := eatS T D b) (WD_mono (eat_WD hT hD b) (by omega)) (fun M0 e0 hE0 f0 => ?_) (fun N N0 hN e0 hN0 => ?_)
    · obtain ⟨e1, hE1⟩ := cStr hT hE0 hb
      refine ⟨_, ?_, hE1, fun a ha => st_ne (by omega)⟩
      have hs : st M0 (4 + 8) b (eatS T D b) 12 b = eatS T D b := st_same _ _ _ _
      unfold f_X8_eat
      rw [if_pos ((isB_iff hT hE).mpr hbB), e0, bdE, e1, bdE, chk_ix (by omega) (by decide), cl_nI (by omega), hs]
    · obtain ⟨g, e1, hg⟩ := mEat (M := N0) (i := 146) (g0 := N0 146) hT hN0 hb
      rw [stA_self] at e1
      refine ⟨g, ?_, hg⟩
      have hs : stA N0 146 g 146 (21 + 6 * b + 1) = eatS T D b := by
        rw [stA_i, em_st hg hb]
        exact pk_us
      unfold f_X9_eat
      rw [if_pos ((isBm_iff hT hN).mpr hbB), e0, bdE, e1, bdE, i6, nI_sc, chk_ix (by omega) (by decide), cl_nI (by omega), hs]
  · refine act_no hR (r := -1000001) ?_ ?_
    · unfold f_X8_eat
      rw [if_neg (fun h => q ((isB_iff hT hE).mp h))]
    · unfold f_X9_eat
      rw [if_neg (fun h => q ((isBm_iff hT hEm).mp h))]
theorem b_xor : ∀ K, K < 64 → ∀ b, b < 6 → nI K ^^^ ((1 : Int32) <<< (nI b &&& 31)) = nI (K ^^^ 2 ^ b) := by decide +kernel
theorem b_or : ∀ K, K < 64 → ∀ b, b < 6 → nI K ||| ((1 : Int32) <<< (nI b &&& 31)) = nI (K ||| 2 ^ b) := by decide +kernel
theorem bt_or {F b c : Nat} : bt (F ||| 2 ^ b) c = if c = b then 1 else bt F c := by
  unfold bt
  rw [Nat.testBit_or, Nat.testBit_two_pow]
  by_cases q : c = b
  · subst q; simp
  · have : ¬ b = c := fun h => q h.symm
    simp [q, this]
theorem bt_xor {F b c : Nat} : bt (F ^^^ 2 ^ b) c = if c = b then 1 - bt F b else bt F c := by
  unfold bt
  rw [Nat.testBit_xor, Nat.testBit_two_pow]
  by_cases q : c = b
  · subst q
    cases F.testBit c <;> simp <;> decide
  · have : ¬ b = c := fun h => q h.symm
    simp [q, this]
theorem mo_F {i : Nat} {T : TT} {D : DD} (h : EMo M i T D) {F : Nat} : EMo (st M i 0 (nI F)) i T (Dst D, F, DK D, Dtu D, Dth D, Dln D) := by
  obtain ⟨b1, b2, b3, b4, b5, b6⟩ := h
  refine ⟨by rw [st_same]; rfl, ?_, ?_, ?_, fun b hb => ?_, fun j hj => ?_⟩
  · rw [st_slot (by decide)]; exact b2
  · rw [st_slot (by decide)]; exact b3
  · rw [st_slot (by decide)]; exact b4
  · rw [st_ne (by omega)]; exact b5 b hb
  · rw [st_ne (by omega)]; exact b6 j hj
theorem mo_K {i : Nat} {T : TT} {D : DD} (h : EMo M i T D) {K : Nat} : EMo (st M i 1 (nI K)) i T (Dst D, DF D, K, Dtu D, Dth D, Dln D) := by
  obtain ⟨b1, b2, b3, b4, b5, b6⟩ := h
  refine ⟨?_, by rw [st_same]; rfl, ?_, ?_, fun b hb => ?_, fun j hj => ?_⟩
  · rw [st_slot (by decide)]; exact b1
  · rw [st_slot (by decide)]; exact b3
  · rw [st_slot (by decide)]; exact b4
  · rw [st_ne (by omega)]; exact b5 b hb
  · rw [st_ne (by omega)]; exact b6 j hj
theorem em_upF {w : Nat → Int32} {T : TT} {D : DD} (hT : WT T) (h : EM w T D) {b F : Nat} {v : Int32} (hF : ∀ c, c < Tnb T → bt F c = if c = b then v else bt (DF D) c) : EM (upd w (21 + 6 * b + 4) v) T (Dst D, F, DK D, Dtu D, Dth D, Dln D) := by
  have h5 := hT.1
  obtain ⟨a0, a1, a2, a3, a4, a5, a6, a7, a8⟩ := h
  refine ⟨?_, ?_, ?_, ?_, ?_, ?_, fun j hj => ?_, fun v hv => ?_, fun c hc => ?_⟩
  · rw [pk_un (by omega)]; exact a0
  · rw [pk_un (by omega)]; exact a1
  · rw [pk_un (by omega)]; exact a2
  · rw [pk_un (by omega)]; exact a3
  · rw [pk_un (by omega)]; exact a4
  · rw [pk_un (by omega)]; exact a5
  · rw [pk_un (by omega)]; exact a6 j hj
  · rw [pk_un (by omega), pk_un (by omega)]; exact a7 v hv
  · obtain ⟨b0, b1, b2, b3, b4, b5⟩ := a8 c hc
    refine ⟨?_, ?_, ?_, ?_, ?_, ?_⟩
    · rw [pk_un (by omega)]; exact b0
    · rw [pk_un (by omega)]; exact b1
    · rw [pk_un (by omega)]; exact b2
    · rw [pk_un (by omega)]; exact b3
    · show upd w (21 + 6 * b + 4) v (25 + 6 * c) = bt F c
      rw [hF c hc]
      by_cases q : c = b
      · rw [if_pos q, q, show 25 + 6 * b = 21 + 6 * b + 4 by omega, pk_us]
      · rw [if_neg q, pk_un (by omega)]; exact b4
    · rw [pk_un (by omega)]; exact b5
theorem em_upK {w : Nat → Int32} {T : TT} {D : DD} (hT : WT T) (h : EM w T D) {b K : Nat} {v : Int32} (hF : ∀ c, c < Tnb T → bt K c = if c = b then v else bt (DK D) c) : EM (upd w (21 + 6 * b + 5) v) T (Dst D, DF D, K, Dtu D, Dth D, Dln D) := by
  have h5 := hT.1
  obtain ⟨a0, a1, a2, a3, a4, a5, a6, a7, a8⟩ := h
  refine ⟨?_, ?_, ?_, ?_, ?_, ?_, fun j hj => ?_, fun v hv => ?_, fun c hc => ?_⟩
  · rw [pk_un (by omega)]; exact a0
  · rw [pk_un (by omega)]; exact a1
  · rw [pk_un (by omega)]; exact a2
  · rw [pk_un (by omega)]; exact a3
  · rw [pk_un (by omega)]; exact a4
  · rw [pk_un (by omega)]; exact a5
  · rw [pk_un (by omega)]; exact a6 j hj
  · rw [pk_un (by omega), pk_un (by omega)]; exact a7 v hv
  · obtain ⟨b0, b1, b2, b3, b4, b5⟩ := a8 c hc
    refine ⟨?_, ?_, ?_, ?_, ?_, ?_⟩
    · rw [pk_un (by omega)]; exact b0
    · rw [pk_un (by omega)]; exact b1
    · rw [pk_un (by omega)]; exact b2
    · rw [pk_un (by omega)]; exact b3
    · rw [pk_un (by omega)]; exact b4
    · show upd w (21 + 6 * b + 5) v (26 + 6 * c) = bt K c
      rw [hF c hc]
      by_cases q : c = b
      · rw [if_pos q, q, show 26 + 6 * b = 21 + 6 * b + 5 by omega, pk_us]
      · rw [if_neg q, pk_un (by omega)]; exact b5
theorem pow_in {b n : Nat} (h : b < n) : 2 ^ b < 2 ^ n := Nat.pow_lt_pow_right (by decide) h
theorem ok_call (hR : Rel B M) (x : Int32) : Ok2 B M (fun M => f_X8_call M x) (fun M => f_X9_call M x) := by
  obtain ⟨T, D, n, P, hT, hD, hn, hP, hE, hEm, hC, hM⟩ := hR.2
  have h6 := hT.2.1
  have hF64 := wd_F hT hD
  by_cases q : inB (Tnb T) x
  · obtain ⟨b, hb, rfl⟩ := q
    have hbB : inB (Tnb T) (nI b) := ⟨b, hb, rfl⟩
    have hcf : f_X3_flies M 11 (nI b) = (DF D).testBit b := cFl (ec_F hE) hF64 (by omega)
    by_cases qf : (DF D).testBit b = true
    · refine act_no hR (r := -1000002) ?_ ?_
      · unfold f_X8_call
        rw [if_pos ((isB_iff hT hE).mpr hbB), hcf, if_pos qf]
      · unfold f_X9_call
        rw [if_pos ((isBm_iff hT hEm).mpr hbB), mFl hT hEm hD.1 (by omega), bdE, if_pos qf]
    · have hlt : DF D ||| 2 ^ b < 2 ^ Tnb T := Nat.or_lt_two_pow hD.1 (pow_in hb)
      have hD' : WD T (Dst D, DF D ||| 2 ^ b, DK D, Dtu D, Dth D, Dln D) (B + 6) := ⟨hlt, hD.2.1, hD.2.2.1, by have : Dtu D ≤ B := hD.2.2.2.1; show Dtu D ≤ B + 6; omega, hD.2.2.2.2⟩
      refine act_do hR hT hD hn hP hE hEm hC hM (r := nI (DF D ||| 2 ^ b)) hD' (fun M0 e0 hE0 f0 => ?_) (fun N N0 hN e0 hN0 => ?_)
      · refine ⟨st M0 11 0 (nI (DF D ||| 2 ^ b)), ?_, ec_mo hE0 (mo_F hE0.2) (fun a a1 a2 => st_ne (by omega)), fun a ha => st_ne (by omega)⟩
        have hF0 : M0 11 0 = nI (DF D) := ec_F hE0
        unfold f_X8_call
        rw [if_pos ((isB_iff hT hE).mpr hbB), hcf, if_neg qf, e0, bdE, hF0, b_or _ hF64 _ (by omega), nmE, st_same]
      · refine ⟨upd (N0 146) (21 + 6 * b + 4) 1, ?_, em_upF hT hN0 (fun c hc => bt_or)⟩
        have hg : EM ((st N0 146 (21 + 6 * b + 4) 1) 146) T (Dst D, DF D ||| 2 ^ b, DK D, Dtu D, Dth D, Dln D) := by rw [st_i]; exact em_upF hT hN0 (fun c hc => bt_or)
        unfold f_X9_call
        rw [if_pos ((isBm_iff hT hN).mpr hbB), mFl hT hN hD.1 (by omega), bdE, if_neg qf, e0, bdE, i6, p4, chk_ix (by omega) (by decide), cl_nI (by omega), nmE, mFly hT hg hlt, bdE]
        rfl
  · refine act_no hR (r := -1000001) ?_ ?_
    · unfold f_X8_call
      rw [if_neg (fun h => q ((isB_iff hT hE).mp h))]
    · unfold f_X9_call
      rw [if_neg (fun h => q ((isBm_iff hT hEm).mp h))]
theorem ok_keep (hR : Rel B M) (x y : Int32) : Ok2 B M (fun M => f_X8_keep M x y) (fun M => f_X9_keep M x y) := by
  obtain ⟨T, D, n, P, hT, hD, hn, hP, hE, hEm, hC, hM⟩ := hR.2
  have h6 := hT.2.1
  have hK64 := wd_K hT hD
  by_cases q : inB (Tnb T) x
  · obtain ⟨b, hb, rfl⟩ := q
    have hbB : inB (Tnb T) (nI b) := ⟨b, hb, rfl⟩
    have hcb : f_X8_bitOf (M 11 1) (nI b) = bt (DK D) b := by
      have : M 11 1 = nI (DK D) := ec_K hE
      rw [this]
      exact b_bit _ hK64 b (by omega)
    by_cases qy : f_X9_in y 0 1 = true
    · by_cases qf : bt (DK D) b = y
      · refine act_no hR (r := -1000002) ?_ ?_
        · unfold f_X8_keep
          rw [if_pos ((isB_iff hT hE).mpr hbB), in_8, if_pos qy, hcb, if_pos qf]
        · unfold f_X9_keep
          rw [if_pos ((isBm_iff hT hEm).mpr hbB), if_pos qy, i6, p5, chk_ix (by omega) (by decide), cl_nI (by omega), em_K hEm hb, if_pos qf]
      · have hlt : DK D ^^^ 2 ^ b < 2 ^ Tnb T := Nat.xor_lt_two_pow hD.2.1 (pow_in hb)
        have hy : y = 1 - bt (DK D) b := by
          have e0 : (0 : Int32).toInt = 0 := rfl
          have e1 : (1 : Int32).toInt = 1 := rfl
          rw [in_iff] at qy
          have hy01 : y = 0 ∨ y = 1 := by
            rw [i_eq, i_eq]
            omega
          unfold bt at qf ⊢
          by_cases z : (DK D).testBit b = true
          · rw [if_pos z] at qf ⊢
            rcases hy01 with w | w
            · rw [w]; decide
            · exact absurd w.symm qf
          · rw [if_neg z] at qf ⊢
            rcases hy01 with w | w
            · exact absurd w.symm qf
            · rw [w]; decide
        have hbt : ∀ c, c < Tnb T → bt (DK D ^^^ 2 ^ b) c = if c = b then y else bt (DK D) c := fun c hc => by rw [hy]; exact bt_xor
        have hD' : WD T (Dst D, DF D, DK D ^^^ 2 ^ b, Dtu D, Dth D, Dln D) (B + 6) := ⟨hD.1, hlt, hD.2.2.1, by have : Dtu D ≤ B := hD.2.2.2.1; show Dtu D ≤ B + 6; omega, hD.2.2.2.2⟩
        refine act_do hR hT hD hn hP hE hEm hC hM (r := nI (DK D ^^^ 2 ^ b)) hD' (fun M0 e0 hE0 f0 => ?_) (fun N N0 hN e0 hN0 => ?_)
        · refine ⟨st M0 11 1 (nI (DK D ^^^ 2 ^ b)), ?_, ec_mo hE0 (mo_K hE0.2) (fun a a1 a2 => st_ne (by omega)), fun a ha => st_ne (by omega)⟩
          have hF0 : M0 11 1 = nI (DK D) := ec_K hE0
          unfold f_X8_keep
          rw [if_pos ((isB_iff hT hE).mpr hbB), in_8, if_pos qy, hcb, if_neg qf, e0, bdE, hF0, b_xor _ hK64 _ (by omega), nmE, st_same]
        · refine ⟨upd (N0 146) (21 + 6 * b + 5) y, ?_, em_upK hT hN0 hbt⟩
          have hg : EM ((st N0 146 (21 + 6 * b + 5) y) 146) T (Dst D, DF D, DK D ^^^ 2 ^ b, Dtu D, Dth D, Dln D) := by rw [st_i]; exact em_upK hT hN0 hbt
          unfold f_X9_keep
          rw [if_pos ((isBm_iff hT hN).mpr hbB), if_pos qy, i6, p5, chk_ix (by omega) (by decide), cl_nI (by omega), em_K hN hb, if_neg qf, e0, bdE, nmE, mKep hT hg hlt, bdE]
          rfl
    · refine act_no hR (r := -1000001) ?_ ?_
      · unfold f_X8_keep
        rw [if_pos ((isB_iff hT hE).mpr hbB), in_8, if_neg qy]
      · unfold f_X9_keep
        rw [if_pos ((isBm_iff hT hEm).mpr hbB), if_neg qy]
  · refine act_no hR (r := -1000001) ?_ ?_
    · unfold f_X8_keep
      rw [if_neg (fun h => q ((isB_iff hT hE).mp h))]
    · unfold f_X9_keep
      rw [if_neg (fun h => q ((isBm_iff hT hEm).mp h))]
end AC2
