/-! TO KEEP, WHOLE -/
def kpD (D : DD) (S : Nat) : DD := (Dst D, DF D, DK D ||| S, Dtu D, Dth D, Dln D)
def vv : Option Nat → Int32
  | none => -1000000
  | some t => nI t
def cc : Option Nat → Nat
  | none => 7
  | some t => pc t
def fw (L : Nat) (p : Nat → Bool) : Nat → Option Nat
  | 0 => none
  | s + 1 => if (decide (s &&& (63 ^^^ L) = 0) && decide (pc s < cc (fw L p s)) && p s) = true then some s else fw L p s
theorem fw_lt (L : Nat) (p : Nat → Bool) : ∀ s t, fw L p s = some t → t < s
  | 0, t, h => by cases h
  | s + 1, t, h => by
    unfold fw at h
    split at h
    · cases h; omega
    · have := fw_lt L p s t h; omega
theorem sub_le : ∀ s, s < 64 → ∀ L, L < 64 → s &&& (63 ^^^ L) = 0 → s ≤ L := by decide +kernel
theorem sub_self : ∀ L, L < 64 → L &&& (63 ^^^ L) = 0 := by decide +kernel
theorem fw_end {L : Nat} (hL : L < 64) (p : Nat → Bool) : ∀ k, L + 1 + k ≤ 64 → fw L p (L + 1 + k) = fw L p (L + 1)
  | 0, _ => rfl
  | k + 1, h => by
    have ih := fw_end hL p k (by omega)
    show fw L p (L + 1 + k + 1) = _
    have e : fw L p (L + 1 + k + 1) = if (decide ((L + 1 + k) &&& (63 ^^^ L) = 0) && decide (pc (L + 1 + k) < cc (fw L p (L + 1 + k))) && p (L + 1 + k)) = true then some (L + 1 + k) else fw L p (L + 1 + k) := rfl
    rw [e, if_neg, ih]
    intro z
    simp only [Bool.and_eq_true, decide_eq_true_eq] at z
    have := sub_le (L + 1 + k) (by omega) L hL z.1.1
    omega
theorem cc_le (L : Nat) (p : Nat → Bool) {s : Nat} (hs : s ≤ 64) : cc (fw L p s) ≤ 7 := by
  cases h : fw L p s with
  | none => exact Nat.le_refl 7
  | some t =>
    have := fw_lt L p s t h
    have := pc_le t (by omega)
    show pc t ≤ 7
    omega
/-- all that fly are kept: none turns back -/
theorem so_none {p : Nat → Bool} {n : Nat} (h : ∀ b, b < n → p b = false) : so p n = 0 := by
  apply Nat.eq_of_testBit_eq
  intro b
  rw [so_bit, Nat.zero_testBit]
  by_cases q : b < n
  · rw [h b q]; simp
  · simp [q]
theorem tbk_0 {a : Nat × Nat} (h : a.1 < 64) : tbk a 0 = a := by
  have : a.1 &&& (63 ^^^ 0) = a.1 := (by decide +kernel : ∀ F, F < 64 → F &&& (63 ^^^ 0) = F) a.1 h
  show (a.1 &&& (63 ^^^ 0), a.2 + pc 0) = a
  rw [this]
  rfl
theorem kept_F {T : TT} {D : DD} (hF : DF D < 64) (hk : ∀ b, (DF D).testBit b = true → (DK D).testBit b = true) : DF (pass T D) = DF D := by
  have nb : ∀ b, ((DF D).testBit b && !(DK D).testBit b) = false := fun b => by
    by_cases q : (DF D).testBit b = true
    · rw [hk b q]; simp
    · simp [q]
  have w0 : wkS T D = 0 := so_none (fun b _ => by rw [nb b]; rfl)
  have l0 : lvS T (DK D) (DF D, Dtu D) = 0 := so_none (fun b _ => by
    show ((DF D).testBit b && !(DK D).testBit b && _ && _) = false
    rw [nb b]; rfl)
  obtain ⟨R, hR, hp⟩ := pass_ex T D
  rw [hp]
  show R.1 = DF D
  rw [hR, w0, tbk_0 hF, rnd_fix l0 hF]
theorem kept_arr {T : TT} : ∀ k D, DF D < 64 → (∀ b, (DF D).testBit b = true → (DK D).testBit b = true) → DF (pn T k D) = DF D
  | 0, _, _, _ => rfl
  | k + 1, D, hF, hk => by
    by_cases q : Dth D < Tnv T
    · have e := kept_F (T := T) hF hk
      have eK : DK (pass T D) = DK D := rfl
      rw [pn_go q, kept_arr k (pass T D) (by rw [e]; exact hF) (fun b hb => by rw [eK]; rw [e] at hb; exact hk b hb), e]
    · rw [pn_end q]
section KP
variable {B : Nat} {M : Mem} {T : TT} {D : DD}
/-- what is loose -/
def los (D : DD) : Nat := DF D &&& (63 ^^^ DK D)
def pk (T : TT) (D : DD) (x : Int32) (s : Nat) : Bool := !decide (nI (pc (DF (arr T (kpD D s)))) < x)
theorem kp_WD (hD : WD T D B) {s : Nat} (hs : s < 2 ^ Tnb T) : WD T (kpD D s) B := ⟨hD.1, Nat.or_lt_two_pow hD.2.1 hs, hD.2.2.1, hD.2.2.2.1, hD.2.2.2.2⟩
theorem los_lt (hD : WD T D B) : los D < 2 ^ Tnb T := and_lt hD.1
theorem cFew (hT : WT T) (hD : WD T D B) (hB : B ≤ 900000) (hE : EC M 4 T D) (x : Int32) : ∃ M', f_X8_fewestToKeep M x = some (vv (fw (los D) (pk T D x) (los D + 1)), M') ∧ fr M M' := by
  have h6 := hT.2.1
  have hF64 := wd_F hT hD
  have hK64 := wd_K hT hD
  have hL := los_lt hD
  have hL64 : los D < 64 := Nat.lt_of_lt_of_le hL (pow_64 h6)
  have key := iter_inv (F := fun rec a => f_X8_fewestToKeep_34 x (nI (los D)) rec a.1 a.2.1 a.2.2.1 a.2.2.2) (fun s a => a.2 = (vv (fw (los D) (pk T D x) s), nI (cc (fw (los D) (pk T D x) s)), nI s) ∧ fr M a.1) (los D + 1) (fun z => z.1 = vv (fw (los D) (pk T D x) (los D + 1)) ∧ fr M z.2) (fun s a hs hI => ?_) (fun a hI => ?_) fuel 0 (M, (-1000000 : Int32), (7 : Int32), nI 0) (by omega) (by rw [fuel_eq]; omega) ⟨rfl, fr_refl M⟩
  · obtain ⟨⟨r, M1⟩, ⟨er, f1⟩, e1⟩ := key
    have er : r = vv (fw (los D) (pk T D x) (los D + 1)) := er
    refine ⟨M1, ?_, f1⟩
    have k1 : M 11 0 = nI (DF D) := ec_F hE
    have k2 : M 11 1 = nI (DK D) := ec_K hE
    unfold f_X8_fewestToKeep
    rw [k1, k2, b_andn _ hF64 _ hK64, nmE, ← er]
    exact e1
  · obtain ⟨Mj, aj⟩ := a
    obtain ⟨ea, fj⟩ := hI
    have ea : aj = (vv (fw (los D) (pk T D x) s), nI (cc (fw (los D) (pk T D x) s)), nI s) := ea
    subst ea
    have fj : fr M Mj := fj
    have hs64 : s < 64 := by omega
    have hEj : EC Mj 4 T D := fr_EC fj (by omega) hE
    have hcc := cc_le (los D) (pk T D x) (show s ≤ 64 by omega)
    have hps := pc_le s hs64
    have hfw : fw (los D) (pk T D x) (s + 1) = if (decide (s &&& (63 ^^^ los D) = 0) && decide (pc s < cc (fw (los D) (pk T D x) s)) && pk T D x s) = true then some s else fw (los D) (pk T D x) s := rfl
    have sk : ∀ (Mk : Mem), fr M Mk → (decide (s &&& (63 ^^^ los D) = 0) && decide (pc s < cc (fw (los D) (pk T D x) s)) && pk T D x s) = false → ((Mk, vv (fw (los D) (pk T D x) s), nI (cc (fw (los D) (pk T D x) s)), nI (s + 1)) : Mem × Int32 × Int32 × Int32).2 = (vv (fw (los D) (pk T D x) (s + 1)), nI (cc (fw (los D) (pk T D x) (s + 1))), nI (s + 1)) ∧ fr M Mk := by
      intro Mk fk hz
      rw [hfw, if_neg (by rw [hz]; decide)]
      exact ⟨rfl, fk⟩
    left
    have c1 : ¬ nI (los D) < nI s := by rw [nI_ltI (by omega) (by omega)]; omega
    by_cases z1 : s &&& (63 ^^^ los D) = 0
    · by_cases z2 : pc s < cc (fw (los D) (pk T D x) s)
      · obtain ⟨hE1, f1⟩ := cTri hT hEj
        have hK1 : (f_X2_become Mj 14 4) 21 1 = nI (DK D) := ec_K hE1
        have hE2 : EC (st (f_X2_become Mj 14 4) 21 1 (nI (DK D ||| s))) 14 T (kpD D s) := ec_mo hE1 (mo_K hE1.2) (fun a a1 a2 => st_ne (by omega))
        have hD2 : WD T (kpD D s) B := kp_WD hD (by omega)
        obtain ⟨M3, e3, hE3, f3⟩ := cArr hT hE2 hD2 (by omega)
        have f13 : fr M M3 := fr_trans fj (fr_trans f1 (fr_trans (fr_st (by unfold Jk; omega)) (fr_14 f3)))
        have hA := wd_F hT (arr_WD hT hD2 (by omega))
        by_cases z3 : nI (pc (DF (arr T (kpD D s)))) < x
        · refine ⟨(M3, vv (fw (los D) (pk T D x) s), nI (cc (fw (los D) (pk T D x) s)), nI (s + 1)), sk M3 f13 (by unfold pk; simp [z3]), fun rec => ?_⟩
          show f_X8_fewestToKeep_34 x (nI (los D)) rec Mj _ _ (nI s) = _
          unfold f_X8_fewestToKeep_34
          rw [if_neg c1, b_andn _ hs64 _ hL64, z1, if_pos nI_0, b_pc _ hs64, if_neg (by rw [nI_leI (by omega) (by omega)]; omega), nmE, hK1, nI_or, nmE, e3, bdE, b_pc _ hA, if_pos z3, nmE, nI_sc]
        · refine ⟨(M3, vv (some s), nI (cc (some s)), nI (s + 1)), ⟨?_, f13⟩, fun rec => ?_⟩
          · rw [hfw, if_pos (by rw [show pk T D x s = true by unfold pk; simp [z3]]; simp [z1, z2])]
          · show f_X8_fewestToKeep_34 x (nI (los D)) rec Mj _ _ (nI s) = _
            unfold f_X8_fewestToKeep_34
            rw [if_neg c1, b_andn _ hs64 _ hL64, z1, if_pos nI_0, b_pc _ hs64, if_neg (by rw [nI_leI (by omega) (by omega)]; omega), nmE, hK1, nI_or, nmE, e3, bdE, b_pc _ hA, if_neg z3, nmE, nmE, nI_sc]
            rfl
      · refine ⟨(Mj, vv (fw (los D) (pk T D x) s), nI (cc (fw (los D) (pk T D x) s)), nI (s + 1)), sk Mj fj (by simp [z2]), fun rec => ?_⟩
        show f_X8_fewestToKeep_34 x (nI (los D)) rec Mj _ _ (nI s) = _
        unfold f_X8_fewestToKeep_34
        rw [if_neg c1, b_andn _ hs64 _ hL64, z1, if_pos nI_0, b_pc _ hs64, if_pos (by rw [nI_leI (by omega) (by omega)]; omega), nmE, nI_sc]
    · refine ⟨(Mj, vv (fw (los D) (pk T D x) s), nI (cc (fw (los D) (pk T D x) s)), nI (s + 1)), sk Mj fj (by simp [z1]), fun rec => ?_⟩
      show f_X8_fewestToKeep_34 x (nI (los D)) rec Mj _ _ (nI s) = _
      have hlt : s &&& (63 ^^^ los D) < 64 := Nat.lt_of_le_of_lt Nat.and_le_left hs64
      unfold f_X8_fewestToKeep_34
      rw [if_neg c1, b_andn _ hs64 _ hL64, if_neg (nI_ne0 (by omega) (by omega)), nmE, nI_sc]
  · obtain ⟨Mj, aj⟩ := a
    obtain ⟨ea, fj⟩ := hI
    have ea : aj = (vv (fw (los D) (pk T D x) (los D + 1)), nI (cc (fw (los D) (pk T D x) (los D + 1))), nI (los D + 1)) := ea
    subst ea
    refine ⟨(vv (fw (los D) (pk T D x) (los D + 1)), Mj), ⟨rfl, fj⟩, fun rec => ?_⟩
    show f_X8_fewestToKeep_34 x (nI (los D)) rec Mj _ _ (nI (los D + 1)) = _
    unfold f_X8_fewestToKeep_34
    rw [if_pos (by rw [nI_ltI (by omega) (by omega)]; omega)]
/-- the first c birds of s are loose -/
def al (D : DD) (s : Nat) : Nat → Bool
  | 0 => true
  | c + 1 => al D s c && (!s.testBit c || ((DF D).testBit c && !(DK D).testBit c))
theorem al_iff (D : DD) (s : Nat) : ∀ n, al D s n = true ↔ ∀ c, c < n → s.testBit c = true → ((DF D).testBit c && !(DK D).testBit c) = true
  | 0 => by simp [al]
  | n + 1 => by
    have ih := al_iff D s n
    unfold al
    rw [Bool.and_eq_true, ih]
    constructor
    · intro ⟨h1, h2⟩ c hc hs
      by_cases q : c = n
      · subst q
        rw [hs] at h2
        simpa using h2
      · exact h1 c (by omega) hs
    · intro h
      refine ⟨fun c hc => h c (by omega), ?_⟩
      by_cases q : s.testBit n = true
      · have := h n (by omega) q
        rw [this]; simp
      · simp [q]
theorem al_sub (h6 : Tnb T ≤ 6) {s : Nat} (hs : s < 2 ^ Tnb T) : al D s (Tnb T) = decide (s &&& (63 ^^^ los D) = 0) := by
  rw [Bool.eq_iff_iff, al_iff, decide_eq_true_iff]
  constructor
  · intro h
    apply Nat.eq_of_testBit_eq
    intro c
    rw [tb_andn, Nat.zero_testBit]
    by_cases q : s.testBit c = true
    · have hc : c < Tnb T := by
        rcases Nat.lt_or_ge c (Tnb T) with z | z
        · exact z
        · rw [tb_lt hs z] at q; cases q
      have := h c hc q
      have h6c : c < 6 := by omega
      unfold los
      rw [tb_andn, q]
      rw [Bool.and_eq_true] at this
      rw [this.1]
      have k := this.2
      simp at k
      rw [k]
      simp [h6c]
    · simp [q]
  · intro h c hc hs
    have h6c : c < 6 := by omega
    have := congrArg (fun y => Nat.testBit y c) h
    have this : (s &&& (63 ^^^ los D)).testBit c = (0 : Nat).testBit c := this
    rw [tb_andn, Nat.zero_testBit, hs] at this
    unfold los at this
    rw [tb_andn] at this
    simp [h6c] at this
    rw [Bool.and_eq_true]
    exact ⟨this.1, by simpa using this.2⟩
theorem pf_K {w : Nat → Int32} (hT : WT T) (h : EM w T D) (K : Nat) : EM (pf 5 (fun c => bt K c) w (Tnb T)) T (Dst D, DF D, K, Dtu D, Dth D, Dln D) := by
  have h5 := hT.1
  have h6 := hT.2.1
  obtain ⟨a0, a1, a2, a3, a4, a5, a6, a7, a8⟩ := h
  refine ⟨?_, ?_, ?_, ?_, ?_, ?_, fun j hj => ?_, fun v hv => ?_, fun b hb => ?_⟩
  · rw [pf_out (by omega)]; exact a0
  · rw [pf_out (by omega)]; exact a1
  · rw [pf_out (by omega)]; exact a2
  · rw [pf_out (by omega)]; exact a3
  · rw [pf_out (by omega)]; exact a4
  · rw [pf_out (by omega)]; exact a5
  · rw [pf_out (by omega)]; exact a6 j hj
  · rw [pf_out (by omega), pf_out (by omega)]; exact a7 v hv
  · obtain ⟨b0, b1, b2, b3, b4, b5⟩ := a8 b hb
    refine ⟨?_, ?_, ?_, ?_, ?_, ?_⟩
    · rw [pf_out (by omega)]; exact b0
    · rw [pf_out (by omega)]; exact b1
    · rw [pf_out (by omega)]; exact b2
    · rw [pf_out (by omega)]; exact b3
    · rw [pf_out (by omega)]; exact b4
    · rw [show 26 + 6 * b = 21 + 6 * b + 5 by omega, pf_in (by decide) hb]; rfl
theorem mFew (hT : WT T) (hD : WD T D B) (hB : B ≤ 900000) (hE : EM (M 146) T D) (x : Int32) : ∃ M', f_X9_fewest M x = some (vv (fw (los D) (pk T D x) (los D + 1)), M') ∧ fr M M' := by
  have h6 := hT.2.1
  have hF64 := wd_F hT hD
  have hK64 := wd_K hT hD
  have hL := los_lt hD
  have h64 := pow_64 h6
  have hL64 : los D < 64 := Nat.lt_of_lt_of_le hL h64
  have hend : fw (los D) (pk T D x) (2 ^ Tnb T) = fw (los D) (pk T D x) (los D + 1) := by
    have := fw_end hL64 (pk T D x) (2 ^ Tnb T - (los D + 1)) (by omega)
    rw [show los D + 1 + (2 ^ Tnb T - (los D + 1)) = 2 ^ Tnb T by omega] at this
    exact this
  rw [← hend]
  have key := iter_inv (F := fun rec a => f_X9_fewest_5 x rec a.1 a.2.1 a.2.2) (fun s a => a.2 = (vv (fw (los D) (pk T D x) s), nI s) ∧ fr M a.1) (2 ^ Tnb T) (fun z => z.1 = vv (fw (los D) (pk T D x) (2 ^ Tnb T)) ∧ fr M z.2) (fun s a hs hI => ?_) (fun a hI => ?_) fuel 0 (M, (-1000000 : Int32), nI 0) (by omega) (by rw [fuel_eq]; omega) ⟨rfl, fr_refl M⟩
  · obtain ⟨⟨r, M1⟩, ⟨er, f1⟩, e1⟩ := key
    have er : r = vv (fw (los D) (pk T D x) (2 ^ Tnb T)) := er
    refine ⟨M1, ?_, f1⟩
    rw [← er]
    exact e1
  · obtain ⟨Mj, aj⟩ := a
    obtain ⟨ea, fj⟩ := hI
    have ea : aj = (vv (fw (los D) (pk T D x) s), nI s) := ea
    subst ea
    have fj : fr M Mj := fj
    have hs64 : s < 64 := by omega
    have hEj : EM (Mj 146) T D := by rw [fr_at fj (by omega)]; exact hE
    have hfw : fw (los D) (pk T D x) (s + 1) = if (decide (s &&& (63 ^^^ los D) = 0) && decide (pc s < cc (fw (los D) (pk T D x) s)) && pk T D x s) = true then some s else fw (los D) (pk T D x) s := rfl
    have hD2 : WD T (kpD D s) B := kp_WD hD hs
    have hA := wd_F hT (arr_WD hT hD2 (by omega))
    obtain ⟨g, t1, hg⟩ := mTri hT hEj
    have hgK : EM (pf 5 (fun c => bt (DK D ||| s) c) g (Tnb T)) T (kpD D s) := pf_K hT hg (DK D ||| s)
    obtain ⟨g2, t2, hg2⟩ := mEnds (M := Mj) hT hgK hD2 (by omega)
    -- the loop that keeps the birds of s
    have l106 : ∀ (rec : Mem × Int32 × Int32 → Option (Int32 × Mem)), iter (fun r a => f_X9_fewest_106 rec x (vv (fw (los D) (pk T D x) s)) (nI s) r a.1 a.2) fuel (stA Mj 148 g, (0 : Int32)) = (if nI (pc (DF (arr T (kpD D s)))) < x then rec (stA Mj 148 g2, vv (fw (los D) (pk T D x) s), nI (s + 1)) else rec (stA Mj 148 g2, nI s, nI (s + 1))) := by
      intro rec
      have k2 := iter_to (F := fun r a => f_X9_fewest_106 rec x (vv (fw (los D) (pk T D x) s)) (nI s) r a.1 a.2) (fun c => (stA Mj 148 (pf 5 (fun c => bt (DK D ||| s) c) g c), nI c)) (Tnb T) (if nI (pc (DF (arr T (kpD D s)))) < x then rec (stA Mj 148 g2, vv (fw (los D) (pk T D x) s), nI (s + 1)) else rec (stA Mj 148 g2, nI s, nI (s + 1))) (fun c hc r => ?_) (fun r => ?_) fuel 0 (Nat.zero_le _) (by rw [fuel_eq]; omega)
      · rw [pf_0] at k2
        exact k2
      · have e5 : (stA Mj 148 (pf 5 (fun c => bt (DK D ||| s) c) g c)) 146 5 = nI (Tnb T) := by rw [stA_ne (by decide)]; exact em_nb hEj
        have eK : (stA Mj 148 (pf 5 (fun c => bt (DK D ||| s) c) g c)) 148 (21 + 6 * c + 5) = bt (DK D) c := by rw [stA_i, pf_out (by omega)]; exact em_K hg hc
        show f_X9_fewest_106 rec x _ (nI s) r (stA Mj 148 (pf 5 (fun c => bt (DK D ||| s) c) g c)) (nI c) = r (stA Mj 148 (pf 5 (fun c => bt (DK D ||| s) c) g (c + 1)), nI (c + 1))
        unfold f_X9_fewest_106
        rw [e5, if_neg (by rw [nI_leI (by omega) (by omega)]; omega), b_has s hs64 c (by omega), i6, p5, chk_ix (by omega) (by decide), chk_ix (by omega) (by decide), cl_nI (by omega), eK]
        by_cases z : s.testBit c = true
        · rw [if_pos z, nmE, nmE, nI_sc, stA_put (pf_up (by decide) (show (1 : Int32) = bt (DK D ||| s) c by unfold bt; rw [Nat.testBit_or, z]; simp))]
        · rw [if_neg z, nmE, nmE, nI_sc, stA_put (pf_up (by decide) (show bt (DK D) c = bt (DK D ||| s) c by unfold bt; rw [Nat.testBit_or]; simp [z]))]
      · have e5 : (stA Mj 148 (pf 5 (fun c => bt (DK D ||| s) c) g (Tnb T))) 146 5 = nI (Tnb T) := by rw [stA_ne (by decide)]; exact em_nb hEj
        show f_X9_fewest_106 rec x _ (nI s) r (stA Mj 148 (pf 5 (fun c => bt (DK D ||| s) c) g (Tnb T))) (nI (Tnb T)) = _
        unfold f_X9_fewest_106
        rw [e5, if_pos (by rw [nI_leI (by omega) (by omega)]; omega), t2, bdE, b_ones _ hA, bdE, nmE, nmE, nI_sc]
    -- the loop that looks whether all of s are loose
    have l44 : ∀ (rec : Mem × Int32 × Int32 → Option (Int32 × Mem)) (c0 : Bool), iter (fun r a => f_X9_fewest_44 rec Mj x (vv (fw (los D) (pk T D x) s)) (nI s) r a.1 a.2) fuel (c0, (0 : Int32)) = (if (c0 && al D s (Tnb T)) = true then (if nI (pc (DF (arr T (kpD D s)))) < x then rec (stA Mj 148 g2, vv (fw (los D) (pk T D x) s), nI (s + 1)) else rec (stA Mj 148 g2, nI s, nI (s + 1))) else rec (Mj, vv (fw (los D) (pk T D x) s), nI (s + 1))) := by
      intro rec c0
      have k2 := iter_to (F := fun r a => f_X9_fewest_44 rec Mj x (vv (fw (los D) (pk T D x) s)) (nI s) r a.1 a.2) (fun c => (c0 && al D s c, nI c)) (Tnb T) (if (c0 && al D s (Tnb T)) = true then (if nI (pc (DF (arr T (kpD D s)))) < x then rec (stA Mj 148 g2, vv (fw (los D) (pk T D x) s), nI (s + 1)) else rec (stA Mj 148 g2, nI s, nI (s + 1))) else rec (Mj, vv (fw (los D) (pk T D x) s), nI (s + 1))) (fun c hc r => ?_) (fun r => ?_) fuel 0 (Nat.zero_le _) (by rw [fuel_eq]; omega)
      · have e0 : (c0 && al D s 0) = c0 := by unfold al; simp
        rw [e0] at k2
        exact k2
      · show f_X9_fewest_44 rec Mj x _ (nI s) r (c0 && al D s c) (nI c) = r (c0 && (al D s c && (!s.testBit c || ((DF D).testBit c && !(DK D).testBit c))), nI (c + 1))
        unfold f_X9_fewest_44
        rw [em_nb hEj, if_neg (by rw [nI_leI (by omega) (by omega)]; omega), b_has s hs64 c (by omega), mLo hT hEj hD.1 hc, bdE, nmE, nmE, nI_sc, ← Bool.and_assoc]
        by_cases z : (c0 && al D s c) = true
        · rw [if_pos z, z]
          by_cases z2 : s.testBit c = true
          · rw [if_pos z2, z2]
            cases ((DF D).testBit c && !(DK D).testBit c) <;> rfl
          · rw [if_neg z2]
            have z2' : s.testBit c = false := by simpa using z2
            rw [z2']
            rfl
        · rw [if_neg z]
          have z' : (c0 && al D s c) = false := by simpa using z
          rw [z']
          rfl
      · show f_X9_fewest_44 rec Mj x _ (nI s) r (c0 && al D s (Tnb T)) (nI (Tnb T)) = _
        unfold f_X9_fewest_44
        rw [em_nb hEj, if_pos (by rw [nI_leI (by omega) (by omega)]; omega)]
        by_cases z : (c0 && al D s (Tnb T)) = true
        · rw [if_pos z, if_pos z, t1, bdE]
          exact l106 rec
        · rw [if_neg z, if_neg z, nmE, nI_sc]
    left
    have hstep : ∀ (rec : Mem × Int32 × Int32 → Option (Int32 × Mem)), f_X9_fewest_5 x rec Mj (vv (fw (los D) (pk T D x) s)) (nI s) = iter (fun r a => f_X9_fewest_44 rec Mj x (vv (fw (los D) (pk T D x) s)) (nI s) r a.1 a.2) fuel (decide (pc s < cc (fw (los D) (pk T D x) s)), (0 : Int32)) := by
      intro rec
      have hps := pc_le s hs64
      unfold f_X9_fewest_5
      rw [em_nb hEj, b_sh (Tnb T) (by omega), if_neg (by rw [nI_leI (by omega) (by omega)]; omega)]
      cases hf : fw (los D) (pk T D x) s with
      | none =>
        rw [if_pos (show vv none = -1000000 from rfl)]
        have : decide (pc s < cc none) = true := by
          show decide (pc s < 7) = true
          simp; omega
        rw [this]
      | some t =>
        have ht := fw_lt _ _ _ _ hf
        have hpt := pc_le t (by omega)
        have ne : ¬ vv (some t) = -1000000 := by
          show ¬ nI t = -1000000
          rw [i_eq, ti (by omega)]
          have : (-1000000 : Int32).toInt = -1000000 := by decide
          omega
        have ho : f_X9_ones (vv (some t)) = some (nI (pc t)) := b_ones t (by omega)
        rw [if_neg ne, b_ones s hs64, bdE, ho, bdE]
        have hc : cc (some t) = pc t := rfl
        rw [hc]
        by_cases z : pc t ≤ pc s
        · rw [if_pos (by rw [nI_leI (by omega) (by omega)]; exact z), show decide (pc s < pc t) = false by simp; omega]
        · rw [if_neg (by rw [nI_leI (by omega) (by omega)]; exact z), show decide (pc s < pc t) = true by simp; omega]
    by_cases z : (decide (pc s < cc (fw (los D) (pk T D x) s)) && al D s (Tnb T)) = true
    · have zz := z
      rw [al_sub h6 hs, Bool.and_eq_true] at zz
      by_cases z3 : nI (pc (DF (arr T (kpD D s)))) < x
      · refine ⟨(stA Mj 148 g2, vv (fw (los D) (pk T D x) s), nI (s + 1)), ⟨?_, fr_trans fj (fr_stA (by unfold Jk; omega))⟩, fun rec => ?_⟩
        · rw [hfw, if_neg (by unfold pk; simp [z3])]
        · show f_X9_fewest_5 x rec Mj _ (nI s) = _
          rw [hstep, l44, if_pos z, if_pos z3]
      · refine ⟨(stA Mj 148 g2, nI s, nI (s + 1)), ⟨?_, fr_trans fj (fr_stA (by unfold Jk; omega))⟩, fun rec => ?_⟩
        · rw [hfw, if_pos (by rw [zz.1, zz.2]; unfold pk; simp [z3])]
          rfl
        · show f_X9_fewest_5 x rec Mj _ (nI s) = _
          rw [hstep, l44, if_pos z, if_neg z3]
    · refine ⟨(Mj, vv (fw (los D) (pk T D x) s), nI (s + 1)), ⟨?_, fj⟩, fun rec => ?_⟩
      · rw [hfw, if_neg (fun w => z (by
          rw [al_sub h6 hs]
          rw [Bool.and_eq_true, Bool.and_eq_true] at w
          rw [w.1.1, w.1.2]; rfl))]
      · show f_X9_fewest_5 x rec Mj _ (nI s) = _
        rw [hstep, l44, if_neg z]
  · obtain ⟨Mj, aj⟩ := a
    obtain ⟨ea, fj⟩ := hI
    have ea : aj = (vv (fw (los D) (pk T D x) (2 ^ Tnb T)), nI (2 ^ Tnb T)) := ea
    subst ea
    have fj : fr M Mj := fj
    have hEj : EM (Mj 146) T D := by rw [fr_at fj (by omega)]; exact hE
    refine ⟨(vv (fw (los D) (pk T D x) (2 ^ Tnb T)), Mj), ⟨rfl, fj⟩, fun rec => ?_⟩
    show f_X9_fewest_5 x rec Mj _ (nI (2 ^ Tnb T)) = _
    unfold f_X9_fewest_5
    rw [em_nb hEj, b_sh (Tnb T) (by omega), if_pos (by rw [nI_leI (by omega) (by omega)]; omega)]
end KP
