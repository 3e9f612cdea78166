/-! FLIGHT: the whole text, in class and reference -/
def D0 : DD := (fun _ => 0, 0, 0, 0, 0, fun j => j)
def TL (f : Nat) : TT := (nI f, 0, 0, fun _ => 0, fun _ => 0, fun _ => 0, fun _ => 0, fun _ => 0)
def aLw (L : Nat) (y : Nat → Int32) : Nat × PS := ((aN L y 9 (aP L y 102 (.inl 0))).1, aP L y 59 (aN L y 9 (aP L y 102 (.inl 0))).2)
def aBs (L : Nat) (y : Nat → Int32) (v : PS × TT) : PS × TT × DD := match v.1 with
  | .inr e => (.inr e, TL 0, D0)
  | .inl p => abL L y 6 p v.2 D0
def aAll (L : Nat) (y : Nat → Int32) : PS × TT × DD := match (aLw L y).2 with
  | .inr e => (.inr e, TL 0, D0)
  | .inl p => aBs L y (avL L y 5 p (TL (aLw L y).1))
theorem TL_WT {f : Nat} (h : f ≤ 9) : WT (TL f) := by
  refine ⟨Nat.zero_le 5, Nat.zero_le 6, ?_, fun v hv => absurd hv (Nat.not_lt_zero v), fun b hb => absurd hb (Nat.not_lt_zero b)⟩
  show 0 ≤ (nI f).toInt ∧ (nI f).toInt ≤ 9
  rw [ti (by omega)]
  omega
theorem FI_0 {T : TT} (hT : WT T) (h0 : Tnb T = 0) : FI T D0 := by
  refine ⟨hT, ⟨Nat.pow_pos (by decide), Nat.pow_pos (by decide), Nat.zero_le _, Nat.le_refl 0, fun j hj => hj, fun i j _ _ e => e, fun b hb => ?_⟩, rfl, rfl⟩
  rw [h0] at hb
  exact absurd hb (Nat.not_lt_zero b)
theorem D0_ln (j : Nat) : Dln D0 j = j := rfl
theorem aBs_i {L : Nat} {y : Nat → Int32} {v : PS × TT} {p : Nat} (h : v.1 = .inl p) : aBs L y v = abL L y 6 p v.2 D0 := by
  unfold aBs
  rw [h]
theorem aAll_i {L : Nat} {y : Nat → Int32} {p : Nat} (h : (aLw L y).2 = .inl p) : aAll L y = aBs L y (avL L y 5 p (TL (aLw L y).1)) := by
  unfold aAll
  rw [h]
theorem aBs_e {L : Nat} {y : Nat → Int32} {v : PS × TT} {e : Nat × Nat} (h : v.1 = .inr e) : aBs L y v = (.inr e, TL 0, D0) := by
  unfold aBs
  rw [h]
theorem aAll_e {L : Nat} {y : Nat → Int32} {e : Nat × Nat} (h : (aLw L y).2 = .inr e) : aAll L y = (.inr e, TL 0, D0) := by
  unfold aAll
  rw [h]
theorem aAll_FI (L : Nat) (y : Nat → Int32) : wl (aAll L y).1 = true → FI (aAll L y).2.1 (aAll L y).2.2 ∧ 0 < Tnv (aAll L y).2.1 := by
  cases h1 : (aLw L y).2 with
  | inr e => rw [aAll_e h1]; intro z; cases z
  | inl p =>
    have hn : (aLw L y).1 ≤ 9 := aN_le _ _
    have hv := avL_WT (L := L) (y := y) 5 p (TL (aLw L y).1) (TL_WT hn) rfl rfl
    rw [aAll_i h1]
    cases h2 : (avL L y 5 p (TL (aLw L y).1)).1 with
    | inr e => rw [aBs_e h2]; intro z; cases z
    | inl p' =>
      rw [aBs_i h2]
      intro _
      have hb := abL_FI (L := L) (y := y) 6 p' (avL L y 5 p (TL (aLw L y).1)).2 D0 (FI_0 hv.1 hv.2.1) (by rw [hv.2.1])
      refine ⟨hb.1, ?_⟩
      rw [hb.2]
      exact hv.2.2 (by rw [h2]; rfl)
section FL
variable {L : Nat} {y : Nat → Int32} {v0 : Int32} {M : Mem}
theorem cInto (hL : L ≤ 120) (h1 : M 2 1 = nI L) (hy : ∀ j, j < L → M 3 j = y j) (h2 : M 2 2 = v0) : ∃ M', f_X6_readInto M 14 = some (wl (aAll L y).1, M') ∧ CS L y v0 M' (aAll L y).1 ∧ (∀ c, c ≠ 2 → c < 15 ∨ 23 < c → M' c = M c) ∧ (wl (aAll L y).1 = true → EC M' 14 (aAll L y).2.1 (aAll L y).2.2) := by
  obtain ⟨N0, e0⟩ : ∃ z, z = st (st M 2 4 (0 : Int32)) 2 5 (0 : Int32) := ⟨_, rfl⟩
  obtain ⟨N, eN⟩ : ∃ z, z = f_X2_clear N0 14 := ⟨_, rfl⟩
  have fN : ∀ c, c ≠ 15 → c ≠ 21 → N c = N0 c := fun c h1 h2 => by
    rw [eN]
    show st (st (st (st (st (st N0 15 1 0) 15 2 0) 21 0 0) 21 1 0) 21 2 0) 21 3 0 c = N0 c
    rw [st_ne h2, st_ne h2, st_ne h2, st_ne h2, st_ne h1, st_ne h1]
  have n15 : N 15 1 = 0 ∧ N 15 2 = 0 := by
    rw [eN]
    show st (st (st (st (st (st N0 15 1 0) 15 2 0) 21 0 0) 21 1 0) 21 2 0) 21 3 0 15 1 = 0 ∧ st (st (st (st (st (st N0 15 1 0) 15 2 0) 21 0 0) 21 1 0) 21 2 0) 21 3 0 15 2 = 0
    rw [st_ne (by decide), st_ne (by decide), st_ne (by decide), st_ne (by decide), st_slot (by decide), st_same, st_same]
    exact ⟨rfl, rfl⟩
  have n21 : N 21 0 = 0 ∧ N 21 1 = 0 ∧ N 21 2 = 0 ∧ N 21 3 = 0 := by
    rw [eN]
    show st (st (st (st (st (st N0 15 1 0) 15 2 0) 21 0 0) 21 1 0) 21 2 0) 21 3 0 21 0 = 0 ∧ st (st (st (st (st (st N0 15 1 0) 15 2 0) 21 0 0) 21 1 0) 21 2 0) 21 3 0 21 1 = 0 ∧ st (st (st (st (st (st N0 15 1 0) 15 2 0) 21 0 0) 21 1 0) 21 2 0) 21 3 0 21 2 = 0 ∧ st (st (st (st (st (st N0 15 1 0) 15 2 0) 21 0 0) 21 1 0) 21 2 0) 21 3 0 21 3 = 0
    refine ⟨?_, ?_, ?_, ?_⟩
    · rw [st_slot (by decide), st_slot (by decide), st_slot (by decide), st_same]
    · rw [st_slot (by decide), st_slot (by decide), st_same]
    · rw [st_slot (by decide), st_same]
    · rw [st_same]
  have hC : CS L y v0 N (.inl 0) := by
    refine ⟨?_, fun j hj => ?_, Nat.zero_le L, ?_, ?_, ?_⟩
    · rw [fN 2 (by decide) (by decide), e0, st_slot (by decide), st_slot (by decide)]; exact h1
    · rw [fN 3 (by decide) (by decide), e0, st_ne (by decide), st_ne (by decide)]; exact hy j hj
    · rw [fN 2 (by decide) (by decide), e0, st_same]
    · rw [fN 2 (by decide) (by decide), e0, st_slot (by decide), st_same]; rfl
    · rw [fN 2 (by decide) (by decide), e0, st_slot (by decide), st_slot (by decide)]; exact h2
  have fM : ∀ c, c ≠ 2 → c < 15 ∨ 23 < c → N c = M c := fun c h1 h2 => by rw [fN c (by omega) (by omega), e0, st_ne h1, st_ne h1]
  obtain ⟨M1, p1, p2, p3⟩ := cPas hL hC (c := 102) (by decide)
  obtain ⟨M2, q1, q2, q3⟩ := cNum hL p2 (m := 9) (by decide)
  have q1' : f_X6_number M1 (9 : Int32) = _ := q1
  obtain ⟨n, en⟩ : ∃ n, n = (aLw L y).1 := ⟨_, rfl⟩
  have en' : n = (aN L y 9 (aP L y 102 (.inl 0))).1 := en
  rw [← en'] at q1'
  obtain ⟨M3, e3⟩ : ∃ z, z = st M2 (14 + 1) 0 (nI n) := ⟨_, rfl⟩
  have f3 : ∀ c, c ≠ 15 → M3 c = M2 c := fun c hc => by rw [e3]; exact st_ne hc
  obtain ⟨M4, r1, r2, r3⟩ := cPas hL (CS_cg q2 (f3 2 (by decide)) (f3 3 (by decide))) (c := 59) (by decide)
  have r1 : f_X6_passes M3 59 = some (wl (aLw L y).2, M4) := r1
  have r2 : CS L y v0 M4 (aLw L y).2 := r2
  have f4 : ∀ c, c ≠ 2 → c < 15 ∨ 23 < c → M4 c = M c := fun c h1 h2 => (r3 c h1).trans ((f3 c (by omega)).trans ((q3 c h1).trans ((p3 c h1).trans (fM c h1 h2))))
  have hE4 : EC M4 14 (TL n) D0 := by
    have k21 : M4 21 = N 21 := (r3 21 (by decide)).trans ((f3 21 (by decide)).trans ((q3 21 (by decide)).trans (p3 21 (by decide))))
    have k15 : ∀ s, s ≠ 0 → M4 15 s = N 15 s := fun s hs => by rw [r3 15 (by decide), e3, st_slot hs, q3 15 (by decide), p3 15 (by decide)]
    refine ⟨⟨?_, ?_, ?_, fun v hv => absurd hv (Nat.not_lt_zero v), fun b hb => absurd hb (Nat.not_lt_zero b)⟩, ?_, ?_, ?_, ?_, fun b hb => absurd hb (Nat.not_lt_zero b), fun j hj => absurd hj (Nat.not_lt_zero j)⟩
    · show M4 15 0 = nI n
      rw [r3 15 (by decide), e3, st_same]
    · show M4 15 1 = nI 0
      rw [k15 1 (by decide), n15.1]; rfl
    · show M4 15 2 = nI 0
      rw [k15 2 (by decide), n15.2]; rfl
    · show M4 21 0 = nI 0
      rw [k21, n21.1]; rfl
    · show M4 21 1 = nI 0
      rw [k21, n21.2.1]; rfl
    · show M4 21 2 = nI 0
      rw [k21, n21.2.2.1]; rfl
    · show M4 21 3 = nI 0
      rw [k21, n21.2.2.2]; rfl
  have hlaw : f_X6_readLaw N 14 = some (wl (aLw L y).2, M4) := by
    unfold f_X6_readLaw
    rw [p1, bdE, q1', bdE]
    dsimp only
    rw [← e3, nmE, r1, bdE]
  unfold f_X6_readInto
  rw [nmE, ← e0, nmE, ← eN, nmE, hlaw, bdE]
  unfold aAll
  cases hs : (aLw L y).2 with
  | inr e =>
    rw [hs] at r2
    rw [if_neg (show ¬ wl (.inr e : PS) = true from fun z => by cases z)]
    exact ⟨M4, rfl, r2, f4, fun z => by cases z⟩
  | inl p =>
    rw [hs] at r2
    rw [if_pos (show wl (.inl p : PS) = true from rfl), ← en]
    obtain ⟨M5, v1, v2, v3, v4⟩ := cVL hL D0_ln 5 p (TL n) M4 fuel rfl r2 hE4 (by rw [fuel_eq]; decide)
    have hvs : f_X6_readValleys M4 14 = some (wl (avL L y 5 p (TL n)).1, M5) := by
      unfold f_X6_readValleys
      exact v1
    dsimp only
    rw [hvs, bdE]
    have hn : n ≤ 9 := by rw [en]; exact aN_le _ _
    have hvW := avL_WT (L := L) (y := y) 5 p (TL n) (TL_WT hn) rfl rfl
    have f5 : ∀ c, c ≠ 2 → c < 15 ∨ 23 < c → M5 c = M c := fun c h1 h2 => (v3 c h1 h2).trans (f4 c h1 h2)
    unfold aBs
    cases ht : (avL L y 5 p (TL n)).1 with
    | inr e =>
      rw [ht] at v2
      rw [if_neg (show ¬ wl (.inr e : PS) = true from fun z => by cases z)]
      exact ⟨M5, rfl, v2, f5, fun z => by cases z⟩
    | inl p' =>
      rw [ht] at v2 v4
      have hE5 := v4 rfl
      rw [if_pos (show wl (.inl p' : PS) = true from rfl)]
      obtain ⟨M6, w1, w2, w3, w4⟩ := cBL hL 6 p' (avL L y 5 p (TL n)).2 D0 M5 fuel (FI_0 hvW.1 hvW.2.1) (by rw [hvW.2.1]) v2 hE5 (by rw [fuel_eq]; decide)
      rw [hvW.2.1] at w1
      have hbs : f_X6_readBirds M5 14 = some (wl (abL L y 6 p' (avL L y 5 p (TL n)).2 D0).1, M6) := by
        unfold f_X6_readBirds
        exact w1
      dsimp only
      rw [hbs, bdE]
      have f6 : ∀ c, c ≠ 2 → c < 15 ∨ 23 < c → M6 c = M c := fun c h1 h2 => (w3 c h1 h2).trans (f5 c h1 h2)
      refine ⟨M6, ?_, w2, f6, w4⟩
      cases wl (abL L y 6 p' (avL L y 5 p (TL n)).2 D0).1 with
      | true => rfl
      | false => rfl
def k126 (M : Mem) : Option (Int32 × Mem) := iter (fun rec a => f_X9_flight_126 rec a) fuel M
theorem f90 (M : Mem) (b : Bool) : f_X9_flight_90 M b = (f_X9_takes M b (1 : Int32)).bind fun q => if f_X9_isWell q.2 = true then (if q.2 140 11 = (1 : Int32) then (if q.2 140 12 = (118 : Int32) then k126 q.2 else (f_X9_takes q.2 false (1 : Int32)).bind fun u => k126 u.2) else (f_X9_takes q.2 false (1 : Int32)).bind fun u => k126 u.2) else k126 q.2 := by
  unfold f_X9_flight_90 k126
  exact rfl
theorem k157F (hL : L ≤ 120) {e : Nat × Nat} (hR : RS L y v0 M (.inr e)) : k157 M = f_X9_flight_210 M := by
  unfold k157
  obtain ⟨fu, ef⟩ : ∃ fu, fuel = fu + 1 := ⟨1999, rfl⟩
  rw [ef, iter_s]
  exact r157F hL hR _
theorem k126F (hL : L ≤ 120) {e : Nat × Nat} (hR : RS L y v0 M (.inr e)) : k126 M = f_X9_flight_210 M := by
  unfold k126
  obtain ⟨fu, ef⟩ : ∃ fu, fuel = fu + 1 := ⟨1999, rfl⟩
  rw [ef, iter_s]
  exact (r126F hL hR _).trans (k157F hL hR)
theorem rEnd (hL : L ≤ 120) (hy0 : ∀ j, j < L → 0 ≤ (y j).toInt) {s : PS} (hR : RS L y v0 M s) {n : Nat} (hn : n ≤ 9) (hX : EX (M 147) (TL n) D0) {b : Bool} (hb : b = decide (M 140 11 = 4)) (es : aP L y 59 s = (aLw L y).2) (en : n = (aLw L y).1) : ∃ M', f_X9_flight_90 M b = f_X9_flight_210 M' ∧ RS L y v0 M' (aAll L y).1 ∧ rg M M' ∧ (wl (aAll L y).1 = true → EX (M' 147) (aAll L y).2.1 (aAll L y).2.2) := by
  obtain ⟨v, M4, t1, t2, t3⟩ := rStop hL hR
  rw [← hb] at t1
  rw [es] at t2
  rw [f90, t1, bdE]
  unfold aAll
  cases hs : (aLw L y).2 with
  | inr e =>
    rw [hs] at t2
    rw [if_neg (rWellF hL t2)]
    exact ⟨M4, k126F hL t2, t2, rg_rf t3, fun z => by cases z⟩
  | inl p =>
    rw [hs] at t2
    dsimp only
    rw [← en]
    have h147 : M4 147 = M 147 := t3.1 147 (by decide)
    have hX4 : EX (M4 147) (TL n) D0 := by rw [h147]; exact hX
    have hvW := avL_WT (L := L) (y := y) 5 p (TL n) (TL_WT hn) rfl rfl
    have h11 : M4 140 11 = nI (tok L y p) := t2.2.2.2.2.2.2.1
    have ht6 := tok_lt6 (L := L) (y := y) p
    have e1 : (nI (tok L y p) = (1 : Int32)) ↔ tok L y p = 1 := nI_eq (b := 1) (by omega) (by decide)
    rw [if_pos (rWellT t2)]
    by_cases q : ch L y p = 118
    · have ht := tok_118 q
      have h12 : M4 140 12 = tv L y p := (t2.2.2.2.2.2.2.2 (by omega)).1
      have k12 : M4 140 12 = 118 := by rw [h12, tv_c q (by decide)]
      rw [if_pos (show M4 140 11 = 1 by rw [h11]; exact e1.mpr ht), if_pos k12]
      obtain ⟨M5, v1, v2, v3, v4⟩ := rVL hL D0_ln 5 p (TL n) M4 fuel rfl (Nat.zero_le 6) t2 q hX4 (by rw [fuel_eq]; decide)
      have v1 : k126 M4 = k157 M5 := v1
      rw [v1]
      unfold aBs
      cases hv : (avL L y 5 p (TL n)).1 with
      | inr e =>
        rw [hv] at v2
        exact ⟨M5, k157F hL v2, v2, rg_trans (rg_rf t3) v3, fun z => by cases z⟩
      | inl p' =>
        rw [hv] at v2 v4
        obtain ⟨M6, w1, w2, w3, w4⟩ := rBL hL hy0 6 p' (avL L y 5 p (TL n)).2 D0 M5 fuel (FI_0 hvW.1 hvW.2.1) (by rw [hvW.2.1]) v2 (v4 rfl) (by rw [fuel_eq]; decide)
        have w1 : k157 M5 = f_X9_flight_210 M6 := w1
        exact ⟨M6, w1, w2, rg_trans (rg_rf t3) (rg_trans v3 w3), w4⟩
    · obtain ⟨M5, u1, u2, u3⟩ := rTkF t2 1
      have u1' : f_X9_takes M4 false (1 : Int32) = some (0, M5) := u1
      have ea : aP L y 118 (.inl p) = .inr (1, p) := if_neg q
      have eav : avL L y 5 p (TL n) = (.inr (1, p), TL n) := by
        rw [avL_s 4 p (TL n) rfl, ea]
        rfl
      rw [eav, u1', bdE]
      refine ⟨M5, ?_, u2, rg_trans (rg_rf t3) (rg_rf u3), fun z => by cases z⟩
      by_cases q1 : tok L y p = 1
      · have h12 : M4 140 12 = tv L y p := (t2.2.2.2.2.2.2.2 (by omega)).1
        have k12 : ¬ M4 140 12 = 118 := by rw [h12, (tok_1 q1).2.1]; exact q
        rw [if_pos (show M4 140 11 = 1 by rw [h11]; exact e1.mpr q1), if_neg k12]
        exact k126F hL u2
      · rw [if_neg (show ¬ M4 140 11 = 1 by rw [h11]; exact fun z => q1 (e1.mp z))]
        exact k126F hL u2
theorem rAll (hL : L ≤ 120) (hy0 : ∀ j, j < L → 0 ≤ (y j).toInt) (h1 : M 140 6 = nI L) (hy : ∀ j, j < L → M 145 j = y j) (h7 : M 140 7 = v0) : ∃ M', f_X9_flight M = f_X9_flight_210 M' ∧ RS L y v0 M' (aAll L y).1 ∧ rg M M' ∧ (wl (aAll L y).1 = true → EX (M' 147) (aAll L y).2.1 (aAll L y).2.2) := by
  obtain ⟨Z, eZ⟩ : ∃ Z, Z = stA M 147 (ff (fun _ => 0) (M 147) 57) := ⟨_, rfl⟩
  have fZ : ∀ a, a ≠ 147 → Z a = M a := fun a ha => by rw [eZ]; exact stA_ne ha
  have zZ : ∀ t, t < 57 → Z 147 t = 0 := fun t ht => by rw [eZ, stA_i, ff_in ht]
  obtain ⟨Z1, eZ1⟩ : ∃ Z1, Z1 = st (st Z 140 9 (0 : Int32)) 140 8 (-1 : Int32) := ⟨_, rfl⟩
  have gZ1 : rg M Z1 := ⟨fun a h1 h2 => by rw [eZ1, st_ne h1, st_ne h1, fZ a h2], fun s hs => by rw [eZ1, st_slot (by omega), st_slot (by omega), fZ 140 (by decide)]⟩
  have z147 : Z1 147 = Z 147 := by rw [eZ1, st_ne (by decide), st_ne (by decide)]
  obtain ⟨Z2, a1, a2, a3⟩ := rAdv (M := Z1) (p := 0) (v0 := v0) (y := y) hL (by rw [gZ1.2 6 (by omega)]; exact h1) (fun j hj => by rw [gZ1.1 145 (by decide) (by decide)]; exact hy j hj) (by rw [eZ1, st_slot (by decide), st_same]; rfl) (Nat.zero_le L) (by rw [eZ1, st_same]) (by rw [eZ1, st_slot (by decide), st_slot (by decide), fZ 140 (by decide)]; exact h7)
  have b147 : Z2 147 = Z 147 := (a3.1 147 (by decide)).trans z147
  -- behind the first letter
  have h58 : ∀ b, (∃ v M1, f_X9_takes Z2 b (1 : Int32) = some (v, M1) ∧ RS L y v0 M1 (aP L y 102 (.inl 0)) ∧ rf Z2 M1) → ∃ M', f_X9_flight_58 Z2 b = f_X9_flight_210 M' ∧ RS L y v0 M' (aAll L y).1 ∧ rg M M' ∧ (wl (aAll L y).1 = true → EX (M' 147) (aAll L y).2.1 (aAll L y).2.2) := by
    intro b hb
    obtain ⟨v, M1, r1, r2, r3⟩ := hb
    obtain ⟨M2, q1, q2, q3⟩ := rFig hL r2 (m := 9) (by decide)
    have q1' : f_X9_figure M1 0 (9 : Int32) = _ := q1
    obtain ⟨n, en⟩ : ∃ n, n = (aLw L y).1 := ⟨_, rfl⟩
    have en' : n = (aN L y 9 (aP L y 102 (.inl 0))).1 := en
    have hn : n ≤ 9 := by rw [en]; exact aN_le _ _
    rw [← en'] at q1'
    have c147 : M2 147 = Z 147 := (q3.1 147 (by decide)).trans ((r3.1 147 (by decide)).trans b147)
    obtain ⟨M3, e3⟩ : ∃ z, z = st M2 147 0 (nI n) := ⟨_, rfl⟩
    have hX3 : EX (M3 147) (TL n) D0 := by
      have g : ∀ t, t ≠ 0 → t < 57 → M3 147 t = 0 := fun t h1 h2 => by rw [e3, st_slot h1, c147]; exact zZ t h2
      refine ⟨by rw [e3, st_same]; rfl, ?_, ?_, ?_, ?_, fun j hj => absurd hj (Nat.not_lt_zero j), fun j hj => absurd hj (Nat.not_lt_zero j), fun b hb _ => g _ (by omega) (by omega), fun j hj => absurd hj (Nat.not_lt_zero j)⟩
      · rw [g 2 (by decide) (by decide)]; rfl
      · rw [g 3 (by decide) (by decide)]; rfl
      · rw [g 4 (by decide) (by decide)]; rfl
      · rw [g 5 (by decide) (by decide)]; rfl
    have hR3 : RS L y v0 M3 (aN L y 9 (aP L y 102 (.inl 0))).2 := RS_cg q2 (by rw [e3, st_ne (by decide)]) (by rw [e3, st_ne (by decide)])
    have g3 : rg M M3 := rg_trans gZ1 (rg_trans (rg_rf a3) (rg_trans (rg_rf r3) (rg_trans (rg_rf q3) (by rw [e3]; exact rg_st))))
    have fin := fun (b : Bool) (hb : b = decide (M3 140 11 = 4)) => rEnd hL hy0 hR3 hn hX3 hb rfl en
    unfold f_X9_flight_58
    rw [r1, bdE]
    dsimp only
    rw [q1', bdE]
    dsimp only
    rw [← e3, nmE]
    by_cases w : M3 140 11 = 4
    · obtain ⟨M', k1, k2, k3, k4⟩ := fin true (by rw [decide_eq_true w])
      rw [if_pos w]
      exact ⟨M', k1, k2, rg_trans g3 k3, k4⟩
    · obtain ⟨M', k1, k2, k3, k4⟩ := fin false (by rw [decide_eq_false w])
      rw [if_neg w]
      exact ⟨M', k1, k2, rg_trans g3 k3, k4⟩
  have hend : ∃ M', (if (Z2 140 11) = (1 : Int32) then (if (Z2 140 12) = (102 : Int32) then f_X9_flight_58 Z2 true else f_X9_flight_58 Z2 false) else f_X9_flight_58 Z2 false) = f_X9_flight_210 M' ∧ RS L y v0 M' (aAll L y).1 ∧ rg M M' ∧ (wl (aAll L y).1 = true → EX (M' 147) (aAll L y).2.1 (aAll L y).2.2) := by
    have h11 : Z2 140 11 = nI (tok L y 0) := a2.2.2.2.2.2.2.1
    have ht6 := tok_lt6 (L := L) (y := y) 0
    have e1 : (nI (tok L y 0) = (1 : Int32)) ↔ tok L y 0 = 1 := nI_eq (b := 1) (by omega) (by decide)
    rw [h11]
    by_cases q : ch L y 0 = 102
    · have ht : tok L y 0 = 1 := by rw [tok_c q, if_neg (by decide), if_pos (by decide), if_pos (by decide)]
      have h12 : Z2 140 12 = tv L y 0 := (a2.2.2.2.2.2.2.2 (by omega)).1
      rw [if_pos (e1.mpr ht), h12, tv_c q (by decide), if_pos rfl]
      obtain ⟨M1, t1, t2, t3⟩ := rTkT hL a2 (by omega) 1
      rw [nxt_c q (by decide) (by decide)] at t2
      exact h58 true ⟨_, M1, t1, by rw [show aP L y 102 (.inl 0) = .inl (0 + 1) from if_pos q]; exact t2, t3⟩
    · obtain ⟨M1, t1, t2, t3⟩ := rTkF a2 1
      have t1' : f_X9_takes Z2 false (1 : Int32) = some (0, M1) := t1
      have r := h58 false ⟨_, M1, t1', by rw [show aP L y 102 (.inl 0) = .inr (1, 0) from if_neg q]; exact t2, t3⟩
      by_cases q1 : tok L y 0 = 1
      · have h12 : Z2 140 12 = tv L y 0 := (a2.2.2.2.2.2.2.2 (by omega)).1
        rw [if_pos (e1.mpr q1), h12, (tok_1 q1).2.1, if_neg q]
        exact r
      · rw [if_neg (fun z => q1 (e1.mp z))]
        exact r
  obtain ⟨M', k1, k2, k3, k4⟩ := hend
  refine ⟨M', ?_, k2, k3, k4⟩
  have key := iter_to (F := fun rec a => f_X9_flight_2 rec a.1 a.2) (fun b => (stA M 147 (ff (fun _ => 0) (M 147) b), nI b)) 57 (f_X9_flight_210 M') (fun b hb rec => by
    show f_X9_flight_2 rec (stA M 147 (ff (fun _ => 0) (M 147) b)) (nI b) = _
    have c57 : ¬ (57 : Int32) ≤ nI b := nI_ge (b := 57) hb (by decide)
    unfold f_X9_flight_2
    rw [if_neg c57, chk_ix (by omega) (by decide), cl_nI (by omega), nmE, nmE, nI_sc, stA_put (ff_up rfl)]) (fun rec => by
    show f_X9_flight_2 rec (stA M 147 (ff (fun _ => 0) (M 147) 57)) (nI 57) = _
    unfold f_X9_flight_2
    rw [if_pos (show (57 : Int32) ≤ nI 57 by decide), ← eZ, nmE, ← eZ1, nmE, a1, bdE]
    exact k1) fuel 0 (Nat.zero_le _) (by rw [fuel_eq]; omega)
  rw [ff_0, stA_self] at key
  unfold f_X9_flight
  exact key
end FL
section FL2
variable {B : Nat} {M : Mem}
theorem rel_tp {M' : Mem} (hR : Rst B M) (g : ∀ a, a = 0 ∨ (102 ≤ a ∧ a ≤ 139) ∨ (141 ≤ a ∧ a ≤ 143) ∨ a = 150 ∨ a = 151 ∨ a = 154 → M' a = M a) (e4 : M' 140 4 = M 140 4) (e23 : M' 140 23 = M 140 23) (h2 : M' 2 2 = M' 140 7) (h1 : M' 2 1 = 0) (h6 : M' 140 6 = 0) : Rst B M' := by
  obtain ⟨k1, k2, k3, k4, k5, k6⟩ := hR
  refine ⟨?_, h2, fun j hj => ?_, ⟨0, by omega, h1, h6, fun j hj => absurd hj (Nat.not_lt_zero j)⟩, ?_, fun k hk => ?_⟩
  · rw [g 0 (by omega), e4]; exact k1
  · rw [g (104 + 2 * j) (by omega), g 141 (by omega), g 142 (by omega), g (104 + 2 * j + 1) (by omega), g 143 (by omega)]; exact k3 j hj
  · obtain ⟨t, t1, t2, t3, t4⟩ := k5
    refine ⟨t, t1, ?_, ?_, fun j hj => ?_⟩
    · rw [g 102 (by omega)]; exact t2
    · rw [e23]; exact t3
    · rw [g 103 (by omega), g 154 (by omega)]; exact t4 j hj
  · rcases k6 k hk with ⟨a1, a2⟩ | ⟨a1, T, D, a2, a3, a4, a5, a6⟩
    · left
      rw [g 151 (by omega), g (120 + 10 * k + 1) (by omega)]; exact ⟨a1, a2⟩
    · right
      refine ⟨by rw [g 151 (by omega)]; exact a1, T, D, a2, a3, a4, ec_cg a5 (fun a b1 b2 => g a (by omega)), ?_⟩
      rw [g 150 (by omega)]; exact a6
theorem ok_flight (hR : Rel B M) : Ok2 B M f_X8_flight f_X9_flight := by
  obtain ⟨L, hL, h1, h6, hbt⟩ := hR.1.2.2.2.1
  have hft : M 2 2 = M 140 7 := hR.1.2.1
  obtain ⟨M1, c1, c2, c3, c4⟩ := cInto (M := M) (y := M 3) (v0 := M 2 2) hL h1 (fun j _ => rfl) rfl
  have hy0 : ∀ j, j < L → 0 ≤ (M 3 j).toInt := fun j hj => (hbt j hj).2.1
  cases hs : (aAll L (M 3)).1 with
  | inr e =>
    rw [hs] at c1 c2
    have g3 : M1 2 3 = nI e.2 := c2.2.2.2.2.2
    have g2 : M1 2 2 = nI e.1 := c2.2.2.2.2.1
    obtain ⟨N, eN⟩ : ∃ N, N = st M1 2 1 (0 : Int32) := ⟨_, rfl⟩
    have fN : ∀ c, c ≠ 2 → c < 15 ∨ 23 < c → N c = M c := fun c h1 h2 => by rw [eN, st_ne h1]; exact c3 c h1 h2
    obtain ⟨M2, r1, r2, r3, r4⟩ := rAll (M := N) (y := M 3) (v0 := M 2 2) hL hy0 (by rw [fN 140 (by decide) (by decide)]; exact h6) (fun j hj => by rw [fN 145 (by decide) (by decide)]; exact (hbt j hj).1.symm) (by rw [fN 140 (by decide) (by decide)]; exact hft.symm)
    rw [hs] at r2
    obtain ⟨N2, eN2⟩ : ∃ N2, N2 = st M2 140 6 (0 : Int32) := ⟨_, rfl⟩
    have w2 : ¬ f_X9_isWell N2 = true := by
      have h8 : N2 140 8 = nI e.2 := by rw [eN2, st_slot (by decide)]; exact r2.2.2.2.1
      have hle : e.2 ≤ L := r2.2.2.1
      unfold f_X9_isWell
      rw [h8, if_pos (nI_pos' (by omega))]
      decide
    have g8 : N2 140 8 = nI e.2 := by rw [eN2, st_slot (by decide)]; exact r2.2.2.2.1
    have g7 : N2 140 7 = nI e.1 := by rw [eN2, st_slot (by decide)]; exact r2.2.2.2.2
    have fA : ∀ c, c ≠ 2 → c ≠ 140 → c ≠ 147 → c < 15 ∨ 23 < c → N2 c = M c := fun c h1 h2 h3 h4 => by rw [eN2, st_ne h2, r3.1 c h2 h3]; exact fN c h1 h4
    have f140 : ∀ s, s < 6 ∨ 12 < s → N2 140 s = M 140 s := fun s hs => by rw [eN2, st_slot (by omega), r3.2 s (by omega), fN 140 (by decide) (by decide)]
    have n2 : N2 2 = N 2 := by rw [eN2, st_ne (by decide), r3.1 2 (by decide) (by decide)]
    refine ⟨-1000100 - nI e.2, N, N2, ?_, ?_, rel_mono (B := B) ⟨rel_tp hR.1 (fun a ha => fA a (by omega) (by omega) (by omega) (by omega)) (f140 4 (by omega)) (f140 23 (by omega)) ?_ ?_ ?_, rfl_cg hR.2 (fun a ha => fA a (by omega) (by omega) (by omega) (by omega)) (f140 17 (by omega))⟩ (by omega)⟩
    · unfold f_X8_flight
      rw [c1, bdE]
      dsimp only
      rw [← eN, nmE, if_neg (show ¬ wl (.inr e : PS) = true from fun z => by cases z), show N 2 3 = nI e.2 by rw [eN, st_slot (by decide)]; exact g3]
    · rw [r1]
      unfold f_X9_flight_210
      rw [← eN2, nmE, if_neg w2, g8]
    · rw [n2, eN, st_slot (by decide), g2, g7]
    · rw [n2, eN, st_same]
    · rw [eN2, st_same]
  | inl p =>
    obtain ⟨hI, hnv⟩ := aAll_FI L (M 3) (by rw [hs]; rfl)
    have hE := c4 (by rw [hs]; rfl)
    rw [hs] at c1 c2
    obtain ⟨T, eT⟩ : ∃ T, T = (aAll L (M 3)).2.1 := ⟨_, rfl⟩
    obtain ⟨D, eD⟩ : ∃ D, D = (aAll L (M 3)).2.2 := ⟨_, rfl⟩
    rw [← eT, ← eD] at hI hE
    rw [← eT] at hnv
    have g2 : M1 2 2 = M 2 2 := c2.2.2.2.2.2
    obtain ⟨N0, eN0⟩ : ∃ N, N = st M1 2 1 (0 : Int32) := ⟨_, rfl⟩
    obtain ⟨N1, eN1⟩ : ∃ N, N = f_X2_become N0 4 14 := ⟨_, rfl⟩
    obtain ⟨N, eN⟩ : ∃ N, N = st N1 25 2 (0 : Int32) := ⟨_, rfl⟩
    have hE0 : EC N0 14 T D := by rw [eN0]; exact ec_cg hE (fun a h1 h2 => st_ne (by omega))
    have hE1 : EC N1 4 T D := by rw [eN1]; exact cBec hI.1 hE0 (by omega)
    have hEN : EC N 4 T D := by rw [eN]; exact ec_cg hE1 (fun a h1 h2 => st_ne (by omega))
    have fN : ∀ c, c ≠ 2 → c ≠ 25 → c ≤ 4 ∨ 23 < c → N c = M c := fun c h1 h2 h3 => by
      rw [eN, st_ne h2, eN1, cBecF _ _ _ _ (by omega), eN0, st_ne h1]
      exact c3 c h1 (by omega)
    have n2 : N 2 = N0 2 := by rw [eN, st_ne (by decide), eN1, cBecF _ _ _ _ (by omega)]
    have n25 : ∀ s, s ≠ 2 → N 25 s = M 25 s := fun s hs => by
      rw [eN, st_slot hs, eN1, cBecF _ _ _ _ (by omega), eN0, st_ne (by decide), c3 25 (by decide) (by omega)]
    obtain ⟨M2, r1, r2, r3, r4⟩ := rAll (M := N) (y := M 3) (v0 := M 2 2) hL hy0 (by rw [fN 140 (by decide) (by decide) (by omega)]; exact h6) (fun j hj => by rw [fN 145 (by decide) (by decide) (by omega)]; exact (hbt j hj).1.symm) (by rw [fN 140 (by decide) (by decide) (by omega)]; exact hft.symm)
    have hX := r4 (by rw [hs]; rfl)
    rw [← eT, ← eD] at hX
    rw [hs] at r2
    obtain ⟨P0, eP0⟩ : ∃ P, P = st M2 140 6 (0 : Int32) := ⟨_, rfl⟩
    obtain ⟨P1, eP1⟩ : ∃ P, P = st P0 147 1 (1 : Int32) := ⟨_, rfl⟩
    have w2 : f_X9_isWell P0 = true := by
      have h8 : P0 140 8 = -1 := by rw [eP0, st_slot (by decide)]; exact r2.2.2.2.1
      unfold f_X9_isWell
      rw [h8, if_neg (by decide)]
    have hM147 : EM (P1 147) T D := by
      refine EX_EM ?_ hnv (by rw [eP1, st_same])
      have o : ∀ t, t ≠ 1 → P1 147 t = M2 147 t := fun t ht => by rw [eP1, st_slot ht, eP0, st_ne (by decide)]
      obtain ⟨a0, a2, a3, a4, a5, a6, a7, a8, a9⟩ := hX
      refine ⟨?_, ?_, ?_, ?_, ?_, fun j hj => ?_, fun v hv => ?_, fun b hb hb2 => ?_, fun b hb => ?_⟩
      · rw [o _ (by decide)]; exact a0
      · rw [o _ (by decide)]; exact a2
      · rw [o _ (by decide)]; exact a3
      · rw [o _ (by decide)]; exact a4
      · rw [o _ (by decide)]; exact a5
      · rw [o _ (by omega)]; exact a6 j hj
      · rw [o _ (by omega), o _ (by omega)]; exact a7 v hv
      · rw [o _ (by omega)]; exact a8 b hb hb2
      · rw [o _ (by omega), o _ (by omega), o _ (by omega), o _ (by omega), o _ (by omega), o _ (by omega)]; exact a9 b hb
    have hc := mCop (M := P1) (i0 := 147) (i2 := 146) (a := 0) (c := 0) (by decide) (by decide) (by decide) (by decide) (by decide)
    have hc' : f_X9_copies P1 147 (0 : Int32) 146 (0 : Int32) = _ := hc
    obtain ⟨P2, eP2⟩ : ∃ P, P = stA P1 146 (va_cpy (P1 147) (P1 146) 0 0 57) := ⟨_, rfl⟩
    rw [← eP2] at hc'
    obtain ⟨P3, eP3⟩ : ∃ P, P = st P2 140 17 (0 : Int32) := ⟨_, rfl⟩
    have hM3 : EM (P3 146) T D := by
      rw [eP3, st_ne (by decide), eP2, stA_i]
      refine em_cg hM147 (fun t ht => ?_) hI.1
      rw [pk_cpy_in (by omega) (by omega), show 0 + (t - 0) = t by omega]
    have fP : ∀ c, c ≠ 140 → c ≠ 146 → c ≠ 147 → P3 c = N c := fun c h1 h2 h3 => by
      rw [eP3, st_ne h1, eP2, stA_ne h2, eP1, st_ne h3, eP0, st_ne h1, r3.1 c h1 h3]
    have p140 : ∀ s, s ≠ 17 → s ≠ 6 → P3 140 s = M2 140 s := fun s h1 h2 => by
      rw [eP3, st_slot h1, eP2, stA_ne (by decide), eP1, st_ne (by decide), eP0, st_slot h2]
    have f140 : ∀ s, s < 6 ∨ 12 < s → s ≠ 17 → P3 140 s = M 140 s := fun s hs h17 => by rw [p140 s h17 (by omega), r3.2 s (by omega), fN 140 (by decide) (by decide) (by omega)]
    have fA : ∀ c, c ≠ 2 → c ≠ 25 → c ≠ 140 → c ≠ 146 → c ≠ 147 → c ≤ 4 ∨ 23 < c → P3 c = M c := fun c h1 h2 h3 h4 h5 h6 => (fP c h3 h4 h5).trans (fN c h1 h2 h6)
    obtain ⟨T', D', n, Pp, hT', hD', hn, hP, hE', hEm', hC', hM'⟩ := hR.2
    obtain ⟨q, hq, q1, q2, q3⟩ := hC'
    refine ⟨nI (Tnb T), N, P3, ?_, ?_, ⟨rst_mono (rel_tp hR.1 (fun a ha => fA a (by omega) (by omega) (by omega) (by omega) (by omega) (by omega)) (f140 4 (by omega) (by decide)) (f140 23 (by omega) (by decide)) ?_ ?_ ?_) (by omega), T, D, 0, fun _ => D, hI.1, WD_mono hI.2.1 (by omega), by omega, fun q hq => absurd hq (Nat.not_lt_zero q), ec_cg hEN (fun a h1 h2 => fP a (by omega) (by omega) (by omega)), hM3, ⟨q, hq, ?_, ?_, fun q hq => absurd hq (Nat.not_lt_zero q)⟩, ⟨?_, fun q hq => absurd hq (Nat.not_lt_zero q)⟩⟩⟩
    · unfold f_X8_flight f_X0_forgetAll
      rw [c1, bdE]
      dsimp only
      rw [← eN0, nmE, if_pos (show wl (.inl p : PS) = true from rfl), ← eN1, nmE, nmE, nmE, ← eN, show N 5 2 = nI (Tnb T) from ec_nb hEN]
    · rw [r1]
      unfold f_X9_flight_210
      rw [← eP0, nmE, if_pos w2, ← eP1, nmE, hc', bdE, ← eP3, nmE, show P3 146 5 = nI (Tnb T) from em_nb hM3]
    · rw [fP 2 (by decide) (by decide) (by decide), n2, eN0, st_slot (by decide), g2, p140 7 (by decide) (by decide)]
      exact r2.2.2.2.2.1.symm
    · rw [fP 2 (by decide) (by decide) (by decide), n2, eN0, st_same]
    · rw [eP3, st_slot (by decide), eP2, stA_ne (by decide), eP1, st_ne (by decide), eP0, st_same]
    · rw [fP 25 (by decide) (by decide) (by decide), n25 1 (by decide)]; exact q1
    · rw [fP 25 (by decide) (by decide) (by decide), eN, st_same]; rfl
    · rw [eP3, st_same]; rfl
end FL2
