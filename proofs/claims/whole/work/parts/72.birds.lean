/-! FLIGHT: birds -/
theorem kd_eq (c : Int32) : f_X6_kindTold c = f_X9_kindOf c := by
  unfold f_X6_kindTold f_X9_kindOf
  by_cases a : c = 100
  · subst a; decide
  by_cases b : c = 104
  · subst b; decide
  by_cases d : c = 110
  · subst d; decide
  by_cases e : c = 111
  · subst e; decide
  by_cases f : c = 112
  · subst f; decide
  rw [if_neg a, if_neg b, if_neg d, if_neg e, if_neg f, if_neg b, if_neg a, if_neg e, if_neg d]
theorem kd_list {c : Int32} (h : ¬ f_X6_kindTold c = 0) : c = 100 ∨ c = 104 ∨ c = 110 ∨ c = 111 ∨ c = 112 := by
  unfold f_X6_kindTold at h
  by_cases a : c = 100
  · exact Or.inl a
  by_cases b : c = 104
  · exact Or.inr (Or.inl b)
  by_cases d : c = 110
  · exact Or.inr (Or.inr (Or.inl d))
  by_cases e : c = 111
  · exact Or.inr (Or.inr (Or.inr (Or.inl e)))
  by_cases f : c = 112
  · exact Or.inr (Or.inr (Or.inr (Or.inr f)))
  rw [if_neg a, if_neg b, if_neg d, if_neg e, if_neg f] at h
  exact absurd rfl h
theorem kd_ok {c : Int32} (h : ¬ f_X6_kindTold c = 0) : isf c = false ∧ 0 ≤ c ∧ 0 ≤ c.toInt ∧ f_X9_in c 97 122 = true ∧ (1 ≤ (f_X6_kindTold c).toInt ∧ (f_X6_kindTold c).toInt ≤ 5) ∧ ¬ f_X6_kindTold c ≤ 0 := by
  rcases kd_list h with e | e | e | e | e <;> subst e <;> decide
theorem kd_no {c : Int32} (h : f_X6_kindTold c = 0) : f_X6_kindTold c ≤ 0 := by rw [h]; decide
def un (f : Nat → Nat) (k v : Nat) : Nat → Nat := fun t => if t = k then v else f t
def addB (T : TT) (k lv : Int32) (lo : Nat) : TT := (Tfd T, Tnv T, Tnb T + 1, Tas T, Tls T, upd (Tkd T) (Tnb T) k, upd (Tlv T) (Tnb T) lv, un (Tlo T) (Tnb T) lo)
def addD (D : DD) (n : Nat) (s : Int32) : DD := (upd (Dst D) n s, DF D ||| 2 ^ n, DK D, Dtu D, Dth D, Dln D)
def aB2 (L : Nat) (y : Nat → Int32) (s : PS) : (Nat × Nat × Nat) × PS := (((aN L y 30 s).1, (aN L y 6 (aP L y 44 (aN L y 30 s).2)).1, (aN L y 5 (aP L y 44 (aN L y 6 (aP L y 44 (aN L y 30 s).2)).2)).1), aP L y 59 (aN L y 5 (aP L y 44 (aN L y 6 (aP L y 44 (aN L y 30 s).2)).2)).2)
theorem q21 (a : Nat) : (21 : Int32) + nI a = nI (21 + a) := nI_add 21 a
section BD
variable {L : Nat} {y : Nat → Int32} {v0 : Int32} {M : Mem} {T : TT} {D : DD}
theorem cAddB (hE : EC M 14 T D) (hb : Tnb T < 6) (hF : DF D < 64) (k s lv : Int32) (lo : Nat) : ∃ M', f_X2_addBird M 14 k s lv (nI lo) = some M' ∧ EC M' 14 (addB T k lv lo) (addD D (Tnb T) s) ∧ (∀ c, c < 15 ∨ 23 < c → M' c = M c) := by
  have hnb : M (14 + 1) 2 = nI (Tnb T) := ec_nb hE
  have hF0 : M 21 0 = nI (DF D) := ec_F hE
  have c6 : ¬ (6 : Int32) ≤ nI (Tnb T) := nI_ge (b := 6) hb (by decide)
  obtain ⟨M0, e0⟩ : ∃ z, z = st (st (st (st M 18 (Tnb T) k) 19 (Tnb T) lv) 20 (Tnb T) (nI lo)) 22 (Tnb T) s := ⟨_, rfl⟩
  have k0 : M0 21 0 = nI (DF D) := by rw [e0, st_ne (by decide), st_ne (by decide), st_ne (by decide), st_ne (by decide)]; exact hF0
  obtain ⟨M1, e1⟩ : ∃ z, z = st (st M0 21 0 (nI (DF D ||| 2 ^ Tnb T))) 15 2 (nI (Tnb T + 1)) := ⟨_, rfl⟩
  have fr1 : ∀ c, c ≠ 15 → c ≠ 18 → c ≠ 19 → c ≠ 20 → c ≠ 21 → c ≠ 22 → M1 c = M c := fun c h1 h2 h3 h4 h5 h6 => by rw [e1, st_ne h1, st_ne h5, e0, st_ne h6, st_ne h4, st_ne h3, st_ne h2]
  have g18 : ∀ t, M1 18 t = upd (M 18) (Tnb T) k t := fun t => by rw [e1, st_ne (by decide), st_ne (by decide), e0, st_ne (by decide), st_ne (by decide), st_ne (by decide), st_i]
  have g19 : ∀ t, M1 19 t = upd (M 19) (Tnb T) lv t := fun t => by rw [e1, st_ne (by decide), st_ne (by decide), e0, st_ne (by decide), st_ne (by decide), st_i, st_ne (by decide)]
  have g20 : ∀ t, M1 20 t = upd (M 20) (Tnb T) (nI lo) t := fun t => by rw [e1, st_ne (by decide), st_ne (by decide), e0, st_ne (by decide), st_i, st_ne (by decide), st_ne (by decide)]
  have g22 : ∀ t, M1 22 t = upd (M 22) (Tnb T) s t := fun t => by rw [e1, st_ne (by decide), st_ne (by decide), e0, st_i, st_ne (by decide), st_ne (by decide), st_ne (by decide)]
  have g21 : ∀ t, M1 21 t = upd (M 21) 0 (nI (DF D ||| 2 ^ Tnb T)) t := fun t => by rw [e1, st_ne (by decide), st_i, e0, st_ne (by decide), st_ne (by decide), st_ne (by decide), st_ne (by decide)]
  have g15 : ∀ t, M1 15 t = upd (M 15) 2 (nI (Tnb T + 1)) t := fun t => by rw [e1, st_i, st_ne (by decide), e0, st_ne (by decide), st_ne (by decide), st_ne (by decide), st_ne (by decide)]
  obtain ⟨⟨a1, a2, a3, a4, a5⟩, b1, b2, b3, b4, b5, b6⟩ := hE
  refine ⟨M1, ?_, ⟨⟨?_, ?_, ?_, fun v hv => ?_, fun b hb' => ⟨?_, ?_, ?_⟩⟩, ?_, ?_, ?_, ?_, fun b hb' => ?_, fun j hj => ?_⟩, fun c hc => fr1 c (by omega) (by omega) (by omega) (by omega) (by omega) (by omega)⟩
  · unfold f_X2_addBird
    rw [hnb, nmE, if_neg c6, chk_ix (by omega) (by decide), cl_nI (by omega), nmE, nmE, nmE, nmE]
    show nm (st (st (st (st (st M 18 (Tnb T) k) 19 (Tnb T) lv) 20 (Tnb T) (nI lo)) 22 (Tnb T) s) 21 0 ((st (st (st (st M 18 (Tnb T) k) 19 (Tnb T) lv) 20 (Tnb T) (nI lo)) 22 (Tnb T) s) 21 0 ||| ((1 : Int32) <<< (nI (Tnb T) &&& 31)))) _ = _
    rw [← e0, k0, b_or _ hF _ hb, nmE, nI_sc, nmE]
    exact congrArg some e1.symm
  · rw [g15, pk_un (by decide)]; exact a1
  · rw [g15, pk_un (by decide)]; exact a2
  · rw [g15, pk_us]; rfl
  · rw [fr1 _ (by decide) (by decide) (by decide) (by decide) (by decide) (by decide), fr1 _ (by decide) (by decide) (by decide) (by decide) (by decide) (by decide)]; exact a4 v hv
  · have hb2 : b < Tnb T + 1 := hb'
    show M1 18 b = upd (Tkd T) (Tnb T) k b
    rw [g18]
    by_cases q : b = Tnb T
    · rw [q, pk_us, pk_us]
    · rw [pk_un q, pk_un q]; exact (a5 b (by omega)).1
  · have hb2 : b < Tnb T + 1 := hb'
    show M1 19 b = upd (Tlv T) (Tnb T) lv b
    rw [g19]
    by_cases q : b = Tnb T
    · rw [q, pk_us, pk_us]
    · rw [pk_un q, pk_un q]; exact (a5 b (by omega)).2.1
  · have hb2 : b < Tnb T + 1 := hb'
    show M1 20 b = nI (un (Tlo T) (Tnb T) lo b)
    rw [g20]
    unfold un
    by_cases q : b = Tnb T
    · rw [q, pk_us, if_pos rfl]
    · rw [pk_un q, if_neg q]; exact (a5 b (by omega)).2.2
  · show M1 21 0 = nI (DF D ||| 2 ^ Tnb T)
    rw [g21, pk_us]
  · show M1 21 1 = _
    rw [g21, pk_un (by decide)]; exact b2
  · show M1 21 2 = _
    rw [g21, pk_un (by decide)]; exact b3
  · show M1 21 3 = _
    rw [g21, pk_un (by decide)]; exact b4
  · have hb2 : b < Tnb T + 1 := hb'
    show M1 22 b = upd (Dst D) (Tnb T) s b
    rw [g22]
    by_cases q : b = Tnb T
    · rw [q, pk_us, pk_us]
    · rw [pk_un q, pk_un q]; exact b5 b (by omega)
  · rw [fr1 _ (by decide) (by decide) (by decide) (by decide) (by decide) (by decide)]; exact b6 j hj
def wB (w : Nat → Int32) (n : Nat) (k s lv : Int32) (lo : Nat) : Nat → Int32 := upd (upd (upd (upd (upd (upd w (21 + 6 * n) k) (21 + 6 * n + 1) s) (21 + 6 * n + 2) lv) (21 + 6 * n + 3) (nI lo)) (21 + 6 * n + 4) 1) 5 (nI (n + 1))
theorem rAddB {w : Nat → Int32} (h : EX w T D) (hb : Tnb T < 6) (hK : DK D = 0) (hv : Tnv T ≤ 5) (k s lv : Int32) (lo : Nat) : EX (wB w (Tnb T) k s lv lo) (addB T k lv lo) (addD D (Tnb T) s) := by
  obtain ⟨a0, a2, a3, a4, a5, a6, a7, a8, a9⟩ := h
  have o : ∀ t, t ≠ 5 → (t < 21 + 6 * Tnb T ∨ 21 + 6 * Tnb T + 5 ≤ t) → wB w (Tnb T) k s lv lo t = w t := fun t h1 h2 => by
    unfold wB
    rw [pk_un h1, pk_un (by omega), pk_un (by omega), pk_un (by omega), pk_un (by omega), pk_un (by omega)]
  refine ⟨?_, ?_, ?_, ?_, ?_, fun j hj => ?_, fun v hv' => ⟨?_, ?_⟩, fun b hb1 hb2 => ?_, fun b hb' => ?_⟩
  · rw [o _ (by omega) (by omega)]; exact a0
  · rw [o _ (by omega) (by omega)]; exact a2
  · rw [o _ (by omega) (by omega)]; exact a3
  · rw [o _ (by omega) (by omega)]; exact a4
  · unfold wB; rw [pk_us]; rfl
  · have hj2 : j < Tnv T := hj
    rw [o _ (by omega) (by omega)]; exact a6 j hj
  · have hv2 : v < Tnv T := hv'
    rw [o _ (by omega) (by omega)]; exact (a7 v hv').1
  · have hv2 : v < Tnv T := hv'
    rw [o _ (by omega) (by omega)]; exact (a7 v hv').2
  · have hb3 : Tnb T + 1 ≤ b := hb2
    rw [o _ (by omega) (by omega)]; exact a8 b hb1 (by omega)
  · have hb2 : b < Tnb T + 1 := hb'
    show _ = upd (Tkd T) (Tnb T) k b ∧ _ = upd (Dst D) (Tnb T) s b ∧ _ = upd (Tlv T) (Tnb T) lv b ∧ _ = nI (un (Tlo T) (Tnb T) lo b) ∧ _ = bt (DF D ||| 2 ^ Tnb T) b ∧ _ = bt (DK D) b
    by_cases q : b = Tnb T
    · subst q
      refine ⟨?_, ?_, ?_, ?_, ?_, ?_⟩
      · rw [pk_us]; unfold wB
        rw [pk_un (by omega), pk_un (by omega), pk_un (by omega), pk_un (by omega), pk_un (by omega), pk_us]
      · rw [pk_us, show 22 + 6 * Tnb T = 21 + 6 * Tnb T + 1 by omega]; unfold wB
        rw [pk_un (by omega), pk_un (by omega), pk_un (by omega), pk_un (by omega), pk_us]
      · rw [pk_us, show 23 + 6 * Tnb T = 21 + 6 * Tnb T + 2 by omega]; unfold wB
        rw [pk_un (by omega), pk_un (by omega), pk_un (by omega), pk_us]
      · rw [show 24 + 6 * Tnb T = 21 + 6 * Tnb T + 3 by omega]; unfold wB un
        rw [pk_un (by omega), pk_un (by omega), pk_us, if_pos rfl]
      · rw [show 25 + 6 * Tnb T = 21 + 6 * Tnb T + 4 by omega, bt_or, if_pos rfl]; unfold wB
        rw [pk_un (by omega), pk_us]
      · rw [o _ (by omega) (by omega), a8 _ hb (Nat.le_refl _), hK]
        unfold bt
        rw [Nat.zero_testBit, if_neg (by decide)]
    · obtain ⟨d0, d1, d2, d3, d4, d5⟩ := a9 b (by omega)
      refine ⟨?_, ?_, ?_, ?_, ?_, ?_⟩
      · rw [o _ (by omega) (by omega), pk_un q]; exact d0
      · rw [o _ (by omega) (by omega), pk_un q]; exact d1
      · rw [o _ (by omega) (by omega), pk_un q]; exact d2
      · rw [o _ (by omega) (by omega)]; unfold un; rw [if_neg q]; exact d3
      · rw [o _ (by omega) (by omega), bt_or, if_neg q]; exact d4
      · rw [o _ (by omega) (by omega)]; exact d5
/-- a bird, in the class -/
theorem cRB (hL : L ≤ 120) {p : Nat} (hC : CS L y v0 M (.inl p)) (hpL : p < L) (hE : EC M 14 T D) (hb : Tnb T < 6) (hF : DF D < 64) (hk : ¬ f_X6_kindTold (ch L y p) = 0) {r : (Nat × Nat × Nat) × PS} (hr : r = aB2 L y (.inl (p + 1))) : ∃ M', f_X6_readBird M 14 = some (wl r.2, M') ∧ CS L y v0 M' r.2 ∧ (∀ c, c ≠ 2 → c < 15 ∨ 23 < c → M' c = M c) ∧ (wl r.2 = true → EC M' 14 (addB T (f_X6_kindTold (ch L y p)) (nI r.1.2.1) r.1.2.2) (addD D (Tnb T) (nI r.1.1))) := by
  obtain ⟨h1, hy, hp, h5, h4, h2⟩ := hC
  have hl := cLet hL h1 hy hp
  obtain ⟨p2, p3⟩ := cMove (v0 := v0) h1 hy h5 h2 (show p + 1 ≤ L by omega)
  obtain ⟨M1, eM1⟩ : ∃ z, z = st M 2 4 (nI (p + 1)) := ⟨_, rfl⟩
  rw [← eM1] at p2 p3
  obtain ⟨M2, q1, q2, q3⟩ := cNum hL p2 (m := 30) (by decide)
  obtain ⟨M3, r1, r2, r3⟩ := cPas hL q2 (c := 44) (by decide)
  obtain ⟨M4, s1, s2, s3⟩ := cNum hL r2 (m := 6) (by decide)
  obtain ⟨M5, t1, t2, t3⟩ := cPas hL s2 (c := 44) (by decide)
  obtain ⟨M6, u1, u2, u3⟩ := cNum hL t2 (m := 5) (by decide)
  obtain ⟨M7, w1, w2, w3⟩ := cPas hL u2 (c := 59) (by decide)
  have q1' : f_X6_number M1 (30 : Int32) = _ := q1
  have s1' : f_X6_number M3 (6 : Int32) = _ := s1
  have u1' : f_X6_number M5 (5 : Int32) = _ := u1
  have e1 : r.1.1 = (aN L y 30 (.inl (p + 1))).1 := by rw [hr]; rfl
  have e2 : r.1.2.1 = (aN L y 6 (aP L y 44 (aN L y 30 (.inl (p + 1))).2)).1 := by rw [hr]; rfl
  have e3 : r.1.2.2 = (aN L y 5 (aP L y 44 (aN L y 6 (aP L y 44 (aN L y 30 (.inl (p + 1))).2)).2)).1 := by rw [hr]; rfl
  have e4 : r.2 = aP L y 59 (aN L y 5 (aP L y 44 (aN L y 6 (aP L y 44 (aN L y 30 (.inl (p + 1))).2)).2)).2 := by rw [hr]; rfl
  rw [← e1] at q1'
  rw [← e2] at s1'
  rw [← e3] at u1'
  rw [← e4] at w1 w2
  have f7 : ∀ c, c ≠ 2 → M7 c = M c := fun c hc => (w3 c hc).trans ((u3 c hc).trans ((t3 c hc).trans ((s3 c hc).trans ((r3 c hc).trans ((q3 c hc).trans (p3 c hc))))))
  have hE7 : EC M7 14 T D := ec_cg hE (fun c h1 h2 => f7 c (by omega))
  unfold f_X6_readBird
  rw [h4, hl, bdE, nmE, if_neg hk, nI_sc, ← eM1, nmE, q1', bdE, r1, bdE, s1', bdE, t1, bdE, u1', bdE, w1, bdE]
  by_cases z : wl r.2 = true
  · obtain ⟨M8, x1, x2, x3⟩ := cAddB hE7 hb hF (f_X6_kindTold (ch L y p)) (nI r.1.1) (nI r.1.2.1) r.1.2.2
    rw [if_pos z]
    dsimp only
    rw [x1, bdE, z]
    exact ⟨M8, rfl, CS_cg w2 (x3 2 (by omega)) (x3 3 (by omega)), fun c h1 h2 => (x3 c h2).trans (f7 c h1), fun _ => x2⟩
  · have z' : wl r.2 = false := by simpa using z
    rw [if_neg z, z']
    exact ⟨M7, rfl, w2, fun c h1 _ => f7 c h1, fun u => by cases u⟩
/-- a bird, in the reference -/
theorem rRB55 (hL : L ≤ 120) {s : PS} (hR : RS L y v0 M s) (hX : EX (M 147) T D) (hb : Tnb T < 6) (hK : DK D = 0) (hv : Tnv T ≤ 5) (k : Int32) {r : (Nat × Nat × Nat) × PS} (hr : r = aB2 L y s) : ∃ M', f_X9_readsBird_55 M k 21 6 (nI (Tnb T)) = some M' ∧ RS L y v0 M' r.2 ∧ rg M M' ∧ (wl r.2 = true → EX (M' 147) (addB T k (nI r.1.2.1) r.1.2.2) (addD D (Tnb T) (nI r.1.1))) := by
  obtain ⟨M2, q1, q2, q3⟩ := rFig hL hR (m := 30) (by decide)
  obtain ⟨M4, s1, s2, s3⟩ := rNxt hL q2 (m := 6) (by decide)
  obtain ⟨M6, u1, u2, u3⟩ := rNxt hL s2 (m := 5) (by decide)
  obtain ⟨v, M7, t1, t2, t3⟩ := rStop hL u2
  have q1' : f_X9_figure M 0 (30 : Int32) = _ := q1
  have s1' : f_X9_next M2 0 (6 : Int32) = _ := s1
  have u1' : f_X9_next M4 0 (5 : Int32) = _ := u1
  have e1 : r.1.1 = (aN L y 30 s).1 := by rw [hr]; rfl
  have e2 : r.1.2.1 = (aN L y 6 (aP L y 44 (aN L y 30 s).2)).1 := by rw [hr]; rfl
  have e3 : r.1.2.2 = (aN L y 5 (aP L y 44 (aN L y 6 (aP L y 44 (aN L y 30 s).2)).2)).1 := by rw [hr]; rfl
  have e4 : r.2 = aP L y 59 (aN L y 5 (aP L y 44 (aN L y 6 (aP L y 44 (aN L y 30 s).2)).2)).2 := by rw [hr]; rfl
  rw [← e1] at q1'
  rw [← e2] at s1'
  rw [← e3] at u1'
  rw [← e4] at t2
  have f7 : rf M M7 := rf_trans q3 (rf_trans s3 (rf_trans u3 t3))
  have key : ∀ b, b = decide (M6 140 11 = 4) → ∃ M', f_X9_readsBird_97 M6 k (nI (21 + 6 * Tnb T)) (nI r.1.1) (nI r.1.2.1) (nI r.1.2.2) b = some M' ∧ RS L y v0 M' r.2 ∧ rg M M' ∧ (wl r.2 = true → EX (M' 147) (addB T k (nI r.1.2.1) r.1.2.2) (addD D (Tnb T) (nI r.1.1))) := by
    intro b hb'
    rw [← hb'] at t1
    unfold f_X9_readsBird_97
    rw [t1, bdE]
    cases hs : r.2 with
    | inr e =>
      rw [hs] at t2
      rw [if_neg (rWellF hL t2)]
      exact ⟨M7, rfl, t2, rg_rf f7, fun z => by cases z⟩
    | inl p =>
      rw [hs] at t2
      have h147 : M7 147 = M 147 := f7.1 147 (by decide)
      have hn5 : M7 147 5 = nI (Tnb T) := by rw [h147]; exact hX.2.2.2.2.1
      rw [if_pos (rWellT t2), nI_sc, p2, p3, p4, chk_ix (by omega) (by decide), cl_nI (by omega), nmE, chk_ix (by omega) (by decide), cl_nI (by omega), nmE, chk_ix (by omega) (by decide), cl_nI (by omega), nmE, chk_ix (by omega) (by decide), cl_nI (by omega), nmE, chk_ix (by omega) (by decide), cl_nI (by omega), nmE]
      dsimp only
      have hs2 : st (st (st (st (st M7 147 (21 + 6 * Tnb T) k) 147 (21 + 6 * Tnb T + 1) (nI r.1.1)) 147 (21 + 6 * Tnb T + 2) (nI r.1.2.1)) 147 (21 + 6 * Tnb T + 3) (nI r.1.2.2)) 147 (21 + 6 * Tnb T + 4) 1 147 5 = nI (Tnb T) := by
        rw [st_slot (by omega), st_slot (by omega), st_slot (by omega), st_slot (by omega), st_slot (by omega)]; exact hn5
      rw [hs2, nI_sc, nmE]
      refine ⟨_, rfl, RS_cg t2 ?_ ?_, rg_trans (rg_rf f7) (rg_trans rg_st (rg_trans rg_st (rg_trans rg_st (rg_trans rg_st (rg_trans rg_st rg_st))))), fun _ => ?_⟩
      · rw [st_ne (by decide), st_ne (by decide), st_ne (by decide), st_ne (by decide), st_ne (by decide), st_ne (by decide)]
      · rw [st_ne (by decide), st_ne (by decide), st_ne (by decide), st_ne (by decide), st_ne (by decide), st_ne (by decide)]
      · rw [st_i, st_i, st_i, st_i, st_i, st_i, h147]
        exact rAddB hX hb hK hv _ _ _ _
  unfold f_X9_readsBird_55
  rw [i6, nmE, q1', bdE]
  dsimp only
  rw [s1', bdE]
  dsimp only
  rw [u1', bdE]
  dsimp only
  by_cases w : M6 140 11 = 4
  · rw [if_pos w]; exact key true (by rw [decide_eq_true w])
  · rw [if_neg w]; exact key false (by rw [decide_eq_false w])
theorem tok_kd {p : Nat} (h : ¬ f_X6_kindTold (ch L y p) = 0) : tok L y p = 1 := by
  obtain ⟨k1, k2, _, k4, _⟩ := kd_ok h
  unfold tok
  rw [k1, if_neg (by decide), if_pos k2, if_pos k4]
theorem rRB (hL : L ≤ 120) {p : Nat} (hR : RS L y v0 M (.inl p)) (hk : ¬ f_X6_kindTold (ch L y p) = 0) (hX : EX (M 147) T D) (hb : Tnb T < 6) (hK : DK D = 0) (hv : Tnv T ≤ 5) {r : (Nat × Nat × Nat) × PS} (hr : r = aB2 L y (.inl (p + 1))) : ∃ M', f_X9_readsBird M = some M' ∧ RS L y v0 M' r.2 ∧ rg M M' ∧ (wl r.2 = true → EX (M' 147) (addB T (f_X6_kindTold (ch L y p)) (nI r.1.2.1) r.1.2.2) (addD D (Tnb T) (nI r.1.1))) := by
  obtain ⟨k1, k2, k3, k4, k5, k6⟩ := kd_ok hk
  have h5 : M 147 5 = nI (Tnb T) := hX.2.2.2.2.1
  have c6 : ¬ (6 : Int32) ≤ nI (Tnb T) := nI_ge (b := 6) hb (by decide)
  have ht := tok_kd hk
  have h12 : M 140 12 = ch L y p := by
    have : M 140 12 = tv L y p := (hR.2.2.2.2.2.2.2 (by omega)).1
    rw [this, tv_c rfl k1]
  obtain ⟨M1, t1, t2, t3⟩ := rTkT hL hR (by omega) 3
  rw [nxt_c rfl k1 k2] at t2
  have h147 : M1 147 = M 147 := t3.1 147 (by decide)
  have hM1 : M1 147 5 = nI (Tnb T) := by rw [h147]; exact h5
  obtain ⟨M2, u1, u2, u3, u4⟩ := rRB55 hL t2 (by rw [h147]; exact hX) hb hK hv (f_X6_kindTold (ch L y p)) hr
  refine ⟨M2, ?_, u2, rg_trans (rg_rf t3) u3, u4⟩
  unfold f_X9_readsBird f_X9_readsBird_25
  rw [h12, ← kd_eq, nmE, h5, if_neg c6, t1, bdE]
  dsimp only
  rw [if_neg (show ¬ (6 : Int32) ≤ M1 147 5 by rw [hM1]; exact c6), hM1]
  exact u1
/-- one bird too many -/
theorem rRB6 (hL : L ≤ 120) {p : Nat} (hR : RS L y v0 M (.inl p)) (hX : EX (M 147) T D) (hb : Tnb T = 6) : ∃ M', f_X9_readsBird M = some M' ∧ RS L y v0 M' (.inr (3, p)) ∧ rg M M' := by
  have h2 : M 147 5 = nI 6 := by rw [← hb]; exact hX.2.2.2.2.1
  have c6 : (6 : Int32) ≤ nI 6 := by decide
  obtain ⟨M1, t1, t2, t3⟩ := rTkF hR 3
  have t1' : f_X9_takes M false (3 : Int32) = some (0, M1) := t1
  have h147 : M1 147 = M 147 := t3.1 147 (by decide)
  have hM1 : M1 147 5 = nI 6 := by rw [h147]; exact h2
  obtain ⟨M2, q1, q2, q3⟩ := rFig hL t2 (m := 30) (by decide)
  obtain ⟨M4, s1, s2, s3⟩ := rNxt hL q2 (m := 6) (by decide)
  obtain ⟨M6, u1, u2, u3⟩ := rNxt hL s2 (m := 5) (by decide)
  have q1' : f_X9_figure M1 0 (30 : Int32) = _ := q1
  have s1' : f_X9_next M2 0 (6 : Int32) = _ := s1
  have u1' : f_X9_next M4 0 (5 : Int32) = _ := u1
  have u2 : RS L y v0 M6 (.inr (3, p)) := u2
  refine ⟨M6, ?_, u2, rg_rf (rf_trans t3 (rf_trans q3 (rf_trans s3 u3)))⟩
  unfold f_X9_readsBird f_X9_readsBird_25 f_X9_readsBird_55 f_X9_readsBird_97
  rw [nmE, h2, if_pos c6, t1', bdE]
  dsimp only
  rw [if_pos (show (6 : Int32) ≤ M1 147 5 by rw [hM1]; exact c6), nmE, q1', bdE]
  dsimp only
  rw [s1', bdE]
  dsimp only
  rw [u1', bdE]
  dsimp only
  rw [rTkE hL u2, rTkE hL u2, bdE, if_neg (rWellF hL u2)]
  split <;> rfl
end BD
