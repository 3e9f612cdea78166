/-! FLIGHT: all birds, the whole text -/
def FI (T : TT) (D : DD) : Prop := WT T ∧ WD T D 0 ∧ DK D = 0 ∧ Dth D = 0
theorem addB_FI {T : TT} {D : DD} (h : FI T D) (hb : Tnb T < 6) {k : Int32} {s lv lo : Nat} (hk : 1 ≤ k.toInt ∧ k.toInt ≤ 5) (hs : s ≤ 30) (hlo : lo ≤ 5) : FI (addB T k (nI lv) lo) (addD D (Tnb T) (nI s)) := by
  obtain ⟨⟨t1, t2, t3, t4, t5⟩, ⟨d1, d2, d3, d4, d5, d6, d7⟩, hK, hth⟩ := h
  refine ⟨⟨t1, hb, t3, t4, fun b hb' => ?_⟩, ⟨?_, ?_, d3, d4, d5, d6, fun b hb' => ?_⟩, hK, hth⟩
  · have hb2 : b < Tnb T + 1 := hb'
    show (1 ≤ (upd (Tkd T) (Tnb T) k b).toInt ∧ (upd (Tkd T) (Tnb T) k b).toInt ≤ 5) ∧ un (Tlo T) (Tnb T) lo b < 6
    unfold un
    by_cases q : b = Tnb T
    · rw [q, pk_us, if_pos rfl]; exact ⟨hk, by omega⟩
    · rw [pk_un q, if_neg q]; exact t5 b (by omega)
  · show DF D ||| 2 ^ Tnb T < 2 ^ (Tnb T + 1)
    have h2 : (2 : Nat) ^ Tnb T < 2 ^ (Tnb T + 1) := Nat.pow_lt_pow_right (by decide) (by omega)
    exact Nat.or_lt_two_pow (Nat.lt_trans d1 h2) h2
  · show DK D < 2 ^ (Tnb T + 1)
    rw [hK]
    exact Nat.pow_pos (by decide)
  · have hb2 : b < Tnb T + 1 := hb'
    show 0 ≤ (upd (Dst D) (Tnb T) (nI s) b).toInt ∧ (upd (Dst D) (Tnb T) (nI s) b).toInt ≤ 30
    by_cases q : b = Tnb T
    · rw [q, pk_us, ti (by omega)]; omega
    · rw [pk_un q]; exact d7 b (by omega)
def abL (L : Nat) (y : Nat → Int32) : Nat → Nat → TT → DD → PS × TT × DD
  | 0, p, T, D => if L ≤ p then (.inl p, T, D) else if f_X6_kindTold (ch L y p) = 0 then (.inr (1, p), T, D) else (.inr (3, p), T, D)
  | r + 1, p, T, D => if L ≤ p then (.inl p, T, D) else if f_X6_kindTold (ch L y p) = 0 then (.inr (1, p), T, D) else match (aB2 L y (.inl (p + 1))).2 with
    | .inl p' => abL L y r p' (addB T (f_X6_kindTold (ch L y p)) (nI (aB2 L y (.inl (p + 1))).1.2.1) (aB2 L y (.inl (p + 1))).1.2.2) (addD D (Tnb T) (nI (aB2 L y (.inl (p + 1))).1.1))
    | .inr e => (.inr e, T, D)
section RD
variable {L : Nat} {y : Nat → Int32} {v0 : Int32} {M : Mem}
theorem abL_e (r p : Nat) (T : TT) (D : DD) (h : L ≤ p) : abL L y r p T D = (.inl p, T, D) := by
  cases r with
  | zero => exact if_pos h
  | succ r => exact if_pos h
theorem abL_1 (r p : Nat) (T : TT) (D : DD) (h : ¬ L ≤ p) (hk : f_X6_kindTold (ch L y p) = 0) : abL L y r p T D = (.inr (1, p), T, D) := by
  cases r with
  | zero => exact (if_neg h).trans (if_pos hk)
  | succ r => exact (if_neg h).trans (if_pos hk)
theorem abL_3 (p : Nat) (T : TT) (D : DD) (h : ¬ L ≤ p) (hk : ¬ f_X6_kindTold (ch L y p) = 0) : abL L y 0 p T D = (.inr (3, p), T, D) := (if_neg h).trans (if_neg hk)
theorem abL_s (r p : Nat) (T : TT) (D : DD) (h : ¬ L ≤ p) (hk : ¬ f_X6_kindTold (ch L y p) = 0) {v : (Nat × Nat × Nat) × PS} (hv : v = aB2 L y (.inl (p + 1))) : abL L y (r + 1) p T D = match v.2 with
    | .inl p' => abL L y r p' (addB T (f_X6_kindTold (ch L y p)) (nI v.1.2.1) v.1.2.2) (addD D (Tnb T) (nI v.1.1))
    | .inr e => (.inr e, T, D) := by
  subst hv
  exact (if_neg h).trans (if_neg hk)
theorem abL_FI : ∀ (r p : Nat) (T : TT) (D : DD), FI T D → Tnb T + r = 6 → FI (abL L y r p T D).2.1 (abL L y r p T D).2.2 ∧ Tnv (abL L y r p T D).2.1 = Tnv T := by
  intro r
  induction r with
  | zero =>
    intro p T D h h6
    by_cases q : L ≤ p
    · rw [abL_e _ _ _ _ q]; exact ⟨h, rfl⟩
    · by_cases k : f_X6_kindTold (ch L y p) = 0
      · rw [abL_1 _ _ _ _ q k]; exact ⟨h, rfl⟩
      · rw [abL_3 _ _ _ q k]; exact ⟨h, rfl⟩
  | succ r ih =>
    intro p T D h h6
    by_cases q : L ≤ p
    · rw [abL_e _ _ _ _ q]; exact ⟨h, rfl⟩
    · by_cases k : f_X6_kindTold (ch L y p) = 0
      · rw [abL_1 _ _ _ _ q k]; exact ⟨h, rfl⟩
      · obtain ⟨v, ev⟩ : ∃ v, v = aB2 L y (.inl (p + 1)) := ⟨_, rfl⟩
        rw [abL_s r p T D q k ev]
        cases hs : v.2 with
        | inr e => exact ⟨h, rfl⟩
        | inl p' =>
          have h1 : v.1.1 ≤ 30 := by rw [ev]; exact aN_le _ _
          have h2 : v.1.2.2 ≤ 5 := by rw [ev]; exact aN_le _ _
          exact ih p' _ _ (addB_FI h (by omega) (kd_ok k).2.2.2.2.1 h1 h2) (by show Tnb T + 1 + r = 6; omega)
theorem c35 (hL : L ≤ 120) {p : Nat} (hC : CS L y v0 M (.inl p)) (T : TT) (D : DD) : ∃ M', f_X6_readBirds_35 14 M = some (wl (abL L y 0 p T D).1, M') ∧ CS L y v0 M' (abL L y 0 p T D).1 ∧ (∀ c, c ≠ 2 → M' c = M c) := by
  have hC' := hC
  obtain ⟨h1, hy, hp, h5, h4, h2⟩ := hC
  have hl := cLet hL h1 hy hp
  unfold f_X6_readBirds_35
  rw [h1, h4]
  by_cases q : L ≤ p
  · rw [if_pos (by rw [nI_leI (by omega) (by omega)]; exact q), abL_e _ _ _ _ q]
    exact ⟨M, rfl, hC', fun _ _ => rfl⟩
  · rw [if_neg (by rw [nI_leI (by omega) (by omega)]; exact q), hl, bdE]
    by_cases k : f_X6_kindTold (ch L y p) = 0
    · obtain ⟨M', f1, f2, f3⟩ := cFail (v0 := v0) h1 hy (k := 1) hp
      have f1' : f_X6_fail M (1 : Int32) (nI p) = (false, M') := f1
      rw [if_pos k, f1', nmE, abL_1 _ _ _ _ q k]
      exact ⟨M', rfl, f2, f3⟩
    · obtain ⟨M', f1, f2, f3⟩ := cFail (v0 := v0) h1 hy (k := 3) hp
      have f1' : f_X6_fail M (3 : Int32) (nI p) = (false, M') := f1
      rw [if_neg k, f1', nmE, abL_3 _ _ _ q k]
      exact ⟨M', rfl, f2, f3⟩
/-- all birds, in the class -/
theorem cBL (hL : L ≤ 120) : ∀ (r p : Nat) (T : TT) (D : DD) (M : Mem) (fu : Nat), FI T D → Tnb T + r = 6 → CS L y v0 M (.inl p) → EC M 14 T D → r < fu → ∃ M', iter (fun rec a => f_X6_readBirds_2 14 rec a.1 a.2) fu (M, nI (Tnb T)) = some (wl (abL L y r p T D).1, M') ∧ CS L y v0 M' (abL L y r p T D).1 ∧ (∀ c, c ≠ 2 → c < 15 ∨ 23 < c → M' c = M c) ∧ (wl (abL L y r p T D).1 = true → EC M' 14 (abL L y r p T D).2.1 (abL L y r p T D).2.2) := by
  intro r
  induction r with
  | zero =>
    intro p T D M fu hI h6 hC hE hf
    obtain ⟨fu, rfl⟩ : ∃ z, fu = z + 1 := ⟨fu - 1, by omega⟩
    obtain ⟨M', u1, u2, u3⟩ := c35 hL hC T D
    refine ⟨M', ?_, u2, fun c h1 _ => u3 c h1, fun z => ?_⟩
    · rw [iter_s]
      show f_X6_readBirds_2 14 _ M (nI (Tnb T)) = _
      unfold f_X6_readBirds_2
      rw [if_pos (show (6 : Int32) ≤ nI (Tnb T) by rw [show Tnb T = 6 by omega]; decide)]
      exact u1
    · have hEE : EC M' 14 T D := ec_cg hE (fun a h1 h2 => u3 a (by omega))
      by_cases q : L ≤ p
      · rw [abL_e _ _ _ _ q]; exact hEE
      · by_cases k : f_X6_kindTold (ch L y p) = 0
        · rw [abL_1 _ _ _ _ q k]; exact hEE
        · rw [abL_3 _ _ _ q k]; exact hEE
  | succ r ih =>
    intro p T D M fu hI h6 hC hE hf
    obtain ⟨fu, rfl⟩ : ∃ z, fu = z + 1 := ⟨fu - 1, by omega⟩
    have c6 : ¬ (6 : Int32) ≤ nI (Tnb T) := nI_ge (b := 6) (by omega) (by decide)
    have h1 : M 2 1 = nI L := hC.1
    have h4 : M 2 4 = nI p := hC.2.2.2.2.1
    have hp : p ≤ L := hC.2.2.1
    rw [iter_s]
    show ∃ M', f_X6_readBirds_2 14 _ M (nI (Tnb T)) = _ ∧ _
    generalize hrec : iter (fun rec a => f_X6_readBirds_2 14 rec a.1 a.2) fu = rr
    unfold f_X6_readBirds_2
    rw [if_neg c6, h1, h4]
    by_cases q : L ≤ p
    · obtain ⟨M', u1, u2, u3⟩ := c35 hL hC T D
      rw [abL_e _ _ _ _ q] at u1 u2
      rw [if_pos (by rw [nI_leI (by omega) (by omega)]; exact q), abL_e _ _ _ _ q]
      exact ⟨M', u1, u2, fun c h1 _ => u3 c h1, fun _ => ec_cg hE (fun a h1 h2 => u3 a (by omega))⟩
    · rw [if_neg (by rw [nI_leI (by omega) (by omega)]; exact q)]
      by_cases k : f_X6_kindTold (ch L y p) = 0
      · have hl := cLet hL hC.1 hC.2.1 hp
        obtain ⟨M', f1, f2, f3⟩ := cFail (v0 := v0) hC.1 hC.2.1 (k := 1) hp
        have f1' : f_X6_fail M (1 : Int32) (nI p) = (false, M') := f1
        have hb : f_X6_readBird M 14 = some (false, M') := by
          unfold f_X6_readBird
          rw [h4, hl, bdE, k, nmE, if_pos rfl, f1', nmE]
        rw [hb, bdE, if_neg (show ¬ ((false, M').1 = true) from fun z => by cases z), abL_1 _ _ _ _ q k]
        exact ⟨M', rfl, f2, fun c h1 _ => f3 c h1, fun z => by cases z⟩
      · obtain ⟨v, ev⟩ : ∃ v, v = aB2 L y (.inl (p + 1)) := ⟨_, rfl⟩
        obtain ⟨M1, u1, u2, u3, u4⟩ := cRB hL hC (by omega) hE (by omega) (wd_F hI.1 hI.2.1) k ev
        rw [u1, bdE, abL_s r p T D q k ev]
        cases hs : v.2 with
        | inr e =>
          rw [hs] at u2
          rw [if_neg (show ¬ wl (.inr e : PS) = true from fun z => by cases z)]
          exact ⟨M1, rfl, u2, u3, fun z => by cases z⟩
        | inl p' =>
          rw [hs] at u2 u4
          have hE1 := u4 rfl
          rw [if_pos (show wl (.inl p' : PS) = true from rfl), nmE, nI_sc]
          have b1 : v.1.1 ≤ 30 := by rw [ev]; exact aN_le _ _
          have b2 : v.1.2.2 ≤ 5 := by rw [ev]; exact aN_le _ _
          obtain ⟨M2, w1, w2, w3, w4⟩ := ih p' (addB T (f_X6_kindTold (ch L y p)) (nI v.1.2.1) v.1.2.2) (addD D (Tnb T) (nI v.1.1)) M1 fu (addB_FI hI (by omega) (kd_ok k).2.2.2.2.1 b1 b2) (by show Tnb T + 1 + r = 6; omega) u2 hE1 (by omega)
          rw [hrec] at w1
          exact ⟨M2, w1, w2, fun c h1 h2 => (w3 c h1 h2).trans (u3 c h1 h2), w4⟩
/-! the reference -/
theorem f157 (rec : Mem → Option (Int32 × Mem)) (M : Mem) : f_X9_flight_157 rec M = if f_X9_isWell M = true then (if M 140 11 = (1 : Int32) then (if f_X9_kindOf (M 140 12) ≤ (0 : Int32) then f_X9_flight_189 M else (f_X9_readsBird M).bind (fun q => rec q)) else f_X9_flight_189 M) else f_X9_flight_189 M := Eq.trans rfl rfl
theorem r157F (hL : L ≤ 120) {e : Nat × Nat} (hR : RS L y v0 M (.inr e)) (rec : Mem → Option (Int32 × Mem)) : f_X9_flight_157 rec M = f_X9_flight_210 M := by
  rw [f157, if_neg (rWellF hL hR)]
  unfold f_X9_flight_189
  rw [if_neg (rWellF hL hR)]
theorem tok_end {p : Nat} (h : L ≤ p) : tok L y p = 0 := by
  rw [tok_c (ch_out (by omega)), if_neg (by decide), if_neg (by decide)]
theorem tok_n0 {p : Nat} (h : p < L) (hy0 : ∀ j, j < L → 0 ≤ (y j).toInt) : tok L y p ≠ 0 := by
  have e0 : (0 : Int32).toInt = 0 := rfl
  have hc : 0 ≤ ch L y p := by rw [ch_in h, i_le, e0]; exact hy0 p h
  unfold tok
  rw [if_pos hc]
  split
  · split <;> omega
  · split
    · omega
    · split
      · omega
      · split <;> omega
theorem r157N {p : Nat} (hR : RS L y v0 M (.inl p)) (hk : f_X6_kindTold (ch L y p) = 0) (rec : Mem → Option (Int32 × Mem)) : f_X9_flight_157 rec M = f_X9_flight_189 M := by
  have h11 : M 140 11 = nI (tok L y p) := hR.2.2.2.2.2.2.1
  have ht6 := tok_lt6 (L := L) (y := y) p
  have e1 : (nI (tok L y p) = (1 : Int32)) ↔ tok L y p = 1 := nI_eq (b := 1) (by omega) (by decide)
  rw [f157, if_pos (rWellT hR), h11]
  by_cases q : tok L y p = 1
  · have h12 : M 140 12 = tv L y p := (hR.2.2.2.2.2.2.2 (by omega)).1
    rw [if_pos (e1.mpr q), h12, (tok_1 q).2.1, ← kd_eq, if_pos (kd_no hk)]
  · rw [if_neg (fun z => q (e1.mp z))]
theorem r157Y {p : Nat} (hR : RS L y v0 M (.inl p)) (hk : ¬ f_X6_kindTold (ch L y p) = 0) (rec : Mem → Option (Int32 × Mem)) : f_X9_flight_157 rec M = (f_X9_readsBird M).bind (fun q => rec q) := by
  have h11 : M 140 11 = nI (tok L y p) := hR.2.2.2.2.2.2.1
  have ht := tok_kd hk
  have h12 : M 140 12 = tv L y p := (hR.2.2.2.2.2.2.2 (by omega)).1
  rw [f157, if_pos (rWellT hR), h11, ht, if_pos (show nI 1 = (1 : Int32) from rfl), h12, (tok_1 ht).2.1, ← kd_eq, if_neg (kd_ok hk).2.2.2.2.2]
theorem kd_out {p : Nat} (h : L ≤ p) : f_X6_kindTold (ch L y p) = 0 := by
  rw [ch_out (by omega)]
  decide
theorem r189E {p : Nat} (hR : RS L y v0 M (.inl p)) (h : L ≤ p) : f_X9_flight_189 M = f_X9_flight_210 M := by
  have h11 : M 140 11 = nI (tok L y p) := hR.2.2.2.2.2.2.1
  unfold f_X9_flight_189
  rw [if_pos (rWellT hR), h11, tok_end h, if_pos (show nI 0 = (0 : Int32) from rfl)]
theorem r189N {p : Nat} (hR : RS L y v0 M (.inl p)) (h : p < L) (hy0 : ∀ j, j < L → 0 ≤ (y j).toInt) : ∃ M', f_X9_flight_189 M = f_X9_flight_210 M' ∧ RS L y v0 M' (.inr (1, p)) ∧ rg M M' := by
  have h11 : M 140 11 = nI (tok L y p) := hR.2.2.2.2.2.2.1
  have ht6 := tok_lt6 (L := L) (y := y) p
  obtain ⟨M1, t1, t2, t3⟩ := rTkF hR 1
  have t1' : f_X9_takes M false (1 : Int32) = some (0, M1) := t1
  have c0 : ¬ nI (tok L y p) = (0 : Int32) := fun z => tok_n0 h hy0 ((nI_eq (b := 0) (by omega) (by decide)).mp z)
  refine ⟨M1, ?_, t2, rg_rf t3⟩
  unfold f_X9_flight_189
  rw [if_pos (rWellT hR), h11, if_neg c0, t1', bdE]
/-- all birds, in the reference -/
theorem rBL (hL : L ≤ 120) (hy0 : ∀ j, j < L → 0 ≤ (y j).toInt) : ∀ (r p : Nat) (T : TT) (D : DD) (M : Mem) (fu : Nat), FI T D → Tnb T + r = 6 → RS L y v0 M (.inl p) → EX (M 147) T D → r + 1 < fu → ∃ M', iter (fun rec a => f_X9_flight_157 rec a) fu M = f_X9_flight_210 M' ∧ RS L y v0 M' (abL L y r p T D).1 ∧ rg M M' ∧ (wl (abL L y r p T D).1 = true → EX (M' 147) (abL L y r p T D).2.1 (abL L y r p T D).2.2) := by
  intro r
  have common : ∀ (p : Nat) (T : TT) (D : DD) (M : Mem) (fu : Nat), RS L y v0 M (.inl p) → EX (M 147) T D → 0 < fu → f_X6_kindTold (ch L y p) = 0 → ∃ M', iter (fun rec a => f_X9_flight_157 rec a) fu M = f_X9_flight_210 M' ∧ RS L y v0 M' (abL L y r p T D).1 ∧ rg M M' ∧ (wl (abL L y r p T D).1 = true → EX (M' 147) (abL L y r p T D).2.1 (abL L y r p T D).2.2) := by
    intro p T D M fu hR hX hf hk
    obtain ⟨fu, rfl⟩ : ∃ z, fu = z + 1 := ⟨fu - 1, by omega⟩
    rw [iter_s]
    show ∃ M', f_X9_flight_157 _ M = _ ∧ _
    rw [r157N hR hk]
    by_cases q : L ≤ p
    · rw [abL_e _ _ _ _ q, r189E hR q]
      exact ⟨M, rfl, hR, rg_refl M, fun _ => hX⟩
    · obtain ⟨M', t1, t2, t3⟩ := r189N hR (by omega) hy0
      rw [abL_1 _ _ _ _ q hk, t1]
      exact ⟨M', rfl, t2, t3, fun z => by cases z⟩
  induction r with
  | zero =>
    intro p T D M fu hI h6 hR hX hf
    by_cases hk : f_X6_kindTold (ch L y p) = 0
    · exact common p T D M fu hR hX (by omega) hk
    · have q : ¬ L ≤ p := fun z => hk (kd_out z)
      obtain ⟨fu, rfl⟩ : ∃ z, fu = z + 2 := ⟨fu - 2, by omega⟩
      obtain ⟨M1, u1, u2, u3⟩ := rRB6 hL hR hX (by omega)
      rw [abL_3 _ _ _ q hk, iter_s]
      refine ⟨M1, ?_, u2, u3, fun z => by cases z⟩
      show f_X9_flight_157 _ M = _
      rw [r157Y hR hk, u1, bdE, iter_s]
      exact r157F hL u2 _
  | succ r ih =>
    intro p T D M fu hI h6 hR hX hf
    by_cases hk : f_X6_kindTold (ch L y p) = 0
    · exact common p T D M fu hR hX (by omega) hk
    · have q : ¬ L ≤ p := fun z => hk (kd_out z)
      obtain ⟨fu, rfl⟩ : ∃ z, fu = z + 2 := ⟨fu - 2, by omega⟩
      obtain ⟨v, ev⟩ : ∃ v, v = aB2 L y (.inl (p + 1)) := ⟨_, rfl⟩
      obtain ⟨M1, u1, u2, u3, u4⟩ := rRB hL hR hk hX (show Tnb T < 6 by omega) hI.2.2.1 hI.1.1 ev
      rw [abL_s r p T D q hk ev, iter_s]
      show ∃ M', f_X9_flight_157 _ M = _ ∧ _
      rw [r157Y hR hk, u1, bdE]
      cases hs : v.2 with
      | inr e =>
        rw [hs] at u2
        refine ⟨M1, ?_, u2, u3, fun z => by cases z⟩
        rw [iter_s]
        exact r157F hL u2 _
      | inl p' =>
        rw [hs] at u2 u4
        have hX1 := u4 rfl
        have b1 : v.1.1 ≤ 30 := by rw [ev]; exact aN_le _ _
        have b2 : v.1.2.2 ≤ 5 := by rw [ev]; exact aN_le _ _
        have common' := fun (p : Nat) (T : TT) (D : DD) (M : Mem) (fu : Nat) (hR : RS L y v0 M (.inl p)) (hX : EX (M 147) T D) (hf : 0 < fu) (hk : f_X6_kindTold (ch L y p) = 0) => (show ∃ M', iter (fun rec a => f_X9_flight_157 rec a) fu M = f_X9_flight_210 M' ∧ RS L y v0 M' (abL L y r p T D).1 ∧ rg M M' ∧ (wl (abL L y r p T D).1 = true → EX (M' 147) (abL L y r p T D).2.1 (abL L y r p T D).2.2) by
          obtain ⟨M', a1, a2, a3, a4⟩ := common p T D M fu hR hX hf hk
          by_cases q : L ≤ p
          · rw [abL_e _ _ _ _ q] at a2 a4 ⊢
            exact ⟨M', a1, a2, a3, a4⟩
          · rw [abL_1 _ _ _ _ q hk] at a2 a4 ⊢
            exact ⟨M', a1, a2, a3, a4⟩)
        obtain ⟨M2, w1, w2, w3, w4⟩ := ih common' p' (addB T (f_X6_kindTold (ch L y p)) (nI v.1.2.1) v.1.2.2) (addD D (Tnb T) (nI v.1.1)) M1 (fu + 1) (addB_FI hI (by omega) (kd_ok hk).2.2.2.2.1 b1 b2) (by show Tnb T + 1 + r = 6; omega) u2 hX1 (by omega)
        exact ⟨M2, w1, w2, rg_trans u3 w3, w4⟩
end RD
