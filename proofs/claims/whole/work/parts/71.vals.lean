/-! FLIGHT: valleys -/
def aV2 (L : Nat) (y : Nat → Int32) (s : PS) : Nat × Nat × PS := ((aN L y 20 s).1, (aN L y 9 (aP L y 44 (aN L y 20 s).2)).1, aP L y 59 (aN L y 9 (aP L y 44 (aN L y 20 s).2)).2)
def addV (T : TT) (a l : Int32) : TT := (Tfd T, Tnv T + 1, Tnb T, upd (Tas T) (Tnv T) a, upd (Tls T) (Tnv T) l, Tkd T, Tlv T, Tlo T)
/-- the reference's draft -/
def EX (w : Nat → Int32) (T : TT) (D : DD) : Prop := w 0 = Tfd T ∧ w 2 = nI (Tnv T) ∧ w 3 = nI (Dth D) ∧ w 4 = nI (Dtu D) ∧ w 5 = nI (Tnb T) ∧ (∀ j, j < Tnv T → w (6 + j) = nI (Dln D j)) ∧ (∀ v, v < Tnv T → w (11 + v) = Tas T v ∧ w (16 + v) = Tls T v) ∧ (∀ b, b < 6 → Tnb T ≤ b → w (26 + 6 * b) = 0) ∧
  (∀ b, b < Tnb T → w (21 + 6 * b) = Tkd T b ∧ w (22 + 6 * b) = Dst D b ∧ w (23 + 6 * b) = Tlv T b ∧ w (24 + 6 * b) = nI (Tlo T b) ∧ w (25 + 6 * b) = bt (DF D) b ∧ w (26 + 6 * b) = bt (DK D) b)
theorem EX_EM {w : Nat → Int32} {T : TT} {D : DD} (h : EX w T D) (h0 : 0 < Tnv T) (h1 : w 1 = 1) : EM w T D := by
  obtain ⟨a0, a2, a3, a4, a5, a6, a7, _, a8⟩ := h
  exact ⟨a0, by rw [if_neg (by omega)]; exact h1, a2, a3, a4, a5, a6, a7, a8⟩
def rg (M M' : Mem) : Prop := (∀ a, a ≠ 140 → a ≠ 147 → M' a = M a) ∧ (∀ s, s < 7 ∨ 12 < s → M' 140 s = M 140 s)
theorem rg_refl (M : Mem) : rg M M := ⟨fun _ _ _ => rfl, fun _ _ => rfl⟩
theorem rg_rf {M M' : Mem} (h : rf M M') : rg M M' := ⟨fun a h1 _ => h.1 a h1, h.2⟩
theorem rg_trans {M M1 M2 : Mem} (h1 : rg M M1) (h2 : rg M1 M2) : rg M M2 := ⟨fun a ha hb => (h2.1 a ha hb).trans (h1.1 a ha hb), fun s hs => (h2.2 s hs).trans (h1.2 s hs)⟩
theorem rg_st {M : Mem} {k : Nat} {v : Int32} : rg M (st M 147 k v) := ⟨fun a _ h => st_ne h, fun s _ => by rw [st_ne (by decide)]⟩
theorem RS_cg {L : Nat} {y : Nat → Int32} {v0 : Int32} {M M' : Mem} {s : PS} (h : RS L y v0 M s) (e1 : M' 140 = M 140) (e2 : M' 145 = M 145) : RS L y v0 M' s := by
  obtain ⟨h1, h2, h3⟩ := h
  refine ⟨by rw [e1]; exact h1, fun j hj => by rw [e2]; exact h2 j hj, ?_⟩
  cases s with
  | inl p => rw [e1]; exact h3
  | inr e => rw [e1]; exact h3
theorem CS_cg {L : Nat} {y : Nat → Int32} {v0 : Int32} {M M' : Mem} {s : PS} (h : CS L y v0 M s) (e1 : M' 2 = M 2) (e2 : M' 3 = M 3) : CS L y v0 M' s := by
  obtain ⟨h1, h2, h3⟩ := h
  refine ⟨by rw [e1]; exact h1, fun j hj => by rw [e2]; exact h2 j hj, ?_⟩
  cases s with
  | inl p => rw [e1]; exact h3
  | inr e => rw [e1]; exact h3
section VL
variable {L : Nat} {y : Nat → Int32} {v0 : Int32} {M : Mem} {T : TT} {D : DD}
theorem cAddV (hE : EC M 14 T D) (hv : Tnv T < 5) (hl : Dln D (Tnv T) = Tnv T) (a l : Int32) : ∃ M', f_X2_addValley M 14 a l = some M' ∧ EC M' 14 (addV T a l) D ∧ (∀ c, c < 15 ∨ 23 < c → M' c = M c) := by
  have hnv : M 15 1 = nI (Tnv T) := ec_nv hE
  have c5 : ¬ (5 : Int32) ≤ nI (Tnv T) := nI_ge (b := 5) hv (by decide)
  obtain ⟨M1, e1⟩ : ∃ z, z = st (st (st (st M 16 (Tnv T) a) 17 (Tnv T) l) 23 (Tnv T) (nI (Tnv T))) 15 1 (nI (Tnv T + 1)) := ⟨_, rfl⟩
  have fr1 : ∀ c, c ≠ 15 → c ≠ 16 → c ≠ 17 → c ≠ 23 → M1 c = M c := fun c h1 h2 h3 h4 => by rw [e1, st_ne h1, st_ne h4, st_ne h3, st_ne h2]
  have g16 : ∀ t, M1 16 t = upd (M 16) (Tnv T) a t := fun t => by rw [e1, st_ne (by decide), st_ne (by decide), st_ne (by decide), st_i]
  have g17 : ∀ t, M1 17 t = upd (M 17) (Tnv T) l t := fun t => by rw [e1, st_ne (by decide), st_ne (by decide), st_i, st_ne (by decide)]
  have g23 : ∀ t, M1 23 t = upd (M 23) (Tnv T) (nI (Tnv T)) t := fun t => by rw [e1, st_ne (by decide), st_i, st_ne (by decide), st_ne (by decide)]
  have g15 : ∀ t, M1 15 t = upd (M 15) 1 (nI (Tnv T + 1)) t := fun t => by rw [e1, st_i, st_ne (by decide), st_ne (by decide), st_ne (by decide)]
  obtain ⟨⟨a1, a2, a3, a4, a5⟩, b1, b2, b3, b4, b5, b6⟩ := hE
  refine ⟨M1, ?_, ⟨⟨?_, ?_, ?_, fun v hv' => ⟨?_, ?_⟩, fun b hb => ?_⟩, ?_, ?_, ?_, ?_, fun b hb => ?_, fun j hj => ?_⟩, fun c hc => fr1 c (by omega) (by omega) (by omega) (by omega)⟩
  · unfold f_X2_addValley
    have h15 : M (14 + 1) 1 = nI (Tnv T) := hnv
    rw [h15, nmE, if_neg c5, chk_ix (by omega) (by decide), cl_nI (by omega), nmE, nmE, nmE, nI_sc, nmE, e1]
  · rw [g15, pk_un (by decide)]; exact a1
  · rw [g15, pk_us]; rfl
  · rw [g15, pk_un (by decide)]; exact a3
  · have hv2 : v < Tnv T + 1 := hv'
    show M1 16 v = upd (Tas T) (Tnv T) a v
    rw [g16]
    by_cases q : v = Tnv T
    · rw [q, pk_us, pk_us]
    · rw [pk_un q, pk_un q]; exact (a4 v (by omega)).1
  · have hv2 : v < Tnv T + 1 := hv'
    show M1 17 v = upd (Tls T) (Tnv T) l v
    rw [g17]
    by_cases q : v = Tnv T
    · rw [q, pk_us, pk_us]
    · rw [pk_un q, pk_un q]; exact (a4 v (by omega)).2
  · rw [fr1 _ (by decide) (by decide) (by decide) (by decide), fr1 _ (by decide) (by decide) (by decide) (by decide), fr1 _ (by decide) (by decide) (by decide) (by decide)]; exact a5 b hb
  · rw [fr1 _ (by decide) (by decide) (by decide) (by decide)]; exact b1
  · rw [fr1 _ (by decide) (by decide) (by decide) (by decide)]; exact b2
  · rw [fr1 _ (by decide) (by decide) (by decide) (by decide)]; exact b3
  · rw [fr1 _ (by decide) (by decide) (by decide) (by decide)]; exact b4
  · rw [fr1 _ (by decide) (by decide) (by decide) (by decide)]; exact b5 b hb
  · have hj2 : j < Tnv T + 1 := hj
    show M1 23 j = nI (Dln D j)
    rw [g23]
    by_cases q : j = Tnv T
    · rw [q, pk_us, hl]
    · rw [pk_un q]; exact b6 j (by omega)
theorem rAddV {w : Nat → Int32} (h : EX w T D) (hv : Tnv T < 5) (h6 : Tnb T ≤ 6) (hl : Dln D (Tnv T) = Tnv T) (a l : Int32) : EX (upd (upd (upd (upd w (6 + Tnv T) (nI (Tnv T))) (11 + Tnv T) a) (16 + Tnv T) l) 2 (nI (Tnv T + 1))) (addV T a l) D := by
  obtain ⟨a0, a2, a3, a4, a5, a6, a7, a8, a9⟩ := h
  refine ⟨?_, ?_, ?_, ?_, ?_, fun j hj => ?_, fun v hv' => ⟨?_, ?_⟩, fun b hb hb2 => ?_, fun b hb => ?_⟩
  · rw [pk_un (by omega), pk_un (by omega), pk_un (by omega), pk_un (by omega)]; exact a0
  · rw [pk_us]; rfl
  · rw [pk_un (by omega), pk_un (by omega), pk_un (by omega), pk_un (by omega)]; exact a3
  · rw [pk_un (by omega), pk_un (by omega), pk_un (by omega), pk_un (by omega)]; exact a4
  · rw [pk_un (by omega), pk_un (by omega), pk_un (by omega), pk_un (by omega)]; exact a5
  · have hj2 : j < Tnv T + 1 := hj
    rw [pk_un (by omega), pk_un (by omega), pk_un (by omega)]
    by_cases q : j = Tnv T
    · rw [q, pk_us, hl]
    · rw [pk_un (by omega)]; exact a6 j (by omega)
  · have hv2 : v < Tnv T + 1 := hv'
    show _ = upd (Tas T) (Tnv T) a v
    rw [pk_un (by omega), pk_un (by omega)]
    by_cases q : v = Tnv T
    · rw [q, pk_us, pk_us]
    · rw [pk_un (by omega), pk_un (by omega), pk_un q]; exact (a7 v (by omega)).1
  · have hv2 : v < Tnv T + 1 := hv'
    show _ = upd (Tls T) (Tnv T) l v
    rw [pk_un (by omega)]
    by_cases q : v = Tnv T
    · rw [q, pk_us, pk_us]
    · rw [pk_un (by omega), pk_un (by omega), pk_un (by omega), pk_un q]; exact (a7 v (by omega)).2
  · rw [pk_un (by omega), pk_un (by omega), pk_un (by omega), pk_un (by omega)]; exact a8 b hb hb2
  · have o : ∀ t, 21 ≤ t → (upd (upd (upd (upd w (6 + Tnv T) (nI (Tnv T))) (11 + Tnv T) a) (16 + Tnv T) l) 2 (nI (Tnv T + 1))) t = w t := fun t ht => by rw [pk_un (by omega), pk_un (by omega), pk_un (by omega), pk_un (by omega)]
    rw [o _ (by omega), o _ (by omega), o _ (by omega), o _ (by omega), o _ (by omega), o _ (by omega)]
    exact a9 b hb
/-- a valley, in the class -/
theorem cRV (hL : L ≤ 120) {s : PS} (hC : CS L y v0 M s) (hE : EC M 14 T D) (hv : Tnv T < 5) (hl : Dln D (Tnv T) = Tnv T) {r : Nat × Nat × PS} (hr : r = aV2 L y (aP L y 118 s)) : ∃ M', f_X6_readValley M 14 = some (wl r.2.2, M') ∧ CS L y v0 M' r.2.2 ∧ (∀ c, c ≠ 2 → c < 15 ∨ 23 < c → M' c = M c) ∧ (wl r.2.2 = true → EC M' 14 (addV T (nI r.1) (nI r.2.1)) D) := by
  obtain ⟨M1, p1, p2, p3⟩ := cPas hL hC (c := 118) (by decide)
  obtain ⟨M2, q1, q2, q3⟩ := cNum hL p2 (m := 20) (by decide)
  obtain ⟨M3, r1, r2, r3⟩ := cPas hL q2 (c := 44) (by decide)
  obtain ⟨M4, s1, s2, s3⟩ := cNum hL r2 (m := 9) (by decide)
  obtain ⟨M5, t1, t2, t3⟩ := cPas hL s2 (c := 59) (by decide)
  have q1' : f_X6_number M1 (20 : Int32) = _ := q1
  have s1' : f_X6_number M3 (9 : Int32) = _ := s1
  have e1 : r.1 = (aN L y 20 (aP L y 118 s)).1 := by rw [hr]; rfl
  have e2 : r.2.1 = (aN L y 9 (aP L y 44 (aN L y 20 (aP L y 118 s)).2)).1 := by rw [hr]; rfl
  have e3 : r.2.2 = aP L y 59 (aN L y 9 (aP L y 44 (aN L y 20 (aP L y 118 s)).2)).2 := by rw [hr]; rfl
  rw [← e1] at q1'
  rw [← e2] at s1'
  rw [← e3] at t1 t2
  have f5 : ∀ c, c ≠ 2 → M5 c = M c := fun c hc => (t3 c hc).trans ((s3 c hc).trans ((r3 c hc).trans ((q3 c hc).trans (p3 c hc))))
  have hE5 : EC M5 14 T D := ec_cg hE (fun c h1 h2 => f5 c (by omega))
  unfold f_X6_readValley
  rw [p1, bdE, q1', bdE, r1, bdE, s1', bdE, t1, bdE]
  by_cases w : wl r.2.2 = true
  · obtain ⟨M6, u1, u2, u3⟩ := cAddV hE5 hv hl (nI r.1) (nI r.2.1)
    rw [if_pos w]
    dsimp only
    rw [u1, bdE, w]
    exact ⟨M6, rfl, CS_cg t2 (u3 2 (by omega)) (u3 3 (by omega)), fun c h1 h2 => (u3 c h2).trans (f5 c h1), fun _ => u2⟩
  · have w' : wl r.2.2 = false := by simpa using w
    rw [if_neg w, w']
    exact ⟨M5, rfl, t2, fun c h1 _ => f5 c h1, fun z => by cases z⟩
/-- a valley, in the reference -/
theorem rRV41 (hL : L ≤ 120) {s : PS} (hR : RS L y v0 M s) (hX : EX (M 147) T D) (hv : Tnv T < 5) (h6 : Tnb T ≤ 6) (hl : Dln D (Tnv T) = Tnv T) {r : Nat × Nat × PS} (hr : r = aV2 L y s) : ∃ M', f_X9_readsValley_41 M (nI (Tnv T)) = some M' ∧ RS L y v0 M' r.2.2 ∧ rg M M' ∧ (wl r.2.2 = true → EX (M' 147) (addV T (nI r.1) (nI r.2.1)) D) := by
  obtain ⟨M2, q1, q2, q3⟩ := rFig hL hR (m := 20) (by decide)
  obtain ⟨M4, s1, s2, s3⟩ := rNxt hL q2 (m := 9) (by decide)
  obtain ⟨v, M5, t1, t2, t3⟩ := rStop hL s2
  have q1' : f_X9_figure M 0 (20 : Int32) = _ := q1
  have s1' : f_X9_next M2 0 (9 : Int32) = _ := s1
  have e1 : r.1 = (aN L y 20 s).1 := by rw [hr]; rfl
  have e2 : r.2.1 = (aN L y 9 (aP L y 44 (aN L y 20 s).2)).1 := by rw [hr]; rfl
  have e3 : r.2.2 = aP L y 59 (aN L y 9 (aP L y 44 (aN L y 20 s).2)).2 := by rw [hr]; rfl
  rw [← e1] at q1'
  rw [← e2] at s1'
  rw [← e3] at t2
  have f5 : rf M M5 := rf_trans q3 (rf_trans s3 t3)
  have key : ∀ b, b = decide (M4 140 11 = 4) → ∃ M', f_X9_readsValley_72 M4 (nI (Tnv T)) (nI r.1) (nI r.2.1) b = some M' ∧ RS L y v0 M' r.2.2 ∧ rg M M' ∧ (wl r.2.2 = true → EX (M' 147) (addV T (nI r.1) (nI r.2.1)) D) := by
    intro b hb
    rw [← hb] at t1
    unfold f_X9_readsValley_72
    rw [t1, bdE]
    cases hs : r.2.2 with
    | inr e =>
      rw [hs] at t2
      rw [if_neg (rWellF hL t2)]
      exact ⟨M5, rfl, t2, rg_rf f5, fun z => by cases z⟩
    | inl p =>
      rw [hs] at t2
      have h147 : M5 147 = M 147 := f5.1 147 (by decide)
      have hn2 : M5 147 2 = nI (Tnv T) := by rw [h147]; exact hX.2.1
      rw [if_pos (rWellT t2), q6, chk_ix (by omega) (by decide), cl_nI (by omega), nmE, q11, chk_ix (by omega) (by decide), cl_nI (by omega), nmE, q16, chk_ix (by omega) (by decide), cl_nI (by omega), nmE]
      dsimp only
      have hs2 : st (st (st M5 147 (6 + Tnv T) (nI (Tnv T))) 147 (11 + Tnv T) (nI r.1)) 147 (16 + Tnv T) (nI r.2.1) 147 2 = nI (Tnv T) := by
        rw [st_slot (by omega), st_slot (by omega), st_slot (by omega)]; exact hn2
      rw [hs2, nI_sc, nmE]
      refine ⟨_, rfl, RS_cg t2 ?_ ?_, rg_trans (rg_rf f5) (rg_trans rg_st (rg_trans rg_st (rg_trans rg_st rg_st))), fun _ => ?_⟩
      · rw [st_ne (by decide), st_ne (by decide), st_ne (by decide), st_ne (by decide)]
      · rw [st_ne (by decide), st_ne (by decide), st_ne (by decide), st_ne (by decide)]
      · rw [st_i, st_i, st_i, st_i, h147]
        exact rAddV hX hv h6 hl _ _
  unfold f_X9_readsValley_41
  rw [q1', bdE]
  dsimp only
  rw [s1', bdE]
  dsimp only
  by_cases w : M4 140 11 = 4
  · rw [if_pos w]; exact key true (by rw [decide_eq_true w])
  · rw [if_neg w]; exact key false (by rw [decide_eq_false w])
theorem tok_118 {p : Nat} (h : ch L y p = 118) : tok L y p = 1 := by rw [tok_c h, if_neg (by decide), if_pos (by decide), if_pos (by decide)]
theorem rRV (hL : L ≤ 120) {p : Nat} (hR : RS L y v0 M (.inl p)) (hc : ch L y p = 118) (hX : EX (M 147) T D) (hv : Tnv T < 5) (h6 : Tnb T ≤ 6) (hl : Dln D (Tnv T) = Tnv T) {r : Nat × Nat × PS} (hr : r = aV2 L y (aP L y 118 (.inl p))) : ∃ M', f_X9_readsValley M = some M' ∧ RS L y v0 M' r.2.2 ∧ rg M M' ∧ (wl r.2.2 = true → EX (M' 147) (addV T (nI r.1) (nI r.2.1)) D) := by
  have h2 : M 147 2 = nI (Tnv T) := hX.2.1
  have c5 : ¬ (5 : Int32) ≤ nI (Tnv T) := nI_ge (b := 5) hv (by decide)
  obtain ⟨M1, t1, t2, t3⟩ := rTkT hL hR (by rw [tok_118 hc]; decide) 3
  rw [nxt_c hc (by decide) (by decide)] at t2
  have h147 : M1 147 = M 147 := t3.1 147 (by decide)
  have ea : aP L y 118 (.inl p) = .inl (p + 1) := if_pos hc
  rw [ea] at hr
  obtain ⟨M2, u1, u2, u3, u4⟩ := rRV41 hL t2 (by rw [h147]; exact hX) hv h6 hl hr
  refine ⟨M2, ?_, u2, rg_trans (rg_rf t3) u3, u4⟩
  unfold f_X9_readsValley f_X9_readsValley_16
  rw [h2, if_neg c5, t1, bdE]
  dsimp only
  have hM1 : M1 147 2 = nI (Tnv T) := by rw [h147]; exact h2
  rw [if_neg (show ¬ (5 : Int32) ≤ M1 147 2 by rw [hM1]; exact c5), hM1]
  exact u1
/-- one valley too many -/
theorem rRV5 (hL : L ≤ 120) {p : Nat} (hR : RS L y v0 M (.inl p)) (hX : EX (M 147) T D) (hv : Tnv T = 5) : ∃ M', f_X9_readsValley M = some M' ∧ RS L y v0 M' (.inr (3, p)) ∧ rg M M' := by
  have h2 : M 147 2 = nI 5 := by rw [← hv]; exact hX.2.1
  have c5 : (5 : Int32) ≤ nI 5 := by decide
  obtain ⟨M1, t1, t2, t3⟩ := rTkF hR 3
  have t1' : f_X9_takes M false (3 : Int32) = some (0, M1) := t1
  have h147 : M1 147 = M 147 := t3.1 147 (by decide)
  obtain ⟨M2, q1, q2, q3⟩ := rFig hL t2 (m := 20) (by decide)
  obtain ⟨M4, s1, s2, s3⟩ := rNxt hL q2 (m := 9) (by decide)
  have q1' : f_X9_figure M1 0 (20 : Int32) = _ := q1
  have s1' : f_X9_next M2 0 (9 : Int32) = _ := s1
  have s2 : RS L y v0 M4 (.inr (3, p)) := s2
  refine ⟨M4, ?_, s2, rg_rf (rf_trans t3 (rf_trans q3 s3))⟩
  unfold f_X9_readsValley f_X9_readsValley_16 f_X9_readsValley_41 f_X9_readsValley_72
  rw [h2, if_pos c5, t1', bdE]
  dsimp only
  have hM1 : M1 147 2 = nI 5 := by rw [h147]; exact h2
  rw [if_pos (show (5 : Int32) ≤ M1 147 2 by rw [hM1]; exact c5), q1', bdE]
  dsimp only
  rw [s1', bdE]
  dsimp only
  rw [rTkE hL s2, rTkE hL s2, bdE, if_neg (rWellF hL s2)]
  split <;> rfl
def avL (L : Nat) (y : Nat → Int32) : Nat → Nat → TT → PS × TT
  | 0, p, T => (.inr (3, p), T)
  | r + 1, p, T => match (aV2 L y (aP L y 118 (.inl p))).2.2 with
    | .inl p' => if ch L y p' = 118 then avL L y r p' (addV T (nI (aV2 L y (aP L y 118 (.inl p))).1) (nI (aV2 L y (aP L y 118 (.inl p))).2.1)) else (.inl p', addV T (nI (aV2 L y (aP L y 118 (.inl p))).1) (nI (aV2 L y (aP L y 118 (.inl p))).2.1))
    | .inr e => (.inr e, T)
theorem avL_s (r p : Nat) (T : TT) {v : Nat × Nat × PS} (hv : v = aV2 L y (aP L y 118 (.inl p))) : avL L y (r + 1) p T = match v.2.2 with
    | .inl p' => if ch L y p' = 118 then avL L y r p' (addV T (nI v.1) (nI v.2.1)) else (.inl p', addV T (nI v.1) (nI v.2.1))
    | .inr e => (.inr e, T) := by
  subst hv
  exact Eq.trans rfl rfl
theorem addV_WT (hT : WT T) (hv : Tnv T < 5) {a l : Nat} (hl : l ≤ 9) : WT (addV T (nI a) (nI l)) := by
  obtain ⟨h1, h2, h3, h4, h5⟩ := hT
  refine ⟨hv, h2, h3, fun v hv' => ?_, h5⟩
  have hv2 : v < Tnv T + 1 := hv'
  show 0 ≤ (upd (Tls T) (Tnv T) (nI l) v).toInt ∧ (upd (Tls T) (Tnv T) (nI l) v).toInt ≤ 9
  by_cases q : v = Tnv T
  · rw [q, pk_us, ti (by omega)]; omega
  · rw [pk_un q]; exact h4 v (by omega)
theorem avL_WT : ∀ (r p : Nat) (T : TT), WT T → Tnb T = 0 → Tnv T + r = 5 → WT (avL L y r p T).2 ∧ Tnb (avL L y r p T).2 = 0 ∧ (wl (avL L y r p T).1 = true → 0 < Tnv (avL L y r p T).2)
  | 0, p, T, h1, h2, h3 => ⟨h1, h2, fun z => by cases z⟩
  | r + 1, p, T, h1, h2, h3 => by
    obtain ⟨v, ev⟩ : ∃ v, v = aV2 L y (aP L y 118 (.inl p)) := ⟨_, rfl⟩
    have hl : v.2.1 ≤ 9 := by rw [ev]; exact aN_le _ _
    have hw := addV_WT h1 (show Tnv T < 5 by omega) (a := v.1) hl
    rw [avL_s r p T ev]
    cases hs : v.2.2 with
    | inr e => exact ⟨h1, h2, fun z => by cases z⟩
    | inl p' =>
      show WT (if ch L y p' = 118 then avL L y r p' (addV T (nI v.1) (nI v.2.1)) else (.inl p', addV T (nI v.1) (nI v.2.1))).2 ∧ Tnb (if ch L y p' = 118 then avL L y r p' (addV T (nI v.1) (nI v.2.1)) else (.inl p', addV T (nI v.1) (nI v.2.1))).2 = 0 ∧ (wl (if ch L y p' = 118 then avL L y r p' (addV T (nI v.1) (nI v.2.1)) else (.inl p', addV T (nI v.1) (nI v.2.1))).1 = true → 0 < Tnv (if ch L y p' = 118 then avL L y r p' (addV T (nI v.1) (nI v.2.1)) else (.inl p', addV T (nI v.1) (nI v.2.1))).2)
      by_cases q : ch L y p' = 118
      · rw [if_pos q]
        exact avL_WT r p' _ hw h2 (by show Tnv T + 1 + r = 5; omega)
      · rw [if_neg q]
        exact ⟨hw, h2, fun _ => Nat.succ_pos _⟩
/-- all valleys, in the class -/
theorem cVL (hL : L ≤ 120) (hl : ∀ j, Dln D j = j) : ∀ (r p : Nat) (T : TT) (M : Mem) (fu : Nat), Tnv T + r = 5 → CS L y v0 M (.inl p) → EC M 14 T D → r < fu → ∃ M', iter (fun rec a => f_X6_readValleys_2 14 rec a.1 a.2) fu (M, nI (Tnv T)) = some (wl (avL L y r p T).1, M') ∧ CS L y v0 M' (avL L y r p T).1 ∧ (∀ c, c ≠ 2 → c < 15 ∨ 23 < c → M' c = M c) ∧ (wl (avL L y r p T).1 = true → EC M' 14 (avL L y r p T).2 D) := by
  intro r
  induction r with
  | zero =>
    intro p T M fu h5 hC hE hf
    obtain ⟨fu, rfl⟩ : ∃ z, fu = z + 1 := ⟨fu - 1, by omega⟩
    have h4 : M 2 4 = nI p := hC.2.2.2.2.1
    obtain ⟨M', f1, f2, f3⟩ := cFail (v0 := v0) hC.1 hC.2.1 (k := 3) hC.2.2.1
    have f1' : f_X6_fail M (3 : Int32) (nI p) = (false, M') := f1
    refine ⟨M', ?_, f2, fun c h1 _ => f3 c h1, fun z => by cases z⟩
    rw [iter_s]
    show f_X6_readValleys_2 14 _ M (nI (Tnv T)) = _
    unfold f_X6_readValleys_2
    rw [if_pos (show (5 : Int32) ≤ nI (Tnv T) by rw [show Tnv T = 5 by omega]; decide), h4, f1', nmE]
    rfl
  | succ r ih =>
    intro p T M fu h5 hC hE hf
    obtain ⟨fu, rfl⟩ : ∃ z, fu = z + 1 := ⟨fu - 1, by omega⟩
    obtain ⟨v, ev⟩ : ∃ v, v = aV2 L y (aP L y 118 (.inl p)) := ⟨_, rfl⟩
    obtain ⟨M1, u1, u2, u3, u4⟩ := cRV hL hC hE (show Tnv T < 5 by omega) (hl _) ev
    have c5 : ¬ (5 : Int32) ≤ nI (Tnv T) := nI_ge (b := 5) (by omega) (by decide)
    rw [iter_s]
    show ∃ M', f_X6_readValleys_2 14 _ M (nI (Tnv T)) = _ ∧ _
    generalize hrec : iter (fun rec a => f_X6_readValleys_2 14 rec a.1 a.2) fu = rr
    unfold f_X6_readValleys_2
    rw [if_neg c5, u1, bdE, avL_s r p T ev]
    cases hs : v.2.2 with
    | inr e =>
      rw [hs] at u2
      rw [if_neg (show ¬ wl (.inr e : PS) = true from fun z => by cases z)]
      exact ⟨M1, rfl, u2, u3, fun z => by cases z⟩
    | inl p' =>
      rw [hs] at u2 u4
      have hE1 := u4 rfl
      have h4 : M1 2 4 = nI p' := u2.2.2.2.2.1
      have hlet := cLet hL u2.1 u2.2.1 u2.2.2.1
      rw [if_pos (show wl (.inl p' : PS) = true from rfl)]
      dsimp only
      rw [h4, hlet, bdE]
      by_cases q : ch L y p' = 118
      · rw [if_pos q, if_pos q, nmE, nI_sc]
        obtain ⟨M2, w1, w2, w3, w4⟩ := ih p' (addV T (nI v.1) (nI v.2.1)) M1 fu (by show Tnv T + 1 + r = 5; omega) u2 hE1 (by omega)
        rw [hrec] at w1
        exact ⟨M2, w1, w2, fun c h1 h2 => (w3 c h1 h2).trans (u3 c h1 h2), w4⟩
      · rw [if_neg q, if_neg q]
        exact ⟨M1, rfl, u2, u3, fun _ => hE1⟩
def k157 (M : Mem) : Option (Int32 × Mem) := iter (fun rec a => f_X9_flight_157 rec a) fuel M
theorem f126 (rec : Mem → Option (Int32 × Mem)) (M : Mem) : f_X9_flight_126 rec M = if f_X9_isWell M = true then (if M 140 11 = (1 : Int32) then (if M 140 12 = (118 : Int32) then (f_X9_readsValley M).bind (fun q => rec q) else k157 M) else k157 M) else k157 M := by
  unfold f_X9_flight_126 k157
  exact rfl
theorem r126F (hL : L ≤ 120) {e : Nat × Nat} (hR : RS L y v0 M (.inr e)) (rec : Mem → Option (Int32 × Mem)) : f_X9_flight_126 rec M = k157 M := by
  rw [f126, if_neg (rWellF hL hR)]
theorem r126N {p : Nat} (hR : RS L y v0 M (.inl p)) (hc : ¬ ch L y p = 118) (rec : Mem → Option (Int32 × Mem)) : f_X9_flight_126 rec M = k157 M := by
  have h11 : M 140 11 = nI (tok L y p) := hR.2.2.2.2.2.2.1
  have ht6 := tok_lt6 (L := L) (y := y) p
  have e1 : (nI (tok L y p) = (1 : Int32)) ↔ tok L y p = 1 := nI_eq (b := 1) (by omega) (by decide)
  rw [f126, if_pos (rWellT hR), h11]
  by_cases q : tok L y p = 1
  · have h12 : M 140 12 = tv L y p := (hR.2.2.2.2.2.2.2 (by omega)).1
    rw [if_pos (e1.mpr q), h12, (tok_1 q).2.1, if_neg hc]
  · rw [if_neg (fun z => q (e1.mp z))]
theorem r126Y {p : Nat} (hR : RS L y v0 M (.inl p)) (hc : ch L y p = 118) (rec : Mem → Option (Int32 × Mem)) : f_X9_flight_126 rec M = (f_X9_readsValley M).bind (fun q => rec q) := by
  have h11 : M 140 11 = nI (tok L y p) := hR.2.2.2.2.2.2.1
  have ht := tok_118 hc
  have h12 : M 140 12 = tv L y p := (hR.2.2.2.2.2.2.2 (by omega)).1
  rw [f126, if_pos (rWellT hR), h11, ht, if_pos (show nI 1 = (1 : Int32) from rfl), h12, tv_c hc (by decide), if_pos rfl]
/-- all valleys, in the reference -/
theorem rVL (hL : L ≤ 120) (hl : ∀ j, Dln D j = j) : ∀ (r p : Nat) (T : TT) (M : Mem) (fu : Nat), Tnv T + r = 5 → Tnb T ≤ 6 → RS L y v0 M (.inl p) → ch L y p = 118 → EX (M 147) T D → r + 1 < fu → ∃ M', iter (fun rec a => f_X9_flight_126 rec a) fu M = k157 M' ∧ RS L y v0 M' (avL L y r p T).1 ∧ rg M M' ∧ (wl (avL L y r p T).1 = true → EX (M' 147) (avL L y r p T).2 D) := by
  intro r
  induction r with
  | zero =>
    intro p T M fu h5 h6 hR hc hX hf
    obtain ⟨fu, rfl⟩ : ∃ z, fu = z + 2 := ⟨fu - 2, by omega⟩
    obtain ⟨M1, u1, u2, u3⟩ := rRV5 hL hR hX (by omega)
    refine ⟨M1, ?_, u2, u3, fun z => by cases z⟩
    rw [iter_s]
    show f_X9_flight_126 _ M = _
    rw [r126Y hR hc, u1, bdE, iter_s]
    exact r126F hL u2 _
  | succ r ih =>
    intro p T M fu h5 h6 hR hc hX hf
    obtain ⟨fu, rfl⟩ : ∃ z, fu = z + 2 := ⟨fu - 2, by omega⟩
    obtain ⟨v, ev⟩ : ∃ v, v = aV2 L y (aP L y 118 (.inl p)) := ⟨_, rfl⟩
    obtain ⟨M1, u1, u2, u3, u4⟩ := rRV hL hR hc hX (show Tnv T < 5 by omega) h6 (hl _) ev
    rw [iter_s]
    show ∃ M', f_X9_flight_126 _ M = _ ∧ _
    rw [r126Y hR hc, u1, bdE, avL_s r p T ev]
    cases hs : v.2.2 with
    | inr e =>
      rw [hs] at u2
      refine ⟨M1, ?_, u2, u3, fun z => by cases z⟩
      rw [iter_s]
      exact r126F hL u2 _
    | inl p' =>
      rw [hs] at u2 u4
      have hX1 := u4 rfl
      dsimp only
      by_cases q : ch L y p' = 118
      · obtain ⟨M2, w1, w2, w3, w4⟩ := ih p' (addV T (nI v.1) (nI v.2.1)) M1 (fu + 1) (by show Tnv T + 1 + r = 5; omega) h6 u2 q hX1 (by omega)
        rw [if_pos q]
        exact ⟨M2, w1, w2, rg_trans u3 w3, w4⟩
      · rw [if_neg q]
        refine ⟨M1, ?_, u2, u3, fun _ => hX1⟩
        rw [iter_s]
        exact r126N u2 q _
end VL
