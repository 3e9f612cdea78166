/-! THE LAW: one call, then all -/
theorem p6 (a : Nat) : nI a + 6 = nI (a + 6) := nI_add a 6
section LW
variable {B : Nat} {M : Mem} {xs : Nat → Int32} {L i : Nat}
theorem go2 {c m : Mem → Option (Int32 × Mem)} (h : Ok2 B M c m) : ∃ M2, Rel (B + 6) M2 ∧ ∀ (rec : Mem × Int32 → Option (Bool × Mem)) (i : Nat), ((c M).bind fun q => (m q.2).bind fun u => if q.1 = u.1 then nm (nI i + 6) fun z => rec (u.2, z) else some (false, u.2)) = rec (M2, nI (i + 6)) := by
  obtain ⟨r, M1, M2, h1, h2, h3⟩ := h
  refine ⟨M2, h3, fun rec i => ?_⟩
  rw [h1, bdE]
  dsimp only
  rw [h2, bdE, if_pos rfl, nmE, p6]
theorem go1 {a b : Option Int32} (h : ∃ r, a = some r ∧ b = some r) (rec : Mem × Int32 → Option (Bool × Mem)) (i : Nat) : (a.bind fun q => b.bind fun u => if q = u then nm (nI i + 6) fun z => rec (M, z) else some (false, M)) = rec (M, nI (i + 6)) := by
  obtain ⟨r, h1, h2⟩ := h
  rw [h1, bdE, h2, bdE, if_pos rfl, nmE, p6]
theorem l_ge6 (hL : L ≤ 384) (hi : i + 6 ≤ L) : ¬ (Int32.ofNat L - 6 < nI i) := by
  have e6 : (6 : Int32).toInt = 6 := rfl
  have eL : (Int32.ofNat L).toInt = (L : Int) := ti (show L < 2 ^ 31 by omega)
  rw [i_lt, ti_sub (by omega) (by omega), ti (by omega)]
  omega
theorem l_lt6 (hL : L ≤ 384) (hi : L < i + 6) (hi2 : i ≤ 384) : Int32.ofNat L - 6 < nI i := by
  have e6 : (6 : Int32).toInt = 6 := rfl
  have eL : (Int32.ofNat L).toInt = (L : Int) := ti (show L < 2 ^ 31 by omega)
  rw [i_lt, ti_sub (by omega) (by omega), ti (by omega)]
  omega
def LwStp (B : Nat) (M : Mem) (xs : Nat → Int32) (L i : Nat) : Prop := ∃ M2, Rel (B + 6) M2 ∧ ∀ rec, f_law_18 xs L rec M (nI i) = rec (M2, nI (i + 6))
theorem law_0 (hR : Rel B M) (hB : B ≤ 900000) (hL : L ≤ 384) (hi : i + 6 ≤ L) (hv : xs i &&& 63 = 0) : LwStp B M xs L i := by
  obtain ⟨M2, h1, h2⟩ := go2 (ok_row hR (xs (i + 1)) (xs (i + 2)) (xs (i + 3)))
  refine ⟨M2, h1, fun rec => ?_⟩
  unfold f_law_18
  rw [if_neg (l_ge6 hL hi), chk_ix (by omega) (by omega), cl_nI (by omega), hv, nmE, if_pos (by decide)]
  rw [nI_sc, p2, p3, chk_ix (by omega) (by omega), chk_ix (by omega) (by omega), chk_ix (by omega) (by omega), cl_nI (by omega), cl_nI (by omega), cl_nI (by omega)]
  exact h2 rec i
theorem law_1 (hR : Rel B M) (hB : B ≤ 900000) (hL : L ≤ 384) (hi : i + 6 ≤ L) (hv : xs i &&& 63 = 1) : LwStp B M xs L i := by
  obtain ⟨M2, h1, h2⟩ := go2 (ok_set hR (xs (i + 1)) (xs (i + 2)) (xs (i + 3)))
  refine ⟨M2, h1, fun rec => ?_⟩
  unfold f_law_18
  rw [if_neg (l_ge6 hL hi), chk_ix (by omega) (by omega), cl_nI (by omega), hv, nmE, if_neg (by decide), if_pos (by decide)]
  rw [nI_sc, p2, p3, chk_ix (by omega) (by omega), chk_ix (by omega) (by omega), chk_ix (by omega) (by omega), cl_nI (by omega), cl_nI (by omega), cl_nI (by omega)]
  exact h2 rec i
theorem law_2 (hR : Rel B M) (hB : B ≤ 900000) (hL : L ≤ 384) (hi : i + 6 ≤ L) (hv : xs i &&& 63 = 2) : LwStp B M xs L i := by
  obtain ⟨M2, h1, h2⟩ := go2 (ok_copy hR (xs (i + 1)) (xs (i + 2)) (xs (i + 3)) (xs (i + 4)) (xs (i + 5)))
  refine ⟨M2, h1, fun rec => ?_⟩
  unfold f_law_18
  rw [if_neg (l_ge6 hL hi), chk_ix (by omega) (by omega), cl_nI (by omega), hv, nmE, if_neg (by decide), if_neg (by decide), if_pos (by decide)]
  rw [nI_sc, p2, p3, p4, p5, chk_ix (by omega) (by omega), chk_ix (by omega) (by omega), chk_ix (by omega) (by omega), chk_ix (by omega) (by omega), chk_ix (by omega) (by omega), cl_nI (by omega), cl_nI (by omega), cl_nI (by omega), cl_nI (by omega), cl_nI (by omega)]
  exact h2 rec i
theorem law_3 (hR : Rel B M) (hB : B ≤ 900000) (hL : L ≤ 384) (hi : i + 6 ≤ L) (hv : xs i &&& 63 = 3) : LwStp B M xs L i := by
  obtain ⟨M2, h1, h2⟩ := go2 (ok_drop hR (xs (i + 1)))
  refine ⟨M2, h1, fun rec => ?_⟩
  unfold f_law_18
  rw [if_neg (l_ge6 hL hi), chk_ix (by omega) (by omega), cl_nI (by omega), hv, nmE, if_neg (by decide), if_neg (by decide), if_neg (by decide), if_pos (by decide)]
  rw [nI_sc, chk_ix (by omega) (by omega), cl_nI (by omega)]
  exact h2 rec i
theorem law_4 (hR : Rel B M) (hB : B ≤ 900000) (hL : L ≤ 384) (hi : i + 6 ≤ L) (hv : xs i &&& 63 = 4) : LwStp B M xs L i := by
  obtain ⟨M2, h1, h2⟩ := go2 (ok_feed hR (xs (i + 1)))
  refine ⟨M2, h1, fun rec => ?_⟩
  unfold f_law_18
  rw [if_neg (l_ge6 hL hi), chk_ix (by omega) (by omega), cl_nI (by omega), hv, nmE, if_neg (by decide), if_neg (by decide), if_neg (by decide), if_neg (by decide), if_pos (by decide)]
  rw [nI_sc, chk_ix (by omega) (by omega), cl_nI (by omega)]
  exact h2 rec i
theorem law_5 (hR : Rel B M) (hB : B ≤ 900000) (hL : L ≤ 384) (hi : i + 6 ≤ L) (hv : xs i &&& 63 = 5) : LwStp B M xs L i := by
  obtain ⟨M2, h1, h2⟩ := go2 (ok_flight hR )
  refine ⟨M2, h1, fun rec => ?_⟩
  unfold f_law_18
  rw [if_neg (l_ge6 hL hi), chk_ix (by omega) (by omega), cl_nI (by omega), hv, nmE, if_neg (by decide), if_neg (by decide), if_neg (by decide), if_neg (by decide), if_neg (by decide), if_pos (by decide)]
  exact h2 rec i
theorem law_6 (hR : Rel B M) (hB : B ≤ 900000) (hL : L ≤ 384) (hi : i + 6 ≤ L) (hv : xs i &&& 63 = 6) : LwStp B M xs L i := by
  refine ⟨M, rel_mono hR (by omega), fun rec => ?_⟩
  unfold f_law_18
  rw [if_neg (l_ge6 hL hi), chk_ix (by omega) (by omega), cl_nI (by omega), hv, nmE, if_neg (by decide), if_neg (by decide), if_neg (by decide), if_neg (by decide), if_neg (by decide), if_neg (by decide), if_pos (by decide)]
  have e : f_X8_fault M = f_X9_fault M := hR.1.2.1
  rw [if_pos e, nmE, p6]
theorem law_7 (hR : Rel B M) (hB : B ≤ 900000) (hL : L ≤ 384) (hi : i + 6 ≤ L) (hv : xs i &&& 63 = 7) : LwStp B M xs L i := by
  obtain ⟨M2, h1, h2⟩ := go2 (ok_fly hR hB )
  refine ⟨M2, h1, fun rec => ?_⟩
  unfold f_law_18
  rw [if_neg (l_ge6 hL hi), chk_ix (by omega) (by omega), cl_nI (by omega), hv, nmE, if_neg (by decide), if_neg (by decide), if_neg (by decide), if_neg (by decide), if_neg (by decide), if_neg (by decide), if_neg (by decide), if_pos (by decide)]
  exact h2 rec i
theorem law_8 (hR : Rel B M) (hB : B ≤ 900000) (hL : L ≤ 384) (hi : i + 6 ≤ L) (hv : xs i &&& 63 = 8) : LwStp B M xs L i := by
  obtain ⟨M2, h1, h2⟩ := go2 (ok_eat hR (xs (i + 1)))
  refine ⟨M2, h1, fun rec => ?_⟩
  unfold f_law_18
  rw [if_neg (l_ge6 hL hi), chk_ix (by omega) (by omega), cl_nI (by omega), hv, nmE, if_neg (by decide), if_neg (by decide), if_neg (by decide), if_neg (by decide), if_neg (by decide), if_neg (by decide), if_neg (by decide), if_neg (by decide), if_pos (by decide)]
  rw [nI_sc, chk_ix (by omega) (by omega), cl_nI (by omega)]
  exact h2 rec i
theorem law_9 (hR : Rel B M) (hB : B ≤ 900000) (hL : L ≤ 384) (hi : i + 6 ≤ L) (hv : xs i &&& 63 = 9) : LwStp B M xs L i := by
  obtain ⟨M2, h1, h2⟩ := go2 (ok_keep hR (xs (i + 1)) (xs (i + 2)))
  refine ⟨M2, h1, fun rec => ?_⟩
  unfold f_law_18
  rw [if_neg (l_ge6 hL hi), chk_ix (by omega) (by omega), cl_nI (by omega), hv, nmE, if_neg (by decide), if_neg (by decide), if_neg (by decide), if_neg (by decide), if_neg (by decide), if_neg (by decide), if_neg (by decide), if_neg (by decide), if_neg (by decide), if_pos (by decide)]
  rw [nI_sc, p2, chk_ix (by omega) (by omega), chk_ix (by omega) (by omega), cl_nI (by omega), cl_nI (by omega)]
  exact h2 rec i
theorem law_10 (hR : Rel B M) (hB : B ≤ 900000) (hL : L ≤ 384) (hi : i + 6 ≤ L) (hv : xs i &&& 63 = 10) : LwStp B M xs L i := by
  obtain ⟨M2, h1, h2⟩ := go2 (ok_call hR (xs (i + 1)))
  refine ⟨M2, h1, fun rec => ?_⟩
  unfold f_law_18
  rw [if_neg (l_ge6 hL hi), chk_ix (by omega) (by omega), cl_nI (by omega), hv, nmE, if_neg (by decide), if_neg (by decide), if_neg (by decide), if_neg (by decide), if_neg (by decide), if_neg (by decide), if_neg (by decide), if_neg (by decide), if_neg (by decide), if_neg (by decide), if_pos (by decide)]
  rw [nI_sc, chk_ix (by omega) (by omega), cl_nI (by omega)]
  exact h2 rec i
theorem law_11 (hR : Rel B M) (hB : B ≤ 900000) (hL : L ≤ 384) (hi : i + 6 ≤ L) (hv : xs i &&& 63 = 11) : LwStp B M xs L i := by
  obtain ⟨M2, h1, h2⟩ := go2 (ok_swap hR )
  refine ⟨M2, h1, fun rec => ?_⟩
  unfold f_law_18
  rw [if_neg (l_ge6 hL hi), chk_ix (by omega) (by omega), cl_nI (by omega), hv, nmE, if_neg (by decide), if_neg (by decide), if_neg (by decide), if_neg (by decide), if_neg (by decide), if_neg (by decide), if_neg (by decide), if_neg (by decide), if_neg (by decide), if_neg (by decide), if_neg (by decide), if_pos (by decide)]
  exact h2 rec i
theorem law_12 (hR : Rel B M) (hB : B ≤ 900000) (hL : L ≤ 384) (hi : i + 6 ≤ L) (hv : xs i &&& 63 = 12) : LwStp B M xs L i := by
  obtain ⟨M2, h1, h2⟩ := go2 (ok_undo hR )
  refine ⟨M2, h1, fun rec => ?_⟩
  unfold f_law_18
  rw [if_neg (l_ge6 hL hi), chk_ix (by omega) (by omega), cl_nI (by omega), hv, nmE, if_neg (by decide), if_neg (by decide), if_neg (by decide), if_neg (by decide), if_neg (by decide), if_neg (by decide), if_neg (by decide), if_neg (by decide), if_neg (by decide), if_neg (by decide), if_neg (by decide), if_neg (by decide), if_pos (by decide)]
  exact h2 rec i
theorem law_13 (hR : Rel B M) (hB : B ≤ 900000) (hL : L ≤ 384) (hi : i + 6 ≤ L) (hv : xs i &&& 63 = 13) : LwStp B M xs L i := by
  refine ⟨M, rel_mono hR (by omega), fun rec => ?_⟩
  unfold f_law_18
  rw [if_neg (l_ge6 hL hi), chk_ix (by omega) (by omega), cl_nI (by omega), hv, nmE, if_neg (by decide), if_neg (by decide), if_neg (by decide), if_neg (by decide), if_neg (by decide), if_neg (by decide), if_neg (by decide), if_neg (by decide), if_neg (by decide), if_neg (by decide), if_neg (by decide), if_neg (by decide), if_neg (by decide), if_pos (by decide)]
  rw [nI_sc, p2, chk_ix (by omega) (by omega), chk_ix (by omega) (by omega), cl_nI (by omega), cl_nI (by omega)]
  exact go1 (ok_bird hR (xs (i + 1)) (xs (i + 2))) rec i
theorem law_14 (hR : Rel B M) (hB : B ≤ 900000) (hL : L ≤ 384) (hi : i + 6 ≤ L) (hv : xs i &&& 63 = 14) : LwStp B M xs L i := by
  refine ⟨M, rel_mono hR (by omega), fun rec => ?_⟩
  unfold f_law_18
  rw [if_neg (l_ge6 hL hi), chk_ix (by omega) (by omega), cl_nI (by omega), hv, nmE, if_neg (by decide), if_neg (by decide), if_neg (by decide), if_neg (by decide), if_neg (by decide), if_neg (by decide), if_neg (by decide), if_neg (by decide), if_neg (by decide), if_neg (by decide), if_neg (by decide), if_neg (by decide), if_neg (by decide), if_neg (by decide), if_pos (by decide)]
  rw [nI_sc, p2, chk_ix (by omega) (by omega), chk_ix (by omega) (by omega), cl_nI (by omega), cl_nI (by omega)]
  exact go1 (ok_valley hR (xs (i + 1)) (xs (i + 2))) rec i
theorem law_15 (hR : Rel B M) (hB : B ≤ 900000) (hL : L ≤ 384) (hi : i + 6 ≤ L) (hv : xs i &&& 63 = 15) : LwStp B M xs L i := by
  obtain ⟨M2, h1, h2⟩ := go2 (ok_arrive hR hB )
  refine ⟨M2, h1, fun rec => ?_⟩
  unfold f_law_18
  rw [if_neg (l_ge6 hL hi), chk_ix (by omega) (by omega), cl_nI (by omega), hv, nmE, if_neg (by decide), if_neg (by decide), if_neg (by decide), if_neg (by decide), if_neg (by decide), if_neg (by decide), if_neg (by decide), if_neg (by decide), if_neg (by decide), if_neg (by decide), if_neg (by decide), if_neg (by decide), if_neg (by decide), if_neg (by decide), if_neg (by decide), if_pos (by decide)]
  exact h2 rec i
theorem law_16 (hR : Rel B M) (hB : B ≤ 900000) (hL : L ≤ 384) (hi : i + 6 ≤ L) (hv : xs i &&& 63 = 16) : LwStp B M xs L i := by
  obtain ⟨M2, h1, h2⟩ := go2 (ok_where hR hB (xs (i + 1)))
  refine ⟨M2, h1, fun rec => ?_⟩
  unfold f_law_18
  rw [if_neg (l_ge6 hL hi), chk_ix (by omega) (by omega), cl_nI (by omega), hv, nmE, if_neg (by decide), if_neg (by decide), if_neg (by decide), if_neg (by decide), if_neg (by decide), if_neg (by decide), if_neg (by decide), if_neg (by decide), if_neg (by decide), if_neg (by decide), if_neg (by decide), if_neg (by decide), if_neg (by decide), if_neg (by decide), if_neg (by decide), if_neg (by decide), if_pos (by decide)]
  rw [nI_sc, chk_ix (by omega) (by omega), cl_nI (by omega)]
  exact h2 rec i
theorem law_17 (hR : Rel B M) (hB : B ≤ 900000) (hL : L ≤ 384) (hi : i + 6 ≤ L) (hv : xs i &&& 63 = 17) : LwStp B M xs L i := by
  obtain ⟨M2, h1, h2⟩ := go2 (ok_strength hR hB (xs (i + 1)) (xs (i + 2)))
  refine ⟨M2, h1, fun rec => ?_⟩
  unfold f_law_18
  rw [if_neg (l_ge6 hL hi), chk_ix (by omega) (by omega), cl_nI (by omega), hv, nmE, if_neg (by decide), if_neg (by decide), if_neg (by decide), if_neg (by decide), if_neg (by decide), if_neg (by decide), if_neg (by decide), if_neg (by decide), if_neg (by decide), if_neg (by decide), if_neg (by decide), if_neg (by decide), if_neg (by decide), if_neg (by decide), if_neg (by decide), if_neg (by decide), if_neg (by decide), if_pos (by decide)]
  rw [nI_sc, p2, chk_ix (by omega) (by omega), chk_ix (by omega) (by omega), cl_nI (by omega), cl_nI (by omega)]
  exact h2 rec i
theorem law_18 (hR : Rel B M) (hB : B ≤ 900000) (hL : L ≤ 384) (hi : i + 6 ≤ L) (hv : xs i &&& 63 = 18) : LwStp B M xs L i := by
  obtain ⟨M2, h1, h2⟩ := go2 (ok_order hR hB (xs (i + 1)))
  refine ⟨M2, h1, fun rec => ?_⟩
  unfold f_law_18
  rw [if_neg (l_ge6 hL hi), chk_ix (by omega) (by omega), cl_nI (by omega), hv, nmE, if_neg (by decide), if_neg (by decide), if_neg (by decide), if_neg (by decide), if_neg (by decide), if_neg (by decide), if_neg (by decide), if_neg (by decide), if_neg (by decide), if_neg (by decide), if_neg (by decide), if_neg (by decide), if_neg (by decide), if_neg (by decide), if_neg (by decide), if_neg (by decide), if_neg (by decide), if_neg (by decide), if_pos (by decide)]
  rw [nI_sc, chk_ix (by omega) (by omega), cl_nI (by omega)]
  exact h2 rec i
theorem law_19 (hR : Rel B M) (hB : B ≤ 900000) (hL : L ≤ 384) (hi : i + 6 ≤ L) (hv : xs i &&& 63 = 19) : LwStp B M xs L i := by
  obtain ⟨M2, h1, h2⟩ := go2 (ok_toKeep hR hB (xs (i + 1)))
  refine ⟨M2, h1, fun rec => ?_⟩
  unfold f_law_18
  rw [if_neg (l_ge6 hL hi), chk_ix (by omega) (by omega), cl_nI (by omega), hv, nmE, if_neg (by decide), if_neg (by decide), if_neg (by decide), if_neg (by decide), if_neg (by decide), if_neg (by decide), if_neg (by decide), if_neg (by decide), if_neg (by decide), if_neg (by decide), if_neg (by decide), if_neg (by decide), if_neg (by decide), if_neg (by decide), if_neg (by decide), if_neg (by decide), if_neg (by decide), if_neg (by decide), if_neg (by decide), if_pos (by decide)]
  rw [nI_sc, chk_ix (by omega) (by omega), cl_nI (by omega)]
  exact h2 rec i
theorem law_20 (hR : Rel B M) (hB : B ≤ 900000) (hL : L ≤ 384) (hi : i + 6 ≤ L) (hv : xs i &&& 63 = 20) : LwStp B M xs L i := by
  obtain ⟨M2, h1, h2⟩ := go2 (ok_whole hR hB (xs (i + 1)) (xs (i + 2)))
  refine ⟨M2, h1, fun rec => ?_⟩
  unfold f_law_18
  rw [if_neg (l_ge6 hL hi), chk_ix (by omega) (by omega), cl_nI (by omega), hv, nmE, if_neg (by decide), if_neg (by decide), if_neg (by decide), if_neg (by decide), if_neg (by decide), if_neg (by decide), if_neg (by decide), if_neg (by decide), if_neg (by decide), if_neg (by decide), if_neg (by decide), if_neg (by decide), if_neg (by decide), if_neg (by decide), if_neg (by decide), if_neg (by decide), if_neg (by decide), if_neg (by decide), if_neg (by decide), if_neg (by decide), if_pos (by decide)]
  rw [nI_sc, p2, chk_ix (by omega) (by omega), chk_ix (by omega) (by omega), cl_nI (by omega), cl_nI (by omega)]
  exact h2 rec i
theorem law_21 (hR : Rel B M) (hB : B ≤ 900000) (hL : L ≤ 384) (hi : i + 6 ≤ L) (hv : xs i &&& 63 = 21) : LwStp B M xs L i := by
  obtain ⟨M2, h1, h2⟩ := go2 (ok_meal hR hB (xs (i + 1)))
  refine ⟨M2, h1, fun rec => ?_⟩
  unfold f_law_18
  rw [if_neg (l_ge6 hL hi), chk_ix (by omega) (by omega), cl_nI (by omega), hv, nmE, if_neg (by decide), if_neg (by decide), if_neg (by decide), if_neg (by decide), if_neg (by decide), if_neg (by decide), if_neg (by decide), if_neg (by decide), if_neg (by decide), if_neg (by decide), if_neg (by decide), if_neg (by decide), if_neg (by decide), if_neg (by decide), if_neg (by decide), if_neg (by decide), if_neg (by decide), if_neg (by decide), if_neg (by decide), if_neg (by decide), if_neg (by decide), if_pos (by decide)]
  rw [nI_sc, chk_ix (by omega) (by omega), cl_nI (by omega)]
  exact h2 rec i
theorem law_22 (hR : Rel B M) (hB : B ≤ 900000) (hL : L ≤ 384) (hi : i + 6 ≤ L) (hv : xs i &&& 63 = 22) : LwStp B M xs L i := by
  obtain ⟨M2, h1, h2⟩ := go2 (ok_catches hR hB (xs (i + 1)))
  refine ⟨M2, h1, fun rec => ?_⟩
  unfold f_law_18
  rw [if_neg (l_ge6 hL hi), chk_ix (by omega) (by omega), cl_nI (by omega), hv, nmE, if_neg (by decide), if_neg (by decide), if_neg (by decide), if_neg (by decide), if_neg (by decide), if_neg (by decide), if_neg (by decide), if_neg (by decide), if_neg (by decide), if_neg (by decide), if_neg (by decide), if_neg (by decide), if_neg (by decide), if_neg (by decide), if_neg (by decide), if_neg (by decide), if_neg (by decide), if_neg (by decide), if_neg (by decide), if_neg (by decide), if_neg (by decide), if_neg (by decide), if_pos (by decide)]
  rw [nI_sc, chk_ix (by omega) (by omega), cl_nI (by omega)]
  exact h2 rec i
theorem law_23 (hR : Rel B M) (hB : B ≤ 900000) (hL : L ≤ 384) (hi : i + 6 ≤ L) (hv : xs i &&& 63 = 23) : LwStp B M xs L i := by
  refine ⟨M, rel_mono hR (by omega), fun rec => ?_⟩
  unfold f_law_18
  rw [if_neg (l_ge6 hL hi), chk_ix (by omega) (by omega), cl_nI (by omega), hv, nmE, if_neg (by decide), if_neg (by decide), if_neg (by decide), if_neg (by decide), if_neg (by decide), if_neg (by decide), if_neg (by decide), if_neg (by decide), if_neg (by decide), if_neg (by decide), if_neg (by decide), if_neg (by decide), if_neg (by decide), if_neg (by decide), if_neg (by decide), if_neg (by decide), if_neg (by decide), if_neg (by decide), if_neg (by decide), if_neg (by decide), if_neg (by decide), if_neg (by decide), if_neg (by decide), if_pos (by decide)]
  rw [nI_sc, chk_ix (by omega) (by omega), cl_nI (by omega)]
  exact go1 (ok_beloved hR (xs (i + 1))) rec i
theorem law_24 (hR : Rel B M) (hB : B ≤ 900000) (hL : L ≤ 384) (hi : i + 6 ≤ L) (hv : xs i &&& 63 = 24) : LwStp B M xs L i := by
  obtain ⟨M2, h1, h2⟩ := go2 (ok_fits hR hB (xs (i + 1)) (xs (i + 2)) (xs (i + 3)) (xs (i + 4)) (xs (i + 5)))
  refine ⟨M2, h1, fun rec => ?_⟩
  unfold f_law_18
  rw [if_neg (l_ge6 hL hi), chk_ix (by omega) (by omega), cl_nI (by omega), hv, nmE, if_neg (by decide), if_neg (by decide), if_neg (by decide), if_neg (by decide), if_neg (by decide), if_neg (by decide), if_neg (by decide), if_neg (by decide), if_neg (by decide), if_neg (by decide), if_neg (by decide), if_neg (by decide), if_neg (by decide), if_neg (by decide), if_neg (by decide), if_neg (by decide), if_neg (by decide), if_neg (by decide), if_neg (by decide), if_neg (by decide), if_neg (by decide), if_neg (by decide), if_neg (by decide), if_neg (by decide), if_pos (by decide)]
  rw [nI_sc, p2, p3, p4, p5, chk_ix (by omega) (by omega), chk_ix (by omega) (by omega), chk_ix (by omega) (by omega), chk_ix (by omega) (by omega), chk_ix (by omega) (by omega), cl_nI (by omega), cl_nI (by omega), cl_nI (by omega), cl_nI (by omega), cl_nI (by omega)]
  exact h2 rec i
theorem law_25 (hR : Rel B M) (hB : B ≤ 900000) (hL : L ≤ 384) (hi : i + 6 ≤ L) (hv : xs i &&& 63 = 25) : LwStp B M xs L i := by
  obtain ⟨M2, h1, h2⟩ := go2 (ok_asked hR hB (xs (i + 1)) (xs (i + 2)) (xs (i + 3)))
  refine ⟨M2, h1, fun rec => ?_⟩
  unfold f_law_18
  rw [if_neg (l_ge6 hL hi), chk_ix (by omega) (by omega), cl_nI (by omega), hv, nmE, if_neg (by decide), if_neg (by decide), if_neg (by decide), if_neg (by decide), if_neg (by decide), if_neg (by decide), if_neg (by decide), if_neg (by decide), if_neg (by decide), if_neg (by decide), if_neg (by decide), if_neg (by decide), if_neg (by decide), if_neg (by decide), if_neg (by decide), if_neg (by decide), if_neg (by decide), if_neg (by decide), if_neg (by decide), if_neg (by decide), if_neg (by decide), if_neg (by decide), if_neg (by decide), if_neg (by decide), if_neg (by decide), if_pos (by decide)]
  rw [nI_sc, p2, p3, chk_ix (by omega) (by omega), chk_ix (by omega) (by omega), chk_ix (by omega) (by omega), cl_nI (by omega), cl_nI (by omega), cl_nI (by omega)]
  exact h2 rec i
theorem law_26 (hR : Rel B M) (hB : B ≤ 900000) (hL : L ≤ 384) (hi : i + 6 ≤ L) (hv : xs i &&& 63 = 26) : LwStp B M xs L i := by
  obtain ⟨M2, h1, h2⟩ := go2 (ok_storm hR hB (xs (i + 1)) (xs (i + 2)) (xs (i + 3)))
  refine ⟨M2, h1, fun rec => ?_⟩
  unfold f_law_18
  rw [if_neg (l_ge6 hL hi), chk_ix (by omega) (by omega), cl_nI (by omega), hv, nmE, if_neg (by decide), if_neg (by decide), if_neg (by decide), if_neg (by decide), if_neg (by decide), if_neg (by decide), if_neg (by decide), if_neg (by decide), if_neg (by decide), if_neg (by decide), if_neg (by decide), if_neg (by decide), if_neg (by decide), if_neg (by decide), if_neg (by decide), if_neg (by decide), if_neg (by decide), if_neg (by decide), if_neg (by decide), if_neg (by decide), if_neg (by decide), if_neg (by decide), if_neg (by decide), if_neg (by decide), if_neg (by decide), if_neg (by decide), if_pos (by decide)]
  rw [nI_sc, p2, p3, chk_ix (by omega) (by omega), chk_ix (by omega) (by omega), chk_ix (by omega) (by omega), cl_nI (by omega), cl_nI (by omega), cl_nI (by omega)]
  exact h2 rec i
theorem law_27 (hR : Rel B M) (hB : B ≤ 900000) (hL : L ≤ 384) (hi : i + 6 ≤ L) (hv : xs i &&& 63 = 27) : LwStp B M xs L i := by
  obtain ⟨M2, h1, h2⟩ := go2 (ok_drawn hR hB (xs (i + 1)) (xs (i + 2)) (xs (i + 3)))
  refine ⟨M2, h1, fun rec => ?_⟩
  unfold f_law_18
  rw [if_neg (l_ge6 hL hi), chk_ix (by omega) (by omega), cl_nI (by omega), hv, nmE, if_neg (by decide), if_neg (by decide), if_neg (by decide), if_neg (by decide), if_neg (by decide), if_neg (by decide), if_neg (by decide), if_neg (by decide), if_neg (by decide), if_neg (by decide), if_neg (by decide), if_neg (by decide), if_neg (by decide), if_neg (by decide), if_neg (by decide), if_neg (by decide), if_neg (by decide), if_neg (by decide), if_neg (by decide), if_neg (by decide), if_neg (by decide), if_neg (by decide), if_neg (by decide), if_neg (by decide), if_neg (by decide), if_neg (by decide), if_neg (by decide), if_pos (by decide)]
  rw [nI_sc, p2, p3, chk_ix (by omega) (by omega), chk_ix (by omega) (by omega), chk_ix (by omega) (by omega), cl_nI (by omega), cl_nI (by omega), cl_nI (by omega)]
  exact h2 rec i
theorem law_28 (hR : Rel B M) (hB : B ≤ 900000) (hL : L ≤ 384) (hi : i + 6 ≤ L) (hv : xs i &&& 63 = 28) : LwStp B M xs L i := by
  obtain ⟨M2, h1, h2⟩ := go2 (ok_image hR (xs (i + 1)))
  refine ⟨M2, h1, fun rec => ?_⟩
  unfold f_law_18
  rw [if_neg (l_ge6 hL hi), chk_ix (by omega) (by omega), cl_nI (by omega), hv, nmE, if_neg (by decide), if_neg (by decide), if_neg (by decide), if_neg (by decide), if_neg (by decide), if_neg (by decide), if_neg (by decide), if_neg (by decide), if_neg (by decide), if_neg (by decide), if_neg (by decide), if_neg (by decide), if_neg (by decide), if_neg (by decide), if_neg (by decide), if_neg (by decide), if_neg (by decide), if_neg (by decide), if_neg (by decide), if_neg (by decide), if_neg (by decide), if_neg (by decide), if_neg (by decide), if_neg (by decide), if_neg (by decide), if_neg (by decide), if_neg (by decide), if_neg (by decide), if_pos (by decide)]
  rw [nI_sc, chk_ix (by omega) (by omega), cl_nI (by omega)]
  exact h2 rec i
theorem law_29 (hR : Rel B M) (hB : B ≤ 900000) (hL : L ≤ 384) (hi : i + 6 ≤ L) (hv : xs i &&& 63 = 29) : LwStp B M xs L i := by
  obtain ⟨M2, h1, h2⟩ := go2 (ok_restore hR (xs (i + 1)))
  refine ⟨M2, h1, fun rec => ?_⟩
  unfold f_law_18
  rw [if_neg (l_ge6 hL hi), chk_ix (by omega) (by omega), cl_nI (by omega), hv, nmE, if_neg (by decide), if_neg (by decide), if_neg (by decide), if_neg (by decide), if_neg (by decide), if_neg (by decide), if_neg (by decide), if_neg (by decide), if_neg (by decide), if_neg (by decide), if_neg (by decide), if_neg (by decide), if_neg (by decide), if_neg (by decide), if_neg (by decide), if_neg (by decide), if_neg (by decide), if_neg (by decide), if_neg (by decide), if_neg (by decide), if_neg (by decide), if_neg (by decide), if_neg (by decide), if_neg (by decide), if_neg (by decide), if_neg (by decide), if_neg (by decide), if_neg (by decide), if_neg (by decide), if_pos (by decide)]
  rw [nI_sc, chk_ix (by omega) (by omega), cl_nI (by omega)]
  exact h2 rec i
theorem law_30 (hR : Rel B M) (hB : B ≤ 900000) (hL : L ≤ 384) (hi : i + 6 ≤ L) (hv : xs i &&& 63 = 30) : LwStp B M xs L i := by
  refine ⟨M, rel_mono hR (by omega), fun rec => ?_⟩
  unfold f_law_18
  rw [if_neg (l_ge6 hL hi), chk_ix (by omega) (by omega), cl_nI (by omega), hv, nmE, if_neg (by decide), if_neg (by decide), if_neg (by decide), if_neg (by decide), if_neg (by decide), if_neg (by decide), if_neg (by decide), if_neg (by decide), if_neg (by decide), if_neg (by decide), if_neg (by decide), if_neg (by decide), if_neg (by decide), if_neg (by decide), if_neg (by decide), if_neg (by decide), if_neg (by decide), if_neg (by decide), if_neg (by decide), if_neg (by decide), if_neg (by decide), if_neg (by decide), if_neg (by decide), if_neg (by decide), if_neg (by decide), if_neg (by decide), if_neg (by decide), if_neg (by decide), if_neg (by decide), if_neg (by decide), if_pos (by decide)]
  rw [nI_sc, chk_ix (by omega) (by omega), cl_nI (by omega)]
  exact go1 (ok_kind hR (xs (i + 1))) rec i
theorem law_31 (hR : Rel B M) (hB : B ≤ 900000) (hL : L ≤ 384) (hi : i + 6 ≤ L) (hv : xs i &&& 63 = 31) : LwStp B M xs L i := by
  obtain ⟨M2, h1, h2⟩ := go2 (ok_as hR (xs (i + 1)) (xs (i + 2)))
  refine ⟨M2, h1, fun rec => ?_⟩
  unfold f_law_18
  rw [if_neg (l_ge6 hL hi), chk_ix (by omega) (by omega), cl_nI (by omega), hv, nmE, if_neg (by decide), if_neg (by decide), if_neg (by decide), if_neg (by decide), if_neg (by decide), if_neg (by decide), if_neg (by decide), if_neg (by decide), if_neg (by decide), if_neg (by decide), if_neg (by decide), if_neg (by decide), if_neg (by decide), if_neg (by decide), if_neg (by decide), if_neg (by decide), if_neg (by decide), if_neg (by decide), if_neg (by decide), if_neg (by decide), if_neg (by decide), if_neg (by decide), if_neg (by decide), if_neg (by decide), if_neg (by decide), if_neg (by decide), if_neg (by decide), if_neg (by decide), if_neg (by decide), if_neg (by decide), if_neg (by decide), if_pos (by decide)]
  rw [nI_sc, p2, chk_ix (by omega) (by omega), chk_ix (by omega) (by omega), cl_nI (by omega), cl_nI (by omega)]
  exact h2 rec i
theorem law_32 (hR : Rel B M) (hB : B ≤ 900000) (hL : L ≤ 384) (hi : i + 6 ≤ L) (hv : xs i &&& 63 = 32) : LwStp B M xs L i := by
  obtain ⟨M2, h1, h2⟩ := go2 (ok_ask hR (xs (i + 1)) (xs (i + 2)))
  refine ⟨M2, h1, fun rec => ?_⟩
  unfold f_law_18
  rw [if_neg (l_ge6 hL hi), chk_ix (by omega) (by omega), cl_nI (by omega), hv, nmE, if_neg (by decide), if_neg (by decide), if_neg (by decide), if_neg (by decide), if_neg (by decide), if_neg (by decide), if_neg (by decide), if_neg (by decide), if_neg (by decide), if_neg (by decide), if_neg (by decide), if_neg (by decide), if_neg (by decide), if_neg (by decide), if_neg (by decide), if_neg (by decide), if_neg (by decide), if_neg (by decide), if_neg (by decide), if_neg (by decide), if_neg (by decide), if_neg (by decide), if_neg (by decide), if_neg (by decide), if_neg (by decide), if_neg (by decide), if_neg (by decide), if_neg (by decide), if_neg (by decide), if_neg (by decide), if_neg (by decide), if_neg (by decide), if_pos (by decide)]
  rw [nI_sc, p2, chk_ix (by omega) (by omega), chk_ix (by omega) (by omega), cl_nI (by omega), cl_nI (by omega)]
  exact h2 rec i
theorem law_33 (hR : Rel B M) (hB : B ≤ 900000) (hL : L ≤ 384) (hi : i + 6 ≤ L) (hv : xs i &&& 63 = 33) : LwStp B M xs L i := by
  refine ⟨M, rel_mono hR (by omega), fun rec => ?_⟩
  unfold f_law_18
  rw [if_neg (l_ge6 hL hi), chk_ix (by omega) (by omega), cl_nI (by omega), hv, nmE, if_neg (by decide), if_neg (by decide), if_neg (by decide), if_neg (by decide), if_neg (by decide), if_neg (by decide), if_neg (by decide), if_neg (by decide), if_neg (by decide), if_neg (by decide), if_neg (by decide), if_neg (by decide), if_neg (by decide), if_neg (by decide), if_neg (by decide), if_neg (by decide), if_neg (by decide), if_neg (by decide), if_neg (by decide), if_neg (by decide), if_neg (by decide), if_neg (by decide), if_neg (by decide), if_neg (by decide), if_neg (by decide), if_neg (by decide), if_neg (by decide), if_neg (by decide), if_neg (by decide), if_neg (by decide), if_neg (by decide), if_neg (by decide), if_neg (by decide), if_pos (by decide)]
  rw [nI_sc, chk_ix (by omega) (by omega), cl_nI (by omega)]
  exact go1 (ok_trace hR (xs (i + 1))) rec i
theorem law_34 (hR : Rel B M) (hB : B ≤ 900000) (hL : L ≤ 384) (hi : i + 6 ≤ L) (hv : xs i &&& 63 = 34) : LwStp B M xs L i := by
  refine ⟨M, rel_mono hR (by omega), fun rec => ?_⟩
  unfold f_law_18
  rw [if_neg (l_ge6 hL hi), chk_ix (by omega) (by omega), cl_nI (by omega), hv, nmE, if_neg (by decide), if_neg (by decide), if_neg (by decide), if_neg (by decide), if_neg (by decide), if_neg (by decide), if_neg (by decide), if_neg (by decide), if_neg (by decide), if_neg (by decide), if_neg (by decide), if_neg (by decide), if_neg (by decide), if_neg (by decide), if_neg (by decide), if_neg (by decide), if_neg (by decide), if_neg (by decide), if_neg (by decide), if_neg (by decide), if_neg (by decide), if_neg (by decide), if_neg (by decide), if_neg (by decide), if_neg (by decide), if_neg (by decide), if_neg (by decide), if_neg (by decide), if_neg (by decide), if_neg (by decide), if_neg (by decide), if_neg (by decide), if_neg (by decide), if_neg (by decide), if_pos (by decide)]
  rw [nI_sc, chk_ix (by omega) (by omega), cl_nI (by omega)]
  exact go1 (ok_count hR (xs (i + 1))) rec i
theorem law_35 (hR : Rel B M) (hB : B ≤ 900000) (hL : L ≤ 384) (hi : i + 6 ≤ L) (hv : xs i &&& 63 = 35) : LwStp B M xs L i := by
  refine ⟨M, rel_mono hR (by omega), fun rec => ?_⟩
  unfold f_law_18
  rw [if_neg (l_ge6 hL hi), chk_ix (by omega) (by omega), cl_nI (by omega), hv, nmE, if_neg (by decide), if_neg (by decide), if_neg (by decide), if_neg (by decide), if_neg (by decide), if_neg (by decide), if_neg (by decide), if_neg (by decide), if_neg (by decide), if_neg (by decide), if_neg (by decide), if_neg (by decide), if_neg (by decide), if_neg (by decide), if_neg (by decide), if_neg (by decide), if_neg (by decide), if_neg (by decide), if_neg (by decide), if_neg (by decide), if_neg (by decide), if_neg (by decide), if_neg (by decide), if_neg (by decide), if_neg (by decide), if_neg (by decide), if_neg (by decide), if_neg (by decide), if_neg (by decide), if_neg (by decide), if_neg (by decide), if_neg (by decide), if_neg (by decide), if_neg (by decide), if_neg (by decide), if_pos (by decide)]
  have e : f_X8_status M = f_X9_status M := hR.1.1
  rw [if_pos e, nmE, p6]
theorem law_d (hR : Rel B M) (hL : L ≤ 384) (hi : i + 6 ≤ L) (hv : ∀ c : Nat, c < 36 → ¬ xs i &&& 63 = nI c) : LwStp B M xs L i := by
  refine ⟨M, rel_mono hR (by omega), fun rec => ?_⟩
  unfold f_law_18
  rw [if_neg (l_ge6 hL hi), chk_ix (by omega) (by omega), cl_nI (by omega), nmE]
  rw [if_neg (show ¬ xs i &&& 63 = (0 : Int32) from hv 0 (by decide))]
  rw [if_neg (show ¬ xs i &&& 63 = (1 : Int32) from hv 1 (by decide))]
  rw [if_neg (show ¬ xs i &&& 63 = (2 : Int32) from hv 2 (by decide))]
  rw [if_neg (show ¬ xs i &&& 63 = (3 : Int32) from hv 3 (by decide))]
  rw [if_neg (show ¬ xs i &&& 63 = (4 : Int32) from hv 4 (by decide))]
  rw [if_neg (show ¬ xs i &&& 63 = (5 : Int32) from hv 5 (by decide))]
  rw [if_neg (show ¬ xs i &&& 63 = (6 : Int32) from hv 6 (by decide))]
  rw [if_neg (show ¬ xs i &&& 63 = (7 : Int32) from hv 7 (by decide))]
  rw [if_neg (show ¬ xs i &&& 63 = (8 : Int32) from hv 8 (by decide))]
  rw [if_neg (show ¬ xs i &&& 63 = (9 : Int32) from hv 9 (by decide))]
  rw [if_neg (show ¬ xs i &&& 63 = (10 : Int32) from hv 10 (by decide))]
  rw [if_neg (show ¬ xs i &&& 63 = (11 : Int32) from hv 11 (by decide))]
  rw [if_neg (show ¬ xs i &&& 63 = (12 : Int32) from hv 12 (by decide))]
  rw [if_neg (show ¬ xs i &&& 63 = (13 : Int32) from hv 13 (by decide))]
  rw [if_neg (show ¬ xs i &&& 63 = (14 : Int32) from hv 14 (by decide))]
  rw [if_neg (show ¬ xs i &&& 63 = (15 : Int32) from hv 15 (by decide))]
  rw [if_neg (show ¬ xs i &&& 63 = (16 : Int32) from hv 16 (by decide))]
  rw [if_neg (show ¬ xs i &&& 63 = (17 : Int32) from hv 17 (by decide))]
  rw [if_neg (show ¬ xs i &&& 63 = (18 : Int32) from hv 18 (by decide))]
  rw [if_neg (show ¬ xs i &&& 63 = (19 : Int32) from hv 19 (by decide))]
  rw [if_neg (show ¬ xs i &&& 63 = (20 : Int32) from hv 20 (by decide))]
  rw [if_neg (show ¬ xs i &&& 63 = (21 : Int32) from hv 21 (by decide))]
  rw [if_neg (show ¬ xs i &&& 63 = (22 : Int32) from hv 22 (by decide))]
  rw [if_neg (show ¬ xs i &&& 63 = (23 : Int32) from hv 23 (by decide))]
  rw [if_neg (show ¬ xs i &&& 63 = (24 : Int32) from hv 24 (by decide))]
  rw [if_neg (show ¬ xs i &&& 63 = (25 : Int32) from hv 25 (by decide))]
  rw [if_neg (show ¬ xs i &&& 63 = (26 : Int32) from hv 26 (by decide))]
  rw [if_neg (show ¬ xs i &&& 63 = (27 : Int32) from hv 27 (by decide))]
  rw [if_neg (show ¬ xs i &&& 63 = (28 : Int32) from hv 28 (by decide))]
  rw [if_neg (show ¬ xs i &&& 63 = (29 : Int32) from hv 29 (by decide))]
  rw [if_neg (show ¬ xs i &&& 63 = (30 : Int32) from hv 30 (by decide))]
  rw [if_neg (show ¬ xs i &&& 63 = (31 : Int32) from hv 31 (by decide))]
  rw [if_neg (show ¬ xs i &&& 63 = (32 : Int32) from hv 32 (by decide))]
  rw [if_neg (show ¬ xs i &&& 63 = (33 : Int32) from hv 33 (by decide))]
  rw [if_neg (show ¬ xs i &&& 63 = (34 : Int32) from hv 34 (by decide))]
  rw [if_neg (show ¬ xs i &&& 63 = (35 : Int32) from hv 35 (by decide))]
  rw [nmE, p6]
theorem law_step (hR : Rel B M) (hB : B ≤ 900000) (hL : L ≤ 384) (hi : i + 6 ≤ L) : LwStp B M xs L i := by
  by_cases h0 : xs i &&& 63 = 0
  · exact law_0 hR hB hL hi h0
  by_cases h1 : xs i &&& 63 = 1
  · exact law_1 hR hB hL hi h1
  by_cases h2 : xs i &&& 63 = 2
  · exact law_2 hR hB hL hi h2
  by_cases h3 : xs i &&& 63 = 3
  · exact law_3 hR hB hL hi h3
  by_cases h4 : xs i &&& 63 = 4
  · exact law_4 hR hB hL hi h4
  by_cases h5 : xs i &&& 63 = 5
  · exact law_5 hR hB hL hi h5
  by_cases h6 : xs i &&& 63 = 6
  · exact law_6 hR hB hL hi h6
  by_cases h7 : xs i &&& 63 = 7
  · exact law_7 hR hB hL hi h7
  by_cases h8 : xs i &&& 63 = 8
  · exact law_8 hR hB hL hi h8
  by_cases h9 : xs i &&& 63 = 9
  · exact law_9 hR hB hL hi h9
  by_cases h10 : xs i &&& 63 = 10
  · exact law_10 hR hB hL hi h10
  by_cases h11 : xs i &&& 63 = 11
  · exact law_11 hR hB hL hi h11
  by_cases h12 : xs i &&& 63 = 12
  · exact law_12 hR hB hL hi h12
  by_cases h13 : xs i &&& 63 = 13
  · exact law_13 hR hB hL hi h13
  by_cases h14 : xs i &&& 63 = 14
  · exact law_14 hR hB hL hi h14
  by_cases h15 : xs i &&& 63 = 15
  · exact law_15 hR hB hL hi h15
  by_cases h16 : xs i &&& 63 = 16
  · exact law_16 hR hB hL hi h16
  by_cases h17 : xs i &&& 63 = 17
  · exact law_17 hR hB hL hi h17
  by_cases h18 : xs i &&& 63 = 18
  · exact law_18 hR hB hL hi h18
  by_cases h19 : xs i &&& 63 = 19
  · exact law_19 hR hB hL hi h19
  by_cases h20 : xs i &&& 63 = 20
  · exact law_20 hR hB hL hi h20
  by_cases h21 : xs i &&& 63 = 21
  · exact law_21 hR hB hL hi h21
  by_cases h22 : xs i &&& 63 = 22
  · exact law_22 hR hB hL hi h22
  by_cases h23 : xs i &&& 63 = 23
  · exact law_23 hR hB hL hi h23
  by_cases h24 : xs i &&& 63 = 24
  · exact law_24 hR hB hL hi h24
  by_cases h25 : xs i &&& 63 = 25
  · exact law_25 hR hB hL hi h25
  by_cases h26 : xs i &&& 63 = 26
  · exact law_26 hR hB hL hi h26
  by_cases h27 : xs i &&& 63 = 27
  · exact law_27 hR hB hL hi h27
  by_cases h28 : xs i &&& 63 = 28
  · exact law_28 hR hB hL hi h28
  by_cases h29 : xs i &&& 63 = 29
  · exact law_29 hR hB hL hi h29
  by_cases h30 : xs i &&& 63 = 30
  · exact law_30 hR hB hL hi h30
  by_cases h31 : xs i &&& 63 = 31
  · exact law_31 hR hB hL hi h31
  by_cases h32 : xs i &&& 63 = 32
  · exact law_32 hR hB hL hi h32
  by_cases h33 : xs i &&& 63 = 33
  · exact law_33 hR hB hL hi h33
  by_cases h34 : xs i &&& 63 = 34
  · exact law_34 hR hB hL hi h34
  by_cases h35 : xs i &&& 63 = 35
  · exact law_35 hR hB hL hi h35
  refine law_d hR hL hi (fun c hc e => ?_)
  match c, hc, e with
  | 0, _, e => exact h0 e
  | 1, _, e => exact h1 e
  | 2, _, e => exact h2 e
  | 3, _, e => exact h3 e
  | 4, _, e => exact h4 e
  | 5, _, e => exact h5 e
  | 6, _, e => exact h6 e
  | 7, _, e => exact h7 e
  | 8, _, e => exact h8 e
  | 9, _, e => exact h9 e
  | 10, _, e => exact h10 e
  | 11, _, e => exact h11 e
  | 12, _, e => exact h12 e
  | 13, _, e => exact h13 e
  | 14, _, e => exact h14 e
  | 15, _, e => exact h15 e
  | 16, _, e => exact h16 e
  | 17, _, e => exact h17 e
  | 18, _, e => exact h18 e
  | 19, _, e => exact h19 e
  | 20, _, e => exact h20 e
  | 21, _, e => exact h21 e
  | 22, _, e => exact h22 e
  | 23, _, e => exact h23 e
  | 24, _, e => exact h24 e
  | 25, _, e => exact h25 e
  | 26, _, e => exact h26 e
  | 27, _, e => exact h27 e
  | 28, _, e => exact h28 e
  | 29, _, e => exact h29 e
  | 30, _, e => exact h30 e
  | 31, _, e => exact h31 e
  | 32, _, e => exact h32 e
  | 33, _, e => exact h33 e
  | 34, _, e => exact h34 e
  | 35, _, e => exact h35 e
  | c + 36, hc, _ => exact absurd hc (by omega)
end LW
theorem Mln_z {a k : Nat} (h : a ≠ 141) : Mln 8 a k = 0 := by
  unfold Mln
  rw [stA_ne h]
theorem rel_0 : Rel 0 (Mln 8) := by
  refine ⟨⟨?_, ?_, fun j hj => Or.inl ⟨?_, ?_⟩, ⟨0, by omega, ?_, ?_, fun j hj => absurd hj (Nat.not_lt_zero j)⟩, ⟨0, by omega, ?_, ?_, fun j hj => absurd hj (Nat.not_lt_zero j)⟩, fun k hk => Or.inl ⟨?_, ?_⟩⟩, TL 0, D0, 0, fun _ => D0, TL_WT (by omega), (FI_0 (TL_WT (by omega)) rfl).2.1, by omega, fun q hq => absurd hq (Nat.not_lt_zero q), ?_, ?_, ⟨0, by omega, ?_, ?_, fun q hq => absurd hq (Nat.not_lt_zero q)⟩, ⟨?_, fun q hq => absurd hq (Nat.not_lt_zero q)⟩⟩
  · rw [Mln_z (by decide), Mln_z (by decide)]
  · rw [Mln_z (by decide), Mln_z (by decide)]
  · exact Mln_z (by omega)
  · unfold Mln
    rw [stA_i]
    exact if_pos hj
  · exact Mln_z (by decide)
  · exact Mln_z (by decide)
  · exact Mln_z (by decide)
  · exact Mln_z (by decide)
  · exact Mln_z (by decide)
  · exact Mln_z (by omega)
  · refine ⟨⟨?_, ?_, ?_, fun v hv => absurd hv (Nat.not_lt_zero v), fun b hb => absurd hb (Nat.not_lt_zero b)⟩, ?_, ?_, ?_, ?_, fun b hb => absurd hb (Nat.not_lt_zero b), fun j hj => absurd hj (Nat.not_lt_zero j)⟩
    · exact Mln_z (by decide)
    · exact Mln_z (by decide)
    · exact Mln_z (by decide)
    · exact Mln_z (by decide)
    · exact Mln_z (by decide)
    · exact Mln_z (by decide)
    · exact Mln_z (by decide)
  · refine ⟨?_, ?_, ?_, ?_, ?_, ?_, fun v hv => absurd hv (Nat.not_lt_zero v), fun v hv => absurd hv (Nat.not_lt_zero v), fun b hb => absurd hb (Nat.not_lt_zero b)⟩
    · exact Mln_z (by decide)
    · rw [Mln_z (by decide), if_pos (show Tnv (TL 0) = 0 from rfl)]
    · exact Mln_z (by decide)
    · exact Mln_z (by decide)
    · exact Mln_z (by decide)
    · exact Mln_z (by decide)
  · exact Mln_z (by decide)
  · exact Mln_z (by decide)
  · exact Mln_z (by decide)
theorem pure_law : ∀ (L : Nat) (xs : Nat → Int32), L ≤ 384 → ∃ z, f_law xs L (Mln 8) = some z ∧ z.1 = true := by
  intro L xs hL
  have key := iter_inv (F := fun rec a => f_law_18 xs L rec a.1 a.2) (fun k a => Rel (6 * k) a.1 ∧ a.2 = nI (6 * k)) (L / 6) (fun z => z.1 = true) (fun k a hk hI => ?_) (fun a hI => ?_) fuel 0 (Mln 8, (0 : Int32)) (Nat.zero_le _) (by rw [fuel_eq]; omega) ⟨rel_0, rfl⟩
  · obtain ⟨z, h1, h2⟩ := key
    refine ⟨z, ?_, h1⟩
    unfold f_law
    exact h2
  · obtain ⟨Mk, x⟩ := a
    obtain ⟨hR, ex⟩ := hI
    have hR : Rel (6 * k) Mk := hR
    have ex : x = nI (6 * k) := ex
    obtain ⟨M2, h1, h2⟩ := law_step (xs := xs) (L := L) (i := 6 * k) hR (by omega) hL (by omega)
    left
    refine ⟨(M2, nI (6 * k + 6)), ⟨h1, rfl⟩, fun rec => ?_⟩
    show f_law_18 xs L rec Mk x = _
    rw [ex]
    exact h2 rec
  · obtain ⟨Mk, x⟩ := a
    obtain ⟨hR, ex⟩ := hI
    have ex : x = nI (6 * (L / 6)) := ex
    refine ⟨(true, Mk), rfl, fun rec => ?_⟩
    show f_law_18 xs L rec Mk x = _
    rw [ex]
    unfold f_law_18
    rw [if_pos (l_lt6 hL (by omega) (by omega))]
