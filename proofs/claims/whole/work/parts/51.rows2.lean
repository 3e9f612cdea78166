theorem sh24a (m : Nat) (hm : m < 256) : ((if 2 * (m * 16777216) < 4294967296 then ((m * 16777216 : Nat) : Int) else ((m * 16777216 : Nat) : Int) - (4294967296 : Nat)) / ((16777216 : Nat) : Int)) = if (m : Int) < 128 then (m : Int) else (m : Int) - 256 := by
  have e : ((m * 16777216 : Nat) : Int) = (m : Int) * 16777216 := by rw [Int.natCast_mul]; rfl
  have e2 : ((16777216 : Nat) : Int) = 16777216 := rfl
  rw [e, e2]
  by_cases q : m < 128
  · rw [if_pos (by omega), if_pos (by omega)]
    exact Int.mul_ediv_cancel _ (by decide)
  · rw [if_neg (by omega), if_neg (by omega), show (m : Int) * 16777216 - ((4294967296 : Nat) : Int) = ((m : Int) - 256) * 16777216 by omega]
    exact Int.mul_ediv_cancel _ (by decide)
theorem sh24 (x : Int32) : ((x <<< ((24 : Int32) &&& 31)) >>> ((24 : Int32) &&& 31)).toInt = (x.toInt).bmod 256 := by
  have h1 := pk_shl x ((24 : Int32) &&& 31) 24 (by decide)
  rw [pk_shr (x <<< ((24 : Int32) &&& 31)) ((24 : Int32) &&& 31) 24 (by decide), Int.shiftRight_eq_div_pow]
  have h2 : (x <<< ((24 : Int32) &&& 31)).toInt = (x <<< ((24 : Int32) &&& 31)).toBitVec.toInt := rfl
  have h3 : x.toInt = x.toBitVec.toInt := rfl
  rw [h2, h3, BitVec.toInt_eq_toNat_cond, BitVec.toInt_eq_toNat_cond, h1]
  have hn : x.toBitVec.toNat < 2 ^ 32 := x.toBitVec.isLt
  generalize x.toBitVec.toNat = n at hn
  rw [show (2 : Nat) ^ 32 = 4294967296 from rfl] at hn
  rw [Int.bmod_def, show (2 : Nat) ^ 32 = 4294967296 from rfl, show (2 : Nat) ^ 24 = 16777216 from rfl, show n * 16777216 % 4294967296 = (n % 256) * 16777216 by omega, sh24a (n % 256) (Nat.mod_lt _ (by decide))]
  have e : (if 2 * n < 4294967296 then (n : Int) else (n : Int) - (4294967296 : Nat)) % ((256 : Nat) : Int) = ((n % 256 : Nat) : Int) := by split <;> omega
  rw [e]
  rfl
theorem sh16 (x : Int32) : ((x <<< ((16 : Int32) &&& 31)) >>> ((16 : Int32) &&& 31)).toInt = (x.toInt).bmod 65536 := by
  have h1 := pk_shl x ((16 : Int32) &&& 31) 16 (by decide)
  rw [pk_shr (x <<< ((16 : Int32) &&& 31)) ((16 : Int32) &&& 31) 16 (by decide), Int.shiftRight_eq_div_pow]
  have h2 : (x <<< ((16 : Int32) &&& 31)).toInt = (x <<< ((16 : Int32) &&& 31)).toBitVec.toInt := rfl
  have h3 : x.toInt = x.toBitVec.toInt := rfl
  rw [h2, h3, BitVec.toInt_eq_toNat_cond, BitVec.toInt_eq_toNat_cond, h1]
  have hn : x.toBitVec.toNat < 2 ^ 32 := x.toBitVec.isLt
  generalize x.toBitVec.toNat = n at hn
  rw [show (2 : Nat) ^ 32 = 4294967296 from rfl] at hn
  rw [Int.bmod_def, show (2 : Nat) ^ 32 = 4294967296 from rfl, show (2 : Nat) ^ 16 = 65536 from rfl, show n * 65536 % 4294967296 = (n % 65536) * 65536 by omega]
  split <;> split <;> split <;> omega
theorem cut8 (x : Int32) : ((x <<< ((24 : Int32) &&& 31)) >>> ((24 : Int32) &&& 31)) = x.toInt8.toInt32 := by
  rw [i_eq, sh24, Int8.toInt_toInt32, Int32.toInt_toInt8]
theorem cut16 (x : Int32) : ((x <<< ((16 : Int32) &&& 31)) >>> ((16 : Int32) &&& 31)) = x.toInt16.toInt32 := by
  rw [i_eq, sh16, Int16.toInt_toInt32, Int32.toInt_toInt16]
section R2
variable {B : Nat} {M : Mem}
theorem ok_feed (hR : Rel B M) (x : Int32) : Ok2 B M (fun M => f_X8_feed M x) (fun M => f_X9_feed M x) := by
  by_cases qx : f_X9_in x 0 255 = true
  · obtain ⟨t, ht, t1, t2, t3⟩ := hR.1.2.2.2.1
    have c1 : (nI t < (120 : Int32)) ↔ t < 120 := nI_ltI (b := 120) (by omega) (by decide)
    have c2 : (nI t = (120 : Int32)) ↔ t = 120 := nI_eq (b := 120) (by omega) (by decide)
    by_cases q : t < 120
    · obtain ⟨M1, e1⟩ : ∃ y', y' = st (st M 3 t x) 2 1 (nI (t + 1)) := ⟨_, rfl⟩
      obtain ⟨M2, e2⟩ : ∃ y', y' = st (st M1 145 t x) 140 6 (nI (t + 1)) := ⟨_, rfl⟩
      have f1 : ∀ a, a ≠ 2 → a ≠ 3 → M1 a = M a := fun a h1 h2 => by rw [e1]; exact (st_ne h1).trans (st_ne h2)
      have f2 : ∀ a, a ≠ 145 → a ≠ 140 → M2 a = M1 a := fun a h1 h2 => by rw [e2]; exact (st_ne h2).trans (st_ne h1)
      have f12 : ∀ a, a ≠ 2 → a ≠ 3 → a ≠ 145 → a ≠ 140 → M2 a = M a := fun a h1 h2 h3 h4 => (f2 a h3 h4).trans (f1 a h1 h2)
      have g140 : ∀ s, s ≠ 6 → M2 140 s = M 140 s := fun s hs => by rw [e2, st_slot hs, st_ne (by decide), f1 140 (by decide) (by decide)]
      refine ⟨nI (t + 1), M1, M2, ?_, ?_, rel_mono (B := B) ⟨⟨?_, ?_, fun j hj => ?_, ⟨t + 1, by omega, ?_, ?_, fun j hj => ?_⟩, ?_, fun k hk => ?_⟩, rfl_cg hR.2 (fun a ha => f12 a (by omega) (by omega) (by omega) (by omega)) (g140 17 (by decide))⟩ (by omega)⟩
      · show f_X8_feed M x = _
        unfold f_X8_feed f_X6_add
        have h21 : st M 3 t x 2 1 = nI t := by rw [st_ne (by decide)]; exact t1
        rw [in_8, if_pos qx, t1, if_pos (c1.mpr q), chk_ix (by omega) (by decide), cl_nI (by omega), nmE, h21, nI_sc, nmE, bdE, ← e1, if_pos rfl]
        show some (M1 2 1, M1) = _
        rw [e1, st_same]
      · show f_X9_feed M1 x = _
        have h6 : M1 140 6 = nI t := by rw [f1 140 (by decide) (by decide)]; exact t2
        have h61 : st M1 145 t x 140 6 = nI t := by rw [st_ne (by decide)]; exact h6
        unfold f_X9_feed
        rw [if_pos qx, h6, if_neg (fun h => by have := c2.mp h; omega), chk_ix (by omega) (by decide), cl_nI (by omega), nmE, h61, nI_sc, ← e2, nmE, e2, st_same]
      · rw [f12 0 (by decide) (by decide) (by decide) (by decide), g140 4 (by decide)]; exact hR.1.1
      · rw [g140 7 (by decide), f2 2 (by decide) (by decide), e1, st_slot (by decide), st_ne (by decide)]; exact hR.1.2.1
      · rw [f12 (104 + 2 * j) (by omega) (by omega) (by omega) (by omega), f12 141 (by decide) (by decide) (by decide) (by decide), f12 142 (by decide) (by decide) (by decide) (by decide), f12 143 (by decide) (by decide) (by decide) (by decide), f12 (104 + 2 * j + 1) (by omega) (by omega) (by omega) (by omega)]
        exact hR.1.2.2.1 j hj
      · rw [f2 2 (by decide) (by decide), e1, st_same]
      · rw [e2, st_same]
      · have a3 : M2 3 j = if j = t then x else M 3 j := by
          rw [f2 3 (by decide) (by decide), e1, st_ne (by decide), st_i]
          by_cases w : j = t
          · rw [if_pos w, w, pk_us]
          · rw [if_neg w, pk_un w]
        have a145 : M2 145 j = if j = t then x else M 145 j := by
          rw [e2, st_ne (by decide), st_i]
          by_cases w : j = t
          · rw [if_pos w, w, pk_us]
          · rw [if_neg w, pk_un w, f1 145 (by decide) (by decide)]
        rw [a3, a145]
        by_cases w : j = t
        · rw [if_pos w, if_pos w]
          rw [in_iff] at qx
          exact ⟨rfl, qx.1, qx.2⟩
        · rw [if_neg w, if_neg w]
          exact t3 j (by omega)
      · obtain ⟨n, u1, u2, u3, u4⟩ := hR.1.2.2.2.2.1
        refine ⟨n, u1, ?_, ?_, fun j hj => ?_⟩
        · rw [f12 102 (by decide) (by decide) (by decide) (by decide)]; exact u2
        · rw [g140 23 (by decide)]; exact u3
        · rw [f12 103 (by decide) (by decide) (by decide) (by decide), f12 154 (by decide) (by decide) (by decide) (by decide)]; exact u4 j hj
      · rw [f12 151 (by decide) (by decide) (by decide) (by decide), f12 150 (by decide) (by decide) (by decide) (by decide), f12 (120 + 10 * k + 1) (by omega) (by omega) (by omega) (by omega)]
        rcases hR.1.2.2.2.2.2 k hk with w | ⟨a1, T, D, a2, a3, a4, a5, a6⟩
        · exact Or.inl w
        · exact Or.inr ⟨a1, T, D, a2, a3, a4, ec_cg a5 (fun a b1 b2 => f12 a (by omega) (by omega) (by omega) (by omega)), a6⟩
    · refine act_no hR (r := -1000003) ?_ ?_
      · show f_X8_feed M x = _
        unfold f_X8_feed f_X6_add
        rw [in_8, if_pos qx, t1, if_neg (fun h => q (c1.mp h)), bdE]
        rfl
      · show f_X9_feed M x = _
        unfold f_X9_feed
        rw [if_pos qx, t2, if_pos (c2.mpr (by omega))]
  · refine act_no hR (r := -1000001) ?_ ?_
    · unfold f_X8_feed
      rw [in_8, if_neg qx]
    · unfold f_X9_feed
      rw [if_neg qx]
end R2
