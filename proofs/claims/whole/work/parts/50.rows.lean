/-! ROWS: row, set, copy, drop; feed -/
section RW
variable {B : Nat} {M : Mem}
theorem rel_rw {M' : Mem} (hR : Rel B M) (h : ∀ a, ¬ Jk a → a ≠ 0 → a ≠ 140 → ¬ (104 ≤ a ∧ a ≤ 119) → ¬ (141 ≤ a ∧ a ≤ 143) → M' a = M a) (h140 : ∀ s, s ≠ 4 → M' 140 s = M 140 s) (e : M' 0 8 = M' 140 4) (hrw : RRw M') : Rel B M' := by
  obtain ⟨⟨h1, h2, h3, h4, h5, h6⟩, hf⟩ := hR
  have g : ∀ a, (1 ≤ a ∧ a ≤ 13) ∨ (24 ≤ a ∧ a ≤ 98) ∨ (102 ≤ a ∧ a ≤ 103) ∨ (120 ≤ a ∧ a ≤ 139) ∨ a = 145 ∨ a = 146 ∨ (149 ≤ a ∧ a ≤ 151) ∨ a = 154 → M' a = M a := fun a ha => h a (fun q => by unfold Jk at q; omega) (by omega) (by omega) (by omega) (by omega)
  refine ⟨⟨e, ?_, hrw, ?_, ?_, fun k hk => ?_⟩, rfl_cg hf (fun a ha => g a (by omega)) (h140 17 (by decide))⟩
  · rw [g 2 (by omega), h140 7 (by decide)]; exact h2
  · obtain ⟨t, t1, t2, t3, t4⟩ := h4
    refine ⟨t, t1, ?_, ?_, fun j hj => ?_⟩
    · rw [g 2 (by omega)]; exact t2
    · rw [h140 6 (by decide)]; exact t3
    · rw [g 3 (by omega), g 145 (by omega)]; exact t4 j hj
  · obtain ⟨t, t1, t2, t3, t4⟩ := h5
    refine ⟨t, t1, ?_, ?_, fun j hj => ?_⟩
    · rw [g 102 (by omega)]; exact t2
    · rw [h140 23 (by decide)]; exact t3
    · rw [g 103 (by omega), g 154 (by omega)]; exact t4 j hj
  · rcases h6 k hk with ⟨a1, a2⟩ | ⟨a1, T, D, a2, a3, a4, a5, a6⟩
    · left
      rw [g 151 (by omega), g (120 + 10 * k + 1) (by omega)]; exact ⟨a1, a2⟩
    · right
      refine ⟨by rw [g 151 (by omega)]; exact a1, T, D, a2, a3, a4, ec_cg a5 (fun a b1 b2 => g a (by omega)), ?_⟩
      rw [g 150 (by omega)]; exact a6
theorem m40 (a : Nat) : (40 : Int32) * nI a = nI (40 * a) := pk_mul 40 a
theorem cBeg {i n : Nat} {y : Int32} (hn : n ≤ 40) : ∃ M1, f_X5_begin M i y (nI n) = some M1 ∧ M1 i 0 = 1 ∧ M1 i 1 = y ∧ M1 i 2 = nI n ∧ (∀ t, t < n → M1 (i + 1) t = 0) ∧ (∀ a, a ≠ i → a ≠ i + 1 → M1 a = M a) := by
  obtain ⟨M0, e0⟩ : ∃ y', y' = st (st (st M i 0 1) i 1 y) i 2 (nI n) := ⟨_, rfl⟩
  have f0 : ∀ a, a ≠ i → M0 a = M a := fun a ha => by rw [e0]; exact ((st_ne ha).trans (st_ne ha)).trans (st_ne ha)
  have key := iter_for (F := fun rec a => f_X5_begin_17 i (nI n) rec a.1 a.2) (fun t => (stA M0 (i + 1) (ff (fun _ => 0) (M0 (i + 1)) t), nI t)) n (stA M0 (i + 1) (ff (fun _ => 0) (M0 (i + 1)) n)) (fun t ht rec => ?_) (fun rec => ?_) fuel 0 (Nat.zero_le _) (by rw [fuel_eq]; omega)
  · rw [ff_0, stA_self] at key
    refine ⟨stA M0 (i + 1) (ff (fun _ => 0) (M0 (i + 1)) n), ?_, ?_, ?_, ?_, fun t ht => ?_, fun a h1 h2 => (stA_ne h2).trans (f0 a h1)⟩
    · unfold f_X5_begin
      rw [nmE, nmE, nmE, ← e0]
      exact key
    · rw [stA_ne (by omega), e0, st_slot (by decide), st_slot (by decide), st_same]
    · rw [stA_ne (by omega), e0, st_slot (by decide), st_same]
    · rw [stA_ne (by omega), e0, st_same]
    · rw [stA_i, ff_in ht]
  · have c40 : ¬ (40 : Int32) ≤ nI t := nI_ge (b := 40) (by omega) (by decide)
    show f_X5_begin_17 i (nI n) rec _ (nI t) = _
    unfold f_X5_begin_17
    rw [if_neg (by rw [nI_leI (by omega) (by omega)]; omega), if_neg c40, chk_ix (by omega) (by decide), cl_nI (by omega), nmE, nmE, nI_sc, stA_put (ff_up rfl)]
  · show f_X5_begin_17 i (nI n) rec _ (nI n) = _
    unfold f_X5_begin_17
    rw [if_pos (by rw [nI_leI (by omega) (by omega)]; omega)]
theorem ok_row (hR : Rel B M) (x y z : Int32) : Ok2 B M (fun M => f_X8_row M x y z) (fun M => f_X9_row M x y z) := by
  by_cases qx : f_X9_isRow x = true
  · obtain ⟨j, hj, rfl⟩ := (within_iff (n := 7) (by decide)).mp qx
    by_cases qy : f_X9_in y 0 2 = true
    · by_cases qz : z ≤ 40
      · by_cases qp : 0 ≤ z
        · have e0 : (0 : Int32).toInt = 0 := rfl
          have e40 : (40 : Int32).toInt = 40 := rfl
          have e2 : (2 : Int32).toInt = 2 := rfl
          obtain ⟨n, hn, rfl⟩ : ∃ n, n ≤ 40 ∧ z = nI n := by
            rw [i_le, e0] at qp
            rw [i_le, e40] at qz
            obtain ⟨j, j1, j2, j3⟩ := nI_ex qp
            exact ⟨j, by omega, j2⟩
          obtain ⟨M1, b1, b2, b3, b4, b5, b6⟩ := cBeg (M := M) (i := 104 + 2 * j) (y := y) hn
          obtain ⟨N, eN⟩ : ∃ y', y' = st (st (st M1 0 8 0) 141 j y) 142 j (nI n) := ⟨_, rfl⟩
          have fN : ∀ a, a ≠ 0 → a ≠ 141 → a ≠ 142 → N a = M1 a := fun a h1 h2 h3 => by rw [eN]; exact ((st_ne h3).trans (st_ne h2)).trans (st_ne h1)
          have key := iter_for (F := fun rec a => f_X9_row_52 (nI j) (nI n) rec a.1 a.2) (fun t => (stA N 143 (va_cpy (fun _ => 0) (N 143) 0 (40 * j) t), nI t)) 40 (nI n, st (stA N 143 (va_cpy (fun _ => 0) (N 143) 0 (40 * j) 40)) 140 4 0) (fun t ht rec => ?_) (fun rec => ?_) fuel 0 (Nat.zero_le _) (by rw [fuel_eq]; omega)
          · rw [cpy_0, stA_self] at key
            refine ⟨nI n, st M1 0 8 0, st (stA N 143 (va_cpy (fun _ => 0) (N 143) 0 (40 * j) 40)) 140 4 0, ?_, ?_, rel_mono (B := B) ?_ (by omega)⟩
            · show f_X8_row M (nI j) y (nI n) = _
              unfold f_X8_row
              rw [row_8, if_pos qx, in_8, if_pos qy, if_pos qz, if_pos qp, chk_ix (by omega) (by decide), cl_nI (by omega), b1, bdE]
              rfl
            · show f_X9_row (st M1 0 8 0) (nI j) y (nI n) = _
              unfold f_X9_row
              rw [if_pos qx, if_pos qy, if_pos qz, if_pos qp, chk_ix (by omega) (by decide), cl_nI (by omega), nmE, nmE, ← eN]
              exact key
            · obtain ⟨N2, eN2⟩ : ∃ y', y' = st (stA N 143 (va_cpy (fun _ => 0) (N 143) 0 (40 * j) 40)) 140 4 0 := ⟨_, rfl⟩
              rw [← eN2]
              have f2 : ∀ a, a ≠ 0 → a ≠ 140 → ¬ (141 ≤ a ∧ a ≤ 143) → N2 a = M1 a := fun a h1 h2 h3 => by rw [eN2]; exact ((st_ne h2).trans (stA_ne (by omega))).trans (fN a h1 (by omega) (by omega))
              have g141 : ∀ k, N2 141 k = if k = j then y else M 141 k := fun k => by
                rw [eN2, st_ne (by decide), stA_ne (by decide), eN, st_ne (by decide), st_i]
                by_cases w : k = j
                · rw [if_pos w, w, pk_us]
                · rw [if_neg w, pk_un w, st_ne (by decide), b6 141 (by omega) (by omega)]
              have g142 : ∀ k, N2 142 k = if k = j then nI n else M 142 k := fun k => by
                rw [eN2, st_ne (by decide), stA_ne (by decide), eN, st_i]
                by_cases w : k = j
                · rw [if_pos w, w, pk_us]
                · rw [if_neg w, pk_un w, st_ne (by decide), st_ne (by decide), b6 142 (by omega) (by omega)]
              have g143 : ∀ t, N2 143 t = va_cpy (fun _ => 0) (M 143) 0 (40 * j) 40 t := fun t => by
                rw [eN2, st_ne (by decide), stA_i, fN 143 (by decide) (by decide) (by decide), b6 143 (by omega) (by omega)]
              refine rel_rw hR (fun a h1 h2 h3 h4 h5 => (f2 a h2 h3 (by omega)).trans (b6 a (by omega) (by omega))) (fun s hs => ?_) ?_ (fun k hk => ?_)
              · rw [eN2, st_slot hs, stA_ne (by decide), fN 140 (by decide) (by decide) (by decide), b6 140 (by omega) (by omega)]
              · rw [eN2, st_same, st_ne (by decide), stA_ne (by decide), eN, st_ne (by decide), st_ne (by decide), st_same]
              · rw [g141, g142]
                by_cases w : k = j
                · subst w
                  right
                  rw [if_pos rfl, if_pos rfl, f2 (104 + 2 * k) (by omega) (by omega) (by omega), f2 (104 + 2 * k + 1) (by omega) (by omega) (by omega)]
                  rw [in_iff] at qy
                  refine ⟨b2, ⟨by omega, by omega⟩, b3, n, hn, b4, rfl, fun t ht => ?_⟩
                  rw [b5 t ht, g143, pk_cpy_in (by omega) (by omega)]
                · rw [if_neg w, if_neg w, f2 (104 + 2 * k) (by omega) (by omega) (by omega), f2 (104 + 2 * k + 1) (by omega) (by omega) (by omega), b6 (104 + 2 * k) (by omega) (by omega), b6 (104 + 2 * k + 1) (by omega) (by omega)]
                  rcases hR.1.2.2.1 k hk with r | ⟨r1, r2, r3, m, r4, r5, r6, r7⟩
                  · exact Or.inl r
                  · refine Or.inr ⟨r1, r2, r3, m, r4, r5, r6, fun t ht => ?_⟩
                    rw [r7 t ht, g143, pk_cpy_out (by omega)]
          · have c40 : ¬ (40 : Int32) ≤ nI t := nI_ge (b := 40) (by omega) (by decide)
            show f_X9_row_52 (nI j) (nI n) rec _ (nI t) = _
            unfold f_X9_row_52
            rw [if_neg c40, m40, nI_add, chk_ix (by omega) (by decide), cl_nI (by omega), nmE, nmE, nI_sc, stA_put (cpy_up rfl)]
          · have c40 : (40 : Int32) ≤ nI 40 := by decide
            show f_X9_row_52 (nI j) (nI n) rec _ (nI 40) = _
            unfold f_X9_row_52
            rw [if_pos c40]
            rfl
        · refine ok_f hR (r := -1000010 - 4) (v := 4) (fr_refl M) ?_ (fr_refl _) ?_
          · show f_X8_row M (nI j) y z = _
            unfold f_X8_row
            rw [row_8, if_pos qx, in_8, if_pos qy, if_pos qz, if_neg qp]
            rfl
          · show f_X9_row (st M 0 8 4) (nI j) y z = _
            unfold f_X9_row
            rw [if_pos qx, if_pos qy, if_pos qz, if_neg qp]
            rfl
      · refine act_no hR (r := -1000001) ?_ ?_
        · unfold f_X8_row
          rw [row_8, if_pos qx, in_8, if_pos qy, if_neg qz]
        · unfold f_X9_row
          rw [if_pos qx, if_pos qy, if_neg qz]
    · refine act_no hR (r := -1000001) ?_ ?_
      · unfold f_X8_row
        rw [row_8, if_pos qx, in_8, if_neg qy]
      · unfold f_X9_row
        rw [if_pos qx, if_neg qy]
  · refine act_no hR (r := -1000001) ?_ ?_
    · unfold f_X8_row
      rw [row_8, if_neg qx]
    · unfold f_X9_row
      rw [if_neg qx]
theorem ok_drop (hR : Rel B M) (x : Int32) : Ok2 B M (fun M => f_X8_drop M x) (fun M => f_X9_drop M x) := by
  by_cases qx : f_X9_isRow x = true
  · obtain ⟨j, hj, rfl⟩ := (within_iff (n := 7) (by decide)).mp qx
    have hms : f_X9_isMissing M (nI j) = some (decide (M (104 + 2 * j) 0 = 0)) := rw_miss hR.1.2.2.1 (by omega)
    rcases hR.1.2.2.1 j (by omega) with ⟨r1, r2⟩ | ⟨r1, r2, r3, m, r4, r5, r6, r7⟩
    · refine ok_f hR (r := -1000010 - 1) (v := 1) (fr_refl M) ?_ (fr_refl _) ?_
      · show f_X8_drop M (nI j) = _
        unfold f_X8_drop
        rw [row_8, if_pos qx, chk_ix (by omega) (by decide), cl_nI (by omega), r1, if_pos rfl]
        rfl
      · show f_X9_drop (st M 0 8 1) (nI j) = _
        have hm1 : f_X9_isMissing (st M 0 8 1) (nI j) = some true := by
          have : f_X9_isMissing (st M 0 8 1) (nI j) = f_X9_isMissing M (nI j) := by unfold f_X9_isMissing; rw [st_ne (by decide)]
          rw [this, hms, r1]
          rfl
        unfold f_X9_drop
        rw [if_pos qx, hm1, bdE, if_pos rfl]
        rfl
    · obtain ⟨N, eN⟩ : ∃ y', y' = st (st (st (st M (104 + 2 * j) 0 0) 0 8 0) 141 j (-1000000)) 140 4 0 := ⟨_, rfl⟩
      have fN : ∀ a, a ≠ 0 → a ≠ 140 → a ≠ 141 → a ≠ 104 + 2 * j → N a = M a := fun a h1 h2 h3 h4 => by rw [eN]; exact (((st_ne h2).trans (st_ne h3)).trans (st_ne h1)).trans (st_ne h4)
      have hne : ¬ (1 : Int32) = 0 := by decide
      refine ⟨nI m, st (st M (104 + 2 * j) 0 0) 0 8 0, N, ?_, ?_, rel_mono (rel_rw hR (fun a h1 h2 h3 h4 h5 => fN a h2 h3 (by omega) (by omega)) (fun s hs => ?_) ?_ (fun k hk => ?_)) (by omega)⟩
      · show f_X8_drop M (nI j) = _
        have h2 : st M (104 + 2 * j) 0 0 (104 + 2 * j) 2 = nI m := by rw [st_slot (by decide)]; exact r5
        unfold f_X8_drop
        rw [row_8, if_pos qx, chk_ix (by omega) (by decide), cl_nI (by omega), r1, if_neg hne, nmE, h2]
        rfl
      · show f_X9_drop (st (st M (104 + 2 * j) 0 0) 0 8 0) (nI j) = _
        have hm1 : f_X9_isMissing (st (st M (104 + 2 * j) 0 0) 0 8 0) (nI j) = some false := by
          have : f_X9_isMissing (st (st M (104 + 2 * j) 0 0) 0 8 0) (nI j) = f_X9_isMissing M (nI j) := by unfold f_X9_isMissing; rw [st_ne (by decide), st_ne (by omega)]
          rw [this, hms, r1]
          rfl
        have h142 : st (st (st M (104 + 2 * j) 0 0) 0 8 0) 141 j (-1000000) 142 j = nI m := by rw [st_ne (by decide), st_ne (by decide), st_ne (by omega)]; exact r6
        unfold f_X9_drop
        rw [if_pos qx, hm1, bdE, if_neg (by decide), chk_ix (by omega) (by decide), cl_nI (by omega), nmE, h142, eN]
        rfl
      · rw [eN, st_slot hs, st_ne (by decide), st_ne (by decide), st_ne (by omega)]
      · rw [eN, st_same, st_ne (by decide), st_ne (by decide), st_same]
      · have g141 : N 141 k = if k = j then -1000000 else M 141 k := by
          rw [eN, st_ne (by decide), st_i]
          by_cases w : k = j
          · rw [if_pos w, w, pk_us]
          · rw [if_neg w, pk_un w, st_ne (by decide), st_ne (by omega)]
        rw [g141, fN 142 (by decide) (by decide) (by decide) (by omega), fN 143 (by decide) (by decide) (by decide) (by omega), fN (104 + 2 * k + 1) (by omega) (by omega) (by omega) (by omega)]
        by_cases w : k = j
        · left
          subst w
          rw [if_pos rfl, eN, st_ne (by omega), st_ne (by omega), st_ne (by omega), st_same]
          exact ⟨rfl, rfl⟩
        · rw [if_neg w, fN (104 + 2 * k) (by omega) (by omega) (by omega) (by omega)]
          exact hR.1.2.2.1 k hk
  · refine act_no hR (r := -1000001) ?_ ?_
    · unfold f_X8_drop
      rw [row_8, if_neg qx]
    · unfold f_X9_drop
      rw [if_neg qx]
end RW
