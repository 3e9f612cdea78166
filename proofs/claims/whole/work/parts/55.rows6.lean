section R6
variable {B : Nat} {M : Mem}
theorem prt_nat {n : Nat} (hn : n ≤ 40) {p c : Int32} (h : prt n p c) : ∃ p' c' : Nat, p = nI p' ∧ c = nI c' ∧ p' + c' ≤ n := by
  obtain ⟨h1, h2, h3⟩ := h
  obtain ⟨p', a1, a2, a3⟩ := nI_ex h1
  obtain ⟨c', b1, b2, b3⟩ := nI_ex h2
  exact ⟨p', c', a2, b2, by omega⟩
theorem part_cg {M M' : Mem} (h : M' 142 = M 142) (x p c : Int32) : f_X9_isPart M' x p c = f_X9_isPart M x p c := by
  unfold f_X9_isPart
  rw [h]
theorem ok_copy (hR : Rel B M) (x p y q c : Int32) : Ok2 B M (fun M => f_X8_copy M x p y q c) (fun M => f_X9_copy M x p y q c) := by
  by_cases qx : f_X9_isRow x = true
  · by_cases qy : f_X9_isRow y = true
    · obtain ⟨i, hi, rfl⟩ := (within_iff (n := 7) (by decide)).mp qx
      obtain ⟨j, hj, rfl⟩ := (within_iff (n := 7) (by decide)).mp qy
      have hmi : f_X9_isMissing M (nI i) = some (decide (M (104 + 2 * i) 0 = 0)) := rw_miss hR.1.2.2.1 (by omega)
      have hmj : f_X9_isMissing M (nI j) = some (decide (M (104 + 2 * j) 0 = 0)) := rw_miss hR.1.2.2.1 (by omega)
      have hne : ¬ (1 : Int32) = 0 := by decide
      -- what class and reference do, up to the finding
      have hC : ∀ v : Int32, (∀ M', f_X9_copy M' (nI i) p (nI j) q c = f_X9_copy M' (nI i) p (nI j) q c) := fun _ _ => rfl
      rcases hR.1.2.2.1 i (by omega) with ⟨r1, r2⟩ | ⟨r1, r2, r3, m, r4, r5, r6, r7⟩
      · refine ok_f hR (r := -1000010 - 1) (v := 1) (fr_refl M) ?_ (fr_refl _) ?_
        · show f_X8_copy M (nI i) p (nI j) q c = _
          unfold f_X8_copy
          rw [row_8, if_pos qx, row_8, if_pos qy, chk_ix (by omega) (by decide), chk_ix (by omega) (by decide), cl_nI (by omega), r1, if_pos rfl]
          rfl
        · show f_X9_copy (st M 0 8 1) (nI i) p (nI j) q c = _
          unfold f_X9_copy
          rw [if_pos qx, if_pos qy, miss_cg (st_ne (by decide)), hmi, r1, bdE, if_pos (by decide)]
          rfl
      · rcases hR.1.2.2.1 j (by omega) with ⟨s1, s2⟩ | ⟨s1, s2, s3, n, s4, s5, s6, s7⟩
        · refine ok_f hR (r := -1000010 - 1) (v := 1) (fr_refl M) ?_ (fr_refl _) ?_
          · show f_X8_copy M (nI i) p (nI j) q c = _
            unfold f_X8_copy
            rw [row_8, if_pos qx, row_8, if_pos qy, chk_ix (by omega) (by decide), chk_ix (by omega) (by decide), cl_nI (by omega), cl_nI (by omega), r1, if_neg hne, s1, if_pos rfl]
            rfl
          · show f_X9_copy (st M 0 8 1) (nI i) p (nI j) q c = _
            unfold f_X9_copy
            rw [if_pos qx, if_pos qy, miss_cg (st_ne (by decide)), hmi, r1, bdE, if_neg (by decide), miss_cg (st_ne (by decide)), hmj, s1, bdE, if_pos (by decide)]
            rfl
        · by_cases ql : M 141 i = M 141 j
          · obtain ⟨b1, hb1, hp1⟩ := isPart_iff (M := M) (show i < 8 by omega) r4 r6 p c
            obtain ⟨b2, hb2, hp2⟩ := isPart_iff (M := M) (show j < 8 by omega) s4 s6 q c
            by_cases w1 : prt m p c
            · by_cases w2 : prt n q c
              · obtain ⟨p', c', rfl, rfl, hpc⟩ := prt_nat r4 w1
                obtain ⟨q', c2, rfl, ec, hqc⟩ := prt_nat s4 w2
                have hcc : c2 = c' := by
                  have := (nI_eq (show c' < 2 ^ 31 by omega) (show c2 < 2 ^ 31 by omega)).mp ec
                  omega
                subst hcc
                obtain ⟨M1, e1⟩ : ∃ y', y' = st (stA M (104 + 2 * j + 1) (va_cpy (M (104 + 2 * i + 1)) (M (104 + 2 * j + 1)) p' q' c2)) 0 8 0 := ⟨_, rfl⟩
                have f1 : ∀ a, a ≠ 0 → a ≠ 104 + 2 * j + 1 → M1 a = M a := fun a h1 h2 => by rw [e1]; exact (st_ne h1).trans (stA_ne h2)
                obtain ⟨S, kS, hS⟩ := mCpy (M := M1) (a := i) (b := j) (p := p') (q := q') (c := c2) (by omega) (by omega) (by omega)
                obtain ⟨M2, e2⟩ : ∃ y', y' = st (stA (stA M1 144 S) 143 (va_cpy S (M1 143) 0 (40 * j + q') c2)) 140 4 0 := ⟨_, rfl⟩
                rw [← e2] at kS
                have f2 : ∀ a, a ≠ 140 → a ≠ 143 → a ≠ 144 → M2 a = M1 a := fun a h1 h2 h3 => by rw [e2]; exact ((st_ne h1).trans (stA_ne h2)).trans (stA_ne h3)
                have f12 : ∀ a, a ≠ 0 → a ≠ 104 + 2 * j + 1 → a ≠ 140 → a ≠ 143 → a ≠ 144 → M2 a = M a := fun a h1 h2 h3 h4 h5 => (f2 a h3 h4 h5).trans (f1 a h1 h2)
                have h143 : M1 143 = M 143 := f1 143 (by decide) (by omega)
                have g143 : ∀ k, M2 143 k = va_cpy S (M 143) 0 (40 * j + q') c2 k := fun k => by rw [e2, st_ne (by decide), stA_i, h143]
                have gi : ∀ k, M2 (104 + 2 * j + 1) k = va_cpy (M (104 + 2 * i + 1)) (M (104 + 2 * j + 1)) p' q' c2 k := fun k => by rw [f2 _ (by omega) (by omega) (by omega), e1, st_ne (by omega), stA_i]
                refine ⟨nI c2, M1, M2, ?_, ?_, rel_mono (B := B) (rel_rw hR (fun a h1 h2 h3 h4 h5 => f12 a h2 (by omega) h3 (by omega) (fun w => h1 (by unfold Jk; omega))) (fun s hs => ?_) ?_ (fun k hk => ?_)) (by omega)⟩
                · show f_X8_copy M (nI i) (nI p') (nI j) (nI q') (nI c2) = _
                  unfold f_X8_copy
                  rw [row_8, if_pos qx, row_8, if_pos qy, chk_ix (by omega) (by decide), chk_ix (by omega) (by decide), cl_nI (by omega), cl_nI (by omega), r1, if_neg hne, s1, if_neg hne, r3, s3, if_pos ql, if_pos ((has_iff r4 r5 _ _).mpr w1), if_pos ((has_iff s4 s5 _ _).mpr w2), cpo_t (by omega) (by decide), cpo_t (by omega) (by decide), cl_nI (by omega), cl_nI (by omega), cl_nI (by omega), e1]
                  rfl
                · show f_X9_copy M1 (nI i) (nI p') (nI j) (nI q') (nI c2) = _
                  have h141 : M1 141 = M 141 := f1 141 (by decide) (by omega)
                  have h142 : M1 142 = M 142 := f1 142 (by decide) (by omega)
                  unfold f_X9_copy
                  rw [if_pos qx, if_pos qy, miss_cg h141, hmi, r1, bdE, if_neg (by decide), miss_cg h141, hmj, s1, bdE, if_neg (by decide), chk_ix (by omega) (by decide), chk_ix (by omega) (by decide), cl_nI (by omega), cl_nI (by omega), h141, if_pos ql, part_cg h142, hb1, bdE, if_pos (hp1.mpr w1), part_cg h142, hb2, bdE, if_pos (hp2.mpr w2)]
                  exact kS
                · rw [e2, st_slot hs, stA_ne (by decide), stA_ne (by decide), f1 140 (by decide) (by omega)]
                · rw [e2, st_same, st_ne (by decide), stA_ne (by decide), stA_ne (by decide), e1, st_same]
                · rw [f12 141 (by decide) (by omega) (by decide) (by decide) (by decide), f12 142 (by decide) (by omega) (by decide) (by decide) (by decide), f12 (104 + 2 * k) (by omega) (by omega) (by omega) (by omega) (by omega)]
                  by_cases w : k = j
                  · subst w
                    refine Or.inr ⟨s1, s2, s3, n, s4, s5, s6, fun u hu => ?_⟩
                    rw [gi, g143]
                    by_cases w3 : q' ≤ u ∧ u < q' + c2
                    · rw [pk_cpy_in w3.1 w3.2, pk_cpy_in (by omega) (by omega), r7 _ (by omega), hS _ (by omega), h143]
                      congr 1
                      omega
                    · rw [pk_cpy_out (by omega), pk_cpy_out (by omega)]
                      exact s7 u hu
                  · rw [f12 (104 + 2 * k + 1) (by omega) (by omega) (by omega) (by omega) (by omega)]
                    rcases hR.1.2.2.1 k hk with t | ⟨t1, t2, t3, m', t4, t5, t6, t7⟩
                    · exact Or.inl t
                    · refine Or.inr ⟨t1, t2, t3, m', t4, t5, t6, fun u hu => ?_⟩
                      rw [g143, pk_cpy_out (by omega)]; exact t7 u hu
              · refine ok_f hR (r := -1000010 - 2) (v := 2) (fr_refl M) ?_ (fr_refl _) ?_
                · show f_X8_copy M (nI i) p (nI j) q c = _
                  unfold f_X8_copy
                  rw [row_8, if_pos qx, row_8, if_pos qy, chk_ix (by omega) (by decide), chk_ix (by omega) (by decide), cl_nI (by omega), cl_nI (by omega), r1, if_neg hne, s1, if_neg hne, r3, s3, if_pos ql, if_pos ((has_iff r4 r5 _ _).mpr w1), if_neg (fun h => w2 ((has_iff s4 s5 _ _).mp h))]
                  rfl
                · show f_X9_copy (st M 0 8 2) (nI i) p (nI j) q c = _
                  have h141 : (st M 0 8 2) 141 = M 141 := st_ne (by decide)
                  have h142 : (st M 0 8 2) 142 = M 142 := st_ne (by decide)
                  unfold f_X9_copy
                  rw [if_pos qx, if_pos qy, miss_cg h141, hmi, r1, bdE, if_neg (by decide), miss_cg h141, hmj, s1, bdE, if_neg (by decide), chk_ix (by omega) (by decide), chk_ix (by omega) (by decide), cl_nI (by omega), cl_nI (by omega), h141, if_pos ql, part_cg h142, hb1, bdE, if_pos (hp1.mpr w1), part_cg h142, hb2, bdE, if_neg (fun h => w2 (hp2.mp h))]
                  rfl
            · refine ok_f hR (r := -1000010 - 2) (v := 2) (fr_refl M) ?_ (fr_refl _) ?_
              · show f_X8_copy M (nI i) p (nI j) q c = _
                unfold f_X8_copy
                rw [row_8, if_pos qx, row_8, if_pos qy, chk_ix (by omega) (by decide), chk_ix (by omega) (by decide), cl_nI (by omega), cl_nI (by omega), r1, if_neg hne, s1, if_neg hne, r3, s3, if_pos ql, if_neg (fun h => w1 ((has_iff r4 r5 _ _).mp h))]
                rfl
              · show f_X9_copy (st M 0 8 2) (nI i) p (nI j) q c = _
                have h141 : (st M 0 8 2) 141 = M 141 := st_ne (by decide)
                have h142 : (st M 0 8 2) 142 = M 142 := st_ne (by decide)
                unfold f_X9_copy
                rw [if_pos qx, if_pos qy, miss_cg h141, hmi, r1, bdE, if_neg (by decide), miss_cg h141, hmj, s1, bdE, if_neg (by decide), chk_ix (by omega) (by decide), chk_ix (by omega) (by decide), cl_nI (by omega), cl_nI (by omega), h141, if_pos ql, part_cg h142, hb1, bdE, if_neg (fun h => w1 (hp1.mp h))]
                rfl
          · refine ok_f hR (r := -1000010 - 5) (v := 5) (fr_refl M) ?_ (fr_refl _) ?_
            · show f_X8_copy M (nI i) p (nI j) q c = _
              unfold f_X8_copy
              rw [row_8, if_pos qx, row_8, if_pos qy, chk_ix (by omega) (by decide), chk_ix (by omega) (by decide), cl_nI (by omega), cl_nI (by omega), r1, if_neg hne, s1, if_neg hne, r3, s3, if_neg ql]
              rfl
            · show f_X9_copy (st M 0 8 5) (nI i) p (nI j) q c = _
              have h141 : (st M 0 8 5) 141 = M 141 := st_ne (by decide)
              unfold f_X9_copy
              rw [if_pos qx, if_pos qy, miss_cg h141, hmi, r1, bdE, if_neg (by decide), miss_cg h141, hmj, s1, bdE, if_neg (by decide), chk_ix (by omega) (by decide), chk_ix (by omega) (by decide), cl_nI (by omega), cl_nI (by omega), h141, if_neg ql]
              rfl
    · refine act_no hR (r := -1000001) ?_ ?_
      · unfold f_X8_copy
        rw [row_8, if_pos qx, row_8, if_neg qy]
      · unfold f_X9_copy
        rw [if_pos qx, if_neg qy]
  · refine act_no hR (r := -1000001) ?_ ?_
    · unfold f_X8_copy
      rw [row_8, if_neg qx]
    · unfold f_X9_copy
      rw [if_neg qx]
end R6
