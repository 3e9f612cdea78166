section R4
variable {B : Nat} {M : Mem}
def nar (l x : Int32) : Int32 := if l = 0 then x.toInt8.toInt32 else if l = 1 then x.toInt16.toInt32 else x
theorem cut_nar (l x : Int32) : f_X9_cut l x = nar l x := by
  unfold f_X9_cut nar
  rw [cut8, cut16]
theorem put_nar {i t : Nat} (ht : t < 40) (x : Int32) : f_X5_put M i (nI t) x = some (nar (M i 1) x, st M (i + 1) t (nar (M i 1) x)) := by
  unfold f_X5_put nar
  rw [chk_ix (by omega) (by decide), chk_ix (by omega) (by decide), chk_ix (by omega) (by decide), cl_nI (by omega), nmE, nmE, nmE, st_same, st_same, st_same]
  split
  · rfl
  · split <;> rfl
theorem ok_set (hR : Rel B M) (x y z : Int32) : Ok2 B M (fun M => f_X8_set M x y z) (fun M => f_X9_set M x y z) := by
  by_cases qx : f_X9_isRow x = true
  · obtain ⟨j, hj, rfl⟩ := (within_iff (n := 7) (by decide)).mp qx
    have hms : f_X9_isMissing M (nI j) = some (decide (M (104 + 2 * j) 0 = 0)) := rw_miss hR.1.2.2.1 (by omega)
    have hne : ¬ (1 : Int32) = 0 := by decide
    rcases hR.1.2.2.1 j (by omega) with ⟨r1, r2⟩ | ⟨r1, r2, r3, m, r4, r5, r6, r7⟩
    · refine ok_f hR (r := -1000010 - 1) (v := 1) (fr_refl M) ?_ (fr_refl _) ?_
      · show f_X8_set M (nI j) y z = _
        unfold f_X8_set
        rw [row_8, if_pos qx, chk_ix (by omega) (by decide), cl_nI (by omega), r1, if_pos rfl]
        rfl
      · show f_X9_set (st M 0 8 1) (nI j) y z = _
        unfold f_X9_set
        rw [if_pos qx, miss_cg (st_ne (by decide)), hms, r1, bdE, if_pos (by decide)]
        rfl
    · by_cases q : inB m y
      · obtain ⟨t, ht, rfl⟩ := q
        have hhas : f_X5_has M (104 + 2 * j) (nI t) 1 = true := by
          rw [has_iff r4 r5]
          have e1 : (1 : Int32).toInt = 1 := rfl
          have et : (nI t).toInt = (t : Int) := ti (by omega)
          refine ⟨by omega, by omega, by omega⟩
        obtain ⟨v, ev⟩ : ∃ v, v = nar (M 141 j) z := ⟨_, rfl⟩
        obtain ⟨M1, e1⟩ : ∃ y', y' = st (st M (104 + 2 * j + 1) t v) 0 8 0 := ⟨_, rfl⟩
        obtain ⟨M2, e2⟩ : ∃ y', y' = st (st M1 143 (40 * j + t) v) 140 4 0 := ⟨_, rfl⟩
        have f1 : ∀ a, a ≠ 0 → a ≠ 104 + 2 * j + 1 → M1 a = M a := fun a h1 h2 => by rw [e1]; exact (st_ne h1).trans (st_ne h2)
        have f2 : ∀ a, a ≠ 140 → a ≠ 143 → M2 a = M1 a := fun a h1 h2 => by rw [e2]; exact (st_ne h1).trans (st_ne h2)
        have f12 : ∀ a, a ≠ 0 → a ≠ 104 + 2 * j + 1 → a ≠ 140 → a ≠ 143 → M2 a = M a := fun a h1 h2 h3 h4 => (f2 a h3 h4).trans (f1 a h1 h2)
        have g143 : ∀ k, M2 143 k = if k = 40 * j + t then v else M 143 k := fun k => by
          rw [e2, st_ne (by decide), st_i]
          by_cases w : k = 40 * j + t
          · rw [if_pos w, w, pk_us]
          · rw [if_neg w, pk_un w, f1 143 (by decide) (by omega)]
        have gi : ∀ k, M2 (104 + 2 * j + 1) k = if k = t then v else M (104 + 2 * j + 1) k := fun k => by
          rw [f2 _ (by omega) (by omega), e1, st_ne (by omega), st_i]
          by_cases w : k = t
          · rw [if_pos w, w, pk_us]
          · rw [if_neg w, pk_un w]
        refine ⟨v, M1, M2, ?_, ?_, rel_mono (B := B) (rel_rw hR (fun a h1 h2 h3 h4 h5 => f12 a h2 (by omega) h3 (by omega)) (fun s hs => ?_) ?_ (fun k hk => ?_)) (by omega)⟩
        · show f_X8_set M (nI j) (nI t) z = _
          unfold f_X8_set
          rw [row_8, if_pos qx, chk_ix (by omega) (by decide), cl_nI (by omega), r1, if_neg hne, if_pos hhas, put_nar (by omega), bdE, r3, ← ev, e1]
          rfl
        · show f_X9_set M1 (nI j) (nI t) z = _
          have h141 : M1 141 = M 141 := f1 141 (by decide) (by omega)
          have h142 : M1 142 j = nI m := by rw [f1 142 (by decide) (by omega)]; exact r6
          have hs : st M1 143 (40 * j + t) v 143 (40 * j + t) = v := st_same _ _ _ _
          unfold f_X9_set
          rw [if_pos qx, miss_cg h141, hms, r1, bdE, if_neg (by decide), chk_ix (by omega) (by decide), cl_nI (by omega), h142, if_pos ((below_iff (by omega)).mpr ⟨t, ht, rfl⟩), m40, nI_add, chk_ix (by omega) (by decide), cl_nI (by omega), cut_nar, h141, ← ev, nmE, hs, e2]
          rfl
        · rw [e2, st_slot hs, st_ne (by decide), f1 140 (by decide) (by omega)]
        · rw [e2, st_same, st_ne (by decide), st_ne (by decide), e1, st_same]
        · rw [f12 141 (by decide) (by omega) (by decide) (by decide), f12 142 (by decide) (by omega) (by decide) (by decide), f12 (104 + 2 * k) (by omega) (by omega) (by omega) (by omega)]
          by_cases w : k = j
          · subst w
            refine Or.inr ⟨r1, r2, r3, m, r4, r5, r6, fun u hu => ?_⟩
            rw [gi, g143]
            by_cases w2 : u = t
            · rw [if_pos w2, if_pos (by omega)]
            · rw [if_neg w2, if_neg (by omega)]; exact r7 u hu
          · rw [f12 (104 + 2 * k + 1) (by omega) (by omega) (by omega) (by omega)]
            rcases hR.1.2.2.1 k hk with s | ⟨s1, s2, s3, m', s4, s5, s6, s7⟩
            · exact Or.inl s
            · refine Or.inr ⟨s1, s2, s3, m', s4, s5, s6, fun u hu => ?_⟩
              rw [g143, if_neg (by omega)]; exact s7 u hu
      · have hhas : ¬ f_X5_has M (104 + 2 * j) y 1 = true := by
          rw [has_iff r4 r5]
          rintro ⟨h1, h2, h3⟩
          apply q
          rw [inB_iff (by omega)]
          have e1 : (1 : Int32).toInt = 1 := rfl
          omega
        refine ok_f hR (r := -1000010 - 2) (v := 2) (fr_refl M) ?_ (fr_refl _) ?_
        · show f_X8_set M (nI j) y z = _
          unfold f_X8_set
          rw [row_8, if_pos qx, chk_ix (by omega) (by decide), cl_nI (by omega), r1, if_neg hne, if_neg hhas]
          rfl
        · show f_X9_set (st M 0 8 2) (nI j) y z = _
          have h142 : st M 0 8 2 142 j = nI m := by rw [st_ne (by decide)]; exact r6
          unfold f_X9_set
          rw [if_pos qx, miss_cg (st_ne (by decide)), hms, r1, bdE, if_neg (by decide), chk_ix (by omega) (by decide), cl_nI (by omega), h142, if_neg (fun h => q ((below_iff (by omega)).mp h))]
          rfl
  · refine act_no hR (r := -1000001) ?_ ?_
    · unfold f_X8_set
      rw [row_8, if_neg qx]
    · unfold f_X9_set
      rw [if_neg qx]
end R4
