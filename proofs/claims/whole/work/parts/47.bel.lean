/-! BELOVED, AS, and what is found -/
section BL
variable {B : Nat} {M : Mem}
def lov (T : TT) (D : DD) (b : Nat) : Nat := cnt (fun c => !decide (c = b) && (DF D).testBit c && decide (Tlo T c = b)) (Tnb T)
theorem cnt_le (p : Nat → Bool) : ∀ n, cnt p n ≤ n
  | 0 => Nat.le_refl 0
  | n + 1 => by
    have := cnt_le p n
    unfold cnt
    split <;> omega
theorem cLov {T : TT} {D : DD} (hT : WT T) (hE : EC M 4 T D) (hF64 : DF D < 64) {b : Nat} (hb : b < Tnb T) : f_X2_loversOf M 4 (nI b) = some (nI (lov T D b)) := by
  have h6 := hT.2.1
  have key := iter_for (F := fun rec a => f_X2_loversOf_4 4 M (nI b) rec a.1 a.2) (fun c => (nI (cnt (fun c => !decide (c = b) && (DF D).testBit c && decide (Tlo T c = b)) c), nI c)) (Tnb T) (nI (lov T D b)) (fun c hc rec => ?_) (fun rec => ?_) fuel 0 (Nat.zero_le _) (by rw [fuel_eq]; omega)
  · exact key
  · have hlo := (hT.2.2.2.2 c hc).2
    have hfl : f_X3_flies M (4 + 7) (nI c) = (DF D).testBit c := cFl (ec_F hE) hF64 (by omega)
    have e1 : (nI c = nI b) ↔ c = b := nI_eq (by omega) (by omega)
    have e2 : (nI (Tlo T c) = nI b) ↔ Tlo T c = b := nI_eq (by omega) (by omega)
    show f_X2_loversOf_4 4 M (nI b) rec _ _ = rec (nI (cnt (fun c => !decide (c = b) && (DF D).testBit c && decide (Tlo T c = b)) c + (if (!decide (c = b) && (DF D).testBit c && decide (Tlo T c = b)) = true then 1 else 0)), _)
    unfold f_X2_loversOf_4
    rw [ec_nb hE, if_neg (by rw [nI_leI (by omega) (by omega)]; omega), hfl]
    simp (disch := omega) only [chk_ix, cl_nI, ec_lo hE hc, e1, e2, nm, nI_sc]
    by_cases z1 : c = b
    · simp [z1]
    · by_cases z2 : (DF D).testBit c = true
      · by_cases z3 : Tlo T c = b
        · simp [z1, z2, z3]
        · simp [z1, z2, z3]
      · simp [z1, z2]
  · unfold f_X2_loversOf_4
    rw [ec_nb hE, if_pos (by rw [nI_leI (by omega) (by omega)]; omega)]
    rfl
def blv (T : TT) (D : DD) : Nat → Int32 × Int32
  | 0 => (-1000000, 0)
  | b + 1 => if nI (lov T D b) ≤ (blv T D b).2 then blv T D b else (nI b, nI (lov T D b))
theorem ok_beloved (hR : Rel B M) (x : Int32) : ∃ r, f_X8_beloved M x = some r ∧ f_X9_beloved M x = some r := by
  obtain ⟨T, D, n, P, hT, hD, hn, hP, hE, hEm, hC, hM⟩ := hR.2
  have h6 := hT.2.1
  have hF64 := wd_F hT hD
  unfold f_X8_beloved f_X9_beloved
  by_cases q : 0 < Tnv T
  · rw [if_pos ((isT_iff hT hE).mpr q), if_pos ((isF_iff hEm).mpr q), in_8]
    by_cases qx : f_X9_in x 0 1 = true
    · rw [if_pos qx, if_pos qx]
      have hnb : M 5 2 = nI (Tnb T) := ec_nb hE
      have key := iter_for (F := fun rec a => f_X8_beloved_32 M x rec a.1 a.2.1 a.2.2) (fun b => ((blv T D b).1, (blv T D b).2, nI b)) (Tnb T) (if x = 0 then (blv T D (Tnb T)).1 else if (blv T D (Tnb T)).1 = -1000000 then (blv T D (Tnb T)).1 else (blv T D (Tnb T)).2) (fun b hb rec => ?_) (fun rec => ?_) fuel 0 (Nat.zero_le _) (by rw [fuel_eq]; omega)
      · have key2 := iter_to (F := fun rec a => f_X9_beloved_30 M x rec a.1 a.2.1 a.2.2) (fun b => ((blv T D b).1, (blv T D b).2, nI b)) (Tnb T) (some (if x = 0 then (blv T D (Tnb T)).1 else if (blv T D (Tnb T)).1 = -1000000 then (blv T D (Tnb T)).1 else (blv T D (Tnb T)).2)) (fun b hb rec => ?_) (fun rec => ?_) fuel 0 (Nat.zero_le _) (by rw [fuel_eq]; omega)
        · exact ⟨_, key, key2⟩
        · show f_X9_beloved_30 M x rec (blv T D b).1 (blv T D b).2 (nI b) = rec ((blv T D (b + 1)).1, (blv T D (b + 1)).2, nI (b + 1))
          unfold f_X9_beloved_30
          rw [em_nb hEm, if_neg (by rw [nI_leI (by omega) (by omega)]; omega)]
          have key3 := iter_to (F := fun r47 a => f_X9_beloved_47 rec M x (blv T D b).1 (blv T D b).2 (nI b) r47 a.1 a.2) (fun c => (nI (cnt (fun c => !decide (c = b) && (DF D).testBit c && decide (Tlo T c = b)) c), nI c)) (Tnb T) (rec ((blv T D (b + 1)).1, (blv T D (b + 1)).2, nI (b + 1))) (fun c hc r47 => ?_) (fun r47 => ?_) fuel 0 (Nat.zero_le _) (by rw [fuel_eq]; omega)
          · exact key3
          · have hlo := (hT.2.2.2.2 c hc).2
            have e1 : (nI c = nI b) ↔ c = b := nI_eq (by omega) (by omega)
            have e2 : (nI (Tlo T c) = nI b) ↔ Tlo T c = b := nI_eq (by omega) (by omega)
            show f_X9_beloved_47 rec M x _ _ _ r47 _ _ = r47 (nI (cnt (fun c => !decide (c = b) && (DF D).testBit c && decide (Tlo T c = b)) c + (if (!decide (c = b) && (DF D).testBit c && decide (Tlo T c = b)) = true then 1 else 0)), _)
            unfold f_X9_beloved_47
            rw [em_nb hEm, if_neg (by rw [nI_leI (by omega) (by omega)]; omega), mFl hT hEm hD.1 (show c < 64 by omega), bdE, i6, p3, chk_ix (by omega) (by decide), cl_nI (by omega), em_lo hEm hc]
            simp only [e1, e2, nm, nI_sc, Int32.add_zero]
            by_cases z1 : c = b
            · simp [z1]
            · by_cases z2 : (DF D).testBit c = true
              · by_cases z3 : Tlo T c = b
                · simp [z1, z2, z3]
                · simp [z1, z2, z3]
              · simp [z1, z2]
          · show f_X9_beloved_47 rec M x (blv T D b).1 (blv T D b).2 (nI b) r47 (nI (lov T D b)) (nI (Tnb T)) = _
            unfold f_X9_beloved_47 f_X9_beloved_125
            rw [em_nb hEm, if_pos (by rw [nI_leI (by omega) (by omega)]; omega)]
            have hbl : blv T D (b + 1) = if nI (lov T D b) ≤ (blv T D b).2 then blv T D b else (nI b, nI (lov T D b)) := rfl
            rw [hbl]
            by_cases z : nI (lov T D b) ≤ (blv T D b).2
            · simp only [if_pos z, nm, nI_sc]
            · simp only [if_neg z, nm, nI_sc]
        · show f_X9_beloved_30 M x rec (blv T D (Tnb T)).1 (blv T D (Tnb T)).2 (nI (Tnb T)) = _
          unfold f_X9_beloved_30
          rw [em_nb hEm, if_pos (by rw [nI_leI (by omega) (by omega)]; omega)]
          by_cases z1 : (blv T D (Tnb T)).1 = -1000000
          · rw [if_pos z1, if_pos z1]
            split <;> rfl
          · rw [if_neg z1, if_neg z1]
            split <;> rfl
      · show f_X8_beloved_32 M x rec (blv T D b).1 (blv T D b).2 (nI b) = rec ((blv T D (b + 1)).1, (blv T D (b + 1)).2, nI (b + 1))
        unfold f_X8_beloved_32
        have hbl : blv T D (b + 1) = if nI (lov T D b) ≤ (blv T D b).2 then blv T D b else (nI b, nI (lov T D b)) := rfl
        rw [hnb, if_neg (by rw [nI_leI (by omega) (by omega)]; omega), cLov hT hE hF64 hb, bdE, hbl]
        by_cases z : nI (lov T D b) ≤ (blv T D b).2
        · simp only [if_pos z, nm, nI_sc]
        · simp only [if_neg z, nm, nI_sc]
      · show f_X8_beloved_32 M x rec (blv T D (Tnb T)).1 (blv T D (Tnb T)).2 (nI (Tnb T)) = _
        unfold f_X8_beloved_32
        rw [hnb, if_pos (by rw [nI_leI (by omega) (by omega)]; omega)]
        split
        · rfl
        · split <;> rfl
    · rw [if_neg qx, if_neg qx]
      exact ⟨_, rfl, rfl⟩
  · rw [if_neg (fun h => q ((isT_iff hT hE).mp h)), if_neg (fun h => q ((isF_iff hEm).mp h))]
    exact ⟨_, rfl, rfl⟩
/-- a call that leaves a finding -/
def fq (M M' : Mem) : Prop := (∀ a, ¬ Jk a → a ≠ 0 → a ≠ 140 → M' a = M a) ∧ (∀ s, s ≠ 8 → M' 0 s = M 0 s) ∧ (∀ s, s ≠ 4 → M' 140 s = M 140 s)
theorem fq_fr {M M' : Mem} (h : fr M M') : fq M M' := ⟨fun a h1 _ _ => h a h1, fun s _ => by rw [fr_at h (by omega)], fun s _ => by rw [fr_at h (by omega)]⟩
theorem fq_trans {M M1 M2 : Mem} (h1 : fq M M1) (h2 : fq M1 M2) : fq M M2 := ⟨fun a a1 a2 a3 => (h2.1 a a1 a2 a3).trans (h1.1 a a1 a2 a3), fun s hs => (h2.2.1 s hs).trans (h1.2.1 s hs), fun s hs => (h2.2.2 s hs).trans (h1.2.2 s hs)⟩
theorem fq_c {M : Mem} {v : Int32} : fq M (st M 0 8 v) := ⟨fun a _ h _ => st_ne h, fun s hs => st_slot hs, fun s _ => by rw [st_ne (by decide)]⟩
theorem fq_m {M : Mem} {v : Int32} : fq M (st M 140 4 v) := ⟨fun a _ _ h => st_ne h, fun s _ => by rw [st_ne (by decide)], fun s hs => st_slot hs⟩
theorem fq_at {M M' : Mem} (h : fq M M') {a : Nat} (ha : (1 ≤ a ∧ a ≤ 13) ∨ (24 ≤ a ∧ a ≤ 98) ∨ (102 ≤ a ∧ a ≤ 139) ∨ (141 ≤ a ∧ a ≤ 143) ∨ a = 145 ∨ a = 146 ∨ (149 ≤ a ∧ a ≤ 151) ∨ a = 154) : M' a = M a := h.1 a (fun q => by unfold Jk at q; omega) (by omega) (by omega)
theorem rel_fq {M' : Mem} (hR : Rel B M) (h : fq M M') (e : M' 0 8 = M' 140 4) : Rel B M' := by
  obtain ⟨⟨h1, h2, h3, h4, h5, h6⟩, hf⟩ := hR
  have hx : ∀ s, s ≠ 4 → M' 140 s = M 140 s := h.2.2
  refine ⟨⟨e, ?_, fun j hj => ?_, ?_, ?_, fun k hk => ?_⟩, rfl_cg hf (fun a ha => fq_at h (by omega)) (hx 17 (by decide))⟩
  · rw [fq_at h (a := 2) (by omega), hx 7 (by decide)]; exact h2
  · rw [fq_at h (a := 104 + 2 * j) (by omega), fq_at h (a := 141) (by omega), fq_at h (a := 142) (by omega), fq_at h (a := 104 + 2 * j + 1) (by omega), fq_at h (a := 143) (by omega)]; exact h3 j hj
  · obtain ⟨t, t1, t2, t3, t4⟩ := h4
    refine ⟨t, t1, ?_, ?_, fun j hj => ?_⟩
    · rw [fq_at h (a := 2) (by omega)]; exact t2
    · rw [hx 6 (by decide)]; exact t3
    · rw [fq_at h (a := 3) (by omega), fq_at h (a := 145) (by omega)]; exact t4 j hj
  · obtain ⟨t, t1, t2, t3, t4⟩ := h5
    refine ⟨t, t1, ?_, ?_, fun j hj => ?_⟩
    · rw [fq_at h (a := 102) (by omega)]; exact t2
    · rw [hx 23 (by decide)]; exact t3
    · rw [fq_at h (a := 103) (by omega), fq_at h (a := 154) (by omega)]; exact t4 j hj
  · rcases h6 k hk with ⟨a1, a2⟩ | ⟨a1, T, D, a2, a3, a4, a5, a6⟩
    · left
      rw [fq_at h (a := 151) (by omega), fq_at h (a := 120 + 10 * k + 1) (by omega)]; exact ⟨a1, a2⟩
    · right
      refine ⟨by rw [fq_at h (a := 151) (by omega)]; exact a1, T, D, a2, a3, a4, ec_cg a5 (fun a b1 b2 => fq_at h (by omega)), ?_⟩
      rw [fq_at h (a := 150) (by omega)]; exact a6
/-- both leave the same finding -/
theorem ok_f {c m : Mem → Option (Int32 × Mem)} (hR : Rel B M) {r v : Int32} {M1 M2 : Mem} (f1 : fr M M1) (hc : c M = some (r, st M1 0 8 v)) (f2 : fr (st M1 0 8 v) M2) (hm : m (st M1 0 8 v) = some (r, st M2 140 4 v)) : Ok2 B M c m := by
  refine ⟨r, st M1 0 8 v, st M2 140 4 v, hc, hm, rel_mono (rel_fq hR (fq_trans (fq_fr f1) (fq_trans fq_c (fq_trans (fq_fr f2) fq_m))) ?_) (by omega)⟩
  rw [st_same, st_ne (by decide), fr_at f2 (by omega), st_same]
theorem kd_cases {T : TT} (hT : WT T) {b : Nat} (hb : b < Tnb T) : ∃ a, 1 ≤ a ∧ a ≤ 5 ∧ Tkd T b = nI a := by
  have hk := (hT.2.2.2.2 b hb).1
  obtain ⟨j, j1, j2, j3⟩ := nI_ex (x := Tkd T b) (by omega)
  exact ⟨j, by omega, by omega, j2⟩
def Z1 : Mem := fun _ _ => 0
theorem isk_M (M : Mem) : f_X8_isOfKind M = f_X8_isOfKind Z1 := rfl
def okd (a c : Nat) : Bool := decide (c = 0) || decide (c = a) || (decide (c = 1) && decide (a < 4)) || (decide (c = 4) && decide (a = 5))
theorem isk_e : ∀ a, a < 6 → 1 ≤ a → ∀ c, c < 6 → f_X8_isOfKind Z1 (nI a) (nI c) = some (okd a c) := by decide +kernel
theorem as_m {b : Nat} : ∀ a, a < 6 → 1 ≤ a → ∀ c, c < 6 → (if nI c = (0 : Int32) then f_X9_as_60 M (nI b) true else (if nI c = nI a then f_X9_as_60 M (nI b) true else (if nI c = (1 : Int32) then (if nI a < (4 : Int32) then f_X9_as_60 M (nI b) true else f_X9_as_45 M (nI b) (nI c) (nI a)) else f_X9_as_45 M (nI b) (nI c) (nI a)))) = f_X9_as_60 M (nI b) (okd a c) := by
  intro a h1 h2 c h3
  have e0 : (nI c = (0 : Int32)) ↔ c = 0 := nI_eq (b := 0) (by omega) (by decide)
  have e1 : (nI c = (1 : Int32)) ↔ c = 1 := nI_eq (b := 1) (by omega) (by decide)
  have e4 : (nI c = (4 : Int32)) ↔ c = 4 := nI_eq (b := 4) (by omega) (by decide)
  have e5 : (nI a = (5 : Int32)) ↔ a = 5 := nI_eq (b := 5) (by omega) (by decide)
  have ea : (nI c = nI a) ↔ c = a := nI_eq (by omega) (by omega)
  have el : (nI a < (4 : Int32)) ↔ a < 4 := nI_ltI (b := 4) (by omega) (by decide)
  unfold f_X9_as_45
  simp only [e0, e1, e4, e5, ea, el]
  unfold okd
  by_cases c0 : c = 0
  · simp [c0]
  by_cases ca : c = a
  · simp [ca]
  by_cases c1 : c = 1
  · subst c1
    by_cases a4 : a < 4
    · simp [ca, a4]
    · simp [ca, a4]
  by_cases c4 : c = 4
  · subst c4
    by_cases a5 : a = 5
    · simp [a5]
    · simp [ca, a5]
  · simp [c0, ca, c1, c4]
theorem ok_as (hR : Rel B M) (x y : Int32) : Ok2 B M (fun M => f_X8_as M x y) (fun M => f_X9_as M x y) := by
  obtain ⟨T, D, n, P, hT, hD, hn, hP, hE, hEm, hC, hM⟩ := hR.2
  have h6 := hT.2.1
  by_cases q : inB (Tnb T) x
  · obtain ⟨b, hb, rfl⟩ := q
    have hbB : inB (Tnb T) (nI b) := ⟨b, hb, rfl⟩
    by_cases qy : f_X9_in y 0 5 = true
    · obtain ⟨c, hc, rfl⟩ := (within_iff (n := 5) (by decide)).mp qy
      obtain ⟨a, a1, a2, ea⟩ := kd_cases hT hb
      have hk : M 8 b = nI a := by rw [← ea]; exact ec_kd hE hb
      have hm : ∀ v, f_X9_kindIn (st M 0 8 v) (nI b) = some (nI a) := fun v => by rw [← ea]; exact m_kin hT (by rw [st_ne (by decide)]; exact hEm) hb
      have hB8 : ∀ v, f_X9_isBird (st M 0 8 v) (nI b) = true := fun v => (isBm_iff hT (by rw [st_ne (by decide)]; exact hEm)).mpr hbB
      by_cases z : okd a c = true
      · refine ok_f hR (r := nI b) (v := 0) (fr_refl M) ?_ (fr_refl _) ?_
        · show f_X8_as M (nI b) (nI c) = _
          unfold f_X8_as
          rw [if_pos ((isB_iff hT hE).mpr hbB), in_8, if_pos qy, chk_ix (by omega) (by decide), cl_nI (by omega), hk, isk_M, isk_e a (by omega) a1 c (by omega), bdE, if_pos z]
          rfl
        · show f_X9_as (st M 0 8 0) (nI b) (nI c) = _
          unfold f_X9_as
          rw [if_pos (hB8 0), if_pos qy, hm, bdE, as_m a (by omega) a1 c (by omega), z]
          rfl
      · refine ok_f hR (r := -1000010 - 3) (v := 3) (fr_refl M) ?_ (fr_refl _) ?_
        · show f_X8_as M (nI b) (nI c) = _
          unfold f_X8_as
          rw [if_pos ((isB_iff hT hE).mpr hbB), in_8, if_pos qy, chk_ix (by omega) (by decide), cl_nI (by omega), hk, isk_M, isk_e a (by omega) a1 c (by omega), bdE, if_neg z]
          rfl
        · show f_X9_as (st M 0 8 3) (nI b) (nI c) = _
          have z' : okd a c = false := by simpa using z
          unfold f_X9_as
          rw [if_pos (hB8 3), if_pos qy, hm, bdE, as_m a (by omega) a1 c (by omega), z']
          rfl
    · refine act_no hR (r := -1000001) ?_ ?_
      · unfold f_X8_as
        rw [if_pos ((isB_iff hT hE).mpr hbB), in_8, if_neg qy]
      · unfold f_X9_as
        rw [if_pos ((isBm_iff hT hEm).mpr hbB), if_neg qy]
  · refine act_no hR (r := -1000001) ?_ ?_
    · unfold f_X8_as
      rw [if_neg (fun h => q ((isB_iff hT hE).mp h))]
    · unfold f_X9_as
      rw [if_neg (fun h => q ((isBm_iff hT hEm).mp h))]
end BL
