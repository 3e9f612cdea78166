/-! ASK: both -/
section AQ
variable {B : Nat} {M : Mem}
theorem rel_tr {M' : Mem} (hR : Rel B M) (h : ∀ a, a ≠ 102 → a ≠ 103 → a ≠ 140 → a ≠ 154 → M' a = M a) (h140 : ∀ s, s ≠ 23 → M' 140 s = M 140 s) (htr : RTr M') : Rel B M' := by
  obtain ⟨⟨h1, h2, h3, h4, h5, h6⟩, hf⟩ := hR
  have g : ∀ a, a ≠ 102 ∧ a ≠ 103 ∧ a ≠ 140 ∧ a ≠ 154 → M' a = M a := fun a ha => h a ha.1 ha.2.1 ha.2.2.1 ha.2.2.2
  refine ⟨⟨?_, ?_, fun j hj => ?_, ?_, htr, fun k hk => ?_⟩, rfl_cg hf (fun a ha => g a (by omega)) (h140 17 (by decide))⟩
  · rw [g 0 (by omega), h140 4 (by decide)]; exact h1
  · rw [g 2 (by omega), h140 7 (by decide)]; exact h2
  · rw [g (104 + 2 * j) (by omega), g 141 (by omega), g 142 (by omega), g (104 + 2 * j + 1) (by omega), g 143 (by omega)]; exact h3 j hj
  · obtain ⟨t, t1, t2, t3, t4⟩ := h4
    refine ⟨t, t1, ?_, ?_, fun j hj => ?_⟩
    · rw [g 2 (by omega)]; exact t2
    · rw [h140 6 (by decide)]; exact t3
    · rw [g 3 (by omega), g 145 (by omega)]; exact t4 j hj
  · rcases h6 k hk with ⟨a1, a2⟩ | ⟨a1, T, D, a2, a3, a4, a5, a6⟩
    · left
      rw [g 151 (by omega), g (120 + 10 * k + 1) (by omega)]; exact ⟨a1, a2⟩
    · right
      refine ⟨by rw [g 151 (by omega)]; exact a1, T, D, a2, a3, a4, ec_cg a5 (fun a b1 b2 => g a (by omega)), ?_⟩
      rw [g 150 (by omega)]; exact a6
theorem cBegA {T : TT} {D : DD} (hT : WT T) (hE : EC M 4 T D) {b : Nat} (hb : b < Tnb T) : ∃ M0, f_X1_begin M 4 (nI b) = some M0 ∧ M0 102 1 = 0 ∧ M0 102 2 = nI b ∧ M0 102 3 = Tkd T b ∧ M0 102 4 = Dst D b ∧ M0 102 5 = Tlv T b ∧ (∀ a, a ≠ 102 → M0 a = M a) := by
  have h6 := hT.2.1
  have k1 : M 8 b = Tkd T b := ec_kd hE hb
  have k2 : M 12 b = Dst D b := ec_st hE hb
  have k3 : M 9 b = Tlv T b := ec_lv hE hb
  obtain ⟨M2, e2⟩ : ∃ y, y = st (st M 102 1 0) 102 2 (nI b) := ⟨_, rfl⟩
  have f2 : ∀ a, a ≠ 102 → M2 a = M a := fun a ha => by rw [e2]; exact (st_ne ha).trans (st_ne ha)
  have g21 : M2 102 1 = 0 := by rw [e2, st_slot (by decide), st_same]
  have g22 : M2 102 2 = nI b := by rw [e2, st_same]
  obtain ⟨M3, e3⟩ : ∃ y, y = st M2 102 3 (Tkd T b) := ⟨_, rfl⟩
  have f3 : ∀ a, a ≠ 102 → M3 a = M a := fun a ha => by rw [e3]; exact (st_ne ha).trans (f2 a ha)
  obtain ⟨M4, e4⟩ : ∃ y, y = st M3 102 4 (Dst D b) := ⟨_, rfl⟩
  have f4 : ∀ a, a ≠ 102 → M4 a = M a := fun a ha => by rw [e4]; exact (st_ne ha).trans (f3 a ha)
  obtain ⟨M5, e5⟩ : ∃ y, y = st M4 102 5 (Tlv T b) := ⟨_, rfl⟩
  have f5 : ∀ a, a ≠ 102 → M5 a = M a := fun a ha => by rw [e5]; exact (st_ne ha).trans (f4 a ha)
  have j1 : M2 (4 + 4) b = Tkd T b := by rw [f2 _ (by decide)]; exact k1
  have j2 : M3 (4 + 8) b = Dst D b := by rw [f3 _ (by decide)]; exact k2
  have j3 : M4 (4 + 5) b = Tlv T b := by rw [f4 _ (by decide)]; exact k3
  refine ⟨M5, ?_, ?_, ?_, ?_, ?_, ?_, f5⟩
  · unfold f_X1_begin
    rw [nmE, ← e2, nmE, chk_ix (by omega) (by decide), cl_nI (by omega), j1, ← e3, nmE, j2, ← e4, nmE, j3, ← e5, nmE]
  · rw [e5, st_slot (by decide), e4, st_slot (by decide), e3, st_slot (by decide)]; exact g21
  · rw [e5, st_slot (by decide), e4, st_slot (by decide), e3, st_slot (by decide)]; exact g22
  · rw [e5, st_slot (by decide), e4, st_slot (by decide), e3, st_same]
  · rw [e5, st_slot (by decide), e4, st_same]
  · rw [e5, st_same]
theorem ok_ask (hR : Rel B M) (x y : Int32) : Ok2 B M (fun M => f_X8_ask M x y) (fun M => f_X9_ask M x y) := by
  obtain ⟨T, D, n, P, hT, hD, hn, hP, hE, hEm, hC, hM⟩ := hR.2
  have h6 := hT.2.1
  by_cases q : inB (Tnb T) x
  · obtain ⟨b, hb, rfl⟩ := q
    have hbB : inB (Tnb T) (nI b) := ⟨b, hb, rfl⟩
    by_cases qy : f_X9_in y 0 1 = true
    · obtain ⟨M0, eM0, k1, k2, k3, k4, k5, f0⟩ := cBegA hT hE hb
      have k8 : M0 8 b = Tkd T b := by rw [f0 8 (by decide)]; exact ec_kd hE hb
      -- what is left to be shown
      have fin : ∀ (r : Int32) (l : List Int32), l.length ≤ 16 → (if y = (0 : Int32) then f_X1_size (cS M0 []) (Tkd T b) (0 : Int32) else f_X1_mark (cS M0 []) (Tkd T b) (0 : Int32)) = some (r, cS M0 l) → (∀ N : Mem, EM (N 146) T D → (if Tkd T b < (4 : Int32) then f_X9_ask_39 (rS N []) (nI b) y false else f_X9_ask_39 (rS N []) (nI b) y true) = some (r, rS N l)) → Ok2 B M (fun M => f_X8_ask M (nI b) y) (fun M => f_X9_ask M (nI b) y) := by
        intro r l hl hc hm
        rw [cS_0 k1] at hc
        have hN146 : st (cS M0 l) 140 23 0 146 = M 146 := by rw [st_ne (by decide), cS_ne (by decide) (by decide), f0 146 (by decide)]
        have hE146 : EM ((st (cS M0 l) 140 23 0) 146) T D := by rw [hN146]; exact hEm
        have hEc : EM ((cS M0 l) 146) T D := by rw [cS_ne (by decide) (by decide), f0 146 (by decide)]; exact hEm
        have hm2 := hm (st (cS M0 l) 140 23 0) hE146
        rw [rS_0 (st_same _ _ _ _)] at hm2
        refine ⟨r, cS M0 l, rS (st (cS M0 l) 140 23 0) l, ?_, ?_, rel_mono (rel_tr hR (fun a h1 h2 h3 h4 => ?_) (fun s hs => ?_) ⟨l.length, hl, ?_, ?_, fun j hj => ?_⟩) (by omega)⟩
        · show f_X8_ask M (nI b) y = _
          unfold f_X8_ask
          rw [if_pos ((isB_iff hT hE).mpr hbB), in_8, if_pos qy, eM0, bdE, chk_ix (by omega) (by decide), cl_nI (by omega), k8, nmE]
          by_cases z : y = 0
          · rw [if_pos z] at hc ⊢
            rw [hc, bdE]
          · rw [if_neg z] at hc ⊢
            rw [hc, bdE]
        · show f_X9_ask (cS M0 l) (nI b) y = _
          unfold f_X9_ask
          rw [if_pos ((isBm_iff hT hEc).mpr hbB), if_pos qy, nmE, m_kin hT hE146 hb, bdE]
          exact hm2
        · rw [rS_ne h3 h4, st_ne h3, cS_ne h1 h2, f0 a h1]
        · rw [rS_f hs, st_slot hs, cS_ne (by decide) (by decide), f0 140 (by decide)]
        · rw [rS_ne (by decide) (by decide), st_ne (by decide)]
          unfold cS
          rw [st_same]
        · unfold rS
          rw [st_same]
        · have e1 : rS (st (cS M0 l) 140 23 0) l 103 = tw (M0 103) l := by
            rw [rS_ne (by decide) (by decide), st_ne (by decide)]
            unfold cS
            rw [st_ne (by decide), stA_i]
          have e2 : ∃ g, rS (st (cS M0 l) 140 23 0) l 154 = tw g l := by
            unfold rS
            rw [st_ne (by decide), stA_i]
            exact ⟨_, rfl⟩
          obtain ⟨g, e2⟩ := e2
          rw [e1, e2, tw_in hj, tw_in hj]
      obtain ⟨a, a1, a2, ea⟩ := kd_cases hT hb
      have y0 : y = 0 ∨ ¬ y = 0 := by by_cases z : y = 0; exact Or.inl z; exact Or.inr z
      rcases (show a = 1 ∨ a = 2 ∨ a = 3 ∨ a = 4 ∨ a = 5 by omega) with z | z | z | z | z
      · have ek : Tkd T b = 1 := by rw [ea, z]; rfl
        have hk0 : M0 102 3 = 1 := by rw [k3]; exact ek
        rcases y0 with y0 | y0
        · refine fin (M0 102 4 + (M0 102 2 + M0 102 5)) ([] ++ [11] ++ [10] ++ [21] ++ [20]) (by simp) ?_ (fun N hN => ?_)
          · rw [if_pos y0, ek]
            have e := aS1_1 (M := M0) (l := []) (n := 25) (d := 0) (by omega) (by simp) hk0
            exact e
          · rw [ek, if_pos (by decide)]
            unfold f_X9_ask_39
            rw [if_pos y0, if_neg (by decide), rS1 (M := N) (l := []) hT hN hb ek (by simp), bdE]
            try rw [k2]
            try rw [k4]
            try rw [k5]
        · refine fin (M0 102 2 + M0 102 5) ([] ++ [21] ++ [20]) (by simp) ?_ (fun N hN => ?_)
          · rw [if_neg y0, ek]
            have e := aM1 (M := M0) (l := []) (n := 28) (d := 0) (by omega) (by simp)
            exact e
          · rw [ek, if_pos (by decide)]
            unfold f_X9_ask_39
            rw [if_neg y0, if_neg (by decide), rM1 (M := N) (l := []) hT hN hb ek (by simp), bdE]
            try rw [k2]
            try rw [k4]
            try rw [k5]
      · have ek : Tkd T b = 2 := by rw [ea, z]; rfl
        have hk0 : M0 102 3 = 2 := by rw [k3]; exact ek
        rcases y0 with y0 | y0
        · refine fin (-(M0 102 4 + (2 * (M0 102 2 + M0 102 5)))) ([] ++ [12] ++ [11] ++ [10] ++ [24] ++ [21] ++ [20]) (by simp) ?_ (fun N hN => ?_)
          · rw [if_pos y0, ek]
            have e := aS2 (M := M0) (l := []) (n := 24) (d := 0) (by omega) (by simp) hk0
            exact e
          · rw [ek, if_pos (by decide)]
            unfold f_X9_ask_39
            rw [if_pos y0, if_neg (by decide), rS2 (M := N) (l := []) hT hN hb ek (by simp), bdE]
            try rw [k2]
            try rw [k4]
            try rw [k5]
        · refine fin (2 * (M0 102 2 + M0 102 5)) ([] ++ [24] ++ [21] ++ [20]) (by simp) ?_ (fun N hN => ?_)
          · rw [if_neg y0, ek]
            have e := aM2 (M := M0) (l := []) (n := 27) (d := 0) (by omega) (by simp)
            exact e
          · rw [ek, if_pos (by decide)]
            unfold f_X9_ask_39
            rw [if_neg y0, if_neg (by decide), rM2 (M := N) (l := []) hT hN hb ek (by simp), bdE]
            try rw [k2]
            try rw [k4]
            try rw [k5]
      · have ek : Tkd T b = 3 := by rw [ea, z]; rfl
        have hk0 : M0 102 3 = 3 := by rw [k3]; exact ek
        rcases y0 with y0 | y0
        · refine fin (M0 102 4 + (M0 102 2 + M0 102 5 - 1000)) ([] ++ [11] ++ [10] ++ [22] ++ [21] ++ [20]) (by simp) ?_ (fun N hN => ?_)
          · rw [if_pos y0, ek]
            have e := aS3 (M := M0) (l := []) (n := 24) (d := 0) (by omega) (by simp) hk0
            exact e
          · rw [ek, if_pos (by decide)]
            unfold f_X9_ask_39
            rw [if_pos y0, if_neg (by decide), rS3 (M := N) (l := []) hT hN hb ek (by simp), bdE]
            try rw [k2]
            try rw [k4]
            try rw [k5]
        · refine fin (M0 102 2 + M0 102 5 - 1000) ([] ++ [22] ++ [21] ++ [20]) (by simp) ?_ (fun N hN => ?_)
          · rw [if_neg y0, ek]
            have e := aM3 (M := M0) (l := []) (n := 27) (d := 0) (by omega) (by simp)
            exact e
          · rw [ek, if_pos (by decide)]
            unfold f_X9_ask_39
            rw [if_neg y0, if_neg (by decide), rM3 (M := N) (l := []) hT hN hb ek (by simp), bdE]
            try rw [k2]
            try rw [k4]
            try rw [k5]
      · have ek : Tkd T b = 4 := by rw [ea, z]; rfl
        have hk0 : M0 102 3 = 4 := by rw [k3]; exact ek
        rcases y0 with y0 | y0
        · refine fin (M0 102 4 - 100) ([] ++ [13] ++ [10]) (by simp) ?_ (fun N hN => ?_)
          · rw [if_pos y0, ek]
            have e := aS4 (M := M0) (l := []) (n := 28) (d := 0) (by omega) (by simp)
            exact e
          · rw [ek, if_neg (by decide)]
            unfold f_X9_ask_39
            rw [if_pos y0, if_pos rfl, rN4 (M := N) (l := []) hT hN hb ek (by simp), bdE]
            try rw [k2]
            try rw [k4]
            try rw [k5]
        · refine fin (M0 102 2 - (M0 102 4 - 100)) ([] ++ [23] ++ [20] ++ [13] ++ [10]) (by simp) ?_ (fun N hN => ?_)
          · rw [if_neg y0, ek]
            have e := aM4_4 (M := M0) (l := []) (n := 25) (d := 0) (by omega) (by simp) hk0
            exact e
          · rw [ek, if_neg (by decide)]
            unfold f_X9_ask_39
            rw [if_neg y0, if_pos rfl, rQ4 (M := N) (l := []) hT hN hb ek (by simp), bdE]
            try rw [k2]
            try rw [k4]
            try rw [k5]
      · have ek : Tkd T b = 5 := by rw [ea, z]; rfl
        have hk0 : M0 102 3 = 5 := by rw [k3]; exact ek
        rcases y0 with y0 | y0
        · refine fin (2 * (M0 102 4 - 100)) ([] ++ [14] ++ [13] ++ [10]) (by simp) ?_ (fun N hN => ?_)
          · rw [if_pos y0, ek]
            have e := aS5 (M := M0) (l := []) (n := 27) (d := 0) (by omega) (by simp)
            exact e
          · rw [ek, if_neg (by decide)]
            unfold f_X9_ask_39
            rw [if_pos y0, if_pos rfl, rN5 (M := N) (l := []) hT hN hb ek (by simp), bdE]
            try rw [k2]
            try rw [k4]
            try rw [k5]
        · refine fin (M0 102 2 - (2 * (M0 102 4 - 100))) ([] ++ [23] ++ [20] ++ [14] ++ [13] ++ [10]) (by simp) ?_ (fun N hN => ?_)
          · rw [if_neg y0, ek]
            have e := aM5 (M := M0) (l := []) (n := 24) (d := 0) (by omega) (by simp) hk0
            exact e
          · rw [ek, if_neg (by decide)]
            unfold f_X9_ask_39
            rw [if_neg y0, if_pos rfl, rQ5 (M := N) (l := []) hT hN hb ek (by simp), bdE]
            try rw [k2]
            try rw [k4]
            try rw [k5]
    · refine act_no hR (r := -1000001) ?_ ?_
      · unfold f_X8_ask
        rw [if_pos ((isB_iff hT hE).mpr hbB), in_8, if_neg qy]
      · unfold f_X9_ask
        rw [if_pos ((isBm_iff hT hEm).mpr hbB), if_neg qy]
  · refine act_no hR (r := -1000001) ?_ ?_
    · unfold f_X8_ask
      rw [if_neg (fun h => q ((isB_iff hT hE).mp h))]
    · unfold f_X9_ask
      rw [if_neg (fun h => q ((isBm_iff hT hEm).mp h))]
end AQ
