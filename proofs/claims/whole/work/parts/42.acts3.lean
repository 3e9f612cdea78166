/-! SWAP, UNDO, IMAGE, RESTORE -/
def sw (l : Nat → Nat) (k : Nat) : Nat → Nat := fun j => if j = k then l (k + 1) else if j = k + 1 then l k else l j
theorem sw_in {l : Nat → Nat} {k n : Nat} (hk : k + 1 < n) (h : ∀ j, j < n → l j < n) : ∀ j, j < n → sw l k j < n := by
  intro j hj
  unfold sw
  split
  · exact h _ (by omega)
  · split
    · exact h _ (by omega)
    · exact h _ hj
theorem sw_inj {l : Nat → Nat} {k n : Nat} (hk : k + 1 < n) (h : ∀ i j, i < n → j < n → l i = l j → i = j) : ∀ i j, i < n → j < n → sw l k i = sw l k j → i = j := by
  intro i j hi hj e
  unfold sw at e
  by_cases i1 : i = k
  · rw [if_pos i1] at e
    by_cases j1 : j = k
    · omega
    · rw [if_neg j1] at e
      by_cases j2 : j = k + 1
      · rw [if_pos j2] at e
        have := h _ _ (by omega) (by omega) e; omega
      · rw [if_neg j2] at e
        have := h _ _ (by omega) (by omega) e; omega
  · rw [if_neg i1] at e
    by_cases i2 : i = k + 1
    · rw [if_pos i2] at e
      by_cases j1 : j = k
      · rw [if_pos j1] at e
        have := h _ _ (by omega) (by omega) e; omega
      · rw [if_neg j1] at e
        by_cases j2 : j = k + 1
        · omega
        · rw [if_neg j2] at e
          have := h _ _ (by omega) (by omega) e; omega
    · rw [if_neg i2] at e
      by_cases j1 : j = k
      · rw [if_pos j1] at e
        have := h _ _ (by omega) (by omega) e; omega
      · rw [if_neg j1] at e
        by_cases j2 : j = k + 1
        · rw [if_pos j2] at e
          have := h _ _ (by omega) (by omega) e; omega
        · rw [if_neg j2] at e
          exact h _ _ (by omega) (by omega) e
section AC3
variable {B : Nat} {M : Mem}
theorem mo_ln {i : Nat} {T : TT} {D : DD} (h : EMo M i T D) {g : Nat → Int32} {l : Nat → Nat} (hg : ∀ j, j < Tnv T → g j = nI (l j)) : EMo (stA M (i + 2) g) i T (Dst D, DF D, DK D, Dtu D, Dth D, l) := by
  obtain ⟨b1, b2, b3, b4, b5, b6⟩ := h
  refine ⟨?_, ?_, ?_, ?_, fun b hb => ?_, fun j hj => ?_⟩
  · rw [stA_ne (by omega)]; exact b1
  · rw [stA_ne (by omega)]; exact b2
  · rw [stA_ne (by omega)]; exact b3
  · rw [stA_ne (by omega)]; exact b4
  · rw [stA_ne (by omega)]; exact b5 b hb
  · rw [stA_i]; exact hg j hj
theorem em_upL {w g : Nat → Int32} {T : TT} {D : DD} (hT : WT T) (h : EM w T D) {l : Nat → Nat} (ho : ∀ t, t < 6 ∨ 11 ≤ t → g t = w t) (hg : ∀ j, j < Tnv T → g (6 + j) = nI (l j)) : EM g T (Dst D, DF D, DK D, Dtu D, Dth D, l) := by
  have h5 := hT.1
  obtain ⟨a0, a1, a2, a3, a4, a5, a6, a7, a8⟩ := h
  refine ⟨?_, ?_, ?_, ?_, ?_, ?_, fun j hj => hg j hj, fun v hv => ?_, fun c hc => ?_⟩
  · rw [ho _ (by omega)]; exact a0
  · rw [ho _ (by omega)]; exact a1
  · rw [ho _ (by omega)]; exact a2
  · rw [ho _ (by omega)]; exact a3
  · rw [ho _ (by omega)]; exact a4
  · rw [ho _ (by omega)]; exact a5
  · rw [ho _ (by omega), ho _ (by omega)]; exact a7 v hv
  · rw [ho _ (by omega), ho _ (by omega), ho _ (by omega), ho _ (by omega), ho _ (by omega), ho _ (by omega)]; exact a8 c hc
theorem ok_swap (hR : Rel B M) : Ok2 B M f_X8_swap f_X9_swap := by
  obtain ⟨T, D, n, P, hT, hD, hn, hP, hE, hEm, hC, hM⟩ := hR.2
  have h5 := hT.1
  have hth := hD.2.2.1
  have c2 : ((2 : Int32) ≤ nI (Tnv T - Dth D)) ↔ 2 ≤ Tnv T - Dth D := nI_leI (a := 2) (by decide) (by omega)
  by_cases q : 2 ≤ Tnv T - Dth D
  · have hD' : WD T (Dst D, DF D, DK D, Dtu D, Dth D, sw (Dln D) (Dth D)) (B + 6) := ⟨hD.1, hD.2.1, hD.2.2.1, by have : Dtu D ≤ B := hD.2.2.2.1; show Dtu D ≤ B + 6; omega, sw_in (by omega) hD.2.2.2.2.1, sw_inj (by omega) hD.2.2.2.2.2.1, hD.2.2.2.2.2.2⟩
    refine act_do hR hT hD hn hP hE hEm hC hM (r := nI (Dln D (Dth D + 1))) hD' (fun M0 e0 hE0 f0 => ?_) (fun N N0 hN e0 hN0 => ?_)
    · have h3 : M0 11 3 = nI (Dth D) := ec_th hE0
      have l0 : M0 13 (Dth D) = nI (Dln D (Dth D)) := ec_ln hE0 (by omega)
      have l1 : M0 13 (Dth D + 1) = nI (Dln D (Dth D + 1)) := ec_ln hE0 (by omega)
      refine ⟨stA M0 13 (upd (upd (M0 13) (Dth D) (nI (Dln D (Dth D + 1)))) (Dth D + 1) (nI (Dln D (Dth D)))), ?_, ec_mo hE0 (mo_ln hE0.2 (fun j hj => ?_)) (fun a a1 a2 => stA_ne (by omega)), fun a ha => stA_ne (by omega)⟩
      · have ex : f_X8_exchange M0 13 (nI (Dth D)) (nI (Dth D + 1)) = some (stA M0 13 (upd (upd (M0 13) (Dth D) (nI (Dln D (Dth D + 1)))) (Dth D + 1) (nI (Dln D (Dth D))))) := by
          unfold f_X8_exchange
          rw [chk_ix (by omega) (by decide), cl_nI (by omega), l0, nmE, chk_ix (by omega) (by decide), cl_nI (by omega), l1, nmE, nmE]
          show some (stA (stA M0 13 _) 13 (upd (stA M0 13 _ 13) (Dth D + 1) (nI (Dln D (Dth D))))) = _
          rw [stA_stA, stA_i]
        unfold f_X8_swap
        rw [cCom hE hD, if_pos (c2.mpr q), e0, bdE, h3, nI_sc, ex, bdE, stA_ne (by decide), h3, chk_ix (by omega) (by decide), cl_nI (by omega), stA_i, pk_un (by omega), pk_us]
      · unfold sw
        by_cases j1 : j = Dth D
        · rw [if_pos j1, j1, pk_un (by omega), pk_us]
        · rw [if_neg j1]
          by_cases j2 : j = Dth D + 1
          · rw [if_pos j2, j2, pk_us]
          · rw [if_neg j2, pk_un j2, pk_un j1]
            exact ec_ln hE0 hj
    · have h3 : N0 146 3 = nI (Dth D) := em_th hN0
      have l0 := em_ln hN0 (show Dth D < Tnv T by omega)
      have l1 := em_ln hN0 (show Dth D + 1 < Tnv T by omega)
      refine ⟨upd (upd (N0 146) (6 + Dth D) (nI (Dln D (Dth D + 1)))) (6 + Dth D + 1) (nI (Dln D (Dth D))), ?_, em_upL hT hN0 (fun t ht => ?_) (fun j hj => ?_)⟩
      · unfold f_X9_swap
        rw [if_pos ((isF_iff hN).mpr (by omega)), mLeft hN hD, if_pos (c2.mpr q), e0, bdE, h3, q6, nmE, chk_ix (by omega) (by decide), cl_nI (by omega), l0, nmE, nI_sc, chk_ix (by omega) (by decide), cl_nI (by omega), show 6 + Dth D + 1 = 6 + (Dth D + 1) by omega, l1, nmE, nmE]
        have es : st (st N0 146 (6 + Dth D) (nI (Dln D (Dth D + 1)))) 146 (6 + (Dth D + 1)) (nI (Dln D (Dth D))) = stA N0 146 (upd (upd (N0 146) (6 + Dth D) (nI (Dln D (Dth D + 1)))) (6 + (Dth D + 1)) (nI (Dln D (Dth D)))) := by
          show stA (stA N0 146 _) 146 (upd (stA N0 146 _ 146) _ _) = _
          rw [stA_stA, stA_i]
        rw [es, stA_i, pk_un (by omega), pk_us]
      · rw [pk_un (by omega), pk_un (by omega)]
      · unfold sw
        by_cases j1 : j = Dth D
        · rw [if_pos j1, j1, pk_un (by omega), pk_us]
        · rw [if_neg j1]
          by_cases j2 : j = Dth D + 1
          · rw [if_pos j2, j2, show 6 + (Dth D + 1) = 6 + Dth D + 1 by omega, pk_us]
          · rw [if_neg j2, pk_un (by omega), pk_un (by omega)]
            exact em_ln hN0 hj
  · refine act_no hR (r := -1000002) ?_ ?_
    · unfold f_X8_swap
      rw [cCom hE hD, if_neg (fun h => q (c2.mp h))]
    · unfold f_X9_swap
      rw [mLeft hEm hD, if_neg (fun h => q (c2.mp h))]
      split
      · rfl
      · rfl
theorem ok_undo (hR : Rel B M) : Ok2 B M f_X8_undo f_X9_undo := by
  obtain ⟨T, D, n, P, hT, hD, hn, hP, hE, hEm, hC, hM⟩ := hR.2
  have h25 : M 25 2 = nI n := by obtain ⟨p, _, _, h, _⟩ := hC; exact h
  have h17 := hM.1
  have c1 : ((1 : Int32) ≤ nI n) ↔ 1 ≤ n := nI_leI (a := 1) (by decide) (by omega)
  by_cases q : 1 ≤ n
  · obtain ⟨M1, e1, hE1, hC1, k2, f1⟩ := cTkb hT hE hC hn q
    have e140 : M1 140 = M 140 := f1 140 (by decide) (by omega)
    have e149 : M1 149 = M 149 := f1 149 (by decide) (by omega)
    have hP0 : EM (fun j => M 149 (57 * (n - 1) + j)) T (P 0) := hM.2 0 q
    obtain ⟨N0, eN⟩ : ∃ y, y = st M1 140 17 (nI (n - 1)) := ⟨_, rfl⟩
    have hN149 : N0 149 = M 149 := by rw [eN, st_ne (by decide)]; exact e149
    have hc := mCop (M := N0) (i0 := 149) (i2 := 146) (a := 57 * (n - 1)) (c := 0) (by decide) (by rw [show gL 149 = 1368 by decide]; omega) (by decide) (by decide) (by decide)
    have hc' : f_X9_copies N0 149 (nI (57 * (n - 1))) 146 (0 : Int32) = _ := hc
    have hg : EM (va_cpy (N0 149) (N0 146) (57 * (n - 1)) 0 57) T (P 0) := em_cg hP0 (fun t ht => by
      rw [pk_cpy_in (by omega) (by omega), hN149]
      congr 1) hT
    have hN17 : N0 140 17 = nI (n - 1) := by rw [eN, st_same]
    refine ⟨nI (n - 1), M1, stA N0 146 (va_cpy (N0 149) (N0 146) (57 * (n - 1)) 0 57), ?_, ?_, ?_⟩
    · unfold f_X8_undo
      rw [h25, if_pos (c1.mpr q), e1, bdE, k2]
    · unfold f_X9_undo
      rw [e140, h17, if_neg (nI_ne0 (by omega) (by omega)), show nI n - 1 = nI (n - 1) from nI_sub (b := 1) q, ← eN, nmE, hN17, m57, hc', bdE, stA_ne (by decide), hN17]
    · have k : ∀ a, a ≠ 146 → a ≠ 140 → stA N0 146 (va_cpy (N0 149) (N0 146) (57 * (n - 1)) 0 57) a = M1 a := fun a h1 h2 => (stA_ne h1).trans (by rw [eN]; exact st_ne h2)
      refine rel_act (n := n - 1) (P := fun q => P (q + 1)) hR.1 hT (WD_mono (hP 0 q) (by omega)) (by omega) (fun r hr => WD_mono (hP (r + 1) (by omega)) (by omega)) (ec_cg hE1 (fun a a1 a2 => k a (by omega) (by omega))) (by rw [stA_i]; exact hg) (ca_cg hC1 (fun a ha => k a (by omega) (by omega))) ⟨by rw [stA_ne (by decide)]; exact hN17, fun r hr => ?_⟩ (fun a ha => ?_) (fun s hs => ?_)
      · have := hM.2 (r + 1) (by omega)
        rw [k 149 (by decide) (by decide), e149, show n - 1 - 1 - r = n - 1 - (r + 1) by omega]
        exact this
      · unfold rstc at ha
        exact (k a (by omega) (by omega)).trans (f1 a (by omega) (by omega))
      · rw [stA_ne (by decide), eN, st_slot hs, e140]
  · refine act_no hR (r := -1000002) ?_ ?_
    · unfold f_X8_undo
      rw [h25, if_neg (fun h => q (c1.mp h))]
    · unfold f_X9_undo
      rw [h17, show n = 0 by omega, if_pos (by decide)]
end AC3
