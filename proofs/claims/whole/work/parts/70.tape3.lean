/-! FLIGHT: taking tokens -/
section TK
variable {L : Nat} {y : Nat → Int32} {v0 : Int32} {M : Mem}
theorem ch_ge {p : Nat} {c : Int32} (h : ch L y p = c) (hc : 0 ≤ c.toInt) : p < L := by
  rcases Nat.lt_or_ge p L with w | w
  · exact w
  · rw [ch_out (by omega)] at h
    rw [← h] at hc
    have : (-1 : Int32).toInt = -1 := by decide
    omega
theorem tok_lt6 (p : Nat) : tok L y p < 6 := by
  unfold tok
  split
  · split <;> omega
  · split
    · split
      · omega
      · split
        · omega
        · split <;> omega
    · omega
theorem tok_c {p : Nat} {c : Int32} (h : ch L y p = c) : tok L y p = if isf c = true then (if fg L y p = 3 then 5 else 2) else if 0 ≤ c then (if f_X9_in c 97 122 = true then 1 else if c = 44 then 3 else if c = 59 then 4 else 5) else 0 := by
  unfold tok
  rw [h]
theorem nxt_c {p : Nat} {c : Int32} (h : ch L y p = c) (h1 : isf c = false) (h2 : 0 ≤ c) : nxt L y p = p + 1 := by
  unfold nxt
  rw [h, h1, if_neg (by decide), if_pos h2]
theorem tv_c {p : Nat} {c : Int32} (h : ch L y p = c) (h1 : isf c = false) : tv L y p = c := by
  unfold tv
  rw [h, h1, if_neg (by decide)]
theorem tok_44 {p : Nat} : tok L y p = 3 ↔ ch L y p = 44 := by
  constructor
  · intro h
    unfold tok at h
    split at h
    · split at h <;> omega
    · split at h
      · split at h
        · omega
        · split at h
          · assumption
          · split at h <;> omega
      · omega
  · intro h
    rw [tok_c h, if_neg (by decide), if_pos (by decide), if_neg (by decide), if_pos rfl]
theorem tok_59 {p : Nat} : tok L y p = 4 ↔ ch L y p = 59 := by
  constructor
  · intro h
    unfold tok at h
    split at h
    · split at h <;> omega
    · split at h
      · split at h
        · omega
        · split at h
          · omega
          · split at h
            · assumption
            · omega
      · omega
  · intro h
    rw [tok_c h, if_neg (by decide), if_pos (by decide), if_neg (by decide), if_neg (by decide), if_pos rfl]
theorem tok_2 {p : Nat} : tok L y p = 2 ↔ ¬ (fg L y p = 0 ∨ fg L y p = 3) := by
  constructor
  · intro h
    unfold tok at h
    split at h
    · rename_i w
      split at h
      · omega
      · rename_i w3
        rintro (z | z)
        · unfold fg at z
          rw [if_pos w] at z
          split at z
          · split at z <;> omega
          · omega
        · exact w3 z
    · split at h
      · split at h
        · omega
        · split at h
          · omega
          · split at h <;> omega
      · omega
  · intro h
    have w : isf (ch L y p) = true := by
      rcases Bool.eq_false_or_eq_true (isf (ch L y p)) with w | w
      · exact w
      · exfalso
        apply h
        left
        unfold fg
        rw [w, if_neg (by decide)]
    unfold tok
    rw [if_pos w, if_neg (fun z => h (Or.inr z))]
theorem tok_1 {p : Nat} (h : tok L y p = 1) : f_X9_in (ch L y p) 97 122 = true ∧ tv L y p = ch L y p ∧ nxt L y p = p + 1 := by
  unfold tok at h
  split at h
  · split at h <;> omega
  · rename_i w
    split at h
    · rename_i w2
      split at h
      · rename_i w3
        exact ⟨w3, if_neg w, by unfold nxt; rw [if_neg w, if_pos w2]⟩
      · split at h
        · omega
        · split at h <;> omega
    · omega
theorem nxt_le {p : Nat} (hp : p ≤ L) (h5 : tok L y p ≠ 5) : nxt L y p ≤ L := by
  unfold nxt
  by_cases w : isf (ch L y p) = true
  · rw [if_pos w]
    exact fg_le p hp (fun z => h5 (by unfold tok; rw [if_pos w, if_pos z]))
  · rw [if_neg w]
    by_cases u : 0 ≤ ch L y p
    · rw [if_pos u]
      rcases Nat.lt_or_ge p L with q | q
      · omega
      · rw [ch_out (by omega)] at u
        exact absurd u (by decide)
    · rw [if_neg u]; exact hp
theorem rWellT {p : Nat} (h : RS L y v0 M (.inl p)) : f_X9_isWell M = true := by
  have h8 : M 140 8 = -1 := h.2.2.2.1
  unfold f_X9_isWell
  rw [h8, if_neg (by decide)]
theorem rWellF (hL : L ≤ 120) {e : Nat × Nat} (h : RS L y v0 M (.inr e)) : ¬ f_X9_isWell M = true := by
  have h8 : M 140 8 = nI e.2 := h.2.2.2.1
  have hle : e.2 ≤ L := h.2.2.1
  unfold f_X9_isWell
  rw [h8, if_pos (nI_pos' (by omega))]
  decide
theorem rTkT (hL : L ≤ 120) {p : Nat} (h : RS L y v0 M (.inl p)) (h5 : tok L y p ≠ 5) (k : Int32) : ∃ M', f_X9_takes M true k = some (tv L y p, M') ∧ RS L y v0 M' (.inl (nxt L y p)) ∧ rf M M' := by
  have hw := rWellT h
  obtain ⟨h1, hy, hp, h8, h7, h10, h11, hz⟩ := h
  obtain ⟨h12, h9⟩ := hz h5
  obtain ⟨M', e1, e2, e3⟩ := rAdv (v0 := v0) hL h1 hy h9 (nxt_le hp h5) h8 h7
  refine ⟨M', ?_, e2, e3⟩
  unfold f_X9_takes
  rw [if_pos hw, if_pos rfl, h12, nmE, e1, bdE]
theorem rTkF {p : Nat} (h : RS L y v0 M (.inl p)) (k : Nat) : ∃ M', f_X9_takes M false (nI k) = some (0, M') ∧ RS L y v0 M' (.inr (k, p)) ∧ rf M M' := by
  have hw := rWellT h
  obtain ⟨h1, hy, hp, h8, h7, h10, h11, hz⟩ := h
  have fA : rf M (st (st M 140 8 (nI p)) 140 7 (nI k)) := rf_trans (rf_st (by omega)) (rf_st (by omega))
  refine ⟨st (st M 140 8 (nI p)) 140 7 (nI k), ?_, ⟨by rw [fA.2 6 (by omega)]; exact h1, fun j hj => by rw [fA.1 145 (by decide)]; exact hy j hj, hp, ?_, ?_⟩, fA⟩
  · unfold f_X9_takes
    rw [if_pos hw, if_neg (by decide), h10, nmE, nmE]
  · rw [st_slot (by decide), st_same]
  · rw [st_same]
theorem rTkE (hL : L ≤ 120) {e : Nat × Nat} (h : RS L y v0 M (.inr e)) (b : Bool) (k : Int32) : f_X9_takes M b k = some (0, M) := by
  unfold f_X9_takes
  rw [if_neg (rWellF hL h)]
/-- a sign that has a token of its own -/
theorem rSign (hL : L ≤ 120) {c : Int32} {t : Nat} (ht : t < 5) (hct : ∀ p, tok L y p = t ↔ ch L y p = c) (hc1 : isf c = false) (hc2 : 0 ≤ c) {s : PS} (h : RS L y v0 M s) : ∃ v M', f_X9_takes M (decide (M 140 11 = nI t)) (1 : Int32) = some (v, M') ∧ RS L y v0 M' (aP L y c s) ∧ rf M M' := by
  cases s with
  | inl p =>
    have h11 : M 140 11 = nI (tok L y p) := h.2.2.2.2.2.2.1
    have ht6 := tok_lt6 (L := L) (y := y) p
    have e1 : (nI (tok L y p) = nI t) ↔ tok L y p = t := nI_eq (by omega) (by omega)
    by_cases q : ch L y p = c
    · have hq := (hct p).mpr q
      obtain ⟨M', r1, r2, r3⟩ := rTkT hL h (by omega) 1
      rw [h11, decide_eq_true (e1.mpr hq), show aP L y c (.inl p) = .inl (p + 1) from if_pos q]
      rw [nxt_c q hc1 hc2] at r2
      exact ⟨_, M', r1, r2, r3⟩
    · have hq : ¬ tok L y p = t := fun z => q ((hct p).mp z)
      obtain ⟨M', r1, r2, r3⟩ := rTkF h 1
      rw [h11, decide_eq_false (fun z => hq (e1.mp z)), show aP L y c (.inl p) = .inr (1, p) from if_neg q]
      exact ⟨_, M', r1, r2, r3⟩
  | inr e => exact ⟨_, M, rTkE hL h _ _, h, rf_refl M⟩
theorem rCom (hL : L ≤ 120) {s : PS} (h : RS L y v0 M s) : ∃ v M', f_X9_takes M (decide (M 140 11 = 3)) (1 : Int32) = some (v, M') ∧ RS L y v0 M' (aP L y 44 s) ∧ rf M M' := rSign (t := 3) hL (by decide) (fun _ => tok_44) (by decide) (by decide) h
theorem rStop (hL : L ≤ 120) {s : PS} (h : RS L y v0 M s) : ∃ v M', f_X9_takes M (decide (M 140 11 = 4)) (1 : Int32) = some (v, M') ∧ RS L y v0 M' (aP L y 59 s) ∧ rf M M' := rSign (t := 4) hL (by decide) (fun _ => tok_59) (by decide) (by decide) h
theorem rFig (hL : L ≤ 120) {s : PS} (h : RS L y v0 M s) {m : Nat} (hm : m < 1000) : ∃ M', f_X9_figure M 0 (nI m) = some (nI (aN L y m s).1, M') ∧ RS L y v0 M' (aN L y m s).2 ∧ rf M M' := by
  cases s with
  | inr e =>
    refine ⟨M, ?_, h, rf_refl M⟩
    unfold f_X9_figure f_X9_figure_22
    rw [if_neg (rWellF hL h), rTkE hL h, bdE]
    rfl
  | inl p =>
    have h11 : M 140 11 = nI (tok L y p) := h.2.2.2.2.2.2.1
    have ht6 := tok_lt6 (L := L) (y := y) p
    have e1 : (nI (tok L y p) = (2 : Int32)) ↔ tok L y p = 2 := nI_eq (b := 2) (by omega) (by decide)
    have hN : aN L y m (.inl p) = if fg L y p = 0 ∨ fg L y p = 3 then (0, .inr (1, p)) else if m < vl L y p then (0, .inr (2, p)) else (vl L y p, .inl (p + fg L y p)) := rfl
    unfold f_X9_figure
    rw [if_pos (rWellT h), h11]
    by_cases q : fg L y p = 0 ∨ fg L y p = 3
    · obtain ⟨M', r1, r2, r3⟩ := rTkF h 1
      have r1' : f_X9_takes M false (1 : Int32) = some (0, M') := r1
      rw [if_neg (fun z => (tok_2.mp (e1.mp z)) q), r1', bdE, hN, if_pos q]
      exact ⟨M', rfl, r2, r3⟩
    · have ht := tok_2.mpr q
      have h12 : M 140 12 = tv L y p := (h.2.2.2.2.2.2.2 (by omega)).1
      have w : isf (ch L y p) = true := by
        rcases Bool.eq_false_or_eq_true (isf (ch L y p)) with w | w
        · exact w
        · exfalso
          apply q
          left
          unfold fg
          rw [w, if_neg (by decide)]
      have hd := (isf_nI w).2
      have hv1 : vl L y p < 1000 := by
        unfold vl
        split
        · omega
        · rename_i z
          have : isf (ch L y (p + 1)) = true := by
            rcases Bool.eq_false_or_eq_true (isf (ch L y (p + 1))) with u | u
            · exact u
            · exfalso
              apply z
              unfold fg
              rw [if_pos w, u, if_neg (by decide)]
          have := (isf_nI this).2
          omega
      have etv : tv L y p = nI (vl L y p) := if_pos w
      have enx : nxt L y p = p + fg L y p := if_pos w
      rw [if_pos (e1.mpr ht), hN, if_neg q]
      unfold f_X9_figure_22
      rw [h12, etv]
      by_cases u : m < vl L y p
      · have ci : f_X9_in (nI (vl L y p)) 0 (nI m) = false := by
          rcases Bool.eq_false_or_eq_true (f_X9_in (nI (vl L y p)) 0 (nI m)) with z | z
          · rw [in_iff, ti (by omega), ti (by omega)] at z
            omega
          · exact z
        obtain ⟨M', r1, r2, r3⟩ := rTkF h 2
        have r1' : f_X9_takes M false (2 : Int32) = some (0, M') := r1
        rw [ci, r1', bdE, if_pos u]
        exact ⟨M', rfl, r2, r3⟩
      · have ci : f_X9_in (nI (vl L y p)) 0 (nI m) = true := by
          have e0 : (0 : Int32).toInt = 0 := rfl
          rw [in_iff, ti (by omega), ti (by omega)]
          omega
        obtain ⟨M', r1, r2, r3⟩ := rTkT hL h (by omega) 2
        rw [etv] at r1
        rw [enx] at r2
        rw [ci, r1, bdE, if_neg u]
        exact ⟨M', rfl, r2, r3⟩
theorem rNxt (hL : L ≤ 120) {s : PS} (h : RS L y v0 M s) {m : Nat} (hm : m < 1000) : ∃ M', f_X9_next M 0 (nI m) = some (nI (aN L y m (aP L y 44 s)).1, M') ∧ RS L y v0 M' (aN L y m (aP L y 44 s)).2 ∧ rf M M' := by
  obtain ⟨v, M1, r1, r2, r3⟩ := rCom hL h
  obtain ⟨M2, t1, t2, t3⟩ := rFig hL r2 hm
  refine ⟨M2, ?_, t2, rf_trans r3 t3⟩
  unfold f_X9_next
  by_cases q : M 140 11 = 3
  · rw [decide_eq_true q] at r1
    rw [if_pos q, r1, bdE]
    dsimp only
    rw [t1, bdE]
  · rw [decide_eq_false q] at r1
    rw [if_neg q, r1, bdE]
    dsimp only
    rw [t1, bdE]
theorem aN_le (m : Nat) (s : PS) : (aN L y m s).1 ≤ m := by
  cases s with
  | inr e => exact Nat.zero_le _
  | inl p =>
    have hN : aN L y m (.inl p) = if fg L y p = 0 ∨ fg L y p = 3 then (0, .inr (1, p)) else if m < vl L y p then (0, .inr (2, p)) else (vl L y p, .inl (p + fg L y p)) := rfl
    rw [hN]
    split
    · exact Nat.zero_le _
    · split
      · exact Nat.zero_le _
      · show vl L y p ≤ m
        omega
end TK
