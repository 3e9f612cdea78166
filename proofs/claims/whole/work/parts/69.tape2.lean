/-! FLIGHT: how the reference reads a token -/
def tok (L : Nat) (y : Nat → Int32) (p : Nat) : Nat := if isf (ch L y p) = true then (if fg L y p = 3 then 5 else 2) else if 0 ≤ ch L y p then (if f_X9_in (ch L y p) 97 122 = true then 1 else if ch L y p = 44 then 3 else if ch L y p = 59 then 4 else 5) else 0
def tv (L : Nat) (y : Nat → Int32) (p : Nat) : Int32 := if isf (ch L y p) = true then nI (vl L y p) else ch L y p
def nxt (L : Nat) (y : Nat → Int32) (p : Nat) : Nat := if isf (ch L y p) = true then p + fg L y p else if 0 ≤ ch L y p then p + 1 else p
def RS (L : Nat) (y : Nat → Int32) (v0 : Int32) (M : Mem) (s : PS) : Prop := M 140 6 = nI L ∧ (∀ j, j < L → M 145 j = y j) ∧ match s with
  | .inl p => p ≤ L ∧ M 140 8 = -1 ∧ M 140 7 = v0 ∧ M 140 10 = nI p ∧ M 140 11 = nI (tok L y p) ∧ (tok L y p ≠ 5 → M 140 12 = tv L y p ∧ M 140 9 = nI (nxt L y p))
  | .inr e => e.2 ≤ L ∧ M 140 8 = nI e.2 ∧ M 140 7 = nI e.1
/-- what reading changes in the reference -/
def rf (M M' : Mem) : Prop := (∀ a, a ≠ 140 → M' a = M a) ∧ (∀ s, s < 7 ∨ 12 < s → M' 140 s = M 140 s)
theorem rf_refl (M : Mem) : rf M M := ⟨fun _ _ => rfl, fun _ _ => rfl⟩
theorem rf_trans {M M1 M2 : Mem} (h1 : rf M M1) (h2 : rf M1 M2) : rf M M2 := ⟨fun a ha => (h2.1 a ha).trans (h1.1 a ha), fun s hs => (h2.2 s hs).trans (h1.2 s hs)⟩
theorem rf_st {M : Mem} {k : Nat} {v : Int32} (h : 7 ≤ k ∧ k ≤ 12) : rf M (st M 140 k v) := ⟨fun a ha => st_ne ha, fun s hs => st_slot (by omega)⟩
section TR
variable {L : Nat} {y : Nat → Int32} {v0 : Int32} {M : Mem}
theorem rByt (hL : L ≤ 120) (h1 : M 140 6 = nI L) (hy : ∀ j, j < L → M 145 j = y j) {p : Nat} (hp : p ≤ L) : f_X9_byteAt M (nI p) = some (ch L y p) := by
  unfold f_X9_byteAt
  rw [h1]
  by_cases q : p < L
  · rw [if_neg (by rw [nI_leI (by omega) (by omega)]; omega), chk_ix (by omega) (by decide), cl_nI (by omega), hy p q, ch_in q]
  · rw [if_pos (by rw [nI_leI (by omega) (by omega)]; omega), ch_out q]
theorem m10 (v : Nat) {c : Int32} (h : isf c = true) : (10 : Int32) * nI v + c - 48 = nI (10 * v + dg c) := by
  obtain ⟨d1, d2⟩ := isf_nI h
  rw [show (10 : Int32) * nI v + c - 48 = nI 10 * nI v + nI (48 + dg c) - nI 48 by rw [← d1]; rfl, pk_mul, nI_add, pk_sub (by omega)]
  congr 1
  omega
/-- a step of the loop over figures -/
theorem rA38 (hL : L ≤ 120) (h1 : M 140 6 = nI L) (hy : ∀ j, j < L → M 145 j = y j) {p e v : Nat} (h10 : M 140 10 = nI p) (h9 : M 140 9 = nI e) (h12 : M 140 12 = nI v) (hpe : p ≤ e) (he : e ≤ L) (r : Mem → Option Mem) : f_X9_advances_38 r M = if isf (ch L y e) = true then r (st (st M 140 12 (nI (if 2 ≤ e - p then v else 10 * v + dg (ch L y e)))) 140 9 (nI (e + 1))) else some (st M 140 11 (nI (if 3 ≤ e - p then 5 else 2))) := by
  have hb := rByt hL h1 hy he
  have c2 : ((2 : Int32) ≤ nI (e - p)) ↔ 2 ≤ e - p := nI_leI (a := 2) (by decide) (by omega)
  have c3 : ((3 : Int32) ≤ nI (e - p)) ↔ 3 ≤ e - p := nI_leI (a := 3) (by decide) (by omega)
  unfold f_X9_advances_38 f_X9_advances_96
  rw [h9, hb, bdE, h10, nI_sub hpe]
  show (if isf (ch L y e) = true then _ else _) = _
  by_cases w : isf (ch L y e) = true
  · rw [if_pos w, if_pos w]
    by_cases u : 2 ≤ e - p
    · rw [if_pos (c2.mpr u), if_pos u, nmE, nmE, st_slot (by decide), h9, nI_sc, h12]
    · rw [if_neg (fun z => u (c2.mp z)), if_neg u, bdE, h12, m10 v w, nmE, nmE, st_slot (by decide), h9, nI_sc]
  · rw [if_neg w, if_neg w]
    by_cases u : 3 ≤ e - p
    · rw [if_pos (c3.mpr u), if_pos u, nmE]
      rfl
    · rw [if_neg (fun z => u (c3.mp z)), if_neg u, nmE]
      rfl
/-- a run of figures, from the third on -/
theorem rA38x (hL : L ≤ 120) : ∀ (k : Nat) (M : Mem) (p e v fu : Nat), M 140 6 = nI L → (∀ j, j < L → M 145 j = y j) → M 140 10 = nI p → M 140 9 = nI e → M 140 12 = nI v → p + 3 ≤ e → e ≤ L → L - e ≤ k → k < fu → ∃ M', iter (fun rec a => f_X9_advances_38 rec a) fu M = some M' ∧ M' 140 11 = 5 ∧ M' 140 10 = nI p ∧ rf M M' ∧ M' 140 8 = M 140 8 ∧ M' 140 7 = M 140 7 := by
  intro k
  induction k with
  | zero =>
    intro M p e v fu h1 hy h10 h9 h12 hpe he hk hf
    obtain ⟨fu, rfl⟩ : ∃ z, fu = z + 1 := ⟨fu - 1, by omega⟩
    have w : ¬ isf (ch L y e) = true := fun h => by have := isf_lt h; omega
    rw [iter_s]
    show ∃ M', f_X9_advances_38 _ M = some M' ∧ _
    rw [rA38 hL h1 hy h10 h9 h12 (by omega) he, if_neg w, if_pos (by omega)]
    refine ⟨_, rfl, ?_, ?_, rf_st (by omega), ?_, ?_⟩
    · rw [st_same]; rfl
    · rw [st_slot (by decide)]; exact h10
    · rw [st_slot (by decide)]
    · rw [st_slot (by decide)]
  | succ k ih =>
    intro M p e v fu h1 hy h10 h9 h12 hpe he hk hf
    obtain ⟨fu, rfl⟩ : ∃ z, fu = z + 1 := ⟨fu - 1, by omega⟩
    rw [iter_s]
    show ∃ M', f_X9_advances_38 _ M = some M' ∧ _
    rw [rA38 hL h1 hy h10 h9 h12 (by omega) he]
    by_cases w : isf (ch L y e) = true
    · have eL := isf_lt w
      rw [if_pos w, if_pos (by omega)]
      obtain ⟨N, eN⟩ : ∃ N, N = st (st M 140 12 (nI v)) 140 9 (nI (e + 1)) := ⟨_, rfl⟩
      rw [← eN]
      have fN : rf M N := by rw [eN]; exact rf_trans (rf_st (by omega)) (rf_st (by omega))
      obtain ⟨M', g1, g2, g3, g4, g5, g6⟩ := ih N p (e + 1) v fu (by rw [fN.2 6 (by omega)]; exact h1) (fun j hj => by rw [fN.1 145 (by decide)]; exact hy j hj) (by rw [eN, st_slot (by decide), st_slot (by decide)]; exact h10) (by rw [eN, st_same]) (by rw [eN, st_slot (by decide), st_same]) (by omega) (by omega) (by omega) (by omega)
      refine ⟨M', g1, g2, g3, rf_trans fN g4, ?_, ?_⟩
      · rw [g5, eN, st_slot (by decide), st_slot (by decide)]
      · rw [g6, eN, st_slot (by decide), st_slot (by decide)]
    · rw [if_neg w, if_pos (by omega)]
      refine ⟨_, rfl, ?_, ?_, rf_st (by omega), ?_, ?_⟩
      · rw [st_same]; rfl
      · rw [st_slot (by decide)]; exact h10
      · rw [st_slot (by decide)]
      · rw [st_slot (by decide)]
theorem rA180 {p : Nat} {k : Nat} (h9 : M 140 9 = nI p) (hk : k < 6) : ∃ M', f_X9_advances_180 M (nI k) = some M' ∧ rf M M' ∧ M' 140 11 = nI k ∧ M' 140 9 = nI (if k = 0 then p else p + 1) ∧ (∀ s, s ≠ 11 → s ≠ 9 → M' 140 s = M 140 s) := by
  have c0 : (nI k = (0 : Int32)) ↔ k = 0 := nI_eq (b := 0) (by omega) (by decide)
  have hs : st M 140 11 (nI k) 140 9 = nI p := by rw [st_slot (by decide)]; exact h9
  have e0 : nI p + (0 : Int32) = nI p := Int32.add_zero _
  unfold f_X9_advances_180
  rw [nmE, st_same, hs]
  by_cases q : k = 0
  · rw [if_pos (c0.mpr q), nmE, if_pos q, e0]
    refine ⟨_, rfl, rf_trans (rf_st (by omega)) (rf_st (by omega)), ?_, ?_, fun s h1 h2 => ?_⟩
    · rw [st_slot (by decide), st_same]
    · rw [st_same]
    · rw [st_slot h2, st_slot h1]
  · rw [if_neg (fun z => q (c0.mp z)), nmE, if_neg q, nI_sc]
    refine ⟨_, rfl, rf_trans (rf_st (by omega)) (rf_st (by omega)), ?_, ?_, fun s h1 h2 => ?_⟩
    · rw [st_slot (by decide), st_same]
    · rw [st_same]
    · rw [st_slot h2, st_slot h1]
theorem rAdv (hL : L ≤ 120) (h1 : M 140 6 = nI L) (hy : ∀ j, j < L → M 145 j = y j) {p : Nat} (h9 : M 140 9 = nI p) (hp : p ≤ L) (h8 : M 140 8 = -1) (h7 : M 140 7 = v0) : ∃ M', f_X9_advances M = some M' ∧ RS L y v0 M' (.inl p) ∧ rf M M' := by
  obtain ⟨M1, e1⟩ : ∃ z, z = st M 140 10 (nI p) := ⟨_, rfl⟩
  have f1 : rf M M1 := by rw [e1]; exact rf_st (by omega)
  have g19 : M1 140 9 = nI p := by rw [e1, st_slot (by decide)]; exact h9
  have hb : f_X9_byteAt M1 (nI p) = some (ch L y p) := rByt hL (by rw [f1.2 6 (by omega)]; exact h1) (fun j hj => by rw [f1.1 145 (by decide)]; exact hy j hj) hp
  obtain ⟨M2, e2⟩ : ∃ z, z = st M1 140 12 (ch L y p) := ⟨_, rfl⟩
  have f2 : rf M M2 := rf_trans f1 (by rw [e2]; exact rf_st (by omega))
  have g2 : ∀ s, s ≠ 10 → s ≠ 12 → M2 140 s = M 140 s := fun s a b => by rw [e2, st_slot b, e1, st_slot a]
  have g210 : M2 140 10 = nI p := by rw [e2, st_slot (by decide), e1, st_same]
  have g212 : M2 140 12 = ch L y p := by rw [e2, st_same]
  unfold f_X9_advances
  rw [h9, ← e1, nmE, g19, hb, bdE, ← e2, nmE]
  show ∃ M', (if isf (ch L y p) = true then _ else _) = some M' ∧ _
  by_cases w : isf (ch L y p) = true
  · rw [if_pos w]
    have pL := isf_lt w
    obtain ⟨N, eN⟩ : ∃ z, z = st M2 140 12 (0 : Int32) := ⟨_, rfl⟩
    have fN : rf M N := rf_trans f2 (by rw [eN]; exact rf_st (by omega))
    have n : ∀ s, s ≠ 12 → s ≠ 10 → N 140 s = M 140 s := fun s a b => by rw [eN, st_slot a, g2 s b a]
    rw [← eN, nmE]
    have a6 : N 140 6 = nI L := by rw [fN.2 6 (by omega)]; exact h1
    have ay : ∀ j, j < L → N 145 j = y j := fun j hj => by rw [fN.1 145 (by decide)]; exact hy j hj
    have a10 : N 140 10 = nI p := by rw [eN, st_slot (by decide)]; exact g210
    have a9 : N 140 9 = nI p := by rw [n 9 (by decide) (by decide)]; exact h9
    have a12 : N 140 12 = nI 0 := by rw [eN, st_same]; rfl
    obtain ⟨fu, ef⟩ : ∃ fu, fuel = fu + 4 := ⟨1996, rfl⟩
    have hfu : 200 < fu := by have := fuel_eq; omega
    rw [ef, iter_s]
    show ∃ M', f_X9_advances_38 _ N = some M' ∧ _
    rw [rA38 hL a6 ay a10 a9 a12 (Nat.le_refl p) hp, if_pos w, if_neg (by omega)]
    obtain ⟨N1, eN1⟩ : ∃ z, z = st (st N 140 12 (nI (10 * 0 + dg (ch L y p)))) 140 9 (nI (p + 1)) := ⟨_, rfl⟩
    have fN1 : rf N N1 := by rw [eN1]; exact rf_trans (rf_st (by omega)) (rf_st (by omega))
    have n1 : ∀ s, s ≠ 12 → s ≠ 9 → N1 140 s = N 140 s := fun s a b => by rw [eN1, st_slot b, st_slot a]
    rw [← eN1]
    have b6 : N1 140 6 = nI L := by rw [fN1.2 6 (by omega)]; exact a6
    have by' : ∀ j, j < L → N1 145 j = y j := fun j hj => by rw [fN1.1 145 (by decide)]; exact ay j hj
    have b10 : N1 140 10 = nI p := by rw [n1 10 (by decide) (by decide)]; exact a10
    have b9 : N1 140 9 = nI (p + 1) := by rw [eN1, st_same]
    have b12 : N1 140 12 = nI (10 * 0 + dg (ch L y p)) := by rw [eN1, st_slot (by decide), st_same]
    rw [iter_s]
    show ∃ M', f_X9_advances_38 _ N1 = some M' ∧ _
    rw [rA38 hL b6 by' b10 b9 b12 (by omega) (by omega)]
    by_cases w1 : isf (ch L y (p + 1)) = true
    · have p1L := isf_lt w1
      rw [if_pos w1, if_neg (by omega)]
      obtain ⟨N2, eN2⟩ : ∃ z, z = st (st N1 140 12 (nI (10 * (10 * 0 + dg (ch L y p)) + dg (ch L y (p + 1))))) 140 9 (nI (p + 1 + 1)) := ⟨_, rfl⟩
      have fN2 : rf N1 N2 := by rw [eN2]; exact rf_trans (rf_st (by omega)) (rf_st (by omega))
      have n2 : ∀ s, s ≠ 12 → s ≠ 9 → N2 140 s = N1 140 s := fun s a b => by rw [eN2, st_slot b, st_slot a]
      rw [← eN2]
      have c6 : N2 140 6 = nI L := by rw [fN2.2 6 (by omega)]; exact b6
      have cy : ∀ j, j < L → N2 145 j = y j := fun j hj => by rw [fN2.1 145 (by decide)]; exact by' j hj
      have c10 : N2 140 10 = nI p := by rw [n2 10 (by decide) (by decide)]; exact b10
      have c9 : N2 140 9 = nI (p + 2) := by rw [eN2, st_same]
      have c12 : N2 140 12 = nI (10 * (10 * 0 + dg (ch L y p)) + dg (ch L y (p + 1))) := by rw [eN2, st_slot (by decide), st_same]
      rw [iter_s]
      show ∃ M', f_X9_advances_38 _ N2 = some M' ∧ _
      rw [rA38 hL c6 cy c10 c9 c12 (by omega) (by omega)]
      by_cases w2 : isf (ch L y (p + 2)) = true
      · have p2L := isf_lt w2
        rw [if_pos w2, if_pos (by omega)]
        obtain ⟨N3, eN3⟩ : ∃ z, z = st (st N2 140 12 (nI (10 * (10 * 0 + dg (ch L y p)) + dg (ch L y (p + 1))))) 140 9 (nI (p + 2 + 1)) := ⟨_, rfl⟩
        have fN3 : rf N2 N3 := by rw [eN3]; exact rf_trans (rf_st (by omega)) (rf_st (by omega))
        have n3 : ∀ s, s ≠ 12 → s ≠ 9 → N3 140 s = N2 140 s := fun s a b => by rw [eN3, st_slot b, st_slot a]
        rw [← eN3]
        obtain ⟨M', r1, r2, r3, r4, r5, r6⟩ := rA38x (y := y) hL 120 N3 p (p + 3) (10 * (10 * 0 + dg (ch L y p)) + dg (ch L y (p + 1))) (fu + 1) (by rw [fN3.2 6 (by omega)]; exact c6) (fun j hj => by rw [fN3.1 145 (by decide)]; exact cy j hj) (by rw [n3 10 (by decide) (by decide)]; exact c10) (by rw [eN3, st_same]) (by rw [eN3, st_slot (by decide), st_same]) (by omega) (by omega) (by omega) (by omega)
        have fA : rf M M' := rf_trans fN (rf_trans fN1 (rf_trans fN2 (rf_trans fN3 r4)))
        have et : tok L y p = 5 := by
          have e3 : fg L y p = 3 := by unfold fg; rw [if_pos w, if_pos w1, if_pos w2]
          unfold tok; rw [if_pos w, if_pos e3]
        refine ⟨M', r1, ⟨by rw [fA.2 6 (by omega)]; exact h1, fun j hj => by rw [fA.1 145 (by decide)]; exact hy j hj, hp, ?_, ?_, r3, by rw [r2, et]; rfl, fun z => absurd et z⟩, fA⟩
        · rw [r5, n3 8 (by decide) (by decide), n2 8 (by decide) (by decide), n1 8 (by decide) (by decide), n 8 (by decide) (by decide)]; exact h8
        · rw [r6, n3 7 (by decide) (by decide), n2 7 (by decide) (by decide), n1 7 (by decide) (by decide), n 7 (by decide) (by decide)]; exact h7
      · rw [if_neg w2, if_neg (by omega)]
        have e3 : fg L y p = 2 := by unfold fg; rw [if_pos w, if_pos w1, if_neg w2]
        have et : tok L y p = 2 := by unfold tok; rw [if_pos w, if_neg (by rw [e3]; decide)]
        have ev : tv L y p = nI (10 * (10 * 0 + dg (ch L y p)) + dg (ch L y (p + 1))) := by
          unfold tv vl; rw [if_pos w, if_neg (by rw [e3]; decide)]; congr 1; omega
        have en : nxt L y p = p + 2 := by unfold nxt; rw [if_pos w, e3]
        have fA : rf M (st N2 140 11 (nI 2)) := rf_trans fN (rf_trans fN1 (rf_trans fN2 (rf_st (by omega))))
        refine ⟨_, rfl, ⟨by rw [fA.2 6 (by omega)]; exact h1, fun j hj => by rw [fA.1 145 (by decide)]; exact hy j hj, hp, ?_, ?_, ?_, ?_, fun _ => ⟨?_, ?_⟩⟩, fA⟩
        · rw [st_slot (by decide), n2 8 (by decide) (by decide), n1 8 (by decide) (by decide), n 8 (by decide) (by decide)]; exact h8
        · rw [st_slot (by decide), n2 7 (by decide) (by decide), n1 7 (by decide) (by decide), n 7 (by decide) (by decide)]; exact h7
        · rw [st_slot (by decide)]; exact c10
        · rw [st_same, et]
        · rw [st_slot (by decide), ev]; exact c12
        · rw [st_slot (by decide), en]; exact c9
    · rw [if_neg w1, if_neg (by omega)]
      have e3 : fg L y p = 1 := by unfold fg; rw [if_pos w, if_neg w1]
      have et : tok L y p = 2 := by unfold tok; rw [if_pos w, if_neg (by rw [e3]; decide)]
      have ev : tv L y p = nI (10 * 0 + dg (ch L y p)) := by
        unfold tv vl; rw [if_pos w, if_pos e3]; congr 1; omega
      have en : nxt L y p = p + 1 := by unfold nxt; rw [if_pos w, e3]
      have fA : rf M (st N1 140 11 (nI 2)) := rf_trans fN (rf_trans fN1 (rf_st (by omega)))
      refine ⟨_, rfl, ⟨by rw [fA.2 6 (by omega)]; exact h1, fun j hj => by rw [fA.1 145 (by decide)]; exact hy j hj, hp, ?_, ?_, ?_, ?_, fun _ => ⟨?_, ?_⟩⟩, fA⟩
      · rw [st_slot (by decide), n1 8 (by decide) (by decide), n 8 (by decide) (by decide)]; exact h8
      · rw [st_slot (by decide), n1 7 (by decide) (by decide), n 7 (by decide) (by decide)]; exact h7
      · rw [st_slot (by decide)]; exact b10
      · rw [st_same, et]
      · rw [st_slot (by decide), ev]; exact b12
      · rw [st_slot (by decide), en]; exact b9
  · rw [if_neg w]
    have ev : tv L y p = ch L y p := if_neg w
    have fin : ∀ k, k < 6 → tok L y p = k → (k = 0 ↔ ¬ 0 ≤ ch L y p) → ∃ M', f_X9_advances_180 M2 (nI k) = some M' ∧ RS L y v0 M' (.inl p) ∧ rf M M' := by
      intro k hk et ek
      obtain ⟨M', r1, r2, r3, r4, r5⟩ := rA180 (M := M2) (p := p) (k := k) (by rw [g2 9 (by decide) (by decide)]; exact h9) hk
      have fA : rf M M' := rf_trans f2 r2
      have en : nxt L y p = if k = 0 then p else p + 1 := by
        unfold nxt
        rw [if_neg w]
        by_cases z : k = 0
        · rw [if_pos z, if_neg (ek.mp z)]
        · rw [if_neg z, if_pos (Classical.not_not.mp (fun u => z (ek.mpr u)))]
      refine ⟨M', r1, ⟨by rw [fA.2 6 (by omega)]; exact h1, fun j hj => by rw [fA.1 145 (by decide)]; exact hy j hj, hp, ?_, ?_, ?_, ?_, fun _ => ⟨?_, ?_⟩⟩, fA⟩
      · rw [r5 8 (by decide) (by decide), g2 8 (by decide) (by decide)]; exact h8
      · rw [r5 7 (by decide) (by decide), g2 7 (by decide) (by decide)]; exact h7
      · rw [r5 10 (by decide) (by decide)]; exact g210
      · rw [r3, et]
      · rw [r5 12 (by decide) (by decide), ev]; exact g212
      · rw [r4, en]
    by_cases u0 : 0 ≤ ch L y p
    · rw [if_pos u0]
      by_cases u1 : f_X9_in (ch L y p) 97 122 = true
      · rw [if_pos u1]
        exact fin 1 (by decide) (by unfold tok; rw [if_neg w, if_pos u0, if_pos u1]) ⟨fun z => by omega, fun z => absurd u0 z⟩
      · rw [if_neg u1]
        by_cases u2 : ch L y p = 44
        · rw [if_pos u2]
          exact fin 3 (by decide) (by unfold tok; rw [if_neg w, if_pos u0, if_neg u1, if_pos u2]) ⟨fun z => by omega, fun z => absurd u0 z⟩
        · rw [if_neg u2]
          by_cases u3 : ch L y p = 59
          · rw [if_pos u3]
            exact fin 4 (by decide) (by unfold tok; rw [if_neg w, if_pos u0, if_neg u1, if_neg u2, if_pos u3]) ⟨fun z => by omega, fun z => absurd u0 z⟩
          · rw [if_neg u3]
            exact fin 5 (by decide) (by unfold tok; rw [if_neg w, if_pos u0, if_neg u1, if_neg u2, if_neg u3]) ⟨fun z => by omega, fun z => absurd u0 z⟩
    · rw [if_neg u0]
      exact fin 0 (by decide) (by unfold tok; rw [if_neg w, if_neg u0]) ⟨fun _ => u0, fun _ => rfl⟩
end TR
