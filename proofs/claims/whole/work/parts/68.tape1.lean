/-! FLIGHT: what is on the tape, and how the class reads a sign or a number -/
abbrev PS : Type := Nat ⊕ Nat × Nat
def ch (L : Nat) (y : Nat → Int32) (p : Nat) : Int32 := if p < L then y p else -1
def isf (c : Int32) : Bool := f_X9_in c 48 57
theorem isf_6 (c : Int32) : f_X6_isFigure c = isf c := Eq.trans rfl rfl
def dg (c : Int32) : Nat := (c.toInt - 48).toNat
def fg (L : Nat) (y : Nat → Int32) (p : Nat) : Nat := if isf (ch L y p) = true then (if isf (ch L y (p + 1)) = true then (if isf (ch L y (p + 2)) = true then 3 else 2) else 1) else 0
def vl (L : Nat) (y : Nat → Int32) (p : Nat) : Nat := if fg L y p = 1 then dg (ch L y p) else 10 * dg (ch L y p) + dg (ch L y (p + 1))
def wl (s : PS) : Bool := match s with
  | .inl _ => true
  | .inr _ => false
def aP (L : Nat) (y : Nat → Int32) (c : Int32) (s : PS) : PS := match s with
  | .inl p => if ch L y p = c then .inl (p + 1) else .inr (1, p)
  | .inr e => .inr e
def aN (L : Nat) (y : Nat → Int32) (m : Nat) (s : PS) : Nat × PS := match s with
  | .inl p => if fg L y p = 0 ∨ fg L y p = 3 then (0, .inr (1, p)) else if m < vl L y p then (0, .inr (2, p)) else (vl L y p, .inl (p + fg L y p))
  | .inr e => (0, .inr e)
def CS (L : Nat) (y : Nat → Int32) (v0 : Int32) (M : Mem) (s : PS) : Prop := M 2 1 = nI L ∧ (∀ j, j < L → M 3 j = y j) ∧ match s with
  | .inl p => p ≤ L ∧ M 2 5 = 0 ∧ M 2 4 = nI p ∧ M 2 2 = v0
  | .inr e => e.2 ≤ L ∧ M 2 5 = 1 ∧ M 2 2 = nI e.1 ∧ M 2 3 = nI e.2
theorem isf_iff {c : Int32} : isf c = true ↔ 48 ≤ c.toInt ∧ c.toInt ≤ 57 := by
  have e1 : (48 : Int32).toInt = 48 := rfl
  have e2 : (57 : Int32).toInt = 57 := rfl
  unfold isf
  rw [in_iff, e1, e2]
theorem isf_nI {c : Int32} (h : isf c = true) : c = nI (48 + dg c) ∧ dg c ≤ 9 := by
  rw [isf_iff] at h
  unfold dg
  refine ⟨?_, by omega⟩
  rw [i_eq, ti (by omega)]
  omega
theorem isf_neg : isf (-1) = false := by decide
section TP
variable {L : Nat} {y : Nat → Int32} {v0 : Int32} {M : Mem}
theorem ch_in {p : Nat} (h : p < L) : ch L y p = y p := if_pos h
theorem ch_out {p : Nat} (h : ¬ p < L) : ch L y p = -1 := if_neg h
theorem isf_lt {p : Nat} (h : isf (ch L y p) = true) : p < L := by
  rcases Nat.lt_or_ge p L with q | q
  · exact q
  · rw [ch_out (by omega), isf_neg] at h; cases h
theorem fg_le (p : Nat) (hp : p ≤ L) (h3 : fg L y p ≠ 3) : p + fg L y p ≤ L := by
  unfold fg at h3 ⊢
  by_cases a : isf (ch L y p) = true
  · have := isf_lt a
    rw [if_pos a] at h3 ⊢
    by_cases b : isf (ch L y (p + 1)) = true
    · have := isf_lt b
      rw [if_pos b] at h3 ⊢
      by_cases c : isf (ch L y (p + 2)) = true
      · rw [if_pos c] at h3; exact absurd rfl h3
      · rw [if_neg c]; omega
    · rw [if_neg b]; omega
  · rw [if_neg a]; omega
theorem cLet (hL : L ≤ 120) (h1 : M 2 1 = nI L) (hy : ∀ j, j < L → M 3 j = y j) {p : Nat} (hp : p ≤ L) : f_X6_letterAt M (nI p) = some (ch L y p) := by
  unfold f_X6_letterAt
  rw [if_neg (nI_pos (by omega)), h1]
  by_cases q : p < L
  · rw [if_neg (by rw [nI_leI (by omega) (by omega)]; omega), chk_ix (by omega) (by decide), cl_nI (by omega), hy p q, ch_in q]
  · rw [if_pos (by rw [nI_leI (by omega) (by omega)]; omega), ch_out q]
theorem cFail (h1 : M 2 1 = nI L) (hy : ∀ j, j < L → M 3 j = y j) {k p : Nat} (hp : p ≤ L) : ∃ M', f_X6_fail M (nI k) (nI p) = (false, M') ∧ CS L y v0 M' (.inr (k, p)) ∧ (∀ a, a ≠ 2 → M' a = M a) := by
  refine ⟨st (st (st M 2 5 1) 2 2 (nI k)) 2 3 (nI p), rfl, ⟨?_, fun j hj => ?_, hp, ?_, ?_, ?_⟩, fun a ha => ((st_ne ha).trans (st_ne ha)).trans (st_ne ha)⟩
  · rw [st_slot (by decide), st_slot (by decide), st_slot (by decide)]; exact h1
  · rw [st_ne (by decide), st_ne (by decide), st_ne (by decide)]; exact hy j hj
  · rw [st_slot (by decide), st_slot (by decide), st_same]
  · rw [st_slot (by decide), st_same]
  · rw [st_same]
/-- the class's place moves -/
theorem cMove (h1 : M 2 1 = nI L) (hy : ∀ j, j < L → M 3 j = y j) (h5 : M 2 5 = 0) (h2 : M 2 2 = v0) {q : Nat} (hq : q ≤ L) : CS L y v0 (st M 2 4 (nI q)) (.inl q) ∧ (∀ a, a ≠ 2 → st M 2 4 (nI q) a = M a) := by
  refine ⟨⟨?_, fun j hj => ?_, hq, ?_, ?_, ?_⟩, fun a ha => st_ne ha⟩
  · rw [st_slot (by decide)]; exact h1
  · rw [st_ne (by decide)]; exact hy j hj
  · rw [st_slot (by decide)]; exact h5
  · rw [st_same]
  · rw [st_slot (by decide)]; exact h2
theorem cPas (hL : L ≤ 120) {s : PS} (hC : CS L y v0 M s) {c : Int32} (hc : 0 ≤ c.toInt) : ∃ M', f_X6_passes M c = some (wl (aP L y c s), M') ∧ CS L y v0 M' (aP L y c s) ∧ (∀ a, a ≠ 2 → M' a = M a) := by
  cases s with
  | inl p =>
    obtain ⟨h1, hy, hp, h5, h4, h2⟩ := hC
    have hl := cLet hL h1 hy hp
    unfold f_X6_passes
    rw [if_pos h5, h4, hl, bdE]
    by_cases q : ch L y p = c
    · have hpL : p < L := by
        rcases Nat.lt_or_ge p L with w | w
        · exact w
        · rw [ch_out (by omega)] at q
          rw [← q] at hc
          have : (-1 : Int32).toInt = -1 := by decide
          omega
      have e : aP L y c (.inl p) = .inl (p + 1) := if_pos q
      obtain ⟨g1, g2⟩ := cMove (v0 := v0) h1 hy h5 h2 (show p + 1 ≤ L by omega)
      rw [if_pos q, nI_sc, nmE, e]
      exact ⟨_, rfl, g1, g2⟩
    · have e : aP L y c (.inl p) = .inr (1, p) := if_neg q
      obtain ⟨M', f1, f2, f3⟩ := cFail (v0 := v0) h1 hy (k := 1) hp
      have f1' : f_X6_fail M (1 : Int32) (nI p) = (false, M') := f1
      rw [if_neg q, f1', nmE, e]
      exact ⟨M', rfl, f2, f3⟩
  | inr e =>
    have h5 : M 2 5 = 1 := hC.2.2.2.1
    refine ⟨M, ?_, hC, fun a _ => rfl⟩
    unfold f_X6_passes
    rw [h5, if_neg (by decide)]
    rfl
/-- the figures of a number -/
theorem cN16 (hL : L ≤ 120) (h1 : M 2 1 = nI L) (hy : ∀ j, j < L → M 3 j = y j) {p : Nat} (h4 : M 2 4 = nI p) (hp : p ≤ L) {x : Int32} {v e : Nat} (he : e ≤ L) (hpe : p ≤ e) (r : Int32 × Int32 → Option (Int32 × Mem)) : f_X6_number_16 M x r (nI v) (nI e) = if isf (ch L y e) = true then (if p + 3 ≤ e then f_X6_number_65 M x (nI v) (nI e) else r (nI (10 * v + dg (ch L y e)), nI (e + 1))) else f_X6_number_65 M x (nI v) (nI e) := by
  have hl := cLet hL h1 hy he
  unfold f_X6_number_16
  rw [h1]
  by_cases q : e < L
  · rw [if_neg (by rw [nI_leI (by omega) (by omega)]; omega), hl, bdE, isf_6, h4, p3]
    by_cases w : isf (ch L y e) = true
    · rw [if_pos w, if_pos w]
      by_cases u : p + 3 ≤ e
      · rw [if_pos u, if_pos (by rw [nI_leI (by omega) (by omega)]; omega)]
      · obtain ⟨d1, d2⟩ := isf_nI w
        have ev : nI v * (10 : Int32) + ch L y e - 48 = nI (10 * v + dg (ch L y e)) := by
          rw [show nI v * (10 : Int32) + ch L y e - 48 = nI v * nI 10 + nI (48 + dg (ch L y e)) - nI 48 by rw [← d1]; rfl, pk_mul, nI_add, pk_sub (by omega)]
          congr 1
          omega
        rw [if_neg u, if_neg (by rw [nI_leI (by omega) (by omega)]; omega), bdE, ev, nmE, nmE, nI_sc]
    · rw [if_neg w, if_neg w]
  · have w : ¬ isf (ch L y e) = true := fun h => q (isf_lt h)
    rw [if_pos (by rw [nI_leI (by omega) (by omega)]; omega), if_neg w]
theorem cN65 (hL : L ≤ 120) (h1 : M 2 1 = nI L) (hy : ∀ j, j < L → M 3 j = y j) {p : Nat} (h4 : M 2 4 = nI p) (h5 : M 2 5 = 0) (h2 : M 2 2 = v0) (hp : p ≤ L) {m v k : Nat} (hm : m < 1000) (hv : v < 1000) (hk : k ≤ 3) (hkL : p + k ≤ L) {s : Nat × PS} (hs : s = if k = 0 ∨ k = 3 then (0, .inr (1, p)) else if m < v then (0, .inr (2, p)) else (v, .inl (p + k))) : ∃ M', f_X6_number_65 M (nI m) (nI v) (nI (p + k)) = some (nI s.1, M') ∧ CS L y v0 M' s.2 ∧ (∀ a, a ≠ 2 → M' a = M a) := by
  unfold f_X6_number_65
  rw [h4, nI_sub (by omega), show p + k - p = k by omega, nmE]
  have c1 : (nI k < (1 : Int32)) ↔ k < 1 := nI_ltI (b := 1) (by omega) (by decide)
  have c2 : (nI k ≤ (2 : Int32)) ↔ k ≤ 2 := nI_leI (b := 2) (by omega) (by decide)
  obtain ⟨M1, f1, f2, f3⟩ := cFail (v0 := v0) h1 hy (k := 1) hp
  have f1' : f_X6_fail M (1 : Int32) (nI p) = (false, M1) := f1
  obtain ⟨M2, g1, g2, g3⟩ := cFail (v0 := v0) h1 hy (k := 2) hp
  have g1' : f_X6_fail M (2 : Int32) (nI p) = (false, M2) := g1
  by_cases q : k = 0 ∨ k = 3
  · rw [if_pos q] at hs
    rw [hs]
    rcases q with q | q
    · rw [if_pos (c1.mpr (by omega)), f1', nmE]
      exact ⟨M1, rfl, f2, f3⟩
    · rw [if_neg (fun w => by have := c1.mp w; omega), if_neg (fun w => by have := c2.mp w; omega), f1', nmE]
      exact ⟨M1, rfl, f2, f3⟩
  · rw [if_neg q] at hs
    rw [if_neg (fun w => by have := c1.mp w; omega), if_pos (c2.mpr (by omega))]
    by_cases u : m < v
    · rw [if_pos u] at hs
      rw [hs, if_neg (by rw [nI_leI (by omega) (by omega)]; omega), g1', nmE]
      exact ⟨M2, rfl, g2, g3⟩
    · rw [if_neg u] at hs
      rw [hs, if_pos (by rw [nI_leI (by omega) (by omega)]; omega), nmE]
      obtain ⟨k1, k2⟩ := cMove (v0 := v0) h1 hy h5 h2 hkL
      exact ⟨_, rfl, k1, k2⟩
theorem cNum (hL : L ≤ 120) {s : PS} (hC : CS L y v0 M s) {m : Nat} (hm : m < 1000) : ∃ M', f_X6_number M (nI m) = some (nI (aN L y m s).1, M') ∧ CS L y v0 M' (aN L y m s).2 ∧ (∀ a, a ≠ 2 → M' a = M a) := by
  cases s with
  | inr e =>
    have h5 : M 2 5 = 1 := hC.2.2.2.1
    refine ⟨M, ?_, hC, fun a _ => rfl⟩
    unfold f_X6_number
    rw [h5, if_neg (by decide)]
    rfl
  | inl p =>
    obtain ⟨h1, hy, hp, h5, h4, h2⟩ := hC
    unfold f_X6_number
    rw [if_pos h5, h4, nmE]
    obtain ⟨fu, ef⟩ : ∃ fu, fuel = fu + 4 := ⟨1996, rfl⟩
    have hN : aN L y m (.inl p) = if fg L y p = 0 ∨ fg L y p = 3 then (0, .inr (1, p)) else if m < vl L y p then (0, .inr (2, p)) else (vl L y p, .inl (p + fg L y p)) := rfl
    have st16 := fun (v e : Nat) (he : e ≤ L) (hpe : p ≤ e) (r : Int32 × Int32 → Option (Int32 × Mem)) => cN16 hL h1 hy h4 hp (x := nI m) (v := v) he hpe r
    rw [ef, iter_s]
    show ∃ M', f_X6_number_16 M (nI m) _ (nI 0) (nI p) = _ ∧ _
    rw [st16 0 p hp (Nat.le_refl p)]
    by_cases a : isf (ch L y p) = true
    · have aL := isf_lt a
      rw [if_pos a, if_neg (by omega), iter_s]
      have da := (isf_nI a).2
      show ∃ M', f_X6_number_16 M (nI m) _ (nI (10 * 0 + dg (ch L y p))) (nI (p + 1)) = _ ∧ _
      rw [st16 _ (p + 1) (by omega) (by omega)]
      by_cases b : isf (ch L y (p + 1)) = true
      · have bL := isf_lt b
        have db := (isf_nI b).2
        rw [if_pos b, if_neg (by omega), iter_s]
        show ∃ M', f_X6_number_16 M (nI m) _ (nI (10 * (10 * 0 + dg (ch L y p)) + dg (ch L y (p + 1)))) (nI (p + 1 + 1)) = _ ∧ _
        rw [show p + 1 + 1 = p + 2 by omega, st16 _ (p + 2) (by omega) (by omega)]
        by_cases c : isf (ch L y (p + 2)) = true
        · have cL := isf_lt c
          have dc := (isf_nI c).2
          rw [if_pos c, if_neg (by omega), iter_s]
          show ∃ M', f_X6_number_16 M (nI m) _ (nI (10 * (10 * (10 * 0 + dg (ch L y p)) + dg (ch L y (p + 1))) + dg (ch L y (p + 2)))) (nI (p + 2 + 1)) = _ ∧ _
          rw [show p + 2 + 1 = p + 3 by omega, st16 _ (p + 3) (by omega) (by omega)]
          have e3 : fg L y p = 3 := by unfold fg; rw [if_pos a, if_pos b, if_pos c]
          rw [e3] at hN
          have hN2 : aN L y m (.inl p) = if 3 = 0 ∨ 3 = 3 then (0, .inr (1, p)) else if m < (10 * (10 * (10 * 0 + dg (ch L y p)) + dg (ch L y (p + 1))) + dg (ch L y (p + 2))) then (0, .inr (2, p)) else ((10 * (10 * (10 * 0 + dg (ch L y p)) + dg (ch L y (p + 1))) + dg (ch L y (p + 2))), .inl (p + 3)) := by
            rw [hN, if_pos (Or.inr rfl), if_pos (Or.inr rfl)]
          have fin := cN65 hL h1 hy h4 h5 h2 hp hm (show 10 * (10 * (10 * 0 + dg (ch L y p)) + dg (ch L y (p + 1))) + dg (ch L y (p + 2)) < 1000 by omega) (show 3 ≤ 3 by omega) (show p + 3 ≤ L by omega) hN2
          rw [if_pos (show p + 3 ≤ p + 3 by omega)]
          split
          · exact fin
          · exact fin
        · have e2 : fg L y p = 2 := by unfold fg; rw [if_pos a, if_pos b, if_neg c]
          have ev : vl L y p = 10 * (10 * 0 + dg (ch L y p)) + dg (ch L y (p + 1)) := by unfold vl; rw [e2, if_neg (by decide)]; omega
          rw [e2, ev] at hN
          rw [if_neg c]
          exact cN65 hL h1 hy h4 h5 h2 hp hm (by omega) (by omega) (by omega) hN
      · have e1 : fg L y p = 1 := by unfold fg; rw [if_pos a, if_neg b]
        have ev : vl L y p = 10 * 0 + dg (ch L y p) := by unfold vl; rw [e1, if_pos rfl]; omega
        rw [e1, ev] at hN
        rw [if_neg b]
        exact cN65 hL h1 hy h4 h5 h2 hp hm (by omega) (by omega) (by omega) hN
    · have e0 : fg L y p = 0 := by unfold fg; rw [if_neg a]
      rw [e0] at hN
      have hN2 : aN L y m (.inl p) = if 0 = 0 ∨ 0 = 3 then (0, .inr (1, p)) else if m < 0 then (0, .inr (2, p)) else (0, .inl (p + 0)) := by
        rw [hN, if_pos (Or.inl rfl), if_pos (Or.inl rfl)]
      rw [if_neg a]
      exact cN65 hL h1 hy h4 h5 h2 hp hm (by omega) (show 0 ≤ 3 by omega) (by omega) hN2
end TP
