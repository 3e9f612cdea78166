/-! THE ACTS: class and reference remember and take back -/
def push (D : DD) (P : Nat → DD) : Nat → DD
  | 0 => D
  | q + 1 => P q
def CA (M : Mem) (T : TT) (n : Nat) (P : Nat → DD) : Prop := ∃ p : Nat, p < 24 ∧ M 25 1 = nI p ∧ M 25 2 = nI n ∧ ∀ q, q < n → EMo M (27 + 3 * ((p + 23 - q) % 24)) T (P q)
def MA (M : Mem) (T : TT) (n : Nat) (P : Nat → DD) : Prop := M 140 17 = nI n ∧ ∀ q, q < n → EM (fun j => M 149 (57 * (n - 1 - q) + j)) T (P q)
def n24 (n : Nat) : Nat := if n + 1 < 24 then n + 1 else 24
theorem n24_le (n : Nat) : n24 n ≤ 24 := by unfold n24; split <;> omega
theorem ca_cg {M M' : Mem} {T : TT} {n : Nat} {P : Nat → DD} (h : CA M T n P) (e : ∀ a, a = 25 ∨ (27 ≤ a ∧ a ≤ 98) → M' a = M a) : CA M' T n P := by
  obtain ⟨p, hp, h1, h2, h3⟩ := h
  refine ⟨p, hp, by rw [e 25 (by omega)]; exact h1, by rw [e 25 (by omega)]; exact h2, fun q hq => mo_cg (h3 q hq) (fun a a1 a2 => e a ?_)⟩
  have := Nat.mod_lt (p + 23 - q) (show 24 > 0 by decide)
  omega
theorem ma_cg {M M' : Mem} {T : TT} {n : Nat} {P : Nat → DD} (h : MA M T n P) (e : M' 149 = M 149) (e2 : M' 140 17 = M 140 17) : MA M' T n P := by
  refine ⟨e2.trans h.1, fun q hq => ?_⟩
  have := h.2 q hq
  rw [e]
  exact this
theorem l_le {a b : Nat} {x : Int32} (hx : x = nI a) (ha : a < 2 ^ 31) (hb : b < 2 ^ 31) : x ≤ nI b ↔ a ≤ b := by rw [hx]; exact nI_leI ha hb
theorem l_lt {a b : Nat} {x : Int32} (hx : x = nI a) (ha : a < 2 ^ 31) (hb : b < 2 ^ 31) : x < nI b ↔ a < b := by rw [hx]; exact nI_ltI ha hb
theorem l_ge {a b : Nat} {x : Int32} (hx : x = nI a) (ha : a < 2 ^ 31) (hb : b < 2 ^ 31) : nI b ≤ x ↔ b ≤ a := by rw [hx]; exact nI_leI hb ha
theorem l_gt {a b : Nat} {x : Int32} (hx : x = nI a) (ha : a < 2 ^ 31) (hb : b < 2 ^ 31) : nI b < x ↔ b < a := by rw [hx]; exact nI_ltI hb ha
theorem l_eq {a b : Nat} {x : Int32} (hx : x = nI a) (ha : a < 2 ^ 31) (hb : b < 2 ^ 31) : nI b = x ↔ b = a := by rw [hx]; exact nI_eq hb ha
section AC
variable {M : Mem} {T : TT} {D : DD} {n : Nat} {P : Nat → DD}
theorem cRem (hT : WT T) (hE : EC M 4 T D) (hA : CA M T n P) (hn : n ≤ 24) : ∃ M1, f_X0_remember M 11 = some M1 ∧ CA M1 T (n24 n) (push D P) ∧ (∀ a, a ≠ 25 → ¬ (27 ≤ a ∧ a ≤ 98) → M1 a = M a) := by
  obtain ⟨p, hp, h1, h2, h3⟩ := hA
  obtain ⟨M0, e0⟩ : ∃ y, y = f_X3_become M (27 + 3 * p) 11 := ⟨_, rfl⟩
  have hmo : EMo M0 (27 + 3 * p) T D := by rw [e0]; exact x3_bec hT hE.2 (by omega)
  have hfr : ∀ a, a < 27 + 3 * p ∨ 27 + 3 * p + 2 < a → M0 a = M a := fun a ha => by rw [e0]; exact x3_fr _ _ _ _ ha
  have k1 : M0 25 1 = nI p := by rw [hfr 25 (by omega)]; exact h1
  have k2 : M0 25 2 = nI n := by rw [hfr 25 (by omega)]; exact h2
  have e33 : ∀ p' : Nat, f_X0_remember_33 11 M0 (nI p') = some (st (st M0 25 1 (nI p')) 25 2 (nI (n24 n))) := by
    intro p'
    have c : (nI (n + 1) < (24 : Int32)) ↔ n + 1 < 24 := nI_ltI (b := 24) (by omega) (by decide)
    have k3 : st M0 25 1 (nI p') 25 2 = nI n := by rw [st_slot (by decide)]; exact k2
    simp only [f_X0_remember_33, nm, k3, nI_sc, c]
    unfold n24
    split <;> rfl
  have fin : ∀ p' : Nat, p' < 24 → (p' + 23) % 24 = p → (∀ q, q < 23 → (p' + 23 - (q + 1)) % 24 = (p + 23 - q) % 24 ∧ (p + 23 - q) % 24 ≠ p) → CA (st (st M0 25 1 (nI p')) 25 2 (nI (n24 n))) T (n24 n) (push D P) ∧ (∀ a, a ≠ 25 → ¬ (27 ≤ a ∧ a ≤ 98) → (st (st M0 25 1 (nI p')) 25 2 (nI (n24 n))) a = M a) := by
    intro p' hp' r0 rq
    have hf2 : ∀ a, a ≠ 25 → (st (st M0 25 1 (nI p')) 25 2 (nI (n24 n))) a = M0 a := fun a ha => (st_ne ha).trans (st_ne ha)
    refine ⟨⟨p', hp', by rw [st_slot (by decide), st_same], by rw [st_same], fun q hq => ?_⟩, fun a ha hb => (hf2 a ha).trans (hfr a (by omega))⟩
    cases q with
    | zero =>
      show EMo _ (27 + 3 * ((p' + 23) % 24)) T D
      rw [r0]
      exact mo_cg hmo (fun a a1 a2 => hf2 a (by omega))
    | succ q =>
      have hq23 : q < 23 := by have := n24_le n; omega
      obtain ⟨r1, r2⟩ := rq q hq23
      rw [r1]
      have hqn : q < n := by unfold n24 at hq; split at hq <;> omega
      have := Nat.mod_lt (p + 23 - q) (show 24 > 0 by decide)
      exact mo_cg (h3 q hqn) (fun a a1 a2 => (hf2 a (by omega)).trans (hfr a (by omega)))
  have hr : f_X0_remember M 11 = if (23 : Int32) ≤ nI p then f_X0_remember_33 11 M0 (nI 0) else f_X0_remember_33 11 M0 (nI (p + 1)) := by
    unfold f_X0_remember
    rw [h1, chk_ix (by omega) (by decide), cl_nI (by omega), ← e0]
    simp only [nm, k1, nI_sc, nI_0]
  have c : ((23 : Int32) ≤ nI p) ↔ 23 ≤ p := nI_leI (a := 23) (by decide) (by omega)
  by_cases q : 23 ≤ p
  · rw [if_pos (c.mpr q), e33 0] at hr
    obtain ⟨f1, f2⟩ := fin 0 (by omega) (by omega) (fun q hq => ⟨by omega, by omega⟩)
    exact ⟨_, hr, f1, f2⟩
  · rw [if_neg (fun x => q (c.mp x)), e33 (p + 1)] at hr
    obtain ⟨f1, f2⟩ := fin (p + 1) (by omega) (by omega) (fun q hq => ⟨by omega, by omega⟩)
    exact ⟨_, hr, f1, f2⟩
theorem cTkb (hT : WT T) (hE : EC M 4 T D) (hA : CA M T n P) (hn : n ≤ 24) (h0 : 0 < n) : ∃ M1, f_X0_takeBack M 11 = some M1 ∧ EC M1 4 T (P 0) ∧ CA M1 T (n - 1) (fun q => P (q + 1)) ∧ M1 25 2 = nI (n - 1) ∧ (∀ a, a ≠ 25 → ¬ (11 ≤ a ∧ a ≤ 13) → M1 a = M a) := by
  obtain ⟨p, hp, h1, h2, h3⟩ := hA
  have fin : ∀ p' : Nat, p' < 24 → p' = (p + 23) % 24 → ∃ M1, f_X0_takeBack_19 11 M (nI p') = some M1 ∧ EC M1 4 T (P 0) ∧ CA M1 T (n - 1) (fun q => P (q + 1)) ∧ M1 25 2 = nI (n - 1) ∧ (∀ a, a ≠ 25 → ¬ (11 ≤ a ∧ a ≤ 13) → M1 a = M a) := by
    intro p' hp' r0
    obtain ⟨M0, e0⟩ : ∃ y, y = f_X3_become (st M 25 1 (nI p')) 11 (27 + 3 * p') := ⟨_, rfl⟩
    have hfr : ∀ a, a < 11 ∨ 13 < a → M0 a = (st M 25 1 (nI p')) a := fun a ha => by rw [e0]; exact x3_fr _ _ _ _ (by omega)
    have hP0 : EMo M (27 + 3 * p') T (P 0) := by
      have := h3 0 h0
      rw [show p + 23 - 0 = p + 23 by omega, ← r0] at this
      exact this
    have hmo : EMo M0 11 T (P 0) := by
      rw [e0]
      exact x3_bec hT (mo_cg hP0 (fun a a1 a2 => st_ne (by omega))) (by omega)
    have k2 : M0 25 2 = nI n := by rw [hfr 25 (by omega), st_slot (by decide)]; exact h2
    have k1 : M0 25 1 = nI p' := by rw [hfr 25 (by omega), st_same]
    have hsub : nI n - 1 = nI (n - 1) := nI_sub (b := 1) h0
    have hf2 : ∀ a, a ≠ 25 → st M0 25 2 (nI (n - 1)) a = M0 a := fun a ha => st_ne ha
    refine ⟨st M0 25 2 (nI (n - 1)), ?_, ⟨?_, ?_⟩, ⟨p', hp', by rw [st_slot (by decide)]; exact k1, by rw [st_same], fun q hq => ?_⟩, by rw [st_same], fun a ha hb => ?_⟩
    · unfold f_X0_takeBack_19
      rw [nmE, st_same, chk_ix (by omega) (by decide), cl_nI (by omega), ← e0, nmE, k2, hsub, nmE]
    · exact to_cg hE.1 (fun a a1 a2 => ((hf2 a (by omega)).trans (hfr a (by omega))).trans (st_ne (by omega)))
    · exact mo_cg hmo (fun a a1 a2 => hf2 a (by omega))
    · have := h3 (q + 1) (by omega)
      have hm : (p + 23 - (q + 1)) % 24 = (p' + 23 - q) % 24 := by omega
      rw [hm] at this
      have := Nat.mod_lt (p' + 23 - q) (show 24 > 0 by decide)
      exact mo_cg ‹EMo M _ T (P (q + 1))› (fun a a1 a2 => ((hf2 a (by omega)).trans (hfr a (by omega))).trans (st_ne (by omega)))
    · exact ((hf2 a ha).trans (hfr a (by omega))).trans (st_ne ha)
  have c : (nI p ≤ (0 : Int32)) ↔ p ≤ 0 := nI_leI (b := 0) (by omega) (by decide)
  unfold f_X0_takeBack
  rw [h1]
  by_cases q : p ≤ 0
  · rw [if_pos (c.mpr q)]
    exact fin 23 (by omega) (by omega)
  · rw [if_neg (fun x => q (c.mp x)), show nI p - 1 = nI (p - 1) from nI_sub (b := 1) (by omega)]
    exact fin (p - 1) (by omega) (by omega)
theorem p57 (a : Nat) : nI a + 57 = nI (a + 57) := nI_add a 57
theorem m57 (a : Nat) : (57 : Int32) * nI a = nI (57 * a) := pk_mul 57 a
def shf (w : Nat → Int32) (b : Nat) : Nat → Int32 := fun t => if t < b then w (t + 57) else w t
theorem shf_up {w : Nat → Int32} {b : Nat} {v : Int32} (hv : v = w (b + 57)) : upd (shf w b) b v = shf w (b + 1) := by
  funext t
  unfold upd shf
  by_cases q : t = b
  · rw [if_pos q, if_pos (by omega), hv, q]
  · rw [if_neg q]
    by_cases q2 : t < b
    · rw [if_pos q2, if_pos (by omega)]
    · rw [if_neg q2, if_neg (by omega)]
theorem mNot49 (hT : WT T) (hE : EM (M 146) T D) (hn : n < 24) (h17 : M 140 17 = nI n) (Q : Nat → DD) (hQ : ∀ q, q < n → EM (fun j => M 149 (57 * (n - 1 - q) + j)) T (Q q)) : ∃ M1, f_X9_notes_49 M = some M1 ∧ MA M1 T (n + 1) (push D Q) ∧ (∀ a, a ≠ 140 → a ≠ 149 → M1 a = M a) ∧ (∀ s, s ≠ 17 → M1 140 s = M 140 s) := by
  have hc := mCop (M := M) (i0 := 146) (i2 := 149) (a := 0) (c := 57 * n) (by decide) (by decide) (by rw [show gL 149 = 1368 by decide]; omega) (by decide) (by decide)
  have hc' : f_X9_copies M 146 (0 : Int32) 149 (nI (57 * n)) = _ := hc
  refine ⟨st (stA M 149 (va_cpy (M 146) (M 149) 0 (57 * n) 57)) 140 17 (nI (n + 1)), ?_, ⟨by rw [st_same], fun q hq => ?_⟩, fun a h1 h2 => (st_ne h1).trans (stA_ne h2), fun s hs => ?_⟩
  · unfold f_X9_notes_49
    rw [h17, m57, hc', bdE, nmE, stA_ne (by decide), h17, nI_sc]
  · rw [st_ne (by decide), stA_i]
    cases q with
    | zero =>
      refine em_cg hE (fun t ht => ?_) hT
      show va_cpy (M 146) (M 149) 0 (57 * n) 57 (57 * (n + 1 - 1 - 0) + t) = M 146 t
      rw [pk_cpy_in (by omega) (by omega)]
      congr 1
      omega
    | succ q =>
      refine em_cg (hQ q (by omega)) (fun t ht => ?_) hT
      show va_cpy (M 146) (M 149) 0 (57 * n) 57 (57 * (n + 1 - 1 - (q + 1)) + t) = M 149 (57 * (n - 1 - q) + t)
      rw [pk_cpy_out (by omega)]
      congr 1
      omega
  · rw [st_slot hs, stA_ne (by decide)]
theorem mNot (hT : WT T) (hE : EM (M 146) T D) (hA : MA M T n P) (hn : n ≤ 24) : ∃ M1, f_X9_notes M = some M1 ∧ MA M1 T (n24 n) (push D P) ∧ (∀ a, a ≠ 140 → a ≠ 149 → M1 a = M a) ∧ (∀ s, s ≠ 17 → M1 140 s = M 140 s) := by
  obtain ⟨h17, hA⟩ := hA
  have c : (nI n = (24 : Int32)) ↔ n = 24 := nI_eq (b := 24) (by omega) (by decide)
  unfold f_X9_notes
  rw [h17]
  by_cases q : n = 24
  · rw [if_pos (c.mpr q)]
    obtain ⟨Ms, es⟩ : ∃ y, y = st (stA M 149 (shf (M 149) 1311)) 140 17 (nI 23) := ⟨_, rfl⟩
    have hs17 : Ms 140 17 = nI 23 := by rw [es, st_same]
    have hs149 : Ms 149 = shf (M 149) 1311 := by rw [es, st_ne (by decide), stA_i]
    have hs146 : Ms 146 = M 146 := by rw [es, st_ne (by decide), stA_ne (by decide)]
    have hfr : ∀ a, a ≠ 140 → a ≠ 149 → Ms a = M a := fun a h1 h2 => by rw [es]; exact (st_ne h1).trans (stA_ne h2)
    have hfs : ∀ s, s ≠ 17 → Ms 140 s = M 140 s := fun s h1 => by rw [es, st_slot h1, stA_ne (by decide)]
    obtain ⟨M1, e1, a1, a2, a3⟩ := mNot49 (M := Ms) (n := 23) hT (by rw [hs146]; exact hE) (by omega) hs17 P (fun r hr => by
      rw [hs149]
      refine em_cg (hA r (by omega)) (fun t ht => ?_) hT
      show shf (M 149) 1311 (57 * (23 - 1 - r) + t) = M 149 (57 * (n - 1 - r) + t)
      unfold shf
      rw [if_pos (by omega)]
      congr 1
      omega)
    refine ⟨M1, ?_, ?_, fun a h1 h2 => (a2 a h1 h2).trans (hfr a h1 h2), fun s h1 => (a3 s h1).trans (hfs s h1)⟩
    · have key := iter_to (F := fun rec x => f_X9_notes_11 rec x.1 x.2) (fun b => (stA M 149 (shf (M 149) b), nI b)) 1311 (some M1) (fun b hb rec => ?_) (fun rec => ?_) fuel 0 (Nat.zero_le _) (by rw [fuel_eq]; omega)
      · have e0 : shf (M 149) 0 = M 149 := by funext t; exact if_neg (by omega)
        rw [e0, stA_self] at key
        exact key
      · have c1 : ¬ (1311 : Int32) ≤ nI b := nI_ge (b := 1311) hb (by decide)
        have e2 : stA M 149 (shf (M 149) b) 149 (b + 57) = M 149 (b + 57) := by rw [stA_i]; exact if_neg (by omega)
        simp (disch := omega) only [f_X9_notes_11, c1, if_false, p57, chk_ix, cl_nI, e2, nm, nI_sc]
        rw [stA_put (shf_up rfl)]
      · have c1 : (1311 : Int32) ≤ nI 1311 := by decide
        have e2 : stA M 149 (shf (M 149) 1311) 140 17 = nI 24 := by rw [stA_ne (by decide), h17, q]
        show f_X9_notes_11 rec (stA M 149 (shf (M 149) 1311)) (nI 1311) = some M1
        unfold f_X9_notes_11
        rw [if_pos c1, e2, show nI 24 - 1 = nI 23 by decide, ← es, nmE]
        exact e1
    · rw [show n24 n = 23 + 1 by rw [q]; rfl]
      exact a1
  · rw [if_neg (fun x => q (c.mp x))]
    obtain ⟨M1, e1, a1, a2, a3⟩ := mNot49 (M := M) (n := n) hT hE (by omega) h17 P hA
    refine ⟨M1, e1, ?_, a2, a3⟩
    rw [show n24 n = n + 1 by unfold n24; split <;> omega]
    exact a1
end AC
