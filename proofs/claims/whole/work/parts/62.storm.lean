/-! STORM: weights, Euclid -/
theorem b_pow : ∀ c, c < 11 → ∀ k, k < 7 → f_X8_power (nI c) (nI k) = some (nI (c ^ k)) := by decide +kernel
theorem b_sub : ∀ F, F < 64 → ∀ S, S < 64 → S &&& (63 ^^^ F) = 0 → F &&& S = S := by decide +kernel
theorem pw_le {c : Nat} (h : c ≤ 10) (k : Nat) : c ^ k ≤ 10 ^ k := Nat.pow_le_pow_left h k
def Wt (F c s : Nat) : Nat := c ^ pc s * (10 - c) ^ pc (F &&& (63 ^^^ s))
theorem Wt_le {F c s : Nat} (hF : F < 64) (hs : s < 64) (hc : c ≤ 10) (h : s &&& (63 ^^^ F) = 0) : Wt F c s ≤ 1000000 := by
  have h1 := pc_diff F hF s hs (b_sub F hF s hs h)
  have h2 := pc_le F hF
  have h3 := Nat.mul_le_mul (pw_le hc (pc s)) (pw_le (show 10 - c ≤ 10 by omega) (pc (F &&& (63 ^^^ s))))
  rw [← Nat.pow_add] at h3
  have h4 : 10 ^ (pc s + pc (F &&& (63 ^^^ s))) ≤ 10 ^ 6 := Nat.pow_le_pow_right (by decide) (by omega)
  exact Nat.le_trans h3 (Nat.le_trans h4 (by decide))
def swt (T : TT) (D : DD) (m : Int32) (F c : Nat) : Nat → Nat
  | 0 => 0
  | s + 1 => swt T D m F c s + (if s &&& (63 ^^^ F) = 0 ∧ ¬ nI (pc (DF (arr T (wkn D s, D.2)))) < m then Wt F c s else 0)
theorem swt_le {T : TT} {D : DD} {m : Int32} {F c : Nat} (hF : F < 64) (hc : c ≤ 10) : ∀ s, s ≤ 64 → swt T D m F c s ≤ s * 1000000
  | 0, _ => Nat.le_refl 0
  | s + 1, h => by
    have ih := swt_le (T := T) (D := D) (m := m) hF hc s (by omega)
    unfold swt
    split
    · rename_i q
      have h1 := Wt_le hF (show s < 64 by omega) hc q.1
      rw [Nat.succ_mul]
      exact Nat.add_le_add ih h1
    · rw [Nat.succ_mul]
      exact Nat.add_le_add ih (Nat.zero_le _)
/-- products over birds -/
def wv (F c s w0 : Nat) : Nat → Nat
  | 0 => w0
  | b + 1 => wv F c s w0 b * (if F.testBit b = true then (if s.testBit b = true then c else 10 - c) else 1)
theorem wv_0 (F c s : Nat) : ∀ n, wv F c s 0 n = 0
  | 0 => rfl
  | n + 1 => by unfold wv; rw [wv_0 F c s n, Nat.zero_mul]
theorem wv_cnt (F c s : Nat) : ∀ n, wv F c s 1 n = c ^ cnt (fun b => F.testBit b && s.testBit b) n * (10 - c) ^ cnt (fun b => F.testBit b && !s.testBit b) n
  | 0 => rfl
  | n + 1 => by
    unfold wv cnt
    rw [wv_cnt F c s n]
    by_cases q : F.testBit n = true
    · by_cases r : s.testBit n = true
      · simp only [q, r, if_true, Bool.and_self, Bool.not_true, Bool.and_false, Bool.false_eq_true, if_false, Nat.add_zero, Nat.pow_succ]
        rw [Nat.mul_right_comm]
      · have r' : s.testBit n = false := by simpa using r
        simp only [q, r', if_true, Bool.and_false, Bool.not_false, Bool.and_true, Bool.false_eq_true, if_false, Nat.add_zero, Nat.pow_succ]
        rw [Nat.mul_assoc]
    · have q' : F.testBit n = false := by simpa using q
      simp only [q', Bool.false_and, Bool.false_eq_true, if_false, Nat.add_zero, Nat.mul_one]
theorem cnt_cg {p q : Nat → Bool} : ∀ n, (∀ b, b < n → p b = q b) → cnt p n = cnt q n
  | 0, _ => rfl
  | n + 1, h => by
    unfold cnt
    rw [cnt_cg n (fun b hb => h b (by omega)), h n (by omega)]
theorem cnt_ext {p : Nat → Bool} {n : Nat} (h : ∀ b, n ≤ b → p b = false) : ∀ k, cnt p (n + k) = cnt p n
  | 0 => rfl
  | k + 1 => by
    show cnt p (n + k) + (if p (n + k) = true then 1 else 0) = _
    rw [cnt_ext h k, h (n + k) (by omega), if_neg (by decide), Nat.add_zero]
theorem cnt_pc (S : Nat) : cnt (fun b => S.testBit b) 6 = pc S := by
  unfold pc
  show 0 + _ + _ + _ + _ + _ + _ = _
  rw [Nat.zero_add]
theorem cnt_F {F n : Nat} (hn : n ≤ 6) (hF : F < 2 ^ n) : cnt (fun b => F.testBit b) n = pc F := by
  rw [← cnt_pc, show (6 : Nat) = n + (6 - n) by omega, cnt_ext (fun b hb => tb_lt hF hb)]
theorem wv_W {F c s n : Nat} (hn : n ≤ 6) (hF : F < 2 ^ n) (hs : s < 64) (h : s &&& (63 ^^^ F) = 0) : wv F c s 1 n = Wt F c s := by
  have hF64 : F < 64 := Nat.lt_of_lt_of_le hF (pow_64 hn)
  have hsub := b_sub F hF64 s hs h
  have hst : ∀ b, (F.testBit b && s.testBit b) = s.testBit b := fun b => by
    have := congrArg (fun x => Nat.testBit x b) hsub
    rw [← Nat.testBit_and]
    exact this
  have hsn : s < 2 ^ n := by
    rw [← hsub]
    exact and_lt hF
  have e1 : cnt (fun b => F.testBit b && s.testBit b) n = pc s := by
    rw [cnt_cg n (fun b _ => hst b)]
    exact cnt_F hn hsn
  have e2 : cnt (fun b => F.testBit b && !s.testBit b) n = pc (F &&& (63 ^^^ s)) := by
    rw [← cnt_F (F := F &&& (63 ^^^ s)) hn (and_lt hF)]
    apply cnt_cg
    intro b hb
    show _ = (F &&& (63 ^^^ s)).testBit b
    rw [tb_andn, decide_eq_true (show b < 6 by omega)]
    cases F.testBit b <;> cases s.testBit b <;> rfl
  rw [wv_cnt, e1, e2]
  rfl
theorem rm_n {x y : Nat} (hx : x < 2 ^ 31) (h0 : 0 < y) (hy : y < 2 ^ 31) : nI x - nI x / nI y * nI y = nI (x % y) := by
  rw [pk_div hx h0 hy, pk_mul, pk_sub (Nat.div_mul_le_self x y)]
  congr 1
  have := Nat.div_add_mod x y
  rw [Nat.mul_comm] at this
  omega
/-- Euclid in both -/
theorem eucl : ∀ (j x y : Nat), y < 2 ^ j → j ≤ 30 → x < 2 ^ 31 → (0 < x ∨ 0 < y) → ∃ g, 1 ≤ g ∧ g < 2 ^ 31 ∧ (∀ t fu, t + 2 * j + 1 ≤ 100 → 2 * j + 1 ≤ fu → iter (fun rec a => f_X8_commonDivisor_7 rec a.1 a.2.1 a.2.2) fu (nI x, nI y, nI t) = some (nI g)) ∧ (∀ (M : Mem) (w a b : Int32) (fu : Nat), 2 * j + 1 ≤ fu → iter (fun rec z => f_X9_storm_290 M w a b rec z.1 z.2) fu (nI x, nI y) = some ((if w = (0 : Int32) then a / nI g else b / nI g), M)) := by
  have base : ∀ x, 0 < x → x < 2 ^ 31 → (∀ t fu, t < 100 → 1 ≤ fu → iter (fun rec a => f_X8_commonDivisor_7 rec a.1 a.2.1 a.2.2) fu (nI x, nI 0, nI t) = some (nI x)) ∧ (∀ (M : Mem) (w a b : Int32) (fu : Nat), 1 ≤ fu → iter (fun rec z => f_X9_storm_290 M w a b rec z.1 z.2) fu (nI x, nI 0) = some ((if w = (0 : Int32) then a / nI x else b / nI x), M)) := by
    intro x h0 hx
    have n0 : ¬ nI x = 0 := nI_ne0 h0 hx
    constructor
    · intro t fu ht hf
      obtain ⟨fu, rfl⟩ : ∃ y, fu = y + 1 := ⟨fu - 1, by omega⟩
      rw [iter_s]
      have c1 : ¬ (100 : Int32) ≤ nI t := nI_ge (b := 100) ht (by decide)
      show f_X8_commonDivisor_7 _ (nI x) (nI 0) (nI t) = _
      unfold f_X8_commonDivisor_7
      rw [if_neg c1, if_pos nI_0]
    · intro M w a b fu hf
      obtain ⟨fu, rfl⟩ : ∃ y, fu = y + 1 := ⟨fu - 1, by omega⟩
      rw [iter_s]
      show f_X9_storm_290 M w a b _ (nI x) (nI 0) = _
      unfold f_X9_storm_290
      rw [if_pos nI_0, chk_t (by simpa using n0), chk_t (by simpa using n0)]
      split <;> rfl
  have step : ∀ x y, x < 2 ^ 31 → 0 < y → y < 2 ^ 31 → (∀ t fu, t < 100 → 1 ≤ fu → iter (fun rec a => f_X8_commonDivisor_7 rec a.1 a.2.1 a.2.2) fu (nI x, nI y, nI t) = iter (fun rec a => f_X8_commonDivisor_7 rec a.1 a.2.1 a.2.2) (fu - 1) (nI y, nI (x % y), nI (t + 1))) ∧ (∀ (M : Mem) (w a b : Int32) (fu : Nat), 1 ≤ fu → iter (fun rec z => f_X9_storm_290 M w a b rec z.1 z.2) fu (nI x, nI y) = iter (fun rec z => f_X9_storm_290 M w a b rec z.1 z.2) (fu - 1) (nI y, nI (x % y))) := by
    intro x y hx h0 hy
    have n0 : ¬ nI y = 0 := nI_ne0 h0 hy
    constructor
    · intro t fu ht hf
      obtain ⟨fu, rfl⟩ : ∃ y, fu = y + 1 := ⟨fu - 1, by omega⟩
      rw [iter_s, show fu + 1 - 1 = fu by omega]
      have c1 : ¬ (100 : Int32) ≤ nI t := nI_ge (b := 100) ht (by decide)
      show f_X8_commonDivisor_7 _ (nI x) (nI y) (nI t) = _
      unfold f_X8_commonDivisor_7
      rw [if_neg c1, if_neg n0, chk_t (by simpa using n0), rm_n hx h0 hy, nmE, nmE, nI_sc]
    · intro M w a b fu hf
      obtain ⟨fu, rfl⟩ : ∃ y, fu = y + 1 := ⟨fu - 1, by omega⟩
      rw [iter_s, show fu + 1 - 1 = fu by omega]
      show f_X9_storm_290 M w a b _ (nI x) (nI y) = _
      unfold f_X9_storm_290
      rw [if_neg n0, chk_t (by simpa using n0), rm_n hx h0 hy, nmE]
  intro j
  induction j with
  | zero =>
    intro x y hy hj hx hp
    have y0 : y = 0 := by
      have : (2 : Nat) ^ 0 = 1 := rfl
      omega
    subst y0
    obtain ⟨b1, b2⟩ := base x (by omega) hx
    exact ⟨x, by omega, hx, fun t fu h1 h2 => b1 t fu (by omega) (by omega), fun M w a b fu h2 => b2 M w a b fu (by omega)⟩
  | succ j ih =>
    intro x y hy hj hx hp
    have hpow : (2 : Nat) ^ (j + 1) = 2 * 2 ^ j := by rw [Nat.pow_succ, Nat.mul_comm]
    have hp31 : (2 : Nat) ^ (j + 1) ≤ 2 ^ 30 := Nat.pow_le_pow_right (by decide) hj
    by_cases y0 : y = 0
    · subst y0
      obtain ⟨b1, b2⟩ := base x (by omega) hx
      exact ⟨x, by omega, hx, fun t fu h1 h2 => b1 t fu (by omega) (by omega), fun M w a b fu h2 => b2 M w a b fu (by omega)⟩
    · have hy31 : y < 2 ^ 31 := by omega
      have hr : x % y < y := Nat.mod_lt _ (by omega)
      obtain ⟨s1, s2⟩ := step x y hx (by omega) hy31
      by_cases r0 : x % y = 0
      · rw [r0] at s1 s2
        obtain ⟨b1, b2⟩ := base y (by omega) hy31
        exact ⟨y, by omega, hy31, fun t fu h1 h2 => (s1 t fu (by omega) (by omega)).trans (b1 _ _ (by omega) (by omega)), fun M w a b fu h2 => (s2 M w a b fu (by omega)).trans (b2 M w a b _ (by omega))⟩
      · obtain ⟨u1, u2⟩ := step y (x % y) hy31 (by omega) (by omega)
        have hm : y % (x % y) < 2 ^ j := by
          have m1 : y % (x % y) < x % y := Nat.mod_lt _ (by omega)
          have m2 : y % (x % y) ≤ y - x % y := by
            rw [Nat.mod_eq_sub_mod (by omega)]
            exact Nat.mod_le _ _
          omega
        obtain ⟨g, g1, g2, g3, g4⟩ := ih (x % y) (y % (x % y)) hm (by omega) (by omega) (by omega)
        refine ⟨g, g1, g2, fun t fu h1 h2 => ?_, fun M w a b fu h2 => ?_⟩
        · rw [s1 t fu (by omega) (by omega), u1 _ _ (by omega) (by omega)]
          exact g3 _ _ (by omega) (by omega)
        · rw [s2 M w a b fu (by omega), u2 M w a b _ (by omega)]
          exact g4 M w a b _ (by omega)
