/-! ORDER: a step to the next order, seen from a few numbers alone -/
def Rn (n : Nat) (Z M : Mem) : Prop := Z 99 2 = nI n ∧ M 99 2 = nI n ∧ ∀ t, t < n → Z 100 t = M 100 t
def f1h (c : Nat) (M M' : Mem) : Prop := ∀ a, a ≠ c → M' a = M a
theorem f1_refl (c : Nat) (M : Mem) : f1h c M M := fun _ _ => rfl
theorem f1_trans {c : Nat} {M M1 M2 : Mem} (h1 : f1h c M M1) (h2 : f1h c M1 M2) : f1h c M M2 := fun a ha => (h2 a ha).trans (h1 a ha)
theorem f1_st {c k : Nat} {v : Int32} {M : Mem} : f1h c M (st M c k v) := fun _ ha => st_ne ha
theorem iter_rel {α α' β β' : Type} {F : (α → Option β) → α → Option β} {G : (α' → Option β') → α' → Option β'} (Ra : α → α' → Prop) (Rb : β → β' → Prop) (h : ∀ rec rec', (∀ a a', Ra a a' → ∀ z, rec a = some z → ∃ z', rec' a' = some z' ∧ Rb z z') → ∀ a a', Ra a a' → ∀ z, F rec a = some z → ∃ z', G rec' a' = some z' ∧ Rb z z') : ∀ n a a', Ra a a' → ∀ z, iter F n a = some z → ∃ z', iter G n a' = some z' ∧ Rb z z' := by
  intro n
  induction n with
  | zero => intro a a' _ z hz; cases hz
  | succ n ih => intro a a' ha z hz; exact h _ _ ih a a' ha z hz
theorem exc_eq {M : Mem} {c i j : Nat} (hi : i < 5) (hj : j < 5) : f_X8_exchange M c (nI i) (nI j) = some (st (st M c i (M c j)) c j (M c i)) := by
  unfold f_X8_exchange
  rw [chk_ix hi (by decide), cl_nI (by omega), nmE, chk_ix hj (by decide), cl_nI (by omega), nmE, nmE]
theorem exc_at {M : Mem} {c i j t : Nat} : (st (st M c i (M c j)) c j (M c i)) c t = if t = j then M c i else if t = i then M c j else M c t := by
  by_cases q : t = j
  · rw [if_pos q, q, st_same]
  · rw [if_neg q, st_slot q]
    by_cases r : t = i
    · rw [if_pos r, r, st_same]
    · rw [if_neg r, st_slot r]
section OR
variable {n : Nat}
theorem rn_exc {Z M : Mem} (h : Rn n Z M) {i j : Nat} (hi : i < n) (hj : j < n) : Rn n (st (st Z 100 i (Z 100 j)) 100 j (Z 100 i)) (st (st M 100 i (M 100 j)) 100 j (M 100 i)) := by
  obtain ⟨h1, h2, h3⟩ := h
  refine ⟨?_, ?_, fun t ht => ?_⟩
  · rw [st_ne (by decide), st_ne (by decide)]; exact h1
  · rw [st_ne (by decide), st_ne (by decide)]; exact h2
  · rw [exc_at, exc_at, h3 i hi, h3 j hj, h3 t ht]
def RM (n : Nat) (M0 : Mem) (r r' : Mem × Int32 → Option Mem) : Prop := ∀ Z M j, Rn n Z M → f1h 100 M0 M → j ≤ n → ∀ z, r (Z, nI j) = some z → ∃ z', r' (M, nI j) = some z' ∧ Rn n z z' ∧ f1h 100 M0 z'
theorem rel_p14 (hn : n ≤ 5) {M0 : Mem} {r2 r2' r r' : Mem × Int32 → Option Mem} (h2 : RM n M0 r2 r2') (h : RM n M0 r r') {i : Nat} (hi : i < n) : RM n M0 (fun a => f_X4_putInOrder_14 r2 (nI i) r a.1 a.2) (fun a => f_X4_putInOrder_14 r2' (nI i) r' a.1 a.2) := by
  intro Z M j hR hf hj z hz
  have hz : f_X4_putInOrder_14 r2 (nI i) r Z (nI j) = some z := hz
  show ∃ z', f_X4_putInOrder_14 r2' (nI i) r' M (nI j) = some z' ∧ _
  unfold f_X4_putInOrder_14 at hz ⊢
  rw [hR.1] at hz
  rw [hR.2.1]
  by_cases q : n ≤ j
  · have c : nI n ≤ nI j := (nI_leI (by omega) (by omega)).mpr q
    rw [if_pos c, nmE, nI_sc] at hz ⊢
    exact h2 Z M (i + 1) hR hf (by omega) z hz
  · have c : ¬ nI n ≤ nI j := fun w => q ((nI_leI (by omega) (by omega)).mp w)
    rw [if_neg c, chk_ix (by omega) (by decide), chk_ix (by omega) (by decide), cl_nI (by omega), cl_nI (by omega)] at hz ⊢
    rw [hR.2.2 i hi, hR.2.2 j (by omega)] at hz
    by_cases w : M 100 i ≤ M 100 j
    · rw [if_pos w, nmE, nI_sc] at hz ⊢
      exact h Z M (j + 1) hR hf (by omega) z hz
    · rw [if_neg w, exc_eq (by omega) (by omega), bdE, nmE, nI_sc] at hz ⊢
      exact h _ _ (j + 1) (rn_exc hR hi (by omega)) (f1_trans hf (f1_trans f1_st f1_st)) (by omega) z hz
theorem rel_it {M0 : Mem} {F G : (Mem × Int32 → Option Mem) → Mem × Int32 → Option Mem} (h : ∀ r r', RM n M0 r r' → RM n M0 (F r) (G r')) : ∀ k, RM n M0 (iter F k) (iter G k) := by
  intro k
  induction k with
  | zero => intro Z M j _ _ _ z hz; cases hz
  | succ k ih => exact h _ _ ih
theorem rel_p2 (hn : n ≤ 5) {M0 : Mem} {r r' : Mem × Int32 → Option Mem} (h : RM n M0 r r') : RM n M0 (fun a => f_X4_putInOrder_2 r a.1 a.2) (fun a => f_X4_putInOrder_2 r' a.1 a.2) := by
  intro Z M j hR hf hj z hz
  have hz : f_X4_putInOrder_2 r Z (nI j) = some z := hz
  show ∃ z', f_X4_putInOrder_2 r' M (nI j) = some z' ∧ _
  unfold f_X4_putInOrder_2 at hz ⊢
  rw [hR.1] at hz
  rw [hR.2.1]
  by_cases q : n ≤ j
  · have c : nI n ≤ nI j := (nI_leI (by omega) (by omega)).mpr q
    rw [if_pos c] at hz ⊢
    cases hz
    exact ⟨M, rfl, hR, hf⟩
  · have c : ¬ nI n ≤ nI j := fun w => q ((nI_leI (by omega) (by omega)).mp w)
    rw [if_neg c, nmE, nI_sc] at hz ⊢
    exact rel_it (fun r1 r1' h1 => rel_p14 hn h h1 (show j < n by omega)) fuel Z M (j + 1) hR hf (by omega) z hz
theorem rel_put (hn : n ≤ 5) {Z M : Mem} (hR : Rn n Z M) {j : Nat} (hj : j ≤ n) {z : Mem} (hz : f_X4_putInOrder Z (nI j) = some z) : ∃ z', f_X4_putInOrder M (nI j) = some z' ∧ Rn n z z' ∧ f1h 100 M z' := by
  unfold f_X4_putInOrder at hz ⊢
  exact rel_it (fun r1 r1' h1 => rel_p2 hn h1) fuel Z M j hR (f1_refl 100 M) hj z hz
def Rb1 (n : Nat) (M : Mem) (z z' : Bool × Mem) : Prop := z.1 = z'.1 ∧ Rn n z.2 z'.2 ∧ f1h 100 M z'.2
theorem rel_75 (hn : n ≤ 5) {Z M : Mem} (hR : Rn n Z M) {i j : Nat} (hi : i + 1 < n) (hj : j < n) {z : Bool × Mem} (hz : f_X4_stepOn_75 Z (nI i) (nI j) = some z) : ∃ z', f_X4_stepOn_75 M (nI i) (nI j) = some z' ∧ Rb1 n M z z' := by
  unfold f_X4_stepOn_75 at hz ⊢
  rw [exc_eq (by omega) (by omega), bdE, nI_sc] at hz ⊢
  obtain ⟨y, h1, h2⟩ := bd_e hz
  cases h2
  obtain ⟨y', e1, e2, e3⟩ := rel_put hn (rn_exc hR (show i < n by omega) hj) (show i + 1 ≤ n by omega) h1
  rw [e1, bdE]
  exact ⟨_, rfl, rfl, e2, f1_trans (f1_trans f1_st f1_st) e3⟩
theorem nI_dec {j : Nat} (h : 0 < j) : nI j + (-1) = nI (j - 1) := by
  obtain ⟨k, rfl⟩ : ∃ k, j = k + 1 := ⟨j - 1, by omega⟩
  rw [pk_m1]
  rfl
theorem rel_34 (hn : n ≤ 5) {Z M : Mem} (hR : Rn n Z M) {x : Int32} (hx : x < 0 ∨ ∃ i, x = nI i ∧ i + 1 < n) {z : Bool × Mem} (hz : f_X4_stepOn_34 Z x = some z) : ∃ z', f_X4_stepOn_34 M x = some z' ∧ Rb1 n M z z' := by
  unfold f_X4_stepOn_34 at hz ⊢
  rw [hR.1] at hz
  rw [hR.2.1]
  rcases hx with hx | ⟨i, rfl, hi⟩
  · have c : ¬ (0 : Int32) ≤ x := by rw [i_le]; rw [i_lt] at hx; omega
    rw [if_neg c] at hz ⊢
    cases hz
    exact ⟨_, rfl, rfl, hR, f1_refl 100 M⟩
  · have c : (0 : Int32) ≤ nI i := nI_pos' (by omega)
    rw [if_pos c, nmE, show nI n - 1 = nI (n - 1) from nI_sub (b := 1) (by omega)] at hz ⊢
    refine iter_rel (F := fun rec a => f_X4_stepOn_47 Z (nI i) rec a) (G := fun rec a => f_X4_stepOn_47 M (nI i) rec a) (fun a a' => a = a' ∧ ∃ j, a = nI j ∧ j < n) (Rb1 n M) (fun rec rec' hrec a a' ha y hy => ?_) fuel (nI (n - 1)) (nI (n - 1)) ⟨rfl, n - 1, rfl, by omega⟩ z hz
    obtain ⟨rfl, j, rfl, hj⟩ := ha
    have hy : f_X4_stepOn_47 Z (nI i) rec (nI j) = some y := hy
    show ∃ z', f_X4_stepOn_47 M (nI i) rec' (nI j) = some z' ∧ _
    unfold f_X4_stepOn_47 at hy ⊢
    rw [nI_sc] at hy ⊢
    by_cases q : j ≤ i + 1
    · have c2 : nI j ≤ nI (i + 1) := (nI_leI (by omega) (by omega)).mpr q
      rw [if_pos c2] at hy ⊢
      exact rel_75 hn hR hi hj hy
    · have c2 : ¬ nI j ≤ nI (i + 1) := fun w => q ((nI_leI (by omega) (by omega)).mp w)
      rw [if_neg c2, chk_ix (by omega) (by decide), chk_ix (by omega) (by decide), cl_nI (by omega), cl_nI (by omega)] at hy ⊢
      rw [hR.2.2 i (by omega), hR.2.2 j (by omega)] at hy
      by_cases w : M 100 i ≤ M 100 j
      · rw [if_pos w] at hy ⊢
        exact rel_75 hn hR hi hj hy
      · rw [if_neg w, nmE, nI_dec (by omega)] at hy ⊢
        exact hrec _ _ ⟨rfl, j - 1, rfl, by omega⟩ y hy
theorem rel_step (hn : n ≤ 5) {Z M : Mem} (hR : Rn n Z M) {z : Bool × Mem} (hz : f_X4_stepOn Z = some z) : ∃ z', f_X4_stepOn M = some z' ∧ Rb1 n M z z' := by
  unfold f_X4_stepOn at hz ⊢
  rw [hR.1, nmE] at hz
  rw [hR.2.1, nmE]
  have h0 : nI n - 2 < 0 ∨ ∃ i, nI n - 2 = nI i ∧ i + 1 < n := by
    rcases Nat.lt_or_ge n 2 with q | q
    · left
      rcases (show n = 0 ∨ n = 1 by omega) with w | w
      · rw [w]; decide
      · rw [w]; decide
    · right
      exact ⟨n - 2, nI_sub (b := 2) q, by omega⟩
  refine iter_rel (F := fun rec a => f_X4_stepOn_7 Z rec a) (G := fun rec a => f_X4_stepOn_7 M rec a) (fun a a' => a = a' ∧ (a < 0 ∨ ∃ i, a = nI i ∧ i + 1 < n)) (Rb1 n M) (fun rec rec' hrec a a' ha y hy => ?_) fuel _ _ ⟨rfl, h0⟩ z hz
  obtain ⟨rfl, ha⟩ := ha
  have hy : f_X4_stepOn_7 Z rec a = some y := hy
  show ∃ z', f_X4_stepOn_7 M rec' a = some z' ∧ _
  unfold f_X4_stepOn_7 at hy ⊢
  rcases ha with ha | ⟨i, rfl, hi⟩
  · rw [if_pos ha] at hy ⊢
    exact rel_34 hn hR (Or.inl ha) hy
  · have c : ¬ nI i < 0 := nI_pos (by omega)
    rw [if_neg c, nI_sc, chk_ix (by omega) (by decide), chk_ix (by omega) (by decide), cl_nI (by omega), cl_nI (by omega)] at hy ⊢
    rw [hR.2.2 i (by omega), hR.2.2 (i + 1) (by omega)] at hy
    by_cases w : M 100 i ≤ M 100 (i + 1)
    · rw [if_pos w] at hy ⊢
      exact rel_34 hn hR (Or.inr ⟨i, rfl, hi⟩) hy
    · rw [if_neg w, nmE] at hy ⊢
      refine hrec _ _ ⟨rfl, ?_⟩ y hy
      rcases Nat.eq_zero_or_pos i with q | q
      · left; rw [q]; decide
      · right; exact ⟨i - 1, nI_dec q, by omega⟩
/-! the same in the reference -/
def Rr (n : Nat) (Z M : Mem) : Prop := ∀ t, t < n → Z 152 t = M 152 t
theorem rr_exc {Z M : Mem} (h : Rr n Z M) {i j : Nat} (hi : i < n) (hj : j < n) : Rr n (st (st Z 152 i (Z 152 j)) 152 j (Z 152 i)) (st (st M 152 i (M 152 j)) 152 j (M 152 i)) := by
  intro t ht
  rw [exc_at, exc_at, h i hi, h j hj, h t ht]
def Rb2 (n : Nat) (M : Mem) (z z' : Bool × Mem) : Prop := z.1 = z'.1 ∧ Rr n z.2 z'.2 ∧ f1h 152 M z'.2
theorem rel_100 (hn : n ≤ 5) {M0 : Mem} : ∀ k Z M p q, Rr n Z M → f1h 152 M0 M → p ≤ n → q < n → ∀ z, iter (fun rec a => f_X9_nextOrder_100 rec a.1 a.2.1 a.2.2) k (Z, nI p, nI q) = some z → ∃ z', iter (fun rec a => f_X9_nextOrder_100 rec a.1 a.2.1 a.2.2) k (M, nI p, nI q) = some z' ∧ Rb2 n M0 z z' := by
  intro k
  induction k with
  | zero => intro Z M p q _ _ _ _ z hz; cases hz
  | succ k ih =>
    intro Z M p q hR hf hp hq z hz
    rw [iter_s] at hz ⊢
    have hz : f_X9_nextOrder_100 (iter (fun rec a => f_X9_nextOrder_100 rec a.1 a.2.1 a.2.2) k) Z (nI p) (nI q) = some z := hz
    show ∃ z', f_X9_nextOrder_100 (iter (fun rec a => f_X9_nextOrder_100 rec a.1 a.2.1 a.2.2) k) M (nI p) (nI q) = some z' ∧ _
    revert hz
    generalize hrz : iter (fun rec a => f_X9_nextOrder_100 rec a.1 a.2.1 a.2.2) k = r at ih ⊢
    intro hz
    unfold f_X9_nextOrder_100 at hz ⊢
    by_cases w : q ≤ p
    · have c : nI q ≤ nI p := (nI_leI (by omega) (by omega)).mpr w
      rw [if_pos c] at hz ⊢
      cases hz
      exact ⟨_, rfl, rfl, hR, hf⟩
    · have c : ¬ nI q ≤ nI p := fun v => w ((nI_leI (by omega) (by omega)).mp v)
      rw [if_neg c, chk_ix (by omega) (by decide), cl_nI (by omega), nmE, chk_ix (by omega) (by decide), cl_nI (by omega), nmE, nmE, nmE, nmE, nI_sc, nI_dec (by omega)] at hz ⊢
      exact ih _ _ (p + 1) (q - 1) (rr_exc hR (by omega) hq) (f1_trans hf (f1_trans f1_st f1_st)) (by omega) (by omega) z hz
theorem rel_31 (hn : n ≤ 5) {Z M : Mem} (hR : Rr n Z M) {x : Int32} (hx : x < 0 ∨ ∃ i, x = nI i ∧ i + 1 < n) {z : Bool × Mem} (hz : f_X9_nextOrder_31 Z (nI n) x = some z) : ∃ z', f_X9_nextOrder_31 M (nI n) x = some z' ∧ Rb2 n M z z' := by
  unfold f_X9_nextOrder_31 at hz ⊢
  rcases hx with hx | ⟨i, rfl, hi⟩
  · have c : ¬ (0 : Int32) ≤ x := by rw [i_le]; rw [i_lt] at hx; omega
    rw [if_neg c] at hz ⊢
    cases hz
    exact ⟨_, rfl, rfl, hR, f1_refl 152 M⟩
  · have c : (0 : Int32) ≤ nI i := nI_pos' (by omega)
    have en : nI n - 1 = nI (n - 1) := nI_sub (b := 1) (by omega)
    rw [if_pos c, nmE, en] at hz ⊢
    refine iter_rel (F := fun rec a => f_X9_nextOrder_41 Z (nI n) (nI i) rec a) (G := fun rec a => f_X9_nextOrder_41 M (nI n) (nI i) rec a) (fun a a' => a = a' ∧ (a < 0 ∨ ∃ j, a = nI j ∧ j < n)) (Rb2 n M) (fun rec rec' hrec a a' ha y hy => ?_) fuel (nI (n - 1)) (nI (n - 1)) ⟨rfl, Or.inr ⟨n - 1, rfl, by omega⟩⟩ z hz
    obtain ⟨rfl, ha⟩ := ha
    have hy : f_X9_nextOrder_41 Z (nI n) (nI i) rec a = some y := hy
    show ∃ z', f_X9_nextOrder_41 M (nI n) (nI i) rec' a = some z' ∧ _
    unfold f_X9_nextOrder_41 at hy ⊢
    rcases ha with ha | ⟨j, rfl, hj⟩
    · exfalso
      have := ix_e hy
      exact this.1 (Or.inl ha)
    · rw [chk_ix (by omega) (by decide), chk_ix (by omega) (by decide), cl_nI (by omega), cl_nI (by omega)] at hy ⊢
      rw [hR i (by omega), hR j (by omega)] at hy
      by_cases w : M 152 i ≤ M 152 j
      · rw [if_pos w, nmE, nmE, nmE, nI_sc, nmE, en, nmE] at hy ⊢
        have e1 := rr_exc hR (show i < n by omega) hj
        rw [hR i (by omega), hR j (by omega)] at e1
        exact rel_100 hn fuel _ _ (i + 1) (n - 1) e1 (f1_trans f1_st f1_st) (by omega) (by omega) y hy
      · rw [if_neg w, nmE] at hy ⊢
        refine hrec _ _ ⟨rfl, ?_⟩ y hy
        rcases Nat.eq_zero_or_pos j with q | q
        · left; rw [q]; decide
        · right; exact ⟨j - 1, nI_dec q, by omega⟩
theorem rel_next (hn : n ≤ 5) {Z M : Mem} (hR : Rr n Z M) {z : Bool × Mem} (hz : f_X9_nextOrder Z (nI n) = some z) : ∃ z', f_X9_nextOrder M (nI n) = some z' ∧ Rb2 n M z z' := by
  unfold f_X9_nextOrder at hz ⊢
  rw [nmE] at hz ⊢
  have h0 : nI n - 2 < 0 ∨ ∃ i, nI n - 2 = nI i ∧ i + 1 < n := by
    rcases Nat.lt_or_ge n 2 with q | q
    · left
      rcases (show n = 0 ∨ n = 1 by omega) with w | w
      · rw [w]; decide
      · rw [w]; decide
    · right
      exact ⟨n - 2, nI_sub (b := 2) q, by omega⟩
  refine iter_rel (F := fun rec a => f_X9_nextOrder_4 Z (nI n) rec a) (G := fun rec a => f_X9_nextOrder_4 M (nI n) rec a) (fun a a' => a = a' ∧ (a < 0 ∨ ∃ i, a = nI i ∧ i + 1 < n)) (Rb2 n M) (fun rec rec' hrec a a' ha y hy => ?_) fuel _ _ ⟨rfl, h0⟩ z hz
  obtain ⟨rfl, ha⟩ := ha
  have hy : f_X9_nextOrder_4 Z (nI n) rec a = some y := hy
  show ∃ z', f_X9_nextOrder_4 M (nI n) rec' a = some z' ∧ _
  unfold f_X9_nextOrder_4 at hy ⊢
  rcases ha with ha | ⟨i, rfl, hi⟩
  · rw [if_pos ha] at hy ⊢
    exact rel_31 hn hR (Or.inl ha) hy
  · have c : ¬ nI i < 0 := nI_pos (by omega)
    rw [if_neg c, nI_sc, chk_ix (by omega) (by decide), chk_ix (by omega) (by decide), cl_nI (by omega), cl_nI (by omega)] at hy ⊢
    rw [hR i (by omega), hR (i + 1) (by omega)] at hy
    by_cases w : M 152 i ≤ M 152 (i + 1)
    · rw [if_pos w] at hy ⊢
      exact rel_31 hn hR (Or.inr ⟨i, rfl, hi⟩) hy
    · rw [if_neg w, nmE] at hy ⊢
      refine hrec _ _ ⟨rfl, ?_⟩ y hy
      rcases Nat.eq_zero_or_pos i with q | q
      · left; rw [q]; decide
      · right; exact ⟨i - 1, nI_dec q, by omega⟩
end OR
