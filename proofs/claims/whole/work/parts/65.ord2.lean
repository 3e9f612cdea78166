/-! ORDER: all orders of at most five, tried one by one -/
def zC (l : List Nat) : Mem := fun a t => if a = 99 then (if t = 2 then nI l.length else 0) else if a = 100 then nI (l.getD t 0) else 0
def zR (l : List Nat) : Mem := fun a t => if a = 152 then nI (l.getD t 0) else 0
def ls (n c : Nat) (M : Mem) : List Nat := (List.range n).map (fun t => (M c t).toNatClampNeg)
def fct : Nat → Nat
  | 0 => 1
  | n + 1 => (n + 1) * fct n
def rkk : List Nat → Nat
  | [] => 0
  | a :: t => (t.filter (fun b => decide (a < b))).length * fct t.length + rkk t
def srt (l : List Nat) : List Nat := (List.range 5).filter (fun v => decide (v ∈ l))
def okS (l : List Nat) : Bool := match f_X4_putInOrder (zC l) 0 with
  | some z => decide (ls l.length 100 z = srt l ∧ ∀ t, t < l.length → z 100 t = nI ((z 100 t).toNatClampNeg))
  | none => false
def okN (l : List Nat) : Bool := match f_X4_stepOn (zC l), f_X9_nextOrder (zR l) (nI l.length) with
  | some z, some y => decide (z.1 = y.1) && (decide (ls l.length 100 z.2 = ls l.length 152 y.2) && (decide (∀ t, t < l.length → z.2 100 t = nI ((z.2 100 t).toNatClampNeg)) && (decide (∀ t, t < l.length → y.2 152 t = nI ((y.2 152 t).toNatClampNeg)) && (decide (ls l.length 100 z.2).Nodup && (decide (∀ x, x ∈ ls l.length 100 z.2 → x < 5) && ((List.range 5).all (fun x => decide (x ∈ ls l.length 100 z.2) == decide (x ∈ l)) && (decide (z.1 = true → rkk l = rkk (ls l.length 100 z.2) + 1))))))))
  | _, _ => false
def okA (l : List Nat) : Bool := !decide l.Nodup || (okS l && okN l && decide (rkk l ≤ 119))
theorem okA_0 : okA [] = true := by decide +kernel
theorem okA_1 : ∀ a, a < 5 → okA [a] = true := by decide +kernel
theorem okA_2 : ∀ a, a < 5 → ∀ b, b < 5 → okA [a, b] = true := by decide +kernel
theorem okA_3 : ∀ a, a < 5 → ∀ b, b < 5 → ∀ c, c < 5 → okA [a, b, c] = true := by decide +kernel
theorem okA_4 : ∀ a, a < 5 → ∀ b, b < 5 → ∀ c, c < 5 → ∀ d, d < 5 → okA [a, b, c, d] = true := by decide +kernel
theorem okA_5 : ∀ a, a < 5 → ∀ b, b < 5 → ∀ c, c < 5 → ∀ d, d < 5 → ∀ e, e < 5 → okA [a, b, c, d, e] = true := by decide +kernel
theorem okA_all (l : List Nat) (hl : l.length ≤ 5) (h : ∀ x, x ∈ l → x < 5) : okA l = true := by
  match l, hl, h with
  | [], _, _ => exact okA_0
  | [a], _, h => exact okA_1 a (h a (by simp))
  | [a, b], _, h => exact okA_2 a (h a (by simp)) b (h b (by simp))
  | [a, b, c], _, h => exact okA_3 a (h a (by simp)) b (h b (by simp)) c (h c (by simp))
  | [a, b, c, d], _, h => exact okA_4 a (h a (by simp)) b (h b (by simp)) c (h c (by simp)) d (h d (by simp))
  | [a, b, c, d, e], _, h => exact okA_5 a (h a (by simp)) b (h b (by simp)) c (h c (by simp)) d (h d (by simp)) e (h e (by simp))
  | a :: b :: c :: d :: e :: f :: t, hl, _ => exact absurd hl (by simp)
def GL (l : List Nat) : Prop := l.length ≤ 5 ∧ (∀ x, x ∈ l → x < 5) ∧ l.Nodup
theorem okG {l : List Nat} (h : GL l) : okS l = true ∧ okN l = true ∧ rkk l ≤ 119 := by
  have := okA_all l h.1 h.2.1
  unfold okA at this
  rw [decide_eq_true h.2.2] at this
  simp only [Bool.not_true, Bool.false_or, Bool.and_eq_true, decide_eq_true_eq] at this
  exact ⟨this.1.1, this.1.2, this.2⟩
def OrdC (M : Mem) (l : List Nat) : Prop := M 99 2 = nI l.length ∧ ∀ t, t < l.length → M 100 t = nI (l.getD t 0)
def OrdR (M : Mem) (l : List Nat) : Prop := ∀ t, t < l.length → M 152 t = nI (l.getD t 0)
theorem ls_len (n c : Nat) (M : Mem) : (ls n c M).length = n := by unfold ls; rw [List.length_map, List.length_range]
theorem ls_get {n c : Nat} {M : Mem} {t : Nat} (h : t < n) : (ls n c M).getD t 0 = (M c t).toNatClampNeg := by
  unfold ls
  rw [List.getD_eq_getElem?_getD, List.getElem?_map, List.getElem?_range h]
  rfl
theorem rn_zC {M : Mem} {l : List Nat} (h : OrdC M l) : Rn l.length (zC l) M := ⟨rfl, h.1, fun t ht => (h.2 t ht).symm⟩
theorem rr_zR {M : Mem} {l : List Nat} (h : OrdR M l) : Rr l.length (zR l) M := fun t ht => (h t ht).symm
def nx (l : List Nat) : Bool × List Nat := match f_X4_stepOn (zC l) with
  | some z => (z.1, ls l.length 100 z.2)
  | none => (false, [])
section O2
variable {M : Mem} {l : List Nat}
theorem srt_c (hG : GL l) (hO : OrdC M l) : ∃ M', f_X4_putInOrder M 0 = some M' ∧ OrdC M' (srt l) ∧ f1h 100 M M' := by
  have h := (okG hG).1
  unfold okS at h
  cases e : f_X4_putInOrder (zC l) 0 with
  | none => rw [e] at h; cases h
  | some z =>
    rw [e] at h
    have h := of_decide_eq_true h
    obtain ⟨M', e1, e2, e3⟩ := rel_put (n := l.length) hG.1 (rn_zC hO) (j := 0) (Nat.zero_le _) e
    refine ⟨M', e1, ⟨?_, fun t ht => ?_⟩, e3⟩
    · rw [← h.1, ls_len]; exact e2.2.1
    · rw [← h.1] at ht ⊢
      rw [ls_len] at ht
      rw [ls_get ht, ← h.2 t ht]
      exact (e2.2.2 t ht).symm
theorem nx_all (hG : GL l) : ∃ z y, f_X4_stepOn (zC l) = some z ∧ f_X9_nextOrder (zR l) (nI l.length) = some y ∧ nx l = (z.1, ls l.length 100 z.2) ∧ (z.1 = y.1 ∧ ls l.length 100 z.2 = ls l.length 152 y.2 ∧ (∀ t, t < l.length → z.2 100 t = nI ((z.2 100 t).toNatClampNeg)) ∧ (∀ t, t < l.length → y.2 152 t = nI ((y.2 152 t).toNatClampNeg)) ∧ (ls l.length 100 z.2).Nodup ∧ (∀ x, x ∈ ls l.length 100 z.2 → x < 5) ∧ (∀ x, x < 5 → decide (x ∈ ls l.length 100 z.2) = decide (x ∈ l)) ∧ (z.1 = true → rkk l = rkk (ls l.length 100 z.2) + 1)) := by
  have h := (okG hG).2.1
  unfold okN at h
  cases e : f_X4_stepOn (zC l) with
  | none => rw [e] at h; cases h
  | some z =>
    cases e2 : f_X9_nextOrder (zR l) (nI l.length) with
    | none => rw [e, e2] at h; cases h
    | some y =>
      rw [e, e2] at h
      have h : (decide (z.1 = y.1) && (decide (ls l.length 100 z.2 = ls l.length 152 y.2) && (decide (∀ t, t < l.length → z.2 100 t = nI ((z.2 100 t).toNatClampNeg)) && (decide (∀ t, t < l.length → y.2 152 t = nI ((y.2 152 t).toNatClampNeg)) && (decide (ls l.length 100 z.2).Nodup && (decide (∀ x, x ∈ ls l.length 100 z.2 → x < 5) && ((List.range 5).all (fun x => decide (x ∈ ls l.length 100 z.2) == decide (x ∈ l)) && (decide (z.1 = true → rkk l = rkk (ls l.length 100 z.2) + 1))))))))) = true := h
      simp only [Bool.and_eq_true] at h
      obtain ⟨a1, a2, a3, a4, a5, a6, a7, a8⟩ := h
      refine ⟨z, y, rfl, rfl, ?_, of_decide_eq_true a1, of_decide_eq_true a2, of_decide_eq_true a3, of_decide_eq_true a4, of_decide_eq_true a5, of_decide_eq_true a6, fun x hx => by simpa using List.all_eq_true.mp a7 x (List.mem_range.mpr hx), of_decide_eq_true a8⟩
      unfold nx
      rw [e]
theorem nx_G (hG : GL l) : GL (nx l).2 ∧ (nx l).2.length = l.length ∧ (∀ x, x ∈ (nx l).2 ↔ x ∈ l) ∧ ((nx l).1 = true → rkk l = rkk (nx l).2 + 1) := by
  obtain ⟨z, y, _, _, en, _, _, _, _, h5, h6, h7, h8⟩ := nx_all hG
  rw [en]
  refine ⟨⟨by rw [ls_len]; exact hG.1, h6, h5⟩, ls_len _ _ _, fun x => ⟨fun hx => (decide_eq_decide.mp (h7 x (h6 x hx))).mp hx, fun hx => (decide_eq_decide.mp (h7 x (hG.2.1 x hx))).mpr hx⟩, h8⟩
theorem stp_c (hG : GL l) (hO : OrdC M l) : ∃ M', f_X4_stepOn M = some ((nx l).1, M') ∧ OrdC M' (nx l).2 ∧ f1h 100 M M' := by
  obtain ⟨z, y, e1, e2, en, h1, h2, h3, h4, _⟩ := nx_all hG
  obtain ⟨⟨b, M'⟩, f1, f2, f3, f4⟩ := rel_step (n := l.length) hG.1 (rn_zC hO) e1
  have f2 : z.1 = b := f2
  rw [en]
  refine ⟨M', by rw [f1, f2], ⟨?_, fun t ht => ?_⟩, f4⟩
  · rw [ls_len]; exact f3.2.1
  · rw [ls_len] at ht
    rw [ls_get ht, ← h3 t ht]
    exact (f3.2.2 t ht).symm
theorem stp_r (hG : GL l) (hO : OrdR M l) : ∃ M', f_X9_nextOrder M (nI l.length) = some ((nx l).1, M') ∧ OrdR M' (nx l).2 ∧ f1h 152 M M' := by
  obtain ⟨z, y, e1, e2, en, h1, h2, h3, h4, _⟩ := nx_all hG
  obtain ⟨⟨b, M'⟩, f1, f2, f3, f4⟩ := rel_next (n := l.length) hG.1 (rr_zR hO) e2
  have f2 : y.1 = b := f2
  rw [en]
  refine ⟨M', by rw [f1, h1, f2], fun t ht => ?_, f4⟩
  rw [ls_len] at ht
  show M' 152 t = nI ((ls l.length 100 z.2).getD t 0)
  rw [h2, ls_get ht, ← h4 t ht]
  exact (f3 t ht).symm
end O2
