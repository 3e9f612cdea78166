/-! ORDER: the reference -/
section O4
variable {B : Nat} {T : TT} {D : DD} {l : List Nat} {M : Mem}
def mR (m : Option (Nat × List Nat)) : Int32 := match m with
  | none => -1000000
  | some (v, _) => nI v
def BsR (n : Nat) (M : Mem) (m : Option (Nat × List Nat)) : Prop := match m with
  | none => True
  | some (v, b) => v ≤ 6 ∧ b.length = n ∧ ∀ t, t < n → M 153 t = nI (b.getD t 0)
theorem BsR_cg {n : Nat} {M M' : Mem} {m : Option (Nat × List Nat)} (h : BsR n M m) (e2 : M' 153 = M 153) : BsR n M' m := by
  cases m with
  | none => exact True.intro
  | some q => obtain ⟨v, b⟩ := q; show v ≤ 6 ∧ b.length = n ∧ ∀ t, t < n → M' 153 t = nI (b.getD t 0); rw [e2]; exact h
theorem OrdR_cg {M M' : Mem} (h : OrdR M l) (e2 : M' 152 = M 152) : OrdR M' l := fun t ht => by rw [e2]; exact h t ht
/-- one order tried -/
theorem mSeek1 (hT : WT T) (hD : WD T D B) (hB : B ≤ 900000) (hI : IvL T D l) (hE : EM (M 146) T D) (hO : OrdR M l) {m : Option (Nat × List Nat)} (hm : BsR (Tnv T - Dth D) M m) (x : Int32) : ∃ M5, OrdR M5 (nx l).2 ∧ BsR (Tnv T - Dth D) M5 (upB T D m l) ∧ fr M M5 ∧ ∀ rec, f_X9_order_130 x (nI (Tnv T - Dth D)) rec M (mR m) true = rec (M5, mR (upB T D m l), (nx l).1) := by
  have h5 := hT.1
  have hle := hD.2.2.1
  obtain ⟨hG, hlen, hmem⟩ := hI
  obtain ⟨n, en⟩ : ∃ n, n = Tnv T - Dth D := ⟨_, rfl⟩
  rw [← en] at hlen hm ⊢
  obtain ⟨g, t1, hg⟩ := mTri hT hE
  have hg2 : EM (va_cpy (M 152) g 0 (6 + Dth D) n) T (ordD D l) := by
    refine em_upL hT hg (fun t ht => pk_cpy_out (by omega)) (fun j hj => ?_)
    show va_cpy (M 152) g 0 (6 + Dth D) n (6 + j) = nI (if Dth D ≤ j ∧ j < Dth D + l.length then l.getD (j - Dth D) 0 else Dln D j)
    by_cases q : Dth D ≤ j
    · rw [if_pos ⟨q, by omega⟩, pk_cpy_in (by omega) (by omega), show 0 + (6 + j - (6 + Dth D)) = j - Dth D by omega]
      exact hO _ (by omega)
    · rw [if_neg (fun w => q w.1), pk_cpy_out (by omega)]
      exact em_ln hg hj
  have hD2 := ordD_WD hD ⟨hG, by rw [← en]; exact hlen, hmem⟩
  obtain ⟨g2, t2, hg3⟩ := mEnds (M := M) hT hg2 hD2 (by omega)
  have hp := wd_F hT (arr_WD hT hD2 (by omega))
  have h6 : its T D l ≤ 6 := pc_le _ hp
  have hones : f_X9_ones (nI (DF (arr T (ordD D l)))) = some (nI (its T D l)) := b_ones _ hp
  -- the next order
  have h223 : ∀ N : Mem, N 152 = M 152 → ∃ M5, OrdR M5 (nx l).2 ∧ f1h 152 N M5 ∧ ∀ rec, f_X9_order_223 rec N x (nI n) (mR m) (nI (its T D l)) = rec (M5, (if nI (its T D l) ≤ mR m then mR m else nI (its T D l)), (nx l).1) := by
    intro N eN
    obtain ⟨M5, e5, o5, f5⟩ := stp_r hG (OrdR_cg hO eN)
    rw [hlen] at e5
    refine ⟨M5, o5, f5, fun rec => ?_⟩
    unfold f_X9_order_223
    by_cases c : nI (its T D l) ≤ mR m
    · rw [if_pos c, if_pos c, e5, bdE]
    · rw [if_neg c, if_neg c, e5, bdE]
  -- the order is laid
  have lay : ∀ (z : Option (Int32 × Mem)) (rec : Mem × Int32 × Bool → Option (Int32 × Mem)), iter (fun r a => f_X9_order_190 rec x (nI n) (mR m) (nI (its T D l)) r a.1 a.2) fuel (stA M 148 g2, (0 : Int32)) = z → f_X9_order_130 x (nI n) rec M (mR m) true = z := by
    intro z rec hz
    have e3 : ∀ w : Nat → Int32, stA M 148 w 146 3 = nI (Dth D) := fun w => by rw [stA_ne (by decide)]; exact em_th hE
    have key := iter_to (F := fun r a => f_X9_order_142 rec x (nI n) (mR m) r a.1 a.2) (fun j => (stA M 148 (va_cpy (M 152) g 0 (6 + Dth D) j), nI j)) n z (fun j hj r => by
      show f_X9_order_142 rec x (nI n) (mR m) r (stA M 148 (va_cpy (M 152) g 0 (6 + Dth D) j)) (nI j) = _
      unfold f_X9_order_142
      have hv : stA M 148 (va_cpy (M 152) g 0 (6 + Dth D) j) 152 j = M 152 (0 + j) := by rw [stA_ne (by decide), Nat.zero_add]
      rw [if_neg (by rw [nI_leI (by omega) (by omega)]; omega), e3, q6, nI_add, chk_ix (by omega) (by decide), chk_ix (by omega) (by decide), cl_nI (by omega), cl_nI (by omega), hv, stA_put (cpy_up rfl), nmE, nmE, nI_sc]) (fun r => by
      show f_X9_order_142 rec x (nI n) (mR m) r (stA M 148 (va_cpy (M 152) g 0 (6 + Dth D) n)) (nI n) = _
      unfold f_X9_order_142
      rw [if_pos (by rw [nI_leI (by omega) (by omega)]; omega), t2, bdE, hones, bdE]
      exact hz) fuel 0 (Nat.zero_le _) (by rw [fuel_eq]; omega)
    rw [cpy_0] at key
    unfold f_X9_order_130
    rw [if_pos rfl, t1, bdE]
    exact key
  by_cases c : nI (its T D l) ≤ mR m
  · -- no better
    obtain ⟨M5, o5, f5, e5⟩ := h223 (stA M 148 g2) (stA_ne (by decide))
    have eu : upB T D m l = m ∧ BsR n M m := by
      cases m with
      | none =>
        exfalso
        have c' : nI (its T D l) ≤ (-1000000 : Int32) := c
        have em : (-1000000 : Int32).toInt = -1000000 := by decide
        rw [i_le, em, ti (by omega)] at c'
        omega
      | some q =>
        obtain ⟨v, b⟩ := q
        obtain ⟨b2, b3, b4⟩ := hm
        have c' : nI (its T D l) ≤ nI v := c
        rw [nI_leI (by omega) (by omega)] at c'
        exact ⟨if_pos c', b2, b3, b4⟩
    rw [eu.1]
    refine ⟨M5, o5, BsR_cg eu.2 ?_, fun a ha => ?_, fun rec => ?_⟩
    · rw [f5 153 (by decide), stA_ne (by decide)]
    · rw [f5 a (fun w => ha (by unfold Jk; omega)), stA_ne (fun w => ha (by unfold Jk; omega))]
    · refine lay _ rec ?_
      obtain ⟨fu, ef⟩ : ∃ fu, fuel = fu + 1 := ⟨1999, rfl⟩
      rw [ef, iter_s]
      show f_X9_order_190 rec x (nI n) (mR m) (nI (its T D l)) _ (stA M 148 g2) (0 : Int32) = _
      have e6 := e5 rec
      rw [if_pos c] at e6
      generalize iter (fun r a => f_X9_order_190 rec x (nI n) (mR m) (nI (its T D l)) r a.1 a.2) fu = rr
      unfold f_X9_order_190
      rw [if_pos c]
      split
      · exact e6
      · exact e6
  · -- better
    obtain ⟨N, eN⟩ : ∃ N, N = stA (stA M 148 g2) 153 (va_cpy (M 152) (M 153) 0 0 n) := ⟨_, rfl⟩
    obtain ⟨M5, o5, f5, e5⟩ := h223 N (by rw [eN, stA_ne (by decide), stA_ne (by decide)])
    have eu : upB T D m l = some (its T D l, l) := by
      cases m with
      | none => rfl
      | some q =>
        obtain ⟨v, b⟩ := q
        have c' : ¬ nI (its T D l) ≤ nI v := c
        have hv : v ≤ 6 := hm.1
        rw [nI_leI (by omega) (by omega)] at c'
        exact if_neg c'
    rw [eu]
    refine ⟨M5, o5, ⟨h6, hlen, fun t ht => ?_⟩, fun a ha => ?_, fun rec => ?_⟩
    · rw [f5 153 (by decide), eN, stA_i, pk_cpy_in (by omega) (by omega), show 0 + (t - 0) = t by omega]
      exact hO t (by omega)
    · rw [f5 a (fun w => ha (by unfold Jk; omega)), eN, stA_ne (fun w => ha (by unfold Jk; omega)), stA_ne (fun w => ha (by unfold Jk; omega))]
    · refine lay _ rec ?_
      have e6 := e5 rec
      rw [if_neg c] at e6
      have key := iter_to (F := fun r a => f_X9_order_190 rec x (nI n) (mR m) (nI (its T D l)) r a.1 a.2) (fun j => (stA (stA M 148 g2) 153 (va_cpy (M 152) (M 153) 0 0 j), nI j)) n (rec (M5, nI (its T D l), (nx l).1)) (fun j hj r => by
        show f_X9_order_190 rec x (nI n) (mR m) (nI (its T D l)) r (stA (stA M 148 g2) 153 (va_cpy (M 152) (M 153) 0 0 j)) (nI j) = _
        unfold f_X9_order_190
        have hv : stA (stA M 148 g2) 153 (va_cpy (M 152) (M 153) 0 0 j) 152 j = M 152 (0 + j) := by rw [stA_ne (by decide), stA_ne (by decide), Nat.zero_add]
        have hup := cpy_up (f := M 152) (g := M 153) (a := 0) (c := 0) (b := j) rfl
        rw [show 0 + j = j by omega] at hup hv
        rw [if_neg (by rw [nI_leI (by omega) (by omega)]; omega), if_neg c, chk_ix (by omega) (by decide), cl_nI (by omega), hv, stA_put hup, nmE, nmE, nI_sc]) (fun r => by
        show f_X9_order_190 rec x (nI n) (mR m) (nI (its T D l)) r (stA (stA M 148 g2) 153 (va_cpy (M 152) (M 153) 0 0 n)) (nI n) = _
        unfold f_X9_order_190
        rw [if_pos (by rw [nI_leI (by omega) (by omega)]; omega), ← eN]
        exact e6) fuel 0 (Nat.zero_le _) (by rw [fuel_eq]; omega)
      have e0 : stA (stA M 148 g2) 153 (va_cpy (M 152) (M 153) 0 0 0) = stA M 148 g2 := by
        rw [cpy_0]
        have : M 153 = stA M 148 g2 153 := by rw [stA_ne (by decide)]
        rw [this, stA_self]
      rw [e0] at key
      exact key
def ansR (x : Int32) (n : Nat) (M : Mem) (y : Int32) : Option (Int32 × Mem) := if x = (-1 : Int32) then some (y, M) else if nI n ≤ x then some ((-1000000 : Int32), M) else chk (ixb x 5) (some ((M 153 x.toNatClampNeg), M))
theorem ans_eq (x : Int32) (n : Nat) (rec : Mem × Int32 × Bool → Option (Int32 × Mem)) (M : Mem) (y : Int32) : f_X9_order_130 x (nI n) rec M y false = ansR x n M y := by
  unfold f_X9_order_130 ansR
  rw [if_neg (by decide)]
theorem mSeek (hT : WT T) (hD : WD T D B) (hB : B ≤ 900000) (x : Int32) : ∀ (k : Nat) (l : List Nat) (m : Option (Nat × List Nat)) (M : Mem) (fu : Nat), rkk l = k → IvL T D l → k + 1 < fu → EM (M 146) T D → OrdR M l → BsR (Tnv T - Dth D) M m → ∃ M', iter (fun rec a => f_X9_order_130 x (nI (Tnv T - Dth D)) rec a.1 a.2.1 a.2.2) fu (M, mR m, true) = ansR x (Tnv T - Dth D) M' (mR (run T D (k + 1) l m)) ∧ BsR (Tnv T - Dth D) M' (run T D (k + 1) l m) ∧ fr M M' := by
  intro k
  induction k with
  | zero =>
    intro l m M fu hr hI hf hE hO hm
    obtain ⟨fu, rfl⟩ : ∃ y, fu = y + 2 := ⟨fu - 2, by omega⟩
    obtain ⟨M5, h1, h2, h3, h4⟩ := mSeek1 hT hD hB hI hE hO hm x
    have hn : (nx l).1 = false := by
      cases e : (nx l).1 with
      | false => rfl
      | true => have := (nx_G hI.1).2.2.2 e; omega
    have er : run T D (0 + 1) l m = upB T D m l := if_neg (by rw [hn]; decide)
    rw [er]
    refine ⟨M5, ?_, h2, h3⟩
    rw [iter_s]
    show f_X9_order_130 x (nI (Tnv T - Dth D)) _ M (mR m) true = _
    rw [h4, iter_s, hn]
    exact ans_eq _ _ _ _ _
  | succ k ih =>
    intro l m M fu hr hI hf hE hO hm
    obtain ⟨fu, rfl⟩ : ∃ y, fu = y + 2 := ⟨fu - 2, by omega⟩
    obtain ⟨M5, h1, h2, h3, h4⟩ := mSeek1 hT hD hB hI hE hO hm x
    rw [iter_s]
    show ∃ M', f_X9_order_130 x (nI (Tnv T - Dth D)) _ M (mR m) true = _ ∧ _
    rw [h4]
    by_cases hn : (nx l).1 = true
    · have hrk := (nx_G hI.1).2.2.2 hn
      obtain ⟨M6, e6, g1, g2⟩ := ih (nx l).2 (upB T D m l) M5 (fu + 1) (by omega) (IvL_nx hI) (by omega) (by rw [fr_at h3 (by omega)]; exact hE) h1 h2
      rw [show run T D (k + 1 + 1) l m = run T D (k + 1) (nx l).2 (upB T D m l) from if_pos hn, hn]
      exact ⟨M6, e6, g1, fr_trans h3 g2⟩
    · have hn' : (nx l).1 = false := by simpa using hn
      rw [show run T D (k + 1 + 1) l m = upB T D m l from if_neg hn, hn']
      refine ⟨M5, ?_, h2, h3⟩
      rw [iter_s]
      exact ans_eq _ _ _ _ _
/-- whether a valley comes -/
def cmB (D : DD) (v : Nat) : Nat → Bool
  | 0 => false
  | j + 1 => cmB D v j || decide (Dln D (Dth D + j) = v)
theorem cmB_iff (v : Nat) : ∀ j, cmB D v j = true ↔ ∃ t, t < j ∧ Dln D (Dth D + t) = v
  | 0 => ⟨fun h => absurd (show false = true from h) (by decide), fun ⟨t, h, _⟩ => absurd h (Nat.not_lt_zero t)⟩
  | j + 1 => by
    have ih := cmB_iff v j
    unfold cmB
    rw [Bool.or_eq_true, ih, decide_eq_true_eq]
    constructor
    · rintro (⟨t, h1, h2⟩ | h)
      · exact ⟨t, by omega, h2⟩
      · exact ⟨j, by omega, h⟩
    · rintro ⟨t, h1, h2⟩
      by_cases q : t = j
      · right; rw [← q]; exact h2
      · left; exact ⟨t, by omega, h2⟩
def flt (T : TT) (D : DD) (v : Nat) : List Nat := (List.range v).filter (fun x => decide (x ∈ lnL T D))
theorem flt_s (v : Nat) : flt T D (v + 1) = if v ∈ lnL T D then flt T D v ++ [v] else flt T D v := by
  unfold flt
  rw [List.range_succ, List.filter_append]
  by_cases q : v ∈ lnL T D
  · rw [if_pos q]
    congr 1
    show List.filter _ [v] = [v]
    rw [List.filter_cons_of_pos (by simpa using q)]
    rfl
  · rw [if_neg q, List.filter_cons_of_neg (by simpa using q)]
    exact List.append_nil _
theorem flt_len (v : Nat) : (flt T D v).length ≤ v := by
  have := List.length_filter_le (fun x => decide (x ∈ lnL T D)) (List.range v)
  rw [List.length_range] at this
  exact this
theorem flt_end (hT : WT T) (hD : WD T D B) : flt T D (Tnv T) = srt (lnL T D) := by
  have h5 := hT.1
  have hx : ∀ k, Tnv T + k ≤ 5 → flt T D (Tnv T + k) = flt T D (Tnv T) := by
    intro k
    induction k with
    | zero => intro _; rfl
    | succ k ih =>
      intro hk
      rw [show Tnv T + (k + 1) = Tnv T + k + 1 by omega, flt_s, if_neg, ih (by omega)]
      intro h
      obtain ⟨t, h1, h2⟩ := lnL_mem.mp h
      have := hD.2.2.2.2.1 (Dth D + t) (by omega)
      omega
  have := hx (5 - Tnv T) (by omega)
  rw [show Tnv T + (5 - Tnv T) = 5 by omega] at this
  exact this.symm
theorem mSeekO (hT : WT T) (hD : WD T D B) (hB : B ≤ 900000) (hE : EM (M 146) T D) (hlen : (srt (lnL T D)).length = Tnv T - Dth D) (x : Int32) (r : Int32) (hr : ∀ M', BsR (Tnv T - Dth D) M' (run T D (rkk (srt (lnL T D)) + 1) (srt (lnL T D)) none) → ansR x (Tnv T - Dth D) M' (mR (run T D (rkk (srt (lnL T D)) + 1) (srt (lnL T D)) none)) = some (r, M')) : ∃ M', iter (fun rec a => f_X9_order_35 x (nI (Tnv T - Dth D)) rec a.1 a.2.1 a.2.2) fuel (M, (0 : Int32), (0 : Int32)) = some (r, M') ∧ fr M M' := by
  have h5 := hT.1
  have hle := hD.2.2.1
  have hI := srt_I hT hD hlen
  have hrk := (okG hI.1).2.2
  have key := iter_inv (F := fun rec a => f_X9_order_35 x (nI (Tnv T - Dth D)) rec a.1 a.2.1 a.2.2) (fun v a => a.2 = (nI (flt T D v).length, nI v) ∧ OrdR a.1 (flt T D v) ∧ f1h 152 M a.1) (Tnv T) (fun z => z.1 = r ∧ fr M z.2) (fun v a hv hI => ?_) (fun a hI' => ?_) fuel 0 (M, (0 : Int32), (0 : Int32)) (by omega) (by rw [fuel_eq]; omega) ⟨rfl, fun t ht => absurd ht (Nat.not_lt_zero t), f1_refl 152 M⟩
  · obtain ⟨⟨r', M'⟩, ⟨er, f1⟩, e1⟩ := key
    have er : r' = r := er
    rw [er] at e1
    exact ⟨M', e1, f1⟩
  · obtain ⟨Mk, aj⟩ := a
    obtain ⟨ea, ho, fk⟩ := hI
    have ea : aj = (nI (flt T D v).length, nI v) := ea
    subst ea
    have ho : OrdR Mk (flt T D v) := ho
    have fk : f1h 152 M Mk := fk
    have hEk : EM (Mk 146) T D := by rw [fk 146 (by decide)]; exact hE
    have hfl := flt_len (T := T) (D := D) v
    left
    obtain ⟨a', ea', hI'⟩ : ∃ a' : Mem × Int32 × Int32, a' = (if v ∈ lnL T D then (st Mk 152 (flt T D v).length (nI v), nI ((flt T D v).length + 1), nI (v + 1)) else (Mk, nI (flt T D v).length, nI (v + 1))) ∧ (a'.2 = (nI (flt T D (v + 1)).length, nI (v + 1)) ∧ OrdR a'.1 (flt T D (v + 1)) ∧ f1h 152 M a'.1) := by
      refine ⟨_, rfl, ?_⟩
      rw [flt_s]
      by_cases q : v ∈ lnL T D
      · rw [if_pos q, if_pos q]
        refine ⟨by rw [List.length_append, List.length_singleton], fun t ht => ?_, f1_trans fk f1_st⟩
        rw [List.length_append, List.length_singleton] at ht
        show st Mk 152 (flt T D v).length (nI v) 152 t = nI ((flt T D v ++ [v]).getD t 0)
        rw [List.getD_eq_getElem?_getD]
        by_cases w : t = (flt T D v).length
        · rw [w, st_same, List.getElem?_append_right (Nat.le_refl _), Nat.sub_self]
          rfl
        · rw [st_slot w, List.getElem?_append_left (by omega), ← List.getD_eq_getElem?_getD]
          exact ho t (by omega)
      · rw [if_neg q, if_neg q]
        exact ⟨rfl, ho, fk⟩
    refine ⟨a', hI', fun rec => ?_⟩
    show f_X9_order_35 x (nI (Tnv T - Dth D)) rec Mk (nI (flt T D v).length) (nI v) = _
    unfold f_X9_order_35
    rw [em_nv hEk, if_neg (by rw [nI_leI (by omega) (by omega)]; omega), em_th hEk, nmE]
    have k2 := iter_to (F := fun r a => f_X9_order_57 rec Mk x (nI (Tnv T - Dth D)) (nI (flt T D v).length) (nI v) r a.1 a.2) (fun j => (cmB D v j, nI (Dth D + j))) (Tnv T - Dth D) (rec a') (fun j hj r => by
      show f_X9_order_57 rec Mk x (nI (Tnv T - Dth D)) (nI (flt T D v).length) (nI v) r (cmB D v j) (nI (Dth D + j)) = r (cmB D v j || decide (Dln D (Dth D + j) = v), nI (Dth D + j + 1))
      have hvl := hD.2.2.2.2.1 (Dth D + j) (by omega)
      have e1 : (nI (Dln D (Dth D + j)) = nI v) ↔ Dln D (Dth D + j) = v := nI_eq (by omega) (by omega)
      unfold f_X9_order_57
      rw [em_nv hEk, if_neg (by rw [nI_leI (by omega) (by omega)]; omega), q6, chk_ix (by omega) (by decide), cl_nI (by omega), em_ln hEk (by omega)]
      cases cmB D v j with
      | true => rw [if_pos rfl, nmE, nI_sc]; rfl
      | false =>
        rw [if_neg (by decide)]
        by_cases w : Dln D (Dth D + j) = v
        · rw [if_pos (e1.mpr w), nmE, nI_sc, decide_eq_true w]; rfl
        · rw [if_neg (fun z => w (e1.mp z)), nmE, nI_sc, decide_eq_false w]; rfl) (fun r => by
      show f_X9_order_57 rec Mk x (nI (Tnv T - Dth D)) (nI (flt T D v).length) (nI v) r (cmB D v (Tnv T - Dth D)) (nI (Dth D + (Tnv T - Dth D))) = _
      unfold f_X9_order_57
      rw [em_nv hEk, if_pos (by rw [nI_leI (by omega) (by omega)]; omega), chk_ix (by omega) (by decide), cl_nI (by omega), ea']
      by_cases w : cmB D v (Tnv T - Dth D) = true
      · have w2 : v ∈ lnL T D := lnL_mem.mpr ((cmB_iff v _).mp w)
        rw [if_pos w, if_pos w2, nmE, nmE, nmE, nI_sc, nI_sc]
      · have w2 : ¬ v ∈ lnL T D := fun z => w ((cmB_iff v _).mpr (lnL_mem.mp z))
        rw [if_neg w, if_neg w2, nmE, nI_sc]) fuel 0 (Nat.zero_le _) (by rw [fuel_eq]; omega)
    exact k2
  · obtain ⟨Mk, aj⟩ := a
    obtain ⟨ea, ho, fk⟩ := hI'
    have ea : aj = (nI (flt T D (Tnv T)).length, nI (Tnv T)) := ea
    subst ea
    have ho : OrdR Mk (flt T D (Tnv T)) := ho
    rw [flt_end hT hD] at ho
    have fk : f1h 152 M Mk := fk
    have hEk : EM (Mk 146) T D := by rw [fk 146 (by decide)]; exact hE
    obtain ⟨M', e1, b1, f1⟩ := mSeek hT hD hB x (rkk (srt (lnL T D))) (srt (lnL T D)) none Mk fuel rfl hI (by rw [fuel_eq]; omega) hEk ho True.intro
    refine ⟨(r, M'), ⟨rfl, fun a ha => (f1 a ha).trans (fk a (fun w => ha (by unfold Jk; omega)))⟩, fun rec => ?_⟩
    show f_X9_order_35 x (nI (Tnv T - Dth D)) rec Mk (nI (flt T D (Tnv T)).length) (nI (Tnv T)) = _
    unfold f_X9_order_35
    rw [em_nv hEk, if_pos (by rw [nI_leI (by omega) (by omega)]; omega)]
    exact e1.trans (hr M' b1)
end O4
section O5
variable {B : Nat} {M : Mem}
theorem ok_order (hR : Rel B M) (hB : B ≤ 900000) (x : Int32) : Ok2 B M (fun M => f_X8_order M x) (fun M => f_X9_order M x) := by
  obtain ⟨T, D, n, P, hT, hD, hn, hP, hE, hEm, hC, hM⟩ := hR.2
  have h5 := hT.1
  have hle := hD.2.2.1
  have em1 : (-1 : Int32).toInt = -1 := by decide
  have e4 : (4 : Int32).toInt = 4 := rfl
  have e5 : (5 : Int32).toInt = 5 := rfl
  have e0 : (0 : Int32).toInt = 0 := rfl
  by_cases q : 0 < Tnv T
  · by_cases qx : f_X9_in x (-1) 4 = true
    · have qx2 := in_iff.mp qx
      have c1 : ¬ x < (-1 : Int32) := by rw [i_lt]; omega
      have c2 : x < (5 : Int32) := by rw [i_lt]; omega
      obtain ⟨hlen, M1, s1, b1, f1⟩ := cSeekO hT hD hB hE
      have go : ∀ (N : Mem), fr M N → ∀ r, (∀ M', BsR (Tnv T - Dth D) M' (run T D (rkk (srt (lnL T D)) + 1) (srt (lnL T D)) none) → ansR x (Tnv T - Dth D) M' (mR (run T D (rkk (srt (lnL T D)) + 1) (srt (lnL T D)) none)) = some (r, M')) → ∃ M2, f_X9_order N x = some (r, M2) ∧ fr N M2 := by
        intro N fN r hr
        have hEm1 : EM (N 146) T D := by rw [fr_at fN (by omega)]; exact hEm
        obtain ⟨M2, e2, f2⟩ := mSeekO hT hD hB hEm1 hlen x r hr
        refine ⟨M2, ?_, f2⟩
        unfold f_X9_order
        rw [if_pos ((isF_iff hEm1).mpr q), if_pos qx, mLeft hEm1 hD, nmE]
        exact e2
      by_cases qk : x < nI (Tnv T - Dth D)
      · obtain ⟨v, b, er⟩ := run_some (T := T) (D := D) (rkk (srt (lnL T D)) + 1) (srt (lnL T D)) none (Or.inr (by omega))
        rw [er] at b1
        obtain ⟨b11, b12, b13, b14⟩ := b1
        by_cases qz : (0 : Int32) ≤ x
        · obtain ⟨k, hk, rfl⟩ : ∃ k, k < 5 ∧ x = nI k := by
            rw [i_le, e0] at qz
            obtain ⟨j, j1, j2, j3⟩ := nI_ex qz
            exact ⟨j, by omega, j2⟩
          rw [nI_ltI (by omega) (by omega)] at qk
          obtain ⟨M2, e2, f2⟩ := go M1 f1 (nI (b.getD k 0)) (fun M' hb => by
            rw [er] at hb
            unfold ansR
            rw [if_neg (by rw [i_eq, ti (by omega), em1]; omega), if_neg (by rw [nI_leI (by omega) (by omega)]; omega), chk_ix (by omega) (by decide), cl_nI (by omega), hb.2.2 k qk])
          refine ok_q hR (r := nI (b.getD k 0)) (M1 := M1) (M2 := M2) ?_ f1 e2 f2
          show f_X8_order M (nI k) = _
          unfold f_X8_order
          rw [if_pos ((isT_iff hT hE).mpr q), if_neg c1, if_pos c2, cCom hE hD, if_pos (by rw [nI_ltI (by omega) (by omega)]; exact qk), s1, bdE, if_pos qz, chk_ix (by omega) (by decide), cl_nI (by omega), b14 k qk]
        · have ex : x = -1 := by
            rw [i_eq, em1]
            rw [i_le, e0] at qz
            omega
          obtain ⟨M2, e2, f2⟩ := go M1 f1 (nI v) (fun M' hb => by
            unfold ansR
            rw [if_pos ex, er]
            rfl)
          refine ok_q hR (r := nI v) (M1 := M1) (M2 := M2) ?_ f1 e2 f2
          show f_X8_order M x = _
          unfold f_X8_order
          rw [if_pos ((isT_iff hT hE).mpr q), if_neg c1, if_pos c2, cCom hE hD, if_pos qk, s1, bdE, if_neg qz, b11]
      · obtain ⟨M2, e2, f2⟩ := go M (fr_refl M) (-1000000) (fun M' hb => by
          unfold ansR
          have hk2 : nI (Tnv T - Dth D) ≤ x := by rw [i_le]; rw [i_lt] at qk; omega
          have hk3 : ¬ x = -1 := by
            rw [i_eq, em1]
            rw [i_le, ti (by omega)] at hk2
            omega
          rw [if_neg hk3, if_pos hk2])
        refine ok_q hR (r := -1000000) (M1 := M) (M2 := M2) ?_ (fr_refl M) e2 f2
        show f_X8_order M x = _
        unfold f_X8_order
        rw [if_pos ((isT_iff hT hE).mpr q), if_neg c1, if_pos c2, cCom hE hD, if_neg qk]
    · refine act_no hR (r := -1000001) ?_ ?_
      · unfold f_X8_order
        rw [if_pos ((isT_iff hT hE).mpr q)]
        by_cases s1 : x < (-1 : Int32)
        · rw [if_pos s1]
        · rw [if_neg s1]
          by_cases s2 : x < (5 : Int32)
          · exfalso
            apply qx
            rw [in_iff]
            rw [i_lt] at s1 s2
            omega
          · rw [if_neg s2]
      · unfold f_X9_order
        rw [if_pos ((isF_iff hEm).mpr q), if_neg qx]
  · refine act_no hR (r := -1000002) ?_ ?_
    · unfold f_X8_order
      rw [if_neg (fun h => q ((isT_iff hT hE).mp h))]
    · unfold f_X9_order
      rw [if_neg (fun h => q ((isF_iff hEm).mp h))]
end O5
