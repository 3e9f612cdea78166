/-! ORDER: the class -/
def ordD (D : DD) (l : List Nat) : DD := (Dst D, DF D, DK D, Dtu D, Dth D, fun j => if Dth D ≤ j ∧ j < Dth D + l.length then l.getD (j - Dth D) 0 else Dln D j)
def IvL (T : TT) (D : DD) (l : List Nat) : Prop := GL l ∧ l.length = Tnv T - Dth D ∧ ∀ x, x ∈ l → x < Tnv T ∧ ∀ j, j < Dth D → Dln D j ≠ x
theorem getD_in {l : List Nat} {t : Nat} (h : t < l.length) : l.getD t 0 ∈ l := by
  rw [List.getD_eq_getElem?_getD, List.getElem?_eq_getElem h]
  exact List.getElem_mem h
theorem getD_nd {l : List Nat} (hd : l.Nodup) {i j : Nat} (hi : i < l.length) (hj : j < l.length) (h : l.getD i 0 = l.getD j 0) : i = j := by
  rw [List.getD_eq_getElem?_getD, List.getD_eq_getElem?_getD, List.getElem?_eq_getElem hi, List.getElem?_eq_getElem hj] at h
  have h2 : l[i]? = l[j]? := by rw [List.getElem?_eq_getElem hi, List.getElem?_eq_getElem hj]; exact congrArg some h
  exact (List.getElem?_inj hi hd).mp h2
theorem IvL_nx {T : TT} {D : DD} {l : List Nat} (h : IvL T D l) : IvL T D (nx l).2 := by
  obtain ⟨h1, h2, h3⟩ := h
  obtain ⟨g1, g2, g3, _⟩ := nx_G h1
  exact ⟨g1, g2.trans h2, fun x hx => h3 x ((g3 x).mp hx)⟩
section O3
variable {B : Nat} {T : TT} {D : DD} {l : List Nat}
theorem ordD_WD (hD : WD T D B) (h : IvL T D l) : WD T (ordD D l) B := by
  obtain ⟨h1, h2, h3⟩ := h
  have hle := hD.2.2.1
  refine ⟨hD.1, hD.2.1, hD.2.2.1, hD.2.2.2.1, fun j hj => ?_, fun i j hi hj e => ?_, hD.2.2.2.2.2.2⟩
  · show (if Dth D ≤ j ∧ j < Dth D + l.length then l.getD (j - Dth D) 0 else Dln D j) < Tnv T
    by_cases q : Dth D ≤ j ∧ j < Dth D + l.length
    · rw [if_pos q]; exact (h3 _ (getD_in (by omega))).1
    · rw [if_neg q]; exact hD.2.2.2.2.1 j hj
  · have e : (if Dth D ≤ i ∧ i < Dth D + l.length then l.getD (i - Dth D) 0 else Dln D i) = (if Dth D ≤ j ∧ j < Dth D + l.length then l.getD (j - Dth D) 0 else Dln D j) := e
    by_cases p : Dth D ≤ i
    · rw [if_pos ⟨p, by omega⟩] at e
      by_cases q : Dth D ≤ j
      · rw [if_pos ⟨q, by omega⟩] at e
        have := getD_nd h1.2.2 (show i - Dth D < l.length by omega) (show j - Dth D < l.length by omega) e
        omega
      · rw [if_neg (fun w => q w.1)] at e
        exact absurd e.symm ((h3 _ (getD_in (show i - Dth D < l.length by omega))).2 j (by omega))
    · rw [if_neg (fun w => p w.1)] at e
      by_cases q : Dth D ≤ j
      · rw [if_pos ⟨q, by omega⟩] at e
        exact absurd e ((h3 _ (getD_in (show j - Dth D < l.length by omega))).2 i (by omega))
      · rw [if_neg (fun w => q w.1)] at e
        exact hD.2.2.2.2.2.1 i j hi hj e
def its (T : TT) (D : DD) (l : List Nat) : Nat := pc (DF (arr T (ordD D l)))
def upB (T : TT) (D : DD) (m : Option (Nat × List Nat)) (l : List Nat) : Option (Nat × List Nat) := match m with
  | none => some (its T D l, l)
  | some (v, b) => if its T D l ≤ v then some (v, b) else some (its T D l, l)
def run (T : TT) (D : DD) : Nat → List Nat → Option (Nat × List Nat) → Option (Nat × List Nat)
  | 0, _, m => m
  | k + 1, l, m => if (nx l).1 = true then run T D k (nx l).2 (upB T D m l) else upB T D m l
theorem upB_some (m : Option (Nat × List Nat)) : ∃ v b, upB T D m l = some (v, b) := by
  cases m with
  | none => exact ⟨_, _, rfl⟩
  | some q =>
    obtain ⟨v, b⟩ := q
    by_cases h : its T D l ≤ v
    · exact ⟨v, b, if_pos h⟩
    · exact ⟨its T D l, l, if_neg h⟩
theorem run_some : ∀ (k : Nat) (l : List Nat) (m : Option (Nat × List Nat)), (m ≠ none ∨ 0 < k) → ∃ v b, run T D k l m = some (v, b)
  | 0, l, m, h => by
    cases m with
    | none => rcases h with h | h; exact absurd rfl h; omega
    | some q => exact ⟨q.1, q.2, rfl⟩
  | k + 1, l, m, _ => by
    obtain ⟨v, b, e⟩ := upB_some (T := T) (D := D) (l := l) m
    by_cases q : (nx l).1 = true
    · rw [show run T D (k + 1) l m = run T D k (nx l).2 (upB T D m l) from if_pos q]
      exact run_some k _ _ (Or.inl (by rw [e]; exact fun h => by cases h))
    · rw [show run T D (k + 1) l m = upB T D m l from if_neg q]
      exact ⟨v, b, e⟩
def BsC (n : Nat) (M : Mem) (m : Option (Nat × List Nat)) : Prop := match m with
  | none => M 99 3 = -1
  | some (v, b) => M 99 3 = nI v ∧ v ≤ 6 ∧ b.length = n ∧ ∀ t, t < n → M 101 t = nI (b.getD t 0)
theorem BsC_cg {n : Nat} {M M' : Mem} {m : Option (Nat × List Nat)} (h : BsC n M m) (e1 : M' 99 = M 99) (e2 : M' 101 = M 101) : BsC n M' m := by
  cases m with
  | none => show M' 99 3 = -1; rw [e1]; exact h
  | some q => obtain ⟨v, b⟩ := q; show M' 99 3 = nI v ∧ v ≤ 6 ∧ b.length = n ∧ ∀ t, t < n → M' 101 t = nI (b.getD t 0); rw [e1, e2]; exact h
theorem OrdC_cg {M M' : Mem} (h : OrdC M l) (e1 : M' 99 2 = M 99 2) (e2 : M' 100 = M 100) : OrdC M' l := ⟨e1.trans h.1, fun t ht => by rw [e2]; exact h.2 t ht⟩
theorem cpo_0 {c : Nat} (h : c ≤ 5) {β : Type} {k : Option β} : chk (cpo (0 : Int32) (nI c) 5) k = k := cpo_t (p := 0) (by omega) (by decide)
theorem cWeigh {n : Nat} {M : Mem} (hn : l.length = n) (hn5 : n ≤ 5) (hO : OrdC M l) {m : Option (Nat × List Nat)} (hB : BsC n M m) (h6 : its T D l ≤ 6) : ∃ M', f_X4_weigh M (nI (its T D l)) = some M' ∧ OrdC M' l ∧ BsC n M' (upB T D m l) ∧ (∀ a, a ≠ 99 → a ≠ 101 → M' a = M a) := by
  have h2 : M 99 2 = nI n := by rw [← hn]; exact hO.1
  have take : ¬ nI (its T D l) ≤ M 99 3 → upB T D m l = some (its T D l, l) → ∃ M', f_X4_weigh M (nI (its T D l)) = some M' ∧ OrdC M' l ∧ BsC n M' (upB T D m l) ∧ (∀ a, a ≠ 99 → a ≠ 101 → M' a = M a) := by
    intro c e
    obtain ⟨M1, e1⟩ : ∃ y, y = st M 99 3 (nI (its T D l)) := ⟨_, rfl⟩
    have k2 : M1 99 2 = nI n := by rw [e1, st_slot (by decide)]; exact h2
    have k3 : M1 99 3 = nI (its T D l) := by rw [e1, st_same]
    have kf : ∀ a, a ≠ 99 → M1 a = M a := fun a ha => by rw [e1]; exact st_ne ha
    refine ⟨stA M1 101 (va_cpy (M1 100) (M1 101) 0 0 n), ?_, OrdC_cg hO ?_ ?_, ?_, fun a h1 h2 => (stA_ne h2).trans (kf a h1)⟩
    · unfold f_X4_weigh
      rw [if_neg c, ← e1, nmE, k2, cpo_0 hn5, cpo_0 hn5, cl_nI (by omega), nmE]
    · rw [stA_ne (by decide), k2, h2]
    · rw [stA_ne (by decide), kf 100 (by decide)]
    · rw [e]
      refine ⟨by rw [stA_ne (by decide)]; exact k3, h6, hn, fun t ht => ?_⟩
      rw [stA_i, pk_cpy_in (by omega) (by omega), kf 100 (by decide), show 0 + (t - 0) = t by omega]
      exact hO.2 t (by omega)
  cases m with
  | none =>
    refine take ?_ rfl
    have hb : M 99 3 = -1 := hB
    have em : (-1 : Int32).toInt = -1 := by decide
    rw [hb, i_le, em, ti (by omega)]
    omega
  | some q =>
    obtain ⟨v, b⟩ := q
    obtain ⟨b1, b2, b3, b4⟩ := hB
    by_cases c : its T D l ≤ v
    · refine ⟨M, ?_, hO, ?_, fun a _ _ => rfl⟩
      · unfold f_X4_weigh
        rw [b1, if_pos ((nI_leI (by omega) (by omega)).mpr c)]
      · rw [show upB T D (some (v, b)) l = some (v, b) from if_pos c]
        exact ⟨b1, b2, b3, b4⟩
    · refine take ?_ (if_neg c)
      rw [b1, nI_leI (by omega) (by omega)]
      exact c
variable {M : Mem}
/-- one order tried -/
theorem cSeek1 (hT : WT T) (hD : WD T D B) (hB : B ≤ 900000) (hI : IvL T D l) (hE : EC M 4 T D) (hO : OrdC M l) {m : Option (Nat × List Nat)} (hm : BsC (Tnv T - Dth D) M m) {i : Nat} (hi : i < 120) : ∃ M5, OrdC M5 (nx l).2 ∧ BsC (Tnv T - Dth D) M5 (upB T D m l) ∧ fr M M5 ∧ ∀ rec, f_X8_seekOrder_36 rec M (nI i) = if (nx l).1 = true then rec (M5, nI (i + 1)) else some M5 := by
  have h5 := hT.1
  have hle := hD.2.2.1
  obtain ⟨hG, hlen, hmem⟩ := hI
  obtain ⟨hE1, f1⟩ := cTri hT hE
  obtain ⟨M1, e1⟩ : ∃ y, y = f_X2_become M 14 4 := ⟨_, rfl⟩
  rw [← e1] at hE1 f1
  have kf : ∀ a, a ≤ 14 ∨ 23 < a → M1 a = M a := fun a ha => by rw [e1]; exact cBecF M 14 4 a (by omega)
  have k3 : M1 11 3 = nI (Dth D) := by rw [kf 11 (by omega)]; exact ec_th hE
  have k2 : M1 99 2 = nI (Tnv T - Dth D) := by rw [kf 99 (by omega), ← hlen]; exact hO.1
  obtain ⟨M2, e2⟩ : ∃ y, y = stA M1 23 (va_cpy (M1 100) (M1 23) 0 (Dth D) (Tnv T - Dth D)) := ⟨_, rfl⟩
  have hE2 : EC M2 14 T (ordD D l) := by
    rw [e2]
    refine ec_mo (D := D) hE1 (mo_ln (i := 21) hE1.2 (fun j hj => ?_)) (fun a a1 a2 => stA_ne (by omega))
    show va_cpy (M1 100) (M1 23) 0 (Dth D) (Tnv T - Dth D) j = nI (if Dth D ≤ j ∧ j < Dth D + l.length then l.getD (j - Dth D) 0 else Dln D j)
    by_cases q : Dth D ≤ j
    · rw [if_pos ⟨q, by omega⟩, pk_cpy_in q (by omega), kf 100 (by omega), Nat.zero_add]
      exact hO.2 _ (by omega)
    · rw [if_neg (fun w => q w.1), pk_cpy_out (by omega)]
      exact ec_ln hE1 hj
  have k2f : ∀ a, a ≠ 23 → M2 a = M1 a := fun a ha => by rw [e2]; exact stA_ne ha
  have hD2 := ordD_WD hD ⟨hG, hlen, hmem⟩
  obtain ⟨M3, e3, hE3, f3⟩ := cArr hT hE2 hD2 (by omega)
  have hp := wd_F hT (arr_WD hT hD2 (by omega))
  have f13 : fr M M3 := fr_trans f1 (fr_trans (by rw [e2]; exact fr_stA (by unfold Jk; omega)) (fr_14 f3))
  have k3f : ∀ a, 24 ≤ a → M3 a = M a := fun a ha => ((f3 a (by omega) (by omega)).trans (k2f a (by omega))).trans (kf a (by omega))
  have hO3 : OrdC M3 l := OrdC_cg hO (by rw [k3f 99 (by omega)]) (k3f 100 (by omega))
  have hB3 : BsC (Tnv T - Dth D) M3 m := BsC_cg hm (k3f 99 (by omega)) (k3f 101 (by omega))
  have h6 : its T D l ≤ 6 := pc_le _ hp
  obtain ⟨M4, e4, hO4, hB4, f4⟩ := cWeigh (T := T) (D := D) hlen (by omega) hO3 hB3 h6
  obtain ⟨M5, e5, hO5, f5⟩ := stp_c hG hO4
  refine ⟨M5, hO5, BsC_cg hB4 (f5 99 (by decide)) (f5 101 (by decide)), fr_trans f13 (fun a ha => ?_), fun rec => ?_⟩
  · have q1 : a ≠ 99 := fun w => ha (by unfold Jk; omega)
    have q2 : a ≠ 100 := fun w => ha (by unfold Jk; omega)
    have q3 : a ≠ 101 := fun w => ha (by unfold Jk; omega)
    exact (f5 a q2).trans (f4 a q1 q3)
  · have c1 : ¬ (120 : Int32) ≤ nI i := nI_ge (b := 120) hi (by decide)
    have hlay : f_X4_layInto M1 23 (nI (Dth D)) = some M2 := by
      unfold f_X4_layInto
      rw [k2, cpo_0 (by omega), cpo_t (by omega) (by decide), cl_nI (by omega), cl_nI (by omega), nmE, e2]
    unfold f_X8_seekOrder_36
    rw [if_neg c1, ← e1, nmE, k3, hlay, bdE, e3, bdE]
    dsimp only
    rw [b_pc _ hp]
    have e4' : f_X4_weigh M3 (nI (pc (DF (arr T (ordD D l))))) = some M4 := e4
    rw [e4', bdE, e5, bdE, nmE, nI_sc]
theorem cSeek (hT : WT T) (hD : WD T D B) (hB : B ≤ 900000) : ∀ (k : Nat) (l : List Nat) (m : Option (Nat × List Nat)) (M : Mem) (i fu : Nat), rkk l = k → IvL T D l → i + k < 120 → k < fu → EC M 4 T D → OrdC M l → BsC (Tnv T - Dth D) M m → ∃ M', iter (fun rec a => f_X8_seekOrder_36 rec a.1 a.2) fu (M, nI i) = some M' ∧ BsC (Tnv T - Dth D) M' (run T D (k + 1) l m) ∧ fr M M' := by
  intro k
  induction k with
  | zero =>
    intro l m M i fu hr hI hi hf hE hO hm
    obtain ⟨fu, rfl⟩ : ∃ y, fu = y + 1 := ⟨fu - 1, by omega⟩
    obtain ⟨M5, h1, h2, h3, h4⟩ := cSeek1 hT hD hB hI hE hO hm (show i < 120 by omega)
    have hn : ¬ (nx l).1 = true := fun w => by have := (nx_G hI.1).2.2.2 w; omega
    rw [iter_s]
    refine ⟨M5, (h4 _).trans (if_neg hn), ?_, h3⟩
    rw [show run T D (0 + 1) l m = upB T D m l from if_neg hn]
    exact h2
  | succ k ih =>
    intro l m M i fu hr hI hi hf hE hO hm
    obtain ⟨fu, rfl⟩ : ∃ y, fu = y + 1 := ⟨fu - 1, by omega⟩
    obtain ⟨M5, h1, h2, h3, h4⟩ := cSeek1 hT hD hB hI hE hO hm (show i < 120 by omega)
    rw [iter_s]
    by_cases hn : (nx l).1 = true
    · have hrk := (nx_G hI.1).2.2.2 hn
      obtain ⟨M6, e6, g1, g2⟩ := ih (nx l).2 (upB T D m l) M5 (i + 1) fu (by omega) (IvL_nx hI) (by omega) (by omega) (fr_EC h3 (by omega) hE) h1 h2
      refine ⟨M6, ((h4 _).trans (if_pos hn)).trans e6, ?_, fr_trans h3 g2⟩
      rw [show run T D (k + 1 + 1) l m = run T D (k + 1) (nx l).2 (upB T D m l) from if_pos hn]
      exact g1
    · refine ⟨M5, (h4 _).trans (if_neg hn), ?_, h3⟩
      rw [show run T D (k + 1 + 1) l m = upB T D m l from if_neg hn]
      exact h2
/-- the valleys that come, as they stand -/
def lnL (T : TT) (D : DD) : List Nat := (List.range (Tnv T - Dth D)).map (fun t => Dln D (Dth D + t))
theorem lnL_len : (lnL T D).length = Tnv T - Dth D := by unfold lnL; rw [List.length_map, List.length_range]
theorem lnL_get {t : Nat} (h : t < Tnv T - Dth D) : (lnL T D).getD t 0 = Dln D (Dth D + t) := by
  unfold lnL
  rw [List.getD_eq_getElem?_getD, List.getElem?_map, List.getElem?_range h]
  rfl
theorem lnL_mem {x : Nat} : x ∈ lnL T D ↔ ∃ t, t < Tnv T - Dth D ∧ Dln D (Dth D + t) = x := by
  unfold lnL
  rw [List.mem_map]
  constructor
  · rintro ⟨t, h1, h2⟩; exact ⟨t, List.mem_range.mp h1, h2⟩
  · rintro ⟨t, h1, h2⟩; exact ⟨t, List.mem_range.mpr h1, h2⟩
theorem lnL_G (hT : WT T) (hD : WD T D B) : GL (lnL T D) := by
  have h5 := hT.1
  refine ⟨by rw [lnL_len]; omega, fun x hx => ?_, ?_⟩
  · obtain ⟨t, h1, h2⟩ := lnL_mem.mp hx
    have := hD.2.2.2.2.1 (Dth D + t) (by omega)
    omega
  · show List.Pairwise (· ≠ ·) (lnL T D)
    unfold lnL
    rw [List.pairwise_map]
    refine List.Pairwise.imp_of_mem ?_ List.pairwise_lt_range
    intro a b ha hb hab e
    have ha := List.mem_range.mp ha
    have hb := List.mem_range.mp hb
    have := hD.2.2.2.2.2.1 (Dth D + a) (Dth D + b) (by omega) (by omega) e
    omega
theorem srt_mem (hT : WT T) (hD : WD T D B) {x : Nat} : x ∈ srt (lnL T D) ↔ x ∈ lnL T D := by
  unfold srt
  rw [List.mem_filter, List.mem_range]
  constructor
  · intro h; exact of_decide_eq_true h.2
  · intro h; exact ⟨(lnL_G hT hD).2.1 x h, decide_eq_true h⟩
theorem srt_G (l : List Nat) : GL (srt l) := by
  refine ⟨?_, fun x hx => ?_, ?_⟩
  · have := List.length_filter_le (fun v => decide (v ∈ l)) (List.range 5)
    rw [List.length_range] at this
    exact this
  · unfold srt at hx
    rw [List.mem_filter, List.mem_range] at hx
    exact hx.1
  · show List.Pairwise (· ≠ ·) (srt l)
    exact List.Pairwise.filter _ List.nodup_range
theorem srt_I (hT : WT T) (hD : WD T D B) (hl : (srt (lnL T D)).length = Tnv T - Dth D) : IvL T D (srt (lnL T D)) := by
  refine ⟨srt_G _, hl, fun x hx => ?_⟩
  obtain ⟨t, h1, h2⟩ := lnL_mem.mp ((srt_mem hT hD).mp hx)
  refine ⟨by rw [← h2]; exact hD.2.2.2.2.1 _ (by omega), fun j hj e => ?_⟩
  rw [← h2] at e
  have := hD.2.2.2.2.2.1 j (Dth D + t) (by omega) (by omega) e
  omega
theorem cSeekO (hT : WT T) (hD : WD T D B) (hB : B ≤ 900000) (hE : EC M 4 T D) : (srt (lnL T D)).length = Tnv T - Dth D ∧ ∃ M', f_X8_seekOrder M = some M' ∧ BsC (Tnv T - Dth D) M' (run T D (rkk (srt (lnL T D)) + 1) (srt (lnL T D)) none) ∧ fr M M' := by
  have h5 := hT.1
  have hle := hD.2.2.1
  have k3 : M 11 3 = nI (Dth D) := ec_th hE
  obtain ⟨M1, e1⟩ : ∃ y, y = st (st M 99 2 (nI (Tnv T - Dth D))) 99 3 (-1) := ⟨_, rfl⟩
  have kf : ∀ a, a ≠ 99 → M1 a = M a := fun a ha => by rw [e1]; exact (st_ne ha).trans (st_ne ha)
  obtain ⟨M2, e2⟩ : ∃ y, y = stA M1 100 (va_cpy (M1 13) (M1 100) (Dth D) 0 (Tnv T - Dth D)) := ⟨_, rfl⟩
  have k2f : ∀ a, a ≠ 99 → a ≠ 100 → M2 a = M a := fun a h1 h2 => by rw [e2]; exact (stA_ne h2).trans (kf a h1)
  have hO : OrdC M2 (lnL T D) := by
    refine ⟨?_, fun t ht => ?_⟩
    · rw [e2, stA_ne (by decide), e1, st_slot (by decide), st_same, lnL_len]
    · rw [lnL_len] at ht
      rw [e2, stA_i, pk_cpy_in (by omega) (by omega), kf 13 (by decide), lnL_get ht, show Dth D + (t - 0) = Dth D + t by omega]
      exact ec_ln hE (by omega)
  obtain ⟨M3, e3, hO3, f3⟩ := srt_c (lnL_G hT hD) hO
  have hlen : (srt (lnL T D)).length = Tnv T - Dth D := by
    have a1 := hO3.1
    rw [f3 99 (by decide), hO.1, lnL_len] at a1
    have := (srt_G (lnL T D)).1
    exact ((nI_eq (by omega) (by omega)).mp a1).symm
  have hI := srt_I hT hD hlen
  have hB3 : BsC (Tnv T - Dth D) M3 none := by
    show M3 99 3 = -1
    rw [f3 99 (by decide), e2, stA_ne (by decide), e1, st_same]
  have f13 : fr M M3 := fun a ha => (f3 a (fun w => ha (by unfold Jk; omega))).trans (k2f a (fun w => ha (by unfold Jk; omega)) (fun w => ha (by unfold Jk; omega)))
  have hrk := (okG hI.1).2.2
  obtain ⟨M4, e4, b4, f4⟩ := cSeek hT hD hB (rkk (srt (lnL T D))) (srt (lnL T D)) none M3 0 fuel rfl hI (by omega) (by rw [fuel_eq]; omega) (fr_EC f13 (by omega) hE) hO3 hB3
  refine ⟨hlen, M4, ?_, b4, fr_trans f13 f4⟩
  unfold f_X8_seekOrder f_X4_begin
  rw [cCom hE hD, k3, nmE, ← e1, nmE, cpo_t (by omega) (by decide), cpo_0 (by omega), cl_nI (by omega), cl_nI (by omega), ← e2, nmE, e3, bdE, bdE]
  exact e4
end O3
