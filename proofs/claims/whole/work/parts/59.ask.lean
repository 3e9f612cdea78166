/-! ASK -/
def tw (g : Nat → Int32) (l : List Int32) : Nat → Int32 := fun t => if t < l.length then l.getD t 0 else g t
def cS (M : Mem) (l : List Int32) : Mem := st (stA M 103 (tw (M 103) l)) 102 1 (nI l.length)
def rS (M : Mem) (l : List Int32) : Mem := st (stA M 154 (tw (M 154) l)) 140 23 (nI l.length)
theorem tw_up {g : Nat → Int32} {l : List Int32} {v : Int32} : upd (tw g l) l.length v = tw g (l ++ [v]) := by
  funext t
  unfold tw
  rw [List.length_append, List.length_singleton]
  by_cases q : t = l.length
  · rw [q, pk_us, if_pos (by omega), List.getD_eq_getElem?_getD, List.getElem?_append_right (Nat.le_refl _), Nat.sub_self]
    rfl
  · rw [pk_un q]
    by_cases r : t < l.length
    · rw [if_pos r, if_pos (by omega), List.getD_eq_getElem?_getD, List.getD_eq_getElem?_getD, List.getElem?_append_left r]
    · rw [if_neg r, if_neg (by omega)]
theorem tw_0 (g : Nat → Int32) : tw g [] = g := by
  funext t
  exact if_neg (Nat.not_lt_zero t)
theorem tw_in {g : Nat → Int32} {l : List Int32} {t : Nat} (h : t < l.length) : tw g l t = l.getD t 0 := if_pos h
section AK
variable {B : Nat} {M : Mem} {l : List Int32}
theorem cS_0 (h : M 102 1 = 0) : cS M [] = M := by
  have e : stA M 103 (tw (M 103) []) = M := by rw [tw_0, stA_self]
  unfold cS
  rw [e]
  show stA M 102 (upd (M 102) 1 0) = M
  have : upd (M 102) 1 0 = M 102 := by
    funext t
    by_cases q : t = 1
    · rw [q, pk_us, h]
    · rw [pk_un q]
  rw [this, stA_self]
theorem rS_0 (h : M 140 23 = 0) : rS M [] = M := by
  have e : stA M 154 (tw (M 154) []) = M := by rw [tw_0, stA_self]
  unfold rS
  rw [e]
  show stA M 140 (upd (M 140) 23 0) = M
  have : upd (M 140) 23 0 = M 140 := by
    funext t
    by_cases q : t = 23
    · rw [q, pk_us, h]
    · rw [pk_un q]
  rw [this, stA_self]
theorem cS_f {s : Nat} (h : s ≠ 1) : cS M l 102 s = M 102 s := by unfold cS; rw [st_slot h, stA_ne (by decide)]
theorem cS_ne {a : Nat} (h1 : a ≠ 102) (h2 : a ≠ 103) : cS M l a = M a := by unfold cS; rw [st_ne h1, stA_ne h2]
theorem rS_ne {a : Nat} (h1 : a ≠ 140) (h2 : a ≠ 154) : rS M l a = M a := by unfold rS; rw [st_ne h1, stA_ne h2]
theorem rS_f {s : Nat} (h : s ≠ 23) : rS M l 140 s = M 140 s := by unfold rS; rw [st_slot h, stA_ne (by decide)]
theorem st2_eq (M : Mem) (i a k : Nat) (g g' : Nat → Int32) (v w : Int32) (hi : i ≠ a) (hg : g' = g') : st (stA (st (stA M i g) a k v) i g') a k w = st (stA M i g') a k w := by
  funext c
  by_cases q : c = a
  · rw [q]
    funext s
    by_cases r : s = k
    · rw [r, st_same, st_same]
    · rw [st_slot r, st_slot r, stA_ne (Ne.symm hi), stA_ne (Ne.symm hi), st_slot r, stA_ne (Ne.symm hi)]
  · rw [st_ne q, st_ne q]
    by_cases r : c = i
    · rw [r, stA_i, stA_i]
    · rw [stA_ne r, stA_ne r, st_ne q, stA_ne r]
theorem cNote (hl : l.length < 16) (v : Int32) : f_X1_note (cS M l) v = some (cS M (l ++ [v])) := by
  have h1 : cS M l 102 1 = nI l.length := by unfold cS; rw [st_same]
  have c1 : ¬ (16 : Int32) ≤ nI l.length := nI_ge (b := 16) hl (by decide)
  have h3 : cS M l 103 = tw (M 103) l := by unfold cS; rw [st_ne (by decide), stA_i]
  have e1 : st (cS M l) 103 l.length v = stA (cS M l) 103 (tw (M 103) (l ++ [v])) := by
    show stA (cS M l) 103 (upd (cS M l 103) l.length v) = _
    rw [h3, tw_up]
  unfold f_X1_note
  rw [h1, if_neg c1, chk_ix (by omega) (by decide), cl_nI (by omega), e1, nmE, nmE, stA_ne (by decide), h1, nI_sc]
  have hlen : (l ++ [v]).length = l.length + 1 := by rw [List.length_append, List.length_singleton]
  congr 1
  unfold cS
  rw [hlen]
  exact st2_eq M 103 102 1 _ _ _ _ (by decide) rfl
theorem rBeg (hl : l.length < 16) (v : Int32) : f_X9_begins (rS M l) v = some (rS M (l ++ [v])) := by
  have h1 : rS M l 140 23 = nI l.length := by unfold rS; rw [st_same]
  have c1 : ¬ (16 : Int32) ≤ nI l.length := nI_ge (b := 16) hl (by decide)
  have h3 : rS M l 154 = tw (M 154) l := by unfold rS; rw [st_ne (by decide), stA_i]
  have e1 : st (rS M l) 154 l.length v = stA (rS M l) 154 (tw (M 154) (l ++ [v])) := by
    show stA (rS M l) 154 (upd (rS M l 154) l.length v) = _
    rw [h3, tw_up]
  unfold f_X9_begins
  rw [h1, if_neg c1, chk_ix (by omega) (by decide), cl_nI (by omega), e1, nmE, nmE, stA_ne (by decide), h1, nI_sc]
  have hlen : (l ++ [v]).length = l.length + 1 := by rw [List.length_append, List.length_singleton]
  congr 1
  unfold rS
  rw [hlen]
  exact st2_eq M 154 140 23 _ _ _ _ (by decide) rfl
theorem sm_F (n : Nat) (M : Mem) (x y : Int32) : f_X1_sm (n + 1) false M x y = f_X1_size_b (f_X1_sm n false) (f_X1_sm n true) M x y := Eq.trans rfl rfl
theorem sm_T (n : Nat) (M : Mem) (x y : Int32) : f_X1_sm (n + 1) true M x y = f_X1_mark_b (f_X1_sm n false) (f_X1_sm n true) M x y := Eq.trans rfl rfl
theorem d20 {d : Nat} (h : d ≤ 20) : nI d ≤ (20 : Int32) := (nI_leI (b := 20) (by omega) (by decide)).mpr h
theorem ln1 {l : List Int32} {v : Int32} : (l ++ [v]).length = l.length + 1 := by rw [List.length_append, List.length_singleton]
theorem aS0 {n d : Nat} (hd : d + 0 ≤ 20) (hl : l.length + 1 ≤ 16) : f_X1_sm (n + 1) false (cS M l) 0 (nI d) = some (M 102 4, cS M (l ++ [10])) := by
  rw [sm_F]
  unfold f_X1_size_b
  rw [if_pos (d20 (by omega)), if_neg (by decide), if_neg (by decide), if_neg (by decide), if_neg (by decide), if_neg (by decide), cNote (by (try simp only [ln1]); omega), bdE, cS_f (by decide)]
theorem aM0 {n d : Nat} (hd : d + 0 ≤ 20) (hl : l.length + 1 ≤ 16) : f_X1_sm (n + 1) true (cS M l) 0 (nI d) = some (M 102 2, cS M (l ++ [20])) := by
  rw [sm_T]
  unfold f_X1_mark_b
  rw [if_pos (d20 (by omega)), if_neg (by decide), if_neg (by decide), if_neg (by decide), if_neg (by decide), if_neg (by decide), cNote (by (try simp only [ln1]); omega), bdE, cS_f (by decide)]
theorem aM1 {n d : Nat} (hd : d + 1 ≤ 20) (hl : l.length + 2 ≤ 16) : f_X1_sm (n + 2) true (cS M l) 1 (nI d) = some (M 102 2 + M 102 5, cS M (l ++ [21] ++ [20])) := by
  rw [sm_T]
  unfold f_X1_mark_b
  rw [if_pos (d20 (by omega)), if_pos (by decide), cNote (by (try simp only [ln1]); omega), bdE, nI_sc, aM0 (by omega) (by (try simp only [ln1]); omega), bdE]
  dsimp only
  rw [cS_f (by decide)]
theorem aM2 {n d : Nat} (hd : d + 2 ≤ 20) (hl : l.length + 3 ≤ 16) : f_X1_sm (n + 3) true (cS M l) 2 (nI d) = some (2 * (M 102 2 + M 102 5), cS M (l ++ [24] ++ [21] ++ [20])) := by
  rw [sm_T]
  unfold f_X1_mark_b
  rw [if_pos (d20 (by omega)), if_neg (by decide), if_pos (by decide), cNote (by (try simp only [ln1]); omega), bdE, nI_sc, aM1 (by omega) (by (try simp only [ln1]); omega), bdE]
theorem aM3 {n d : Nat} (hd : d + 2 ≤ 20) (hl : l.length + 3 ≤ 16) : f_X1_sm (n + 3) true (cS M l) 3 (nI d) = some (M 102 2 + M 102 5 - 1000, cS M (l ++ [22] ++ [21] ++ [20])) := by
  rw [sm_T]
  unfold f_X1_mark_b
  rw [if_pos (d20 (by omega)), if_neg (by decide), if_neg (by decide), if_pos (by decide), cNote (by (try simp only [ln1]); omega), bdE, nI_sc, aM1 (by omega) (by (try simp only [ln1]); omega), bdE]
theorem aS4 {n d : Nat} (hd : d + 1 ≤ 20) (hl : l.length + 2 ≤ 16) : f_X1_sm (n + 2) false (cS M l) 4 (nI d) = some (M 102 4 - 100, cS M (l ++ [13] ++ [10])) := by
  rw [sm_F]
  unfold f_X1_size_b
  rw [if_pos (d20 (by omega)), if_neg (by decide), if_neg (by decide), if_neg (by decide), if_pos (by decide), cNote (by (try simp only [ln1]); omega), bdE, nI_sc, aS0 (by omega) (by (try simp only [ln1]); omega), bdE]
theorem aS5 {n d : Nat} (hd : d + 2 ≤ 20) (hl : l.length + 3 ≤ 16) : f_X1_sm (n + 3) false (cS M l) 5 (nI d) = some (2 * (M 102 4 - 100), cS M (l ++ [14] ++ [13] ++ [10])) := by
  rw [sm_F]
  unfold f_X1_size_b
  rw [if_pos (d20 (by omega)), if_neg (by decide), if_neg (by decide), if_neg (by decide), if_neg (by decide), if_pos (by decide), cNote (by (try simp only [ln1]); omega), bdE, nI_sc, aS4 (by omega) (by (try simp only [ln1]); omega), bdE]
theorem aS1_1 {n d : Nat} (hd : d + 4 ≤ 20) (hl : l.length + 6 ≤ 16) (hk : M 102 3 = 1) : f_X1_sm (n + 5) false (cS M l) 1 (nI d) = some (M 102 4 + (M 102 2 + M 102 5), cS M (l ++ [11] ++ [10] ++ [21] ++ [20])) := by
  rw [sm_F]
  unfold f_X1_size_b
  rw [if_pos (d20 (by omega)), if_pos (by decide), cNote (by (try simp only [ln1]); omega), bdE, nI_sc, aS0 (by omega) (by (try simp only [ln1]); omega), bdE]
  dsimp only
  rw [cS_f (by decide), hk, aM1 (by omega) (by (try simp only [ln1]); omega), bdE]
theorem aS1_2 {n d : Nat} (hd : d + 4 ≤ 20) (hl : l.length + 6 ≤ 16) (hk : M 102 3 = 2) : f_X1_sm (n + 5) false (cS M l) 1 (nI d) = some (M 102 4 + (2 * (M 102 2 + M 102 5)), cS M (l ++ [11] ++ [10] ++ [24] ++ [21] ++ [20])) := by
  rw [sm_F]
  unfold f_X1_size_b
  rw [if_pos (d20 (by omega)), if_pos (by decide), cNote (by (try simp only [ln1]); omega), bdE, nI_sc, aS0 (by omega) (by (try simp only [ln1]); omega), bdE]
  dsimp only
  rw [cS_f (by decide), hk, aM2 (by omega) (by (try simp only [ln1]); omega), bdE]
theorem aS1_3 {n d : Nat} (hd : d + 4 ≤ 20) (hl : l.length + 6 ≤ 16) (hk : M 102 3 = 3) : f_X1_sm (n + 5) false (cS M l) 1 (nI d) = some (M 102 4 + (M 102 2 + M 102 5 - 1000), cS M (l ++ [11] ++ [10] ++ [22] ++ [21] ++ [20])) := by
  rw [sm_F]
  unfold f_X1_size_b
  rw [if_pos (d20 (by omega)), if_pos (by decide), cNote (by (try simp only [ln1]); omega), bdE, nI_sc, aS0 (by omega) (by (try simp only [ln1]); omega), bdE]
  dsimp only
  rw [cS_f (by decide), hk, aM3 (by omega) (by (try simp only [ln1]); omega), bdE]
theorem aS2 {n d : Nat} (hd : d + 5 ≤ 20) (hl : l.length + 7 ≤ 16) (hk : M 102 3 = 2) : f_X1_sm (n + 6) false (cS M l) 2 (nI d) = some (-(M 102 4 + (2 * (M 102 2 + M 102 5))), cS M (l ++ [12] ++ [11] ++ [10] ++ [24] ++ [21] ++ [20])) := by
  rw [sm_F]
  unfold f_X1_size_b
  rw [if_pos (d20 (by omega)), if_neg (by decide), if_pos (by decide), cNote (by (try simp only [ln1]); omega), bdE, nI_sc, aS1_2 (by omega) (by (try simp only [ln1]); omega) hk, bdE]
theorem aS3 {n d : Nat} (hd : d + 5 ≤ 20) (hl : l.length + 6 ≤ 16) (hk : M 102 3 = 3) : f_X1_sm (n + 6) false (cS M l) 3 (nI d) = some (M 102 4 + (M 102 2 + M 102 5 - 1000), cS M (l ++ [11] ++ [10] ++ [22] ++ [21] ++ [20])) := by
  rw [sm_F]
  unfold f_X1_size_b
  rw [if_pos (d20 (by omega)), if_neg (by decide), if_neg (by decide), if_pos (by decide), nI_sc, aS1_3 (by omega) (by (try simp only [ln1]); omega) hk, bdE]
theorem aM4_4 {n d : Nat} (hd : d + 4 ≤ 20) (hl : l.length + 6 ≤ 16) (hk : M 102 3 = 4) : f_X1_sm (n + 5) true (cS M l) 4 (nI d) = some (M 102 2 - (M 102 4 - 100), cS M (l ++ [23] ++ [20] ++ [13] ++ [10])) := by
  rw [sm_T]
  unfold f_X1_mark_b
  rw [if_pos (d20 (by omega)), if_neg (by decide), if_neg (by decide), if_neg (by decide), if_pos (by decide), cNote (by (try simp only [ln1]); omega), bdE, nI_sc, aM0 (by omega) (by (try simp only [ln1]); omega), bdE]
  dsimp only
  rw [cS_f (by decide), hk, aS4 (by omega) (by (try simp only [ln1]); omega), bdE]
theorem aM4_5 {n d : Nat} (hd : d + 4 ≤ 20) (hl : l.length + 6 ≤ 16) (hk : M 102 3 = 5) : f_X1_sm (n + 5) true (cS M l) 4 (nI d) = some (M 102 2 - (2 * (M 102 4 - 100)), cS M (l ++ [23] ++ [20] ++ [14] ++ [13] ++ [10])) := by
  rw [sm_T]
  unfold f_X1_mark_b
  rw [if_pos (d20 (by omega)), if_neg (by decide), if_neg (by decide), if_neg (by decide), if_pos (by decide), cNote (by (try simp only [ln1]); omega), bdE, nI_sc, aM0 (by omega) (by (try simp only [ln1]); omega), bdE]
  dsimp only
  rw [cS_f (by decide), hk, aS5 (by omega) (by (try simp only [ln1]); omega), bdE]
theorem aM5 {n d : Nat} (hd : d + 5 ≤ 20) (hl : l.length + 6 ≤ 16) (hk : M 102 3 = 5) : f_X1_sm (n + 6) true (cS M l) 5 (nI d) = some (M 102 2 - (2 * (M 102 4 - 100)), cS M (l ++ [23] ++ [20] ++ [14] ++ [13] ++ [10])) := by
  rw [sm_T]
  unfold f_X1_mark_b
  rw [if_pos (d20 (by omega)), if_neg (by decide), if_neg (by decide), if_neg (by decide), if_neg (by decide), if_pos (by decide), nI_sc, aM4_5 (by omega) (by (try simp only [ln1]); omega) hk, bdE]
end AK
section AR
variable {B : Nat} {M : Mem} {l : List Int32} {T : TT} {D : DD} {b : Nat}
theorem rK (hT : WT T) (hE : EM (M 146) T D) (hb : b < Tnb T) : f_X9_kindIn (rS M l) (nI b) = some (Tkd T b) := m_kin hT (by rw [rS_ne (by decide) (by decide)]; exact hE) hb
theorem rLv (hE : EM (M 146) T D) (hb : b < Tnb T) : rS M l 146 (21 + 6 * b + 2) = Tlv T b := by rw [rS_ne (by decide) (by decide)]; exact em_lv hE hb
theorem rSt (hE : EM (M 146) T D) (hb : b < Tnb T) : rS M l 146 (21 + 6 * b + 1) = Dst D b := by rw [rS_ne (by decide) (by decide)]; exact em_st hE hb
theorem rM1 (hT : WT T) (hE : EM (M 146) T D) (hb : b < Tnb T) (hk : Tkd T b = 1) (hl : l.length + 3 ≤ 16) : f_X9_hawkMark (rS M l) (nI b) = some (nI b + Tlv T b, rS M (l ++ [21] ++ [20])) := by
  have h6 := hT.2.1
  unfold f_X9_hawkMark f_X9_hawkMark_27
  rw [rK hT hE hb, bdE, hk, if_pos (by decide), rBeg (by (try simp only [ln1]); omega), bdE, rBeg (by (try simp only [ln1]); omega), bdE, i6, p2, chk_ix (by omega) (by decide), cl_nI (by omega), rLv hE hb, nmE, if_neg (by decide), if_neg (by decide)]
theorem rM2 (hT : WT T) (hE : EM (M 146) T D) (hb : b < Tnb T) (hk : Tkd T b = 2) (hl : l.length + 3 ≤ 16) : f_X9_hawkMark (rS M l) (nI b) = some (2 * (nI b + Tlv T b), rS M (l ++ [24] ++ [21] ++ [20])) := by
  have h6 := hT.2.1
  unfold f_X9_hawkMark f_X9_hawkMark_27
  rw [rK hT hE hb, bdE, hk, if_neg (by decide), if_pos (by decide), rBeg (by (try simp only [ln1]); omega), bdE, rBeg (by (try simp only [ln1]); omega), bdE, rBeg (by (try simp only [ln1]); omega), bdE, i6, p2, chk_ix (by omega) (by decide), cl_nI (by omega), rLv hE hb, nmE, if_pos (by decide)]
theorem rM3 (hT : WT T) (hE : EM (M 146) T D) (hb : b < Tnb T) (hk : Tkd T b = 3) (hl : l.length + 3 ≤ 16) : f_X9_hawkMark (rS M l) (nI b) = some (nI b + Tlv T b - 1000, rS M (l ++ [22] ++ [21] ++ [20])) := by
  have h6 := hT.2.1
  unfold f_X9_hawkMark f_X9_hawkMark_27
  rw [rK hT hE hb, bdE, hk, if_neg (by decide), if_neg (by decide), rBeg (by (try simp only [ln1]); omega), bdE, rBeg (by (try simp only [ln1]); omega), bdE, rBeg (by (try simp only [ln1]); omega), bdE, i6, p2, chk_ix (by omega) (by decide), cl_nI (by omega), rLv hE hb, nmE, if_neg (by decide), if_pos (by decide)]
theorem rS1 (hT : WT T) (hE : EM (M 146) T D) (hb : b < Tnb T) (hk : Tkd T b = 1) (hl : l.length + 6 ≤ 16) : f_X9_hawkSize (rS M l) (nI b) = some (Dst D b + (nI b + Tlv T b), rS M (l ++ [11] ++ [10] ++ [21] ++ [20])) := by
  have h6 := hT.2.1
  unfold f_X9_hawkSize f_X9_hawkSize_25
  rw [rK hT hE hb, bdE, hk, if_neg (by decide), if_pos (by decide), rBeg (by (try simp only [ln1]); omega), bdE, rBeg (by (try simp only [ln1]); omega), bdE, i6, nI_sc, chk_ix (by omega) (by decide), cl_nI (by omega), rM1 hT hE hb hk (by (try simp only [ln1]); omega), bdE, rSt hE hb, nmE, if_neg (by decide)]
theorem rS2 (hT : WT T) (hE : EM (M 146) T D) (hb : b < Tnb T) (hk : Tkd T b = 2) (hl : l.length + 7 ≤ 16) : f_X9_hawkSize (rS M l) (nI b) = some (-(Dst D b + (2 * (nI b + Tlv T b))), rS M (l ++ [12] ++ [11] ++ [10] ++ [24] ++ [21] ++ [20])) := by
  have h6 := hT.2.1
  unfold f_X9_hawkSize f_X9_hawkSize_25
  rw [rK hT hE hb, bdE, hk, if_pos (by decide), if_neg (by decide), rBeg (by (try simp only [ln1]); omega), bdE, rBeg (by (try simp only [ln1]); omega), bdE, rBeg (by (try simp only [ln1]); omega), bdE, i6, nI_sc, chk_ix (by omega) (by decide), cl_nI (by omega), rM2 hT hE hb hk (by (try simp only [ln1]); omega), bdE, rSt hE hb, nmE, if_pos rfl]
theorem rS3 (hT : WT T) (hE : EM (M 146) T D) (hb : b < Tnb T) (hk : Tkd T b = 3) (hl : l.length + 6 ≤ 16) : f_X9_hawkSize (rS M l) (nI b) = some (Dst D b + (nI b + Tlv T b - 1000), rS M (l ++ [11] ++ [10] ++ [22] ++ [21] ++ [20])) := by
  have h6 := hT.2.1
  unfold f_X9_hawkSize f_X9_hawkSize_25
  rw [rK hT hE hb, bdE, hk, if_neg (by decide), if_pos (by decide), rBeg (by (try simp only [ln1]); omega), bdE, rBeg (by (try simp only [ln1]); omega), bdE, i6, nI_sc, chk_ix (by omega) (by decide), cl_nI (by omega), rM3 hT hE hb hk (by (try simp only [ln1]); omega), bdE, rSt hE hb, nmE, if_neg (by decide)]
theorem rN4 (hT : WT T) (hE : EM (M 146) T D) (hb : b < Tnb T) (hk : Tkd T b = 4) (hl : l.length + 3 ≤ 16) : f_X9_nightSize (rS M l) (nI b) = some (Dst D b - 100, rS M (l ++ [13] ++ [10])) := by
  have h6 := hT.2.1
  unfold f_X9_nightSize f_X9_nightSize_25
  rw [rK hT hE hb, bdE, hk, if_neg (by decide), if_pos (by decide), rBeg (by (try simp only [ln1]); omega), bdE, rBeg (by (try simp only [ln1]); omega), bdE, i6, nI_sc, chk_ix (by omega) (by decide), cl_nI (by omega), rSt hE hb, nmE, if_neg (by decide)]
theorem rN5 (hT : WT T) (hE : EM (M 146) T D) (hb : b < Tnb T) (hk : Tkd T b = 5) (hl : l.length + 3 ≤ 16) : f_X9_nightSize (rS M l) (nI b) = some (2 * (Dst D b - 100), rS M (l ++ [14] ++ [13] ++ [10])) := by
  have h6 := hT.2.1
  unfold f_X9_nightSize f_X9_nightSize_25
  rw [rK hT hE hb, bdE, hk, if_pos (by decide), if_neg (by decide), rBeg (by (try simp only [ln1]); omega), bdE, rBeg (by (try simp only [ln1]); omega), bdE, rBeg (by (try simp only [ln1]); omega), bdE, i6, nI_sc, chk_ix (by omega) (by decide), cl_nI (by omega), rSt hE hb, nmE, if_pos rfl]
theorem rQ4 (hT : WT T) (hE : EM (M 146) T D) (hb : b < Tnb T) (hk : Tkd T b = 4) (hl : l.length + 6 ≤ 16) : f_X9_nightMark (rS M l) (nI b) = some (nI b - (Dst D b - 100), rS M (l ++ [23] ++ [20] ++ [13] ++ [10])) := by
  have h6 := hT.2.1
  unfold f_X9_nightMark
  rw [rBeg (by (try simp only [ln1]); omega), bdE, rBeg (by (try simp only [ln1]); omega), bdE, rN4 hT hE hb hk (by (try simp only [ln1]); omega), bdE]
theorem rQ5 (hT : WT T) (hE : EM (M 146) T D) (hb : b < Tnb T) (hk : Tkd T b = 5) (hl : l.length + 6 ≤ 16) : f_X9_nightMark (rS M l) (nI b) = some (nI b - (2 * (Dst D b - 100)), rS M (l ++ [23] ++ [20] ++ [14] ++ [13] ++ [10])) := by
  have h6 := hT.2.1
  unfold f_X9_nightMark
  rw [rBeg (by (try simp only [ln1]); omega), bdE, rBeg (by (try simp only [ln1]); omega), bdE, rN5 hT hE hb hk (by (try simp only [ln1]); omega), bdE]
end AR
