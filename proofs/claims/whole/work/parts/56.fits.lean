/-! FITS and ASKED -/
def Tk (T : TT) (b : Nat) (v : Int32) : TT := (Tfd T, Tnv T, Tnb T, Tas T, Tls T, upd (Tkd T) b v, Tlv T, Tlo T)
def Tl (T : TT) (b : Nat) (v : Int32) : TT := (Tfd T, Tnv T, Tnb T, Tas T, Tls T, Tkd T, upd (Tlv T) b v, Tlo T)
def Ta (T : TT) (k : Nat) (v : Int32) : TT := (Tfd T, Tnv T, Tnb T, upd (Tas T) k v, Tls T, Tkd T, Tlv T, Tlo T)
/-- the numbers seen, one behind another -/
def sn (T : TT) (it : Nat → Int32) : Nat → Nat → DD → Bool
  | 0, _, _ => true
  | k + 1, o, D => decide (nI (DF (pass T D)) = it o) && sn T it k (o + 1) (pass T D)
section FT
variable {B : Nat} {M : Mem} {T : TT} {D : DD}
theorem Tk_WT (hT : WT T) {b : Nat} {v : Int32} (hv : 1 ≤ v.toInt ∧ v.toInt ≤ 5) : WT (Tk T b v) := by
  obtain ⟨h1, h2, h3, h4, h5⟩ := hT
  refine ⟨h1, h2, h3, h4, fun c hc => ⟨?_, (h5 c hc).2⟩⟩
  show 1 ≤ (upd (Tkd T) b v c).toInt ∧ (upd (Tkd T) b v c).toInt ≤ 5
  by_cases q : c = b
  · rw [q, pk_us]; exact hv
  · rw [pk_un q]; exact (h5 c hc).1
theorem Tl_WT (hT : WT T) {b : Nat} {v : Int32} : WT (Tl T b v) := hT
theorem Ta_WT (hT : WT T) {b : Nat} {v : Int32} : WT (Ta T b v) := hT
theorem ec_Tk {f : Nat} (hE : EC M f T D) (b : Nat) (v : Int32) : EC (st M (f + 4) b v) f (Tk T b v) D := by
  obtain ⟨⟨a1, a2, a3, a4, a5⟩, b1, b2, b3, b4, b5, b6⟩ := hE
  refine ⟨⟨?_, ?_, ?_, fun v hv => ?_, fun c hc => ⟨?_, ?_, ?_⟩⟩, ?_, ?_, ?_, ?_, fun b hb => ?_, fun j hj => ?_⟩
  · rw [st_ne (by omega)]; exact a1
  · rw [st_ne (by omega)]; exact a2
  · rw [st_ne (by omega)]; exact a3
  · rw [st_ne (by omega), st_ne (by omega)]; exact a4 v hv
  · rw [show f + 1 + 3 = f + 4 by omega, st_i]
    show upd (M (f + 4)) b v c = upd (Tkd T) b v c
    by_cases q : c = b
    · rw [q, pk_us, pk_us]
    · rw [pk_un q, pk_un q]; exact (a5 c hc).1
  · rw [st_ne (by omega)]; exact (a5 c hc).2.1
  · rw [st_ne (by omega)]; exact (a5 c hc).2.2
  · rw [st_ne (by omega)]; exact b1
  · rw [st_ne (by omega)]; exact b2
  · rw [st_ne (by omega)]; exact b3
  · rw [st_ne (by omega)]; exact b4
  · rw [st_ne (by omega)]; exact b5 b hb
  · rw [st_ne (by omega)]; exact b6 j hj
theorem ec_Tl {f : Nat} (hE : EC M f T D) (b : Nat) (v : Int32) : EC (st M (f + 5) b v) f (Tl T b v) D := by
  obtain ⟨⟨a1, a2, a3, a4, a5⟩, b1, b2, b3, b4, b5, b6⟩ := hE
  refine ⟨⟨?_, ?_, ?_, fun v hv => ?_, fun c hc => ⟨?_, ?_, ?_⟩⟩, ?_, ?_, ?_, ?_, fun b hb => ?_, fun j hj => ?_⟩
  · rw [st_ne (by omega)]; exact a1
  · rw [st_ne (by omega)]; exact a2
  · rw [st_ne (by omega)]; exact a3
  · rw [st_ne (by omega), st_ne (by omega)]; exact a4 v hv
  · rw [st_ne (by omega)]; exact (a5 c hc).1
  · rw [show f + 1 + 4 = f + 5 by omega, st_i]
    show upd (M (f + 5)) b v c = upd (Tlv T) b v c
    by_cases q : c = b
    · rw [q, pk_us, pk_us]
    · rw [pk_un q, pk_un q]; exact (a5 c hc).2.1
  · rw [st_ne (by omega)]; exact (a5 c hc).2.2
  · rw [st_ne (by omega)]; exact b1
  · rw [st_ne (by omega)]; exact b2
  · rw [st_ne (by omega)]; exact b3
  · rw [st_ne (by omega)]; exact b4
  · rw [st_ne (by omega)]; exact b5 b hb
  · rw [st_ne (by omega)]; exact b6 j hj
theorem ec_Ta {f : Nat} (hE : EC M f T D) (b : Nat) (v : Int32) : EC (st M (f + 2) b v) f (Ta T b v) D := by
  obtain ⟨⟨a1, a2, a3, a4, a5⟩, b1, b2, b3, b4, b5, b6⟩ := hE
  refine ⟨⟨?_, ?_, ?_, fun c hc => ⟨?_, ?_⟩, fun c hc => ?_⟩, ?_, ?_, ?_, ?_, fun b hb => ?_, fun j hj => ?_⟩
  · rw [st_ne (by omega)]; exact a1
  · rw [st_ne (by omega)]; exact a2
  · rw [st_ne (by omega)]; exact a3
  · rw [show f + 1 + 1 = f + 2 by omega, st_i]
    show upd (M (f + 2)) b v c = upd (Tas T) b v c
    by_cases q : c = b
    · rw [q, pk_us, pk_us]
    · rw [pk_un q, pk_un q]; exact (a4 c hc).1
  · rw [st_ne (by omega)]; exact (a4 c hc).2
  · rw [st_ne (by omega), st_ne (by omega), st_ne (by omega)]; exact a5 c hc
  · rw [st_ne (by omega)]; exact b1
  · rw [st_ne (by omega)]; exact b2
  · rw [st_ne (by omega)]; exact b3
  · rw [st_ne (by omega)]; exact b4
  · rw [st_ne (by omega)]; exact b5 b hb
  · rw [st_ne (by omega)]; exact b6 j hj
theorem em_Tk {w : Nat → Int32} (hT : WT T) (h : EM w T D) (b : Nat) (v : Int32) : EM (upd w (21 + 6 * b) v) (Tk T b v) D := by
  have h5 := hT.1
  obtain ⟨a0, a1, a2, a3, a4, a5, a6, a7, a8⟩ := h
  refine ⟨?_, ?_, ?_, ?_, ?_, ?_, fun j (hj : j < Tnv T) => ?_, fun c (hc : c < Tnv T) => ?_, fun c hc => ?_⟩
  · rw [pk_un (by omega)]; exact a0
  · rw [pk_un (by omega)]; exact a1
  · rw [pk_un (by omega)]; exact a2
  · rw [pk_un (by omega)]; exact a3
  · rw [pk_un (by omega)]; exact a4
  · rw [pk_un (by omega)]; exact a5
  · rw [pk_un (by omega)]; exact a6 j hj
  · rw [pk_un (by omega), pk_un (by omega)]; exact a7 c hc
  · obtain ⟨b0, b1, b2, b3, b4, b5⟩ := a8 c hc
    refine ⟨?_, ?_, ?_, ?_, ?_, ?_⟩
    · show upd w (21 + 6 * b) v (21 + 6 * c) = upd (Tkd T) b v c
      by_cases q : c = b
      · rw [q, pk_us, pk_us]
      · rw [pk_un q, pk_un (by omega)]; exact b0
    · rw [pk_un (by omega)]; exact b1
    · rw [pk_un (by omega)]; exact b2
    · rw [pk_un (by omega)]; exact b3
    · rw [pk_un (by omega)]; exact b4
    · rw [pk_un (by omega)]; exact b5
theorem em_Tl {w : Nat → Int32} (hT : WT T) (h : EM w T D) (b : Nat) (v : Int32) : EM (upd w (21 + 6 * b + 2) v) (Tl T b v) D := by
  have h5 := hT.1
  obtain ⟨a0, a1, a2, a3, a4, a5, a6, a7, a8⟩ := h
  refine ⟨?_, ?_, ?_, ?_, ?_, ?_, fun j (hj : j < Tnv T) => ?_, fun c (hc : c < Tnv T) => ?_, fun c hc => ?_⟩
  · rw [pk_un (by omega)]; exact a0
  · rw [pk_un (by omega)]; exact a1
  · rw [pk_un (by omega)]; exact a2
  · rw [pk_un (by omega)]; exact a3
  · rw [pk_un (by omega)]; exact a4
  · rw [pk_un (by omega)]; exact a5
  · rw [pk_un (by omega)]; exact a6 j hj
  · rw [pk_un (by omega), pk_un (by omega)]; exact a7 c hc
  · obtain ⟨b0, b1, b2, b3, b4, b5⟩ := a8 c hc
    refine ⟨?_, ?_, ?_, ?_, ?_, ?_⟩
    · rw [pk_un (by omega)]; exact b0
    · rw [pk_un (by omega)]; exact b1
    · show upd w (21 + 6 * b + 2) v (23 + 6 * c) = upd (Tlv T) b v c
      by_cases q : c = b
      · rw [q, pk_us, show 23 + 6 * b = 21 + 6 * b + 2 by omega, pk_us]
      · rw [pk_un q, pk_un (by omega)]; exact b2
    · rw [pk_un (by omega)]; exact b3
    · rw [pk_un (by omega)]; exact b4
    · rw [pk_un (by omega)]; exact b5
theorem em_Ta {w : Nat → Int32} (hT : WT T) (h : EM w T D) {b : Nat} (hb : b < Tnv T) (v : Int32) : EM (upd w (11 + b) v) (Ta T b v) D := by
  have h5 := hT.1
  obtain ⟨a0, a1, a2, a3, a4, a5, a6, a7, a8⟩ := h
  refine ⟨?_, ?_, ?_, ?_, ?_, ?_, fun j (hj : j < Tnv T) => ?_, fun c (hc : c < Tnv T) => ⟨?_, ?_⟩, fun c hc => ?_⟩
  · rw [pk_un (by omega)]; exact a0
  · rw [pk_un (by omega)]; exact a1
  · rw [pk_un (by omega)]; exact a2
  · rw [pk_un (by omega)]; exact a3
  · rw [pk_un (by omega)]; exact a4
  · rw [pk_un (by omega)]; exact a5
  · rw [pk_un (by omega)]; exact a6 j hj
  · show upd w (11 + b) v (11 + c) = upd (Tas T) b v c
    by_cases q : c = b
    · rw [q, pk_us, pk_us]
    · rw [pk_un q, pk_un (by omega)]; exact (a7 c hc).1
  · rw [pk_un (by omega)]; exact (a7 c hc).2
  · rw [pk_un (by omega), pk_un (by omega), pk_un (by omega), pk_un (by omega), pk_un (by omega), pk_un (by omega)]; exact a8 c hc
theorem cSn (hT : WT T) {i p c : Nat} (hi : 104 ≤ i ∧ i ≤ 118) (hpc : p + c ≤ 40) {it : Nat → Int32} : ∀ (k o : Nat) (D : DD) (M : Mem) (fu B : Nat), o + k = c → WD T D B → B + 6 * k ≤ 1000000 → Dth D + k ≤ Tnv T → k < fu → EC M 14 T D → (∀ t, t < c → M (i + 1) (p + t) = it t) → ∃ M', iter (fun rec a => f_X8_isSeen_3 i (nI p) (nI c) rec a.1 a.2) fu (M, nI o) = some (sn T it k o D, M') ∧ fr M M' := by
  intro k
  induction k with
  | zero =>
    intro o D M fu B ho hD hB hth hfu hE hit
    obtain ⟨fu, rfl⟩ : ∃ y, fu = y + 1 := ⟨fu - 1, by omega⟩
    refine ⟨M, ?_, fr_refl M⟩
    rw [iter_s]
    show f_X8_isSeen_3 i (nI p) (nI c) _ M (nI o) = _
    unfold f_X8_isSeen_3
    rw [if_pos (by rw [nI_leI (by omega) (by omega)]; omega)]
    rfl
  | succ k ih =>
    intro o D M fu B ho hD hB hth hfu hE hit
    obtain ⟨fu, rfl⟩ : ∃ y, fu = y + 1 := ⟨fu - 1, by omega⟩
    obtain ⟨M1, e1, hE1, f1⟩ := cFly hT hE hD (by omega)
    have hD1 := pass_WD hT hD (by omega) (show Dth D < Tnv T by omega)
    have hF : M1 21 0 = nI (DF (pass T D)) := ec_F hE1
    have hI : M1 (i + 1) (p + o) = it o := by rw [f1 (i + 1) (by omega) (by omega)]; exact hit o (by omega)
    have es : sn T it (k + 1) o D = (decide (nI (DF (pass T D)) = it o) && sn T it k (o + 1) (pass T D)) := rfl
    rw [iter_s, es]
    show ∃ M', f_X8_isSeen_3 i (nI p) (nI c) _ M (nI o) = _ ∧ _
    unfold f_X8_isSeen_3
    rw [if_neg (by rw [nI_leI (by omega) (by omega)]; omega), e1, bdE, nI_add, chk_ix (by omega) (by decide), cl_nI (by omega), hF, hI]
    by_cases z : nI (DF (pass T D)) = it o
    · rw [if_pos z, nmE, nI_sc, show decide (nI (DF (pass T D)) = it o) = true by simp [z], Bool.true_and]
      obtain ⟨M2, e2, f2⟩ := ih (o + 1) (pass T D) M1 fu (B + 6) (by omega) hD1 (by omega) (by show Dth D + 1 + k ≤ Tnv T; omega) (by omega) hE1 (fun t ht => by rw [f1 (i + 1) (by omega) (by omega)]; exact hit t ht)
      exact ⟨M2, e2, fr_trans (fr_14 f1) f2⟩
    · rw [if_neg z, show decide (nI (DF (pass T D)) = it o) = false by simp [z], Bool.false_and]
      exact ⟨M1, rfl, fr_14 f1⟩
theorem mSn (hT : WT T) {p c : Nat} (hpc : p + c ≤ 320) {it : Nat → Int32} : ∀ (k o : Nat) (D : DD) (g : Nat → Int32) (fl : Bool) (fu B : Nat), o + k = c → c ≤ 40 → WD T D B → B + 6 * k ≤ 1000000 → Dth D + k ≤ Tnv T → k < fu → EM g T D → (∀ t, t < c → M 143 (p + t) = it t) → ∃ g', iter (fun rec a => f_X9_goesSo_5 (nI p) (nI c) rec a.1 a.2.1 a.2.2) fu (stA M 148 g, fl, nI o) = some (fl && sn T it k o D, stA M 148 g') := by
  intro k
  induction k with
  | zero =>
    intro o D g fl fu B ho hc hD hB hth hfu hE hit
    obtain ⟨fu, rfl⟩ : ∃ y, fu = y + 1 := ⟨fu - 1, by omega⟩
    refine ⟨g, ?_⟩
    rw [iter_s]
    show f_X9_goesSo_5 (nI p) (nI c) _ (stA M 148 g) fl (nI o) = some (fl && true, _)
    unfold f_X9_goesSo_5
    rw [if_pos (by rw [nI_leI (by omega) (by omega)]; omega), Bool.and_true]
  | succ k ih =>
    intro o D g fl fu B ho hc hD hB hth hfu hE hit
    obtain ⟨fu, rfl⟩ : ∃ y, fu = y + 1 := ⟨fu - 1, by omega⟩
    have hEg : EM ((stA M 148 g) 148) T D := by rw [stA_i]; exact hE
    obtain ⟨g1, e1, hE1⟩ := mPass hT hEg hD (by omega)
    rw [stA_stA] at e1
    have hD1 := pass_WD hT hD (by omega) (show Dth D < Tnv T by omega)
    have hEg1 : EM ((stA M 148 g1) 148) T (pass T D) := by rw [stA_i]; exact hE1
    have hF := mFly hT hEg1 hD1.1
    have hI : stA M 148 g1 143 (p + o) = it o := by rw [stA_ne (by decide)]; exact hit o (by omega)
    have es : sn T it (k + 1) o D = (decide (nI (DF (pass T D)) = it o) && sn T it k (o + 1) (pass T D)) := rfl
    rw [iter_s, es, ← Bool.and_assoc]
    show ∃ g', f_X9_goesSo_5 (nI p) (nI c) _ (stA M 148 g) fl (nI o) = _
    unfold f_X9_goesSo_5
    rw [if_neg (by rw [nI_leI (by omega) (by omega)]; omega), e1, bdE, hF, bdE, nI_add, chk_ix (by omega) (by decide), cl_nI (by omega), hI, nmE, nmE, nI_sc]
    have nx := fun fl2 => ih (o + 1) (pass T D) g1 fl2 fu (B + 6) (by omega) hc hD1 (by omega) (by show Dth D + 1 + k ≤ Tnv T; omega) (by omega) hE1 hit
    cases fl with
    | true =>
      rw [if_pos rfl]
      by_cases z : nI (DF (pass T D)) = it o
      · rw [if_pos z, show decide (nI (DF (pass T D)) = it o) = true by simp [z]]
        exact nx true
      · rw [if_neg z, show decide (nI (DF (pass T D)) = it o) = false by simp [z]]
        exact nx false
    | false =>
      rw [if_neg (by decide), Bool.false_and]
      exact nx false
end FT
