/-! THE REFERENCE: trials -/
theorem pn_add (T : TT) (j : Nat) : ∀ k D, pn T (j + k) D = pn T j (pn T k D)
  | 0, _ => rfl
  | k + 1, D => by
    by_cases q : Dth D < Tnv T
    · rw [pn_go q, show j + (k + 1) = (j + k) + 1 by omega, pn_go q]; exact pn_add T j k (pass T D)
    · rw [pn_end q, pn_end q, pn_end q]
theorem arr_of {T : TT} {D : DD} {k : Nat} (hk : k ≤ 5) (h : ¬ Dth (pn T k D) < Tnv T) : arr T D = pn T k D := by
  unfold arr
  rw [show (5 : Nat) = (5 - k) + k by omega, pn_add, pn_end h]
theorem cpy_up {f g : Nat → Int32} {a c b : Nat} {v : Int32} (hv : v = f (a + b)) : upd (va_cpy f g a c b) (c + b) v = va_cpy f g a c (b + 1) := by
  funext t
  by_cases q : t = c + b
  · rw [q, pk_us, pk_cpy_in (by omega) (by omega), hv, show c + b - c = b by omega]
  · rw [pk_un q]
    by_cases q2 : c ≤ t ∧ t < c + b
    · rw [pk_cpy_in q2.1 q2.2, pk_cpy_in q2.1 (by omega)]
    · rw [pk_cpy_out (by omega), pk_cpy_out (by omega)]
theorem cpy_0 {f g : Nat → Int32} {a c : Nat} : va_cpy f g a c 0 = g := by
  funext t
  exact pk_cpy_out (by omega)
section M3
variable {M : Mem} {i : Nat} {T : TT} {D : DD} {B : Nat}
theorem mCop {i0 i2 a c : Nat} (hi : i0 ≠ i2) (h0 : a + 57 ≤ gL i0) (h2 : c + 57 ≤ gL i2) (l0 : gL i0 < 2000) (l2 : gL i2 < 2000) : f_X9_copies M i0 (nI a) i2 (nI c) = some (stA M i2 (va_cpy (M i0) (M i2) a c 57)) := by
  have key := iter_for (F := fun rec x => f_X9_copies_3 i0 i2 (nI a) (nI c) rec x.1 x.2) (fun b => (stA M i2 (va_cpy (M i0) (M i2) a c b), nI b)) 57 (stA M i2 (va_cpy (M i0) (M i2) a c 57)) (fun b hb rec => ?_) (fun rec => ?_) fuel 0 (Nat.zero_le _) (by rw [fuel_eq]; omega)
  · rw [cpy_0, stA_self] at key
    exact key
  · have c1 : ¬ (57 : Int32) ≤ nI b := nI_ge (b := 57) hb (by decide)
    simp (disch := omega) only [f_X9_copies_3, nm, c1, if_false, nI_add, chk_ix, cl_nI, stA_ne hi, nI_sc]
    rw [stA_put (cpy_up rfl)]
  · have c1 : (57 : Int32) ≤ nI 57 := by decide
    simp only [f_X9_copies_3, c1, if_true]
theorem mTri (hT : WT T) (hE : EM (M 146) T D) : ∃ g, f_X9_tries M = some (stA M 148 g) ∧ EM g T D := by
  have h := mCop (M := M) (i0 := 146) (i2 := 148) (a := 0) (c := 0) (by decide) (by decide) (by decide) (by decide) (by decide)
  refine ⟨va_cpy (M 146) (M 148) 0 0 57, ?_, em_cg hE (fun t ht => ?_) hT⟩
  · unfold f_X9_tries
    have h' : f_X9_copies M 146 (0 : Int32) 148 (0 : Int32) = _ := h
    rw [h', bdE]
  · rw [pk_cpy_in (by omega) (by omega), show 0 + (t - 0) = t by omega]
theorem mEnds {g0 : Nat → Int32} (hT : WT T) (hE : EM g0 T D) (hD : WD T D B) (hB : B + 30 ≤ 1000000) : ∃ g, f_X9_ends (stA M 148 g0) = some (nI (DF (arr T D)), stA M 148 g) ∧ EM g T (arr T D) := by
  have h5 := hT.1
  have ext : ∀ (k : Nat) (g : Nat → Int32) (rec : Mem → Option (Int32 × Mem)), k ≤ 5 → EM g T (pn T k D) → ¬ Dth (pn T k D) < Tnv T → f_X9_ends_0 rec (stA M 148 g) = some (nI (DF (arr T D)), stA M 148 g) ∧ EM g T (arr T D) := by
    intro k g rec hk hy hth
    have ea := arr_of hk hth
    have hDk := pn_WD hT k D B hD (by omega)
    have hy' : EM ((stA M 148 g) 148) T (pn T k D) := by rw [stA_i]; exact hy
    rw [ea]
    refine ⟨?_, hy⟩
    unfold f_X9_ends_0
    rw [mLeft hy' hDk, show Tnv T - Dth (pn T k D) = 0 by omega, if_pos (by decide), mFly hT hy' hDk.1, bdE]
  have key := iter_inv (F := fun rec a => f_X9_ends_0 rec a) (fun k a => ∃ g, a = stA M 148 g ∧ EM g T (pn T k D)) 5 (fun z => ∃ g, z = (nI (DF (arr T D)), stA M 148 g) ∧ EM g T (arr T D)) (fun k a hk hI => ?_) (fun a hI => ?_) fuel 0 (stA M 148 g0) (by omega) (by rw [fuel_eq]; omega) ⟨g0, rfl, hE⟩
  · obtain ⟨z, ⟨g, rfl, hP⟩, e⟩ := key
    exact ⟨g, e, hP⟩
  · obtain ⟨g, rfl, hy⟩ := hI
    by_cases hth : Dth (pn T k D) < Tnv T
    · left
      have hDk := pn_WD hT k D B hD (by omega)
      have hy' : EM ((stA M 148 g) 148) T (pn T k D) := by rw [stA_i]; exact hy
      obtain ⟨g2, t1, hy2⟩ := mPass hT hy' hDk hth
      rw [stA_stA] at t1
      refine ⟨stA M 148 g2, ⟨g2, rfl, ?_⟩, fun rec => ?_⟩
      · rw [pn_snoc, if_pos hth]; exact hy2
      · unfold f_X9_ends_0
        rw [mLeft hy' hDk, if_neg (nI_nle (by omega) (by omega)), t1, bdE]
    · right
      exact ⟨_, ⟨g, rfl, (ext k g (fun _ => none) (by omega) hy hth).2⟩, fun rec => (ext k g rec (by omega) hy hth).1⟩
  · obtain ⟨g, rfl, hy⟩ := hI
    have hth : ¬ Dth (pn T 5 D) < Tnv T := by rw [pn_thr 5 D hD.2.2.1 (by omega)]; omega
    exact ⟨_, ⟨g, rfl, (ext 5 g (fun _ => none) (by omega) hy hth).2⟩, fun rec => (ext 5 g rec (by omega) hy hth).1⟩
theorem em_upS {w : Nat → Int32} (hT : WT T) (h : EM w T D) {b : Nat} (v : Int32) : EM (upd w (21 + 6 * b + 1) v) T (upd (Dst D) b v, D.2) := by
  obtain ⟨a0, a1, a2, a3, a4, a5, a6, a7, a8⟩ := h
  have h5 := hT.1
  · refine ⟨?_, ?_, ?_, ?_, ?_, ?_, fun j hj => ?_, fun v hv => ?_, fun c hc => ?_⟩
    · rw [pk_un (by omega)]; exact a0
    · rw [pk_un (by omega)]; exact a1
    · rw [pk_un (by omega)]; exact a2
    · rw [pk_un (by omega)]; exact a3
    · rw [pk_un (by omega)]; exact a4
    · rw [pk_un (by omega)]; exact a5
    · rw [pk_un (by omega)]; exact a6 j hj
    · rw [pk_un (by omega), pk_un (by omega)]; exact a7 v hv
    · obtain ⟨b0, b1, b2, b3, b4, b5⟩ := a8 c hc
      refine ⟨?_, ?_, ?_, ?_, ?_, ?_⟩
      · rw [pk_un (by omega)]; exact b0
      · show upd w (21 + 6 * b + 1) v (22 + 6 * c) = upd (Dst D) b v c
        by_cases q : c = b
        · rw [q, pk_us, show 22 + 6 * b = 21 + 6 * b + 1 by omega, pk_us]
        · rw [pk_un q, pk_un (by omega)]; exact b1
      · rw [pk_un (by omega)]; exact b2
      · rw [pk_un (by omega)]; exact b3
      · rw [pk_un (by omega)]; exact b4
      · rw [pk_un (by omega)]; exact b5
theorem mEat {g0 : Nat → Int32} (hT : WT T) (hE : EM g0 T D) {b : Nat} (hb : b < Tnb T) : ∃ g, f_X9_eats (stA M i g0) i (nI b) = some (stA M i g) ∧ EM g T (eatD T D b) := by
  have h6 := hT.2.1
  refine ⟨upd g0 (21 + 6 * b + 1) (eatS T D b), ?_, em_upS hT hE _⟩
  have e1 : stA M i g0 i (21 + 6 * b + 1) = Dst D b := by rw [stA_i]; exact em_st hE hb
  have e2 : stA M i g0 i 0 = Tfd T := by rw [stA_i]; exact em_fd hE
  unfold f_X9_eats
  rw [i6, nI_sc, chk_ix (by omega) (by decide), cl_nI (by omega), e1, e2]
  simp only [nm]
  unfold eatS
  have e30 : (30 : Int32).toInt = 30 := rfl
  by_cases q : Dst D b + Tfd T < 30
  · rw [if_pos q, if_pos (by rw [i_le]; rw [i_lt] at q; omega), stA_put rfl]
  · rw [if_neg q]
    by_cases r : Dst D b + Tfd T ≤ 30
    · have : Dst D b + Tfd T = 30 := by rw [i_eq]; rw [i_le] at r; rw [i_lt] at q; omega
      rw [if_pos r, this, stA_put rfl]
    · rw [if_neg r, stA_put rfl]
end M3
