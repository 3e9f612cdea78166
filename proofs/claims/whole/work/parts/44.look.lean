/-! VALLEY, KIND, COUNT, TRACE, BELOVED, AS -/
section LK
variable {B : Nat} {M : Mem}
/-- an injective map of n numbers is onto -/
theorem inj_onto : ∀ (n : Nat) (l : Nat → Nat), (∀ j, j < n → l j < n) → (∀ i j, i < n → j < n → l i = l j → i = j) → ∀ v, v < n → ∃ j, j < n ∧ l j = v := by
  intro n
  induction n with
  | zero => intro l h1 h2 v hv; omega
  | succ n ih =>
    intro l h1 h2 v hv
    by_cases qv : l n = v
    · exact ⟨n, by omega, qv⟩
    · -- a map of n numbers that leaves l n out
      have key := ih (fun j => if l j < l n then l j else l j - 1) (fun j hj => by
        have a1 := h1 j (by omega)
        have a2 := h1 n (by omega)
        have a3 : l j ≠ l n := fun e => by have := h2 j n (by omega) (by omega) e; omega
        show (if l j < l n then l j else l j - 1) < n
        split <;> omega) (fun i j hi hj e => by
        have b1 : l i ≠ l n := fun e => by have := h2 i n (by omega) (by omega) e; omega
        have b2 : l j ≠ l n := fun e => by have := h2 j n (by omega) (by omega) e; omega
        have e : (if l i < l n then l i else l i - 1) = (if l j < l n then l j else l j - 1) := e
        apply h2 i j (by omega) (by omega)
        split at e <;> split at e <;> omega) (if v < l n then v else v - 1) (by have := h1 n (by omega); split <;> omega)
      obtain ⟨j, hj, e⟩ := key
      have e : (if l j < l n then l j else l j - 1) = (if v < l n then v else v - 1) := e
      have b2 : l j ≠ l n := fun e => by have := h2 j n (by omega) (by omega) e; omega
      refine ⟨j, by omega, ?_⟩
      split at e <;> split at e <;> omega
theorem ok_valley (hR : Rel B M) (x y : Int32) : ∃ r, f_X8_valley M x y = some r ∧ f_X9_valley M x y = some r := by
  obtain ⟨T, D, n, P, hT, hD, hn, hP, hE, hEm, hC, hM⟩ := hR.2
  have h5 := hT.1
  have hnv : M 5 1 = nI (Tnv T) := ec_nv hE
  unfold f_X8_valley f_X9_valley
  rw [hnv, em_nv hEm]
  by_cases q : inB (Tnv T) x
  · rw [if_pos ((below_iff (by omega)).mpr q)]
    obtain ⟨v, hv, rfl⟩ := q
    rw [if_neg (nI_pos (by omega)), if_pos (nI_lt hv (by omega))]
    obtain ⟨j0, hj0, ej0⟩ := inj_onto (Tnv T) (Dln D) hD.2.2.2.2.1 hD.2.2.2.2.2.1 v hv
    have hne : ∀ j, j < j0 → Dln D j ≠ v := fun j hj e => by
      have := hD.2.2.2.2.2.1 j j0 (by omega) hj0 (by rw [e, ej0])
      omega
    have hlt : ∀ j, j < Tnv T → Dln D j < Tnv T := hD.2.2.2.2.1
    have kp : f_X2_placeOf M 4 (nI v) = some (nI j0) := by
      have key := iter_for (F := fun rec a => f_X2_placeOf_2 4 M (nI v) rec a) (fun j => nI j) j0 (nI j0) (fun j hj rec => ?_) (fun rec => ?_) fuel 0 (Nat.zero_le _) (by rw [fuel_eq]; omega)
      · exact key
      · have c : ¬ nI (Dln D j) = nI v := fun e => hne j hj ((nI_eq (by have := hlt j (by omega); omega) (by omega)).mp e)
        have hl : M (4 + 9) j = nI (Dln D j) := ec_ln hE (by omega)
        unfold f_X2_placeOf_2
        rw [ec_nv hE, if_neg (by rw [nI_leI (by omega) (by omega)]; omega), chk_ix (by omega) (by decide), cl_nI (by omega), hl, if_neg c, nmE, nI_sc]
      · have hl : M (4 + 9) j0 = nI (Dln D j0) := ec_ln hE hj0
        unfold f_X2_placeOf_2
        rw [ec_nv hE, if_neg (by rw [nI_leI (by omega) (by omega)]; omega), chk_ix (by omega) (by decide), cl_nI (by omega), hl, ej0, if_pos rfl]
    have km : ∀ r, (if y = 0 then some (Tas T v) else if y = 1 then some (Tls T v) else some (nI j0)) = some r → iter (fun rec a => f_X9_valley_30 M (nI v) y rec a) fuel (0 : Int32) = some r := by
      intro r hr
      have key := iter_to (F := fun rec a => f_X9_valley_30 M (nI v) y rec a) (fun j => nI j) j0 (some r) (fun j hj rec => ?_) (fun rec => ?_) fuel 0 (Nat.zero_le _) (by rw [fuel_eq]; omega)
      · exact key
      · have c : ¬ nI (Dln D j) = nI v := fun e => hne j hj ((nI_eq (by have := hlt j (by omega); omega) (by omega)).mp e)
        unfold f_X9_valley_30
        rw [q6, chk_ix (by omega) (by decide), cl_nI (by omega), em_ln hEm (show j < Tnv T by omega), if_neg c, nmE, nI_sc]
      · unfold f_X9_valley_30
        rw [q6, chk_ix (by omega) (by decide), cl_nI (by omega), em_ln hEm hj0, ej0, if_pos rfl, q11, chk_ix (by omega) (by decide), cl_nI (by omega), em_as hEm hv, q16, chk_ix (by omega) (by decide), cl_nI (by omega), em_ls hEm hv]
        exact hr
    have ka : M 6 v = Tas T v := ec_as hE hv
    have kl : M 7 v = Tls T v := ec_ls hE hv
    rw [chk_ix (by omega) (by decide), chk_ix (by omega) (by decide), cl_nI (by omega), ka, kl, kp, bdE]
    by_cases y0 : y = 0
    · rw [if_pos y0, if_pos (by rw [y0]; decide)]
      exact ⟨_, rfl, km _ (if_pos y0)⟩
    rw [if_neg y0]
    by_cases y1 : y = 1
    · rw [if_pos y1, if_pos (by rw [y1]; decide)]
      exact ⟨_, rfl, km _ ((if_neg y0).trans (if_pos y1))⟩
    rw [if_neg y1]
    by_cases y2 : y = 2
    · rw [if_pos y2, if_pos (by rw [y2]; decide)]
      exact ⟨_, rfl, km _ ((if_neg y0).trans (if_neg y1))⟩
    rw [if_neg y2, if_neg (fun h => by
      rw [in_iff] at h
      rw [i_eq] at y0 y1 y2
      have e0 : (0 : Int32).toInt = 0 := rfl
      have e1 : (1 : Int32).toInt = 1 := rfl
      have e2 : (2 : Int32).toInt = 2 := rfl
      omega)]
    exact ⟨_, rfl, rfl⟩
  · rw [if_neg (fun h => q ((below_iff (by omega)).mp h))]
    refine ⟨-1000001, ?_, rfl⟩
    by_cases z : x < 0
    · rw [if_pos z]
    · rw [if_neg z]
      by_cases z2 : x < nI (Tnv T)
      · exfalso
        apply q
        rw [inB_iff (by omega)]
        rw [i_lt] at z z2
        have e0 : (0 : Int32).toInt = 0 := rfl
        have en : (nI (Tnv T)).toInt = (Tnv T : Int) := ti (by omega)
        omega
      · rw [if_neg z2]
theorem m_kin {T : TT} {D : DD} (hT : WT T) (hEm : EM (M 146) T D) {b : Nat} (hb : b < Tnb T) : f_X9_kindIn M (nI b) = some (Tkd T b) := by
  have h6 := hT.2.1
  unfold f_X9_kindIn
  rw [i6, chk_ix (by omega) (by decide), cl_nI (by omega), em_kd hEm hb]
theorem ok_kind (hR : Rel B M) (x : Int32) : ∃ r, f_X8_kind M x = some r ∧ f_X9_kind M x = some r := by
  obtain ⟨T, D, n, P, hT, hD, hn, hP, hE, hEm, hC, hM⟩ := hR.2
  have h6 := hT.2.1
  unfold f_X8_kind f_X9_kind
  by_cases q : inB (Tnb T) x
  · rw [if_pos ((isB_iff hT hE).mpr q), if_pos ((isBm_iff hT hEm).mpr q)]
    obtain ⟨b, hb, rfl⟩ := q
    have k : M 8 b = Tkd T b := ec_kd hE hb
    rw [chk_ix (by omega) (by decide), cl_nI (by omega), k, m_kin hT hEm hb, bdE]
    exact ⟨_, rfl, rfl⟩
  · rw [if_neg (fun h => q ((isB_iff hT hE).mp h)), if_neg (fun h => q ((isBm_iff hT hEm).mp h))]
    exact ⟨_, rfl, rfl⟩
theorem ok_trace (hR : Rel B M) (x : Int32) : ∃ r, f_X8_trace M x = some r ∧ f_X9_trace M x = some r := by
  obtain ⟨n, hn, h1, h2, h3⟩ := hR.1.2.2.2.2.1
  unfold f_X8_trace f_X9_trace
  rw [h1, h2]
  by_cases q : inB n x
  · rw [if_pos ((below_iff (by omega)).mpr q)]
    obtain ⟨b, hb, rfl⟩ := q
    rw [if_neg (nI_pos (by omega)), if_neg (by rw [nI_leI (by omega) (by omega)]; omega), chk_ix (by omega) (by decide), cl_nI (by omega), chk_ix (by omega) (by decide), h3 b hb]
    exact ⟨_, rfl, rfl⟩
  · rw [if_neg (fun h => q ((below_iff (by omega)).mp h))]
    refine ⟨-1000000, ?_, rfl⟩
    by_cases z : x < 0
    · rw [if_pos z]
    · rw [if_neg z]
      by_cases z2 : nI n ≤ x
      · rw [if_pos z2]
      · exfalso
        apply q
        rw [inB_iff (by omega)]
        rw [i_lt] at z
        rw [i_le] at z2
        have e0 : (0 : Int32).toInt = 0 := rfl
        have en : (nI n).toInt = (n : Int) := ti (by omega)
        omega
theorem ite_s {α : Type} {c : Prop} [Decidable c] {a b : Option α} (ha : ∃ r, a = some r) (hb : ∃ r, b = some r) : ∃ r, (if c then a else b) = some r := by
  by_cases q : c
  · rw [if_pos q]; exact ha
  · rw [if_neg q]; exact hb
theorem two_s {α : Type} {a : Option α} (ha : ∃ r, a = some r) : ∃ r, a = some r ∧ a = some r := by
  obtain ⟨r, h⟩ := ha
  exact ⟨r, h, h⟩
def cnt (p : Nat → Bool) : Nat → Nat
  | 0 => 0
  | n + 1 => cnt p n + (if p n = true then 1 else 0)
theorem rw_miss (hR : RRw M) {j : Nat} (hj : j < 8) : f_X9_isMissing M (nI j) = some (decide (M (104 + 2 * j) 0 = 0)) := by
  unfold f_X9_isMissing
  rw [chk_ix (by omega) (by decide), cl_nI (by omega)]
  rcases hR j hj with ⟨a1, a2⟩ | ⟨a1, a2, _⟩
  · rw [a1, a2]; decide
  · rw [a1]
    have : ¬ M 141 j = -1000000 := by
      rw [i_eq]
      have : (-1000000 : Int32).toInt = -1000000 := by decide
      omega
    rw [if_neg this]
    decide
theorem ok_count (hR : Rel B M) (x : Int32) : ∃ r, f_X8_count M x = some r ∧ f_X9_count M x = some r := by
  obtain ⟨T, D, n, P, hT, hD, hn, hP, hE, hEm, hC, hM⟩ := hR.2
  obtain ⟨t, ht, t1, t2, _⟩ := hR.1.2.2.2.1
  have hrw := hR.1.2.2.1
  have h25 : M 25 2 = nI n := by obtain ⟨p, _, _, h, _⟩ := hC; exact h
  have k1 : M 5 1 = nI (Tnv T) := ec_nv hE
  have k2 : M 5 2 = nI (Tnb T) := ec_nb hE
  have k3 : M 11 3 = nI (Dth D) := ec_th hE
  have k4 : M 11 0 = nI (DF D) := ec_F hE
  have k5 : M 11 2 = nI (Dtu D) := ec_tu hE
  have r1 : f_X8_rowsThere M = some (nI (cnt (fun j => !decide (M (104 + 2 * j) 0 = 0)) 8)) := by
    have key := iter_for (F := fun rec a => f_X8_rowsThere_4 M rec a.1 a.2) (fun j => (nI (cnt (fun j => !decide (M (104 + 2 * j) 0 = 0)) j), nI j)) 8 (nI (cnt (fun j => !decide (M (104 + 2 * j) 0 = 0)) 8)) (fun j hj rec => ?_) (fun rec => ?_) fuel 0 (Nat.zero_le _) (by rw [fuel_eq]; omega)
    · exact key
    · have c : ¬ (8 : Int32) ≤ nI j := nI_ge (b := 8) hj (by decide)
      show f_X8_rowsThere_4 M rec _ _ = rec (nI (cnt (fun j => !decide (M (104 + 2 * j) 0 = 0)) j + (if (!decide (M (104 + 2 * j) 0 = 0)) = true then 1 else 0)), _)
      by_cases z : M (104 + 2 * j) 0 = 0
      · simp (disch := omega) only [f_X8_rowsThere_4, c, if_false, chk_ix, cl_nI, z, if_true, nm, nI_sc, decide_true, Bool.not_true, Bool.false_eq_true, Nat.add_zero, Int32.add_zero]
      · simp (disch := omega) only [f_X8_rowsThere_4, c, if_false, chk_ix, cl_nI, z, if_true, nm, nI_sc, decide_false, Bool.not_false]
    · have c : (8 : Int32) ≤ nI 8 := by decide
      simp only [f_X8_rowsThere_4, c, if_true]
  have r2 : iter (fun rec a => f_X9_count_50 M rec a.1 a.2) fuel ((0 : Int32), (0 : Int32)) = some (nI (cnt (fun j => !decide (M (104 + 2 * j) 0 = 0)) 8)) := by
    have key := iter_for (F := fun rec a => f_X9_count_50 M rec a.1 a.2) (fun j => (nI (cnt (fun j => !decide (M (104 + 2 * j) 0 = 0)) j), nI j)) 8 (nI (cnt (fun j => !decide (M (104 + 2 * j) 0 = 0)) 8)) (fun j hj rec => ?_) (fun rec => ?_) fuel 0 (Nat.zero_le _) (by rw [fuel_eq]; omega)
    · exact key
    · have c : ¬ (8 : Int32) ≤ nI j := nI_ge (b := 8) hj (by decide)
      show f_X9_count_50 M rec _ _ = rec (nI (cnt (fun j => !decide (M (104 + 2 * j) 0 = 0)) j + (if (!decide (M (104 + 2 * j) 0 = 0)) = true then 1 else 0)), _)
      have hm := rw_miss hrw hj
      by_cases z : M (104 + 2 * j) 0 = 0
      · simp (disch := omega) only [f_X9_count_50, c, if_false, hm, Option.bind_some, z, if_true, nm, nI_sc, decide_true, Bool.not_true, Bool.false_eq_true, Nat.add_zero, Int32.add_zero]
      · simp (disch := omega) only [f_X9_count_50, c, if_false, hm, Option.bind_some, z, if_true, nm, nI_sc, decide_false, Bool.not_false, Bool.false_eq_true]
    · have c : (8 : Int32) ≤ nI 8 := by decide
      simp only [f_X9_count_50, c, if_true]
  unfold f_X8_count f_X9_count
  rw [r1, bdE, r2, k1, k2, k3, k4, k5, h25, t1, t2, em_nv hEm, em_nb hEm, em_th hEm, mFly hT hEm hD.1, bdE, em_tu hEm, hM.1]
  exact two_s (ite_s ⟨_, rfl⟩ (ite_s ⟨_, rfl⟩ (ite_s ⟨_, rfl⟩ (ite_s ⟨_, rfl⟩ (ite_s ⟨_, rfl⟩ (ite_s ⟨_, rfl⟩ (ite_s ⟨_, rfl⟩ (ite_s ⟨_, rfl⟩ ⟨_, rfl⟩))))))))
end LK
