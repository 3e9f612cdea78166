section R5
variable {B : Nat} {M : Mem}
theorem cpo_t {p c n : Nat} (h : p + c ≤ n) (hn : n < 1000) {β : Type} {k : Option β} : chk (cpo (nI p) (nI c) n) k = k := by
  apply chk_t
  unfold cpo
  have e1 : ¬ nI p < 0 := nI_pos (by omega)
  have e2 : ¬ nI c < 0 := nI_pos (by omega)
  simp [e1, e2, cl_nI (show p < 2 ^ 31 by omega), cl_nI (show c < 2 ^ 31 by omega), h]
/-- the reference copies over the spare -/
theorem mCpy {a b p q c : Nat} (ha : 40 * a + p + c ≤ 320) (hb : 40 * b + q + c ≤ 320) (hc : c ≤ 40) : ∃ S, iter (fun rec x => f_X9_copy_92 (nI a) (nI p) (nI b) (nI q) (nI c) rec x.1 x.2) fuel (M, (0 : Int32)) = some (nI c, st (stA (stA M 144 S) 143 (va_cpy S (M 143) 0 (40 * b + q) c)) 140 4 0) ∧ ∀ t, t < c → S t = M 143 (40 * a + p + t) := by
  refine ⟨va_cpy (M 143) (M 144) (40 * a + p) 0 c, ?_, fun t ht => ?_⟩
  · obtain ⟨S, eS⟩ : ∃ S, S = va_cpy (M 143) (M 144) (40 * a + p) 0 c := ⟨_, rfl⟩
    have key := iter_to (F := fun rec x => f_X9_copy_92 (nI a) (nI p) (nI b) (nI q) (nI c) rec x.1 x.2) (fun t => (stA M 144 (va_cpy (M 143) (M 144) (40 * a + p) 0 t), nI t)) c (some (nI c, st (stA (stA M 144 S) 143 (va_cpy S (M 143) 0 (40 * b + q) c)) 140 4 0)) (fun t ht rec => ?_) (fun rec => ?_) fuel 0 (Nat.zero_le _) (by rw [fuel_eq]; omega)
    · rw [cpy_0, stA_self] at key
      rw [← eS]
      exact key
    · have e1 : stA M 144 (va_cpy (M 143) (M 144) (40 * a + p) 0 t) 143 (40 * a + p + t) = M 143 (40 * a + p + t) := by rw [stA_ne (by decide)]
      show f_X9_copy_92 (nI a) (nI p) (nI b) (nI q) (nI c) rec (stA M 144 (va_cpy (M 143) (M 144) (40 * a + p) 0 t)) (nI t) = _
      unfold f_X9_copy_92
      have hup := cpy_up (f := M 143) (g := M 144) (a := 40 * a + p) (c := 0) (b := t) rfl
      rw [Nat.zero_add] at hup
      rw [if_neg (by rw [nI_leI (by omega) (by omega)]; omega), m40, nI_add, nI_add, chk_ix (by omega) (by decide), chk_ix (by omega) (by decide), cl_nI (by omega), cl_nI (by omega), e1, nmE, nmE, nI_sc, stA_put hup]
    · show f_X9_copy_92 (nI a) (nI p) (nI b) (nI q) (nI c) rec (stA M 144 (va_cpy (M 143) (M 144) (40 * a + p) 0 c)) (nI c) = _
      unfold f_X9_copy_92
      rw [if_pos (by rw [nI_leI (by omega) (by omega)]; omega), ← eS]
      have key2 := iter_for (F := fun rec x => f_X9_copy_129 (nI b) (nI q) (nI c) rec x.1 x.2) (fun t => (stA (stA M 144 S) 143 (va_cpy S (M 143) 0 (40 * b + q) t), nI t)) c (nI c, st (stA (stA M 144 S) 143 (va_cpy S (M 143) 0 (40 * b + q) c)) 140 4 0) (fun t ht rec => ?_) (fun rec => ?_) fuel 0 (Nat.zero_le _) (by rw [fuel_eq]; omega)
      · have e0 : stA (stA M 144 S) 143 (va_cpy S (M 143) 0 (40 * b + q) 0) = stA M 144 S := by
          rw [cpy_0]
          have : M 143 = stA M 144 S 143 := by rw [stA_ne (by decide)]
          rw [this, stA_self]
        rw [e0] at key2
        exact key2
      · have e1 : stA (stA M 144 S) 143 (va_cpy S (M 143) 0 (40 * b + q) t) 144 t = S (0 + t) := by rw [stA_ne (by decide), stA_i, Nat.zero_add]
        show f_X9_copy_129 (nI b) (nI q) (nI c) rec (stA (stA M 144 S) 143 (va_cpy S (M 143) 0 (40 * b + q) t)) (nI t) = _
        unfold f_X9_copy_129
        rw [if_neg (by rw [nI_leI (by omega) (by omega)]; omega), m40, nI_add, nI_add, chk_ix (by omega) (by decide), chk_ix (by omega) (by decide), cl_nI (by omega), cl_nI (by omega), e1, nmE, nmE, nI_sc, stA_put (cpy_up rfl)]
      · show f_X9_copy_129 (nI b) (nI q) (nI c) rec _ (nI c) = _
        unfold f_X9_copy_129
        rw [if_pos (by rw [nI_leI (by omega) (by omega)]; omega)]
        rfl
  · rw [pk_cpy_in (by omega) (by omega)]
    congr 1
end R5
