/-! THE REFERENCE: a valley flown through -/
theorem rnd_add (T : TT) (K j : Nat) : ∀ k a, rnd T K (j + k) a = rnd T K j (rnd T K k a)
  | 0, _ => rfl
  | k + 1, a => rnd_add T K j k (tbk a (lvS T K a))
theorem rnd_6 {T : TT} (hT : WT T) {K : Nat} {a : Nat × Nat} (h : a.1 < 64) : lvS T K (rnd T K 6 a) = 0 := by
  have h1 := rnd_more hT (K := K) 6 a h (pc_le a.1 h)
  rw [rnd_snoc] at h1
  have h2 := (rnd_le hT K 6 a h).1
  generalize rnd T K 6 a = y at h1 h2
  have h3 : (tbk y (lvS T K y)).2 = y.2 := by rw [h1]
  have h4 : y.2 + pc (lvS T K y) = y.2 := h3
  rcases Nat.eq_zero_or_pos (lvS T K y) with q | q
  · exact q
  · have := pc_pos _ (lvS_lt hT K y) (by omega); omega
theorem iter_s {α β : Type} (F : (α → Option β) → α → Option β) (k : Nat) (a : α) : iter F (k + 1) a = F (iter F k) a := Eq.trans rfl rfl
section M2
variable {M : Mem} {i : Nat} {T : TT} {D : DD} {B : Nat}
theorem em_thr {w : Nat → Int32} {s : Nat → Int32} {a : Nat × Nat} {K th : Nat} {ln : Nat → Nat} (hE : EM w T (s, a.1, K, a.2, th, ln)) {v : Int32} (hv : v = nI (th + 1)) : EM (upd w 3 v) T (s, a.1, K, a.2, th + 1, ln) := by
  obtain ⟨a0, a1, a2, a3, a4, a5, a6, a7, a8⟩ := hE
  refine ⟨?_, ?_, ?_, ?_, ?_, ?_, fun j hj => ?_, fun v hv => ?_, fun b hb => ?_⟩
  · rw [pk_un (by omega)]; exact a0
  · rw [pk_un (by omega)]; exact a1
  · rw [pk_un (by omega)]; exact a2
  · rw [pk_us]; exact hv
  · rw [pk_un (by omega)]; exact a4
  · rw [pk_un (by omega)]; exact a5
  · rw [pk_un (by omega)]; exact a6 j hj
  · rw [pk_un (by omega), pk_un (by omega)]; exact a7 v hv
  · rw [pk_un (by omega), pk_un (by omega), pk_un (by omega), pk_un (by omega), pk_un (by omega), pk_un (by omega)]; exact a8 b hb
theorem mLoop {s : Nat → Int32} {a0 : Nat × Nat} {K th : Nat} {ln : Nat → Nat} (hT : WT T) {g0 : Nat → Int32} (hE : EM g0 T (s, a0.1, K, a0.2, th, ln)) (ha0 : a0.1 < 2 ^ Tnb T) {R : Nat × Nat} (hR : R = rnd T K 6 a0) : ∃ g, iter (fun rec a => f_X9_passes_132 i rec a.1 a.2) fuel (stA M i g0, nI (lvS T K a0)) = some (stA M i g) ∧ EM g T (s, R.1, K, R.2, th + 1, ln) := by
  have ha64 : a0.1 < 64 := Nat.lt_of_lt_of_le ha0 (pow_64 hT.2.1)
  have ext : ∀ (y : Nat × Nat) (g : Nat → Int32) (rec : Mem × Int32 → Option Mem), EM g T (s, y.1, K, y.2, th, ln) → lvS T K y = 0 → y = R → (f_X9_passes_132 i rec (stA M i g) (nI (lvS T K y)) = some (stA M i (upd g 3 (nI (th + 1)))) ∧ EM (upd g 3 (nI (th + 1))) T (s, R.1, K, R.2, th + 1, ln)) := by
    intro y g rec hy h0 hyR
    constructor
    · have h3 : stA M i g i 3 = nI th := by rw [stA_i]; exact em_th hy
      rw [h0]
      simp only [f_X9_passes_132, nI_0, if_true, nm, h3, nI_sc]
      rw [stA_put rfl]
    · rw [← hyR]
      exact em_thr hy rfl
  have key := iter_inv (F := fun rec a => f_X9_passes_132 i rec a.1 a.2) (fun k a => ∃ y g, y = rnd T K k a0 ∧ a = (stA M i g, nI (lvS T K y)) ∧ EM g T (s, y.1, K, y.2, th, ln)) 6 (fun M' => ∃ g, M' = stA M i g ∧ EM g T (s, R.1, K, R.2, th + 1, ln)) (fun k a hk hI => ?_) (fun a hI => ?_) fuel 0 (stA M i g0, nI (lvS T K a0)) (by omega) (by rw [fuel_eq]; omega) ⟨a0, g0, rfl, rfl, hE⟩
  · obtain ⟨M', ⟨g, rfl, hP⟩, e⟩ := key
    exact ⟨g, e, hP⟩
  · obtain ⟨y, g, ey, rfl, hy⟩ := hI
    have hlt : y.1 < 2 ^ Tnb T := by rw [ey]; exact rnd_in K k a0 ha0
    have hlt64 : y.1 < 64 := Nat.lt_of_lt_of_le hlt (pow_64 hT.2.1)
    by_cases h0 : lvS T K y = 0
    · right
      have hyR : y = R := by
        rw [hR, show (6 : Nat) = (6 - k) + k by omega, rnd_add, ← ey, rnd_fix h0 hlt64]
      exact ⟨_, ⟨_, rfl, (ext y g (fun _ => none) hy h0 hyR).2⟩, fun rec => (ext y g rec hy h0 hyR).1⟩
    · left
      obtain ⟨g2, t1, hy2⟩ := mTurn (M := stA M i g) (i := i) hT (by rw [stA_i]; exact hy) (lvS_lt hT K y)
      rw [stA_stA] at t1
      have t2 := mLeav (M := stA M i g2) (i := i) hT (by rw [stA_i]; exact hy2) (and_lt hlt)
      refine ⟨(stA M i g2, nI (lvS T K (tbk y (lvS T K y)))), ⟨_, g2, by rw [rnd_snoc, ey], rfl, hy2⟩, fun rec => ?_⟩
      have c0 : ¬ nI (lvS T K y) = 0 := nI_ne0 (by omega) (by have := lvS_lt hT K y; omega)
      show f_X9_passes_132 i rec (stA M i g) (nI (lvS T K y)) = _
      simp only [f_X9_passes_132, t1, t2, Option.bind_some]
      rw [if_neg c0]
  · obtain ⟨y, g, ey, rfl, hy⟩ := hI
    have hyR : y = R := by rw [hR, ey]
    have h0 : lvS T K y = 0 := by rw [ey]; exact rnd_6 hT ha64
    exact ⟨_, ⟨_, rfl, (ext y g (fun _ => none) hy h0 hyR).2⟩, fun rec => (ext y g rec hy h0 hyR).1⟩
theorem mx_ge {x : Int32} : (if 0 ≤ x then x else 0) = mx x := by
  unfold mx
  have e0 : (0 : Int32).toInt = 0 := rfl
  by_cases q : 0 < x
  · rw [if_pos q, if_pos (by rw [i_le]; rw [i_lt] at q; omega)]
  · rw [if_neg q]
    by_cases r : 0 ≤ x
    · rw [if_pos r, i_eq]
      rw [i_le] at r; rw [i_lt] at q
      omega
    · rw [if_neg r]
theorem mx_id {x : Int32} (h : 0 ≤ x.toInt) : mx x = x := by
  rw [← mx_ge, if_pos (by rw [i_le]; exact h)]
theorem mPass (hT : WT T) (hE : EM (M i) T D) (hD : WD T D B) (hth : Dth D < Tnv T) : ∃ g, f_X9_passes M i = some (stA M i g) ∧ EM g T (pass T D) := by
  have h5 := hT.1
  have h6 := hT.2.1
  have hF := hD.1
  have hv := hD.2.2.2.2.1 _ hth
  obtain ⟨R, hR, hp⟩ := pass_ex T D
  rw [hp]
  obtain ⟨wk, ewk⟩ : ∃ y : Nat → Nat, y = so (fun b => (DF D).testBit b && !(DK D).testBit b && decide (st1 T D b < Tas T (Dln D (Dth D)))) := ⟨_, rfl⟩
  have ewn : wk (Tnb T) = wkS T D := by rw [ewk]; rfl
  have hEn : EM (pf 1 (st1 T D) (M i) (Tnb T)) T (st1 T D, (DF D, Dtu D).1, DK D, (DF D, Dtu D).2, Dth D, Dln D) := em_st2 (D := (st1 T D, D.2)) (pf_st hT hE (st1 T D) (Tnb T)) (fun b hb => if_pos hb) rfl
  obtain ⟨g2, t1, hy2⟩ := mTurn (M := stA M i (pf 1 (st1 T D) (M i) (Tnb T))) (i := i) hT (by rw [stA_i]; exact hEn) (wkS_lt hT D)
  rw [stA_stA] at t1
  have t2 := mLeav (M := stA M i g2) (i := i) hT (by rw [stA_i]; exact hy2) (and_lt hF)
  obtain ⟨g3, t3, hy3⟩ := mLoop (M := M) (i := i) hT hy2 (and_lt hF) hR
  refine ⟨g3, ?_, hy3⟩
  have key := iter_to (F := fun rec a => f_X9_passes_18 i (Tas T (Dln D (Dth D))) rec a.1 a.2.1 a.2.2) (fun b => (stA M i (pf 1 (st1 T D) (M i) b), nI (wk b), nI b)) (Tnb T) (some (stA M i g3)) (fun b hb rec => ?_) (fun rec => ?_) fuel 0 (Nat.zero_le _) (by rw [fuel_eq]; omega)
  · rw [pf_0, stA_self] at key
    unfold f_X9_passes
    rw [em_th hE, q6, chk_ix (by omega) (by decide), cl_nI (by omega), em_ln hE hth, q11, chk_ix (by omega) (by decide), cl_nI (by omega), em_as hE hv, nmE]
    have e0 : wk 0 = 0 := by rw [ewk]; rfl
    rw [e0] at key
    exact key
  · have hEb : EM (pf 1 (st1 T D) (M i) b) T _ := pf_st hT hE (st1 T D) b
    have hEb1 : EM (pf 1 (st1 T D) (M i) (b + 1)) T _ := pf_st hT hE (st1 T D) (b + 1)
    obtain ⟨Mb, eMb⟩ : ∃ y, y = stA M i (pf 1 (st1 T D) (M i) b) := ⟨_, rfl⟩
    have hMb : Mb i = pf 1 (st1 T D) (M i) b := by rw [eMb, stA_i]
    have hEb' : EM (Mb i) T _ := hMb ▸ hEb
    obtain ⟨Mc, eMc⟩ : ∃ y, y = stA M i (pf 1 (st1 T D) (M i) (b + 1)) := ⟨_, rfl⟩
    have hMc : Mc i = pf 1 (st1 T D) (M i) (b + 1) := by rw [eMc, stA_i]
    have hEc' : EM (Mc i) T _ := hMc ▸ hEb1
    have u1 : Mb i (21 + 6 * b + 1) = Dst D b := by rw [hMb, pf_out (by omega)]; exact em_st hE hb
    have u2 : f_X9_flies Mb i (nI b) = some ((DF D).testBit b) := mFl hT hEb' hF (by omega)
    have u3 : f_X9_takesOf Mb i (nI b) = some (tk T D b) := mTk hT hEb' hF hv hth hb
    have u4 : f_X9_isLoose Mc i (nI b) = some ((DF D).testBit b && !(DK D).testBit b) := mLo hT hEc' hF hb
    have u5 : Mc i (21 + 6 * b + 1) = st1 T D b := by rw [hMc, pf_in (by decide) (by omega)]
    have hs := hD.2.2.2.2.2.2 b hb
    have u6 : st Mb i (21 + 6 * b + 1) (st1 T D b) = Mc := by rw [eMb, eMc]; exact stA_put (pf_up (by decide) rfl)
    have fin : f_X9_passes_82 i rec Mb (nI (wk b)) (Tas T (Dln D (Dth D))) (nI b) (nI (21 + 6 * b + 1)) (st1 T D b) = rec (Mc, nI (wk (b + 1)), nI (b + 1)) := by
      have ew : wk (b + 1) = wk b ||| (if ((DF D).testBit b && !(DK D).testBit b && decide (st1 T D b < Tas T (Dln D (Dth D)))) = true then 2 ^ b else 0) := by rw [ewk]; rfl
      rw [ew]
      by_cases r : ((DF D).testBit b && !(DK D).testBit b) = true
      · by_cases q : st1 T D b < Tas T (Dln D (Dth D))
        · have q2 : ¬ Tas T (Dln D (Dth D)) ≤ st1 T D b := by rw [i_le]; rw [i_lt] at q; omega
          simp (disch := omega) only [f_X9_passes_82, nm, chk_ix, cl_nI, u6, u4, Option.bind_some, r, if_true, i6, nI_sc, u5, q2, q, if_false, b_sh, nI_or, decide_true, Bool.and_self]
        · have q2 : Tas T (Dln D (Dth D)) ≤ st1 T D b := by rw [i_le]; rw [i_lt] at q; omega
          simp (disch := omega) only [f_X9_passes_82, nm, chk_ix, cl_nI, u6, u4, Option.bind_some, r, if_true, i6, nI_sc, u5, q2, q, nI_or0, decide_false, Bool.and_false, Bool.false_eq_true, if_false, Nat.or_zero]
      · have r' : ((DF D).testBit b && !(DK D).testBit b) = false := by simpa using r
        simp (disch := omega) only [f_X9_passes_82, nm, chk_ix, cl_nI, u6, u4, Option.bind_some, r', nI_or0, nI_sc, Bool.false_and, Bool.false_eq_true, if_false, Nat.or_zero]
    have f59 : ∀ s0 : Int32, mx s0 = st1 T D b → f_X9_passes_59 i rec Mb (nI (wk b)) (Tas T (Dln D (Dth D))) (nI b) s0 = rec (Mc, nI (wk (b + 1)), nI (b + 1)) := by
      intro s0 hs0
      unfold f_X9_passes_59
      rw [← mx_ge] at hs0
      rw [i6, nI_sc]
      by_cases q : 0 ≤ s0
      · rw [if_pos q] at hs0 ⊢
        rw [hs0]; exact fin
      · rw [if_neg q] at hs0 ⊢
        rw [hs0]; exact fin
    show f_X9_passes_18 i (Tas T (Dln D (Dth D))) rec (stA M i (pf 1 (st1 T D) (M i) b)) (nI (wk b)) (nI b) = rec (stA M i (pf 1 (st1 T D) (M i) (b + 1)), nI (wk (b + 1)), nI (b + 1))
    rw [← eMb, ← eMc]
    unfold f_X9_passes_18
    rw [em_nb hEb', if_neg (by rw [nI_leI (by omega) (by omega)]; omega), i6, nI_sc, chk_ix (by omega) (by decide), cl_nI (by omega), u1, nmE, u2, bdE]
    by_cases q : (DF D).testBit b = true
    · rw [if_pos q, u3, bdE]
      exact f59 _ (if_pos q).symm
    · rw [if_neg q]
      exact f59 _ ((mx_id hs.1).trans (if_neg q).symm)
  · have hEn' : stA M i (pf 1 (st1 T D) (M i) (Tnb T)) i 5 = nI (Tnb T) := by rw [stA_i]; exact em_nb hEn
    show f_X9_passes_18 i (Tas T (Dln D (Dth D))) rec (stA M i (pf 1 (st1 T D) (M i) (Tnb T))) (nI (wk (Tnb T))) (nI (Tnb T)) = _
    unfold f_X9_passes_18
    rw [hEn', if_pos (by rw [nI_leI (by omega) (by omega)]; omega), ewn, t1, bdE, t2, bdE]
    exact t3
end M2
