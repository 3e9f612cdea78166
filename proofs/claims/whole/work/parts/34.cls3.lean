theorem nmE {α β : Type} (x : α) (f : α → β) : nm x f = f x := Eq.trans rfl rfl
theorem bdE {α β : Type} (x : α) (f : α → Option β) : (some x).bind f = f x := Eq.trans rfl rfl
theorem rnd_snoc (T : TT) (K : Nat) : ∀ k a, rnd T K (k + 1) a = tbk (rnd T K k a) (lvS T K (rnd T K k a))
  | 0, _ => rfl
  | k + 1, a => rnd_snoc T K k (tbk a (lvS T K a))
/-- as many valleys as come, k at most -/
def pn (T : TT) : Nat → DD → DD
  | 0, D => D
  | k + 1, D => if Dth D < Tnv T then pn T k (pass T D) else D
def arr (T : TT) (D : DD) : DD := pn T 5 D
theorem pn_end {T : TT} {D : DD} (h : ¬ Dth D < Tnv T) : ∀ k, pn T k D = D
  | 0 => rfl
  | _ + 1 => if_neg h
theorem pn_go {T : TT} {D : DD} (h : Dth D < Tnv T) (k : Nat) : pn T (k + 1) D = pn T k (pass T D) := if_pos h
/-- one valley more at the end -/
theorem pn_snoc (T : TT) : ∀ k D, pn T (k + 1) D = if Dth (pn T k D) < Tnv T then pass T (pn T k D) else pn T k D
  | 0, _ => rfl
  | k + 1, D => by
    by_cases h : Dth D < Tnv T
    · rw [pn_go h, pn_go h]; exact pn_snoc T k (pass T D)
    · rw [pn_end h, pn_end h, if_neg h]
theorem pn_WD {T : TT} (hT : WT T) : ∀ k D B, WD T D B → B + 6 * k ≤ 1000000 → WD T (pn T k D) (B + 6 * k)
  | 0, _, _, h, _ => h
  | k + 1, D, B, h, hB => by
    by_cases q : Dth D < Tnv T
    · rw [pn_go q]
      have := pn_WD hT k (pass T D) (B + 6) (pass_WD hT h (by omega) q) (by omega)
      rw [show B + 6 * (k + 1) = B + 6 + 6 * k by omega]
      exact this
    · rw [pn_end q]
      exact ⟨h.1, h.2.1, h.2.2.1, by have := h.2.2.2.1; omega, h.2.2.2.2⟩
theorem WD_mono {T : TT} {D : DD} {B B' : Nat} (h : WD T D B) (hb : B ≤ B') : WD T D B' := ⟨h.1, h.2.1, h.2.2.1, Nat.le_trans h.2.2.2.1 hb, h.2.2.2.2⟩
theorem arr_WD {T : TT} {D : DD} {B : Nat} (hT : WT T) (h : WD T D B) (hB : B + 30 ≤ 1000000) : WD T (arr T D) (B + 30) := pn_WD hT 5 D B h hB
theorem pn_thr {T : TT} : ∀ k D, Dth D ≤ Tnv T → Tnv T ≤ Dth D + k → Dth (pn T k D) = Tnv T
  | 0, D, h1, h2 => by show Dth D = Tnv T; omega
  | k + 1, D, h1, h2 => by
    by_cases q : Dth D < Tnv T
    · rw [pn_go q]
      exact pn_thr k (pass T D) (by show Dth D + 1 ≤ Tnv T; omega) (by show Tnv T ≤ Dth D + 1 + k; omega)
    · rw [pn_end q]; omega
theorem pn_ln (T : TT) : ∀ k D, Dln (pn T k D) = Dln D
  | 0, _ => rfl
  | k + 1, D => by
    by_cases q : Dth D < Tnv T
    · rw [pn_go q]; exact pn_ln T k (pass T D)
    · rw [pn_end q]
theorem pn_K (T : TT) : ∀ k D, DK (pn T k D) = DK D
  | 0, _ => rfl
  | k + 1, D => by
    by_cases q : Dth D < Tnv T
    · rw [pn_go q]; exact pn_K T k (pass T D)
    · rw [pn_end q]
section C3
variable {M : Mem} {f : Nat} {T : TT} {D : DD} {B : Nat}
theorem ec_st2 {D' : DD} (hE : EC M f T D') (h : ∀ b, b < Tnb T → Dst D' b = Dst D b) (e : D'.2 = D.2) : EC M f T D := by
  obtain ⟨h1, b1, b2, b3, b4, b5, b6⟩ := hE
  have e1 : DF D' = DF D := congrArg (fun x : Nat × Nat × Nat × Nat × (Nat → Nat) => x.1) e
  have e2 : DK D' = DK D := congrArg (fun x : Nat × Nat × Nat × Nat × (Nat → Nat) => x.2.1) e
  have e3 : Dtu D' = Dtu D := congrArg (fun x : Nat × Nat × Nat × Nat × (Nat → Nat) => x.2.2.1) e
  have e4 : Dth D' = Dth D := congrArg (fun x : Nat × Nat × Nat × Nat × (Nat → Nat) => x.2.2.2.1) e
  have e5 : Dln D' = Dln D := congrArg (fun x : Nat × Nat × Nat × Nat × (Nat → Nat) => x.2.2.2.2) e
  rw [e1] at b1; rw [e2] at b2; rw [e3] at b3; rw [e4] at b4; rw [e5] at b6
  exact ⟨h1, b1, b2, b3, b4, fun b hb => (b5 b hb).trans (h b hb), b6⟩
theorem pass_ex (T : TT) (D : DD) : ∃ R, R = rnd T (DK D) 6 (tbk (DF D, Dtu D) (wkS T D)) ∧ pass T D = (st1 T D, R.1, DK D, R.2, Dth D + 1, Dln D) := ⟨_, rfl, rfl⟩
theorem cTurn2 {s : Nat → Int32} {a : Nat × Nat} {K th : Nat} {ln : Nat → Nat} (hE : EC M f T (s, a.1, K, a.2, th, ln)) (hF64 : a.1 < 64) {S : Nat} (hS : S < 64) : ∃ M', f_X3_turnBack M (f + 7) (nI S) = M' ∧ EC M' f T (s, (tbk a S).1, K, (tbk a S).2, th, ln) ∧ (∀ a, a ≠ f + 7 → M' a = M a) :=
  cTurn (D := (s, a.1, K, a.2, th, ln)) hE hF64 hS
theorem cLeav2 {s : Nat → Int32} {a : Nat × Nat} {K th : Nat} {ln : Nat → Nat} (hT : WT T) (hE : EC M f T (s, a.1, K, a.2, th, ln)) (hF64 : a.1 < 64) (hK64 : K < 64) : f_X2_leavingByOthers M f = some (nI (lvS T K a)) :=
  cLeav (D := (s, a.1, K, a.2, th, ln)) hT hE hF64 hK64
theorem cLoopE {s : Nat → Int32} {a : Nat × Nat} {K th : Nat} {ln : Nat → Nat} (hE : EC M f T (s, a.1, K, a.2, th, ln)) : EC (st M (f + 7) 3 (nI (th + 1))) f T (s, a.1, K, a.2, th + 1, ln) := by
  obtain ⟨⟨a1, a2, a3, a4, a5⟩, b1, b2, b3, b4, b5, b6⟩ := hE
  refine ⟨⟨?_, ?_, ?_, fun v hv => ?_, fun b hb => ?_⟩, ?_, ?_, ?_, ?_, fun b hb => ?_, fun j hj => ?_⟩
  · rw [st_cell (by omega)]; exact a1
  · rw [st_cell (by omega)]; exact a2
  · rw [st_cell (by omega)]; exact a3
  · rw [st_cell (by omega), st_cell (by omega)]; exact a4 v hv
  · rw [st_cell (by omega), st_cell (by omega), st_cell (by omega)]; exact a5 b hb
  · rw [st_slot (by decide)]; exact b1
  · rw [st_slot (by decide)]; exact b2
  · rw [st_slot (by decide)]; exact b3
  · rw [st_same]; rfl
  · rw [st_cell (by omega)]; exact b5 b hb
  · rw [st_cell (by omega)]; exact b6 j hj
theorem cLoop {s : Nat → Int32} {a0 : Nat × Nat} {K th : Nat} {ln : Nat → Nat} (hT : WT T) (hE : EC M f T (s, a0.1, K, a0.2, th, ln)) (ha0 : a0.1 < 64) (hK64 : K < 64) {R : Nat × Nat} (hR : R = rnd T K 6 a0) : ∃ M', iter (fun rec a => f_X2_flyNext_38 f rec a.1 a.2) fuel (M, nI 0) = some M' ∧ EC M' f T (s, R.1, K, R.2, th + 1, ln) ∧ (∀ c, c ≠ f + 7 → M' c = M c) := by
  have key := iter_inv (F := fun rec a => f_X2_flyNext_38 f rec a.1 a.2) (fun k a => a.2 = nI k ∧ ∃ y, y = rnd T K k a0 ∧ EC a.1 f T (s, y.1, K, y.2, th, ln) ∧ (∀ c, c ≠ f + 7 → a.1 c = M c)) 6 (fun M' => EC M' f T (s, R.1, K, R.2, th + 1, ln) ∧ (∀ c, c ≠ f + 7 → M' c = M c)) (fun k a hk hI => ?_) (fun a hI => ?_) fuel 0 (M, nI 0) (by omega) (by rw [fuel_eq]; omega) ⟨rfl, a0, rfl, hE, fun c h1 => rfl⟩
  · obtain ⟨M', ⟨hP1, hP2⟩, e⟩ := key
    exact ⟨M', e, hP1, hP2⟩
  · obtain ⟨Mk, x⟩ := a
    obtain ⟨ex, ak, eak, hEk, hfk⟩ := hI
    have ex : x = nI k := ex
    have hEk : EC Mk f T (s, ak.1, K, ak.2, th, ln) := hEk
    have hfk : ∀ c, c ≠ f + 7 → Mk c = M c := hfk
    have hlt : ak.1 < 64 := by rw [eak]; exact (rnd_le hT K k a0 ha0).1
    have l1 := cLeav2 hT hEk hlt hK64
    obtain ⟨M3, l2, hE3, hfr3⟩ := cTurn2 hEk hlt (lvS_lt hT K ak)
    left
    refine ⟨(M3, nI (k + 1)), ⟨rfl, _, ?_, hE3, fun c h1 => (hfr3 c h1).trans (hfk c h1)⟩, fun rec => ?_⟩
    · rw [rnd_snoc, eak]
    · have c1 : ¬ (6 : Int32) ≤ x := by rw [ex]; exact nI_ge (b := 6) hk (by decide)
      simp only [f_X2_flyNext_38, l1, nm, Option.bind_some, l2]
      rw [if_neg c1, ex, nI_sc]
  · obtain ⟨Mk, x⟩ := a
    obtain ⟨ex, ak, eak, hEk, hfk⟩ := hI
    have ex : x = nI 6 := ex
    rw [← hR] at eak
    rw [eak] at hEk
    have hEk : EC Mk f T (s, R.1, K, R.2, th, ln) := hEk
    have hfk : ∀ c, c ≠ f + 7 → Mk c = M c := hfk
    refine ⟨st Mk (f + 7) 3 (nI (th + 1)), ⟨cLoopE hEk, fun c h1 => (st_ne h1).trans (hfk c h1)⟩, fun rec => ?_⟩
    have c1 : (6 : Int32) ≤ x := by rw [ex]; decide
    have hth3 : Mk (f + 7) 3 = nI th := ec_th hEk
    simp only [f_X2_flyNext_38, nm, hth3, nI_sc]
    rw [if_pos c1]
theorem cFly (hT : WT T) (hE : EC M f T D) (hD : WD T D B) (hth : Dth D < Tnv T) : ∃ M', f_X2_flyNext M f = some M' ∧ EC M' f T (pass T D) ∧ (∀ a, a ≠ f + 7 → a ≠ f + 8 → M' a = M a) := by
  have h5 := hT.1
  have h6 := hT.2.1
  have hF64 := wd_F hT hD
  have hK64 := wd_K hT hD
  have hv := hD.2.2.2.2.1 _ hth
  obtain ⟨M1, eM1⟩ : ∃ y, y = stA M (f + 8) (ff (st1 T D) (M (f + 8)) (Tnb T)) := ⟨_, rfl⟩
  have hE1 : EC M1 f T (st1 T D, D.2) := by rw [eM1]; exact ec_st2 (ec_str hE) (fun b hb => ff_in hb) rfl
  have hfr1 : ∀ a, a ≠ f + 8 → M1 a = M a := fun a ha => by rw [eM1]; exact stA_ne ha
  have t1 : f_X2_takeStrength M f = some M1 := by rw [eM1]; exact cTake hT hE hD hth
  have t2 : f_X2_nextValley M1 f = some (nI (Dln D (Dth D))) := cNxt (D := (st1 T D, D.2)) hT hE1 hth
  have t3 : M1 (f + 2) (Dln D (Dth D)) = Tas T (Dln D (Dth D)) := ec_as (D := (st1 T D, D.2)) hE1 hv
  have t4 : f_X2_tooWeak M1 f (Tas T (Dln D (Dth D))) = some (nI (wkS T D)) := cWeak (D := (st1 T D, D.2)) hT hE1 hF64 hK64 _
  obtain ⟨R, hR, hp⟩ := pass_ex T D
  rw [hp]
  obtain ⟨M2, t5, hE2, hfr2⟩ := cTurn2 (s := st1 T D) (a := (DF D, Dtu D)) (K := DK D) (th := Dth D) (ln := Dln D) hE1 hF64 (wkS_lt hT D)
  have t0 : f_X2_coming M f = nI (Tnv T - Dth D) := cCom hE hD
  obtain ⟨M3, t6, hE3, hfr3⟩ := cLoop hT hE2 (Nat.lt_of_le_of_lt Nat.and_le_left hF64) hK64 hR
  refine ⟨M3, ?_, hE3, fun c h1 h2 => (hfr3 c h1).trans ((hfr2 c h1).trans (hfr1 c h2))⟩
  have c1 : (1 : Int32) ≤ nI (Tnv T - Dth D) := (nI_leI (a := 1) (by decide) (by omega)).mpr (by omega)
  unfold f_X2_flyNext
  rw [t0, if_pos c1, t1, bdE, t2, bdE, chk_ix (by omega) (by decide), cl_nI (by omega), t3, t4, bdE, nmE, t5]
  exact t6
theorem cFly0 (hE : EC M f T D) (hD : WD T D B) (hth : ¬ Dth D < Tnv T) : f_X2_flyNext M f = some M := by
  have t0 : f_X2_coming M f = nI (Tnv T - Dth D) := cCom hE hD
  have c1 : ¬ (1 : Int32) ≤ f_X2_coming M f := by rw [t0, show Tnv T - Dth D = 0 by omega]; decide
  unfold f_X2_flyNext
  rw [if_neg c1]
/-- one valley, if one comes -/
theorem cFly1 (hT : WT T) (hE : EC M f T D) (hD : WD T D B) : ∃ M', f_X2_flyNext M f = some M' ∧ EC M' f T (pn T 1 D) ∧ (∀ a, a ≠ f + 7 → a ≠ f + 8 → M' a = M a) := by
  by_cases q : Dth D < Tnv T
  · rw [show pn T 1 D = pass T D from if_pos q]
    exact cFly hT hE hD q
  · rw [show pn T 1 D = D from if_neg q]
    exact ⟨M, cFly0 hE hD q, hE, fun _ _ _ => rfl⟩
theorem pn_1 (T : TT) (k : Nat) (D : DD) : pn T 1 (pn T k D) = pn T (k + 1) D := by
  rw [pn_snoc T k D]
  rfl
theorem cArr (hT : WT T) (hE : EC M f T D) (hD : WD T D B) (hB : B + 30 ≤ 1000000) : ∃ M', f_X2_arriving M f = some (nI (DF (arr T D)), M') ∧ EC M' f T (arr T D) ∧ (∀ a, a ≠ f + 7 → a ≠ f + 8 → M' a = M a) := by
  have key := iter_inv (F := fun rec a => f_X2_arriving_2 f rec a.1 a.2) (fun k a => a.2 = nI k ∧ EC a.1 f T (pn T k D) ∧ (∀ c, c ≠ f + 7 → c ≠ f + 8 → a.1 c = M c)) 5 (fun z => z.1 = nI (DF (arr T D)) ∧ EC z.2 f T (arr T D) ∧ (∀ c, c ≠ f + 7 → c ≠ f + 8 → z.2 c = M c)) (fun k a hk hI => ?_) (fun a hI => ?_) fuel 0 (M, nI 0) (by decide) (by rw [fuel_eq]; decide) ⟨rfl, hE, fun _ _ _ => rfl⟩
  · obtain ⟨⟨r, M'⟩, ⟨rfl, h1, h2⟩, e⟩ := key
    exact ⟨M', e, h1, h2⟩
  · obtain ⟨Mk, x⟩ := a
    obtain ⟨rfl, hEk, hfk⟩ := hI
    have hEk : EC Mk f T (pn T k D) := hEk
    obtain ⟨M3, l2, hE3, hfr3⟩ := cFly1 hT hEk (pn_WD hT k D B hD (by omega))
    left
    refine ⟨(M3, nI (k + 1)), ⟨rfl, by rw [pn_1] at hE3; exact hE3, fun c h1 h2 => (hfr3 c h1 h2).trans (hfk c h1 h2)⟩, fun rec => ?_⟩
    have c1 : ¬ (5 : Int32) ≤ nI k := nI_ge (b := 5) hk (by decide)
    simp only [f_X2_arriving_2, l2, nm, Option.bind_some, nI_sc]
    rw [if_neg c1]
  · obtain ⟨Mk, x⟩ := a
    obtain ⟨ex, hEk, hfk⟩ := hI
    have ex : x = nI 5 := ex
    have hEk : EC Mk f T (arr T D) := hEk
    refine ⟨(nI (DF (arr T D)), Mk), ⟨rfl, hEk, hfk⟩, fun rec => ?_⟩
    have c1 : (5 : Int32) ≤ x := by rw [ex]; decide
    simp only [f_X2_arriving_2, ec_F hEk]
    rw [if_pos c1]
end C3
