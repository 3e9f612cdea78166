/-- while the object is made: k of its fields are set, n cells are there, a rows, b images, c moments of the ring -/
def NX (k n a b c : Nat) : Nat → Nat := fun t => if t = 0 then k else if t = 1 then a else if t = 24 then b else if t = 26 then c else if t < n then 30 else 0
theorem NX_z {k n a b c t : Nat} (h : n ≤ t) (h0 : 0 < n) (ha : 1 < n ∨ a = 0) (hb : 24 < n ∨ b = 0) (hc : 26 < n ∨ c = 0) : NX k n a b c t = 0 := by
  unfold NX
  rw [if_neg (by omega)]
  by_cases q1 : t = 1
  · rw [if_pos q1]; omega
  · rw [if_neg q1]
    by_cases q2 : t = 24
    · rw [if_pos q2]; omega
    · rw [if_neg q2]
      by_cases q3 : t = 26
      · rw [if_pos q3]; omega
      · rw [if_neg q3, if_neg (by omega)]
theorem NX_fill {k n n' a b c : Nat} (h0 : 0 < n) (hn : n ≤ n') (h1 : 1 < n ∨ n' ≤ 1) (h2 : 24 < n ∨ n' ≤ 24) (h3 : 26 < n ∨ n' ≤ 26) : fill (NX k n a b c) n n' = NX k n' a b c := by
  funext t
  show (if n ≤ t ∧ t < n' then 30 else NX k n a b c t) = NX k n' a b c t
  unfold NX
  by_cases q : n ≤ t ∧ t < n'
  · rw [if_pos q, if_neg (by omega), if_neg (by omega), if_neg (by omega), if_neg (by omega), if_pos q.2]
  · rw [if_neg q]
    simp only [show (t < n) ↔ (t < n') by omega]
theorem NX_up {k k' n a b c : Nat} : up (NX k n a b c) 0 k' = NX k' n a b c := by
  funext t
  show (if t = 0 then k' else NX k n a b c t) = NX k' n a b c t
  unfold NX
  by_cases q : t = 0
  · rw [if_pos q, if_pos q]
  · rw [if_neg q, if_neg q, if_neg q]
theorem NX_acts : NAc (NX 5 25 0 0 0) = NX 5 99 0 0 24 := by
  funext t
  show (if t = 26 then 24 else if 25 ≤ t ∧ t < 99 then 30 else NX 5 25 0 0 0 t) = NX 5 99 0 0 24 t
  unfold NX
  by_cases q : t = 26
  · rw [if_pos q, if_neg (by omega), if_neg (by omega), if_neg (by omega), if_pos q]
  · rw [if_neg q]
    by_cases q2 : 25 ≤ t ∧ t < 99
    · rw [if_pos q2, if_neg (by omega), if_neg (by omega), if_neg (by omega), if_neg q, if_pos q2.2]
    · rw [if_neg q2, if_neg q, if_neg q]
      simp only [show (t < 25) ↔ (t < 99) by omega]
theorem NX_row {j c : Nat} : up (NX 8 (104 + 2 * (j + 1)) j 0 c) 1 (j + 1) = NX 8 (104 + 2 * (j + 1)) (j + 1) 0 c := by
  funext t
  show (if t = 1 then j + 1 else NX 8 (104 + 2 * (j + 1)) j 0 c t) = NX 8 (104 + 2 * (j + 1)) (j + 1) 0 c t
  unfold NX
  by_cases q : t = 1
  · rw [if_pos q, if_neg (by omega), if_pos q]
  · rw [if_neg q, if_neg q, if_neg q]
theorem NX_img {j a c : Nat} : up (NX 8 (120 + 10 * (j + 1)) a j c) 24 (j + 1) = NX 8 (120 + 10 * (j + 1)) a (j + 1) c := by
  funext t
  show (if t = 24 then j + 1 else NX 8 (120 + 10 * (j + 1)) a j c t) = NX 8 (120 + 10 * (j + 1)) a (j + 1) c t
  unfold NX
  by_cases q : t = 24
  · rw [if_pos q, if_neg (by omega), if_neg (by omega), if_pos q]
  · rw [if_neg q, if_neg q, if_neg q]
theorem up_fun {α : Type} {g : Nat → α} {j : Nat} : (fun t => if t < j + 1 then some (g t) else none) = va_up (fun t => if t < j then some (g t) else none) j (some (g j)) := by
  funext t
  show (if t < j + 1 then some (g t) else none) = (if t = j then some (g j) else if t < j then some (g t) else none)
  by_cases q : t = j
  · rw [if_pos q, if_pos (by omega), q]
  · rw [if_neg q]
    by_cases q2 : t < j
    · rw [if_pos q2, if_pos (by omega)]
    · rw [if_neg q2, if_neg (by omega)]
theorem NX_row0 : NX 1 1 0 0 0 = NX 1 2 0 0 0 := by
  funext t
  unfold NX
  by_cases q : t = 0
  · subst q; rfl
  · rw [if_neg q, if_neg q]
    by_cases q1 : t = 1
    · subst q1; rfl
    · rw [if_neg q1, if_neg q1]
      simp only [show (t < 1) ↔ (t < 2) by omega]
theorem NX_img0 : NX 5 24 0 0 0 = NX 5 25 0 0 0 := by
  funext t
  unfold NX
  by_cases q : t = 24
  · subst q; rfl
  · rw [if_neg q, if_neg q]
    simp only [show (t < 24) ↔ (t < 25) by omega]
set_option maxHeartbeats 4000000 in
set_option maxRecDepth 100000 in
theorem c_X8_init (l : Launch) (D : va_G) (cs : Nat → ClassId) (a0 : Nat) : CtC l yX8_init cX8_init 2 3 139 1179 D cs a0 0 (NX 0 1 0 0 0) Z0 1 (NX 8 140 8 2 24) Z0 140 := by
  refine ct_c (own := RX8) (by decide) rfl rfl (by decide) ?_
  intro p e s m args below meth c Q C hin hr H locs hG ls hl
  have hx := C.1
  have hb := C.2.1
  have loopI : ∀ (k j : Nat), j + k = 2 → ∀ (H : Heap) (locs : List Loc), CH D cs a0 s (NX 8 (120 + 10 * j) 8 j 24) Z0 (120 + 10 * j) H locs → ∀ ls : Array Slot, lv_has ls 2 [(1, .int (nI j)), (0, .ref (a0 + 0))] → W p l e (rmc 3 139 1179) s m args below meth c H locs (119 + 10 * j) (1069 + 55 * j) Q (F0 m 121 ls []) := by
    intro k
    induction k with
    | zero =>
      intro j hj H locs hG ls hl
      have hj : j = 2 := by omega
      subst hj
      refine lv_iload_n hx hb dX8_init_121 rfl (lv_at hl 0 rfl) ?_
      refine lv_iconst (v := 2) hx hb dX8_init_122 (by decide) ?_
      refine lv_icmp_ge (tgt := 145) hx hb dX8_init_123 (by decide) (fun _ => ?_) (fun q => absurd (by decide) q)
      exact hr (by decide) (by decide) (hG.re rfl (by omega)) dX8_init_145
    | succ k ih =>
      intro j hj H locs hG ls hl
      have hjc : j < 2 := by omega
      refine lv_iload_n hx hb dX8_init_121 rfl (lv_at hl 0 rfl) ?_
      refine lv_iconst (v := 2) hx hb dX8_init_122 (by decide) ?_
      refine lv_icmp_ge (tgt := 145) hx hb dX8_init_123 (by decide) (fun q => absurd q (nI_ge hjc (by decide))) (fun _ => ?_)
      refine lv_aload_n hx hb dX8_init_126 rfl (lv_at hl 1 rfl) ?_
      refine k_get (v := .ref (a0 + 24)) C hG (by omega) (cE_8 gk_0) rfl gn_X8 4 (by decide) wf_X8_32 rfl dX8_init_127 ?_
      refine lv_iload_n hx hb dX8_init_130 rfl (lv_at hl 0 rfl) ?_
      have z0 : ∀ t, 120 + 10 * j ≤ t → NX 8 (120 + 10 * j) 8 j 24 t = 0 := fun t ht => NX_z ht (by omega) (by omega) (by omega) (by omega)
      refine k_new C hG (cN_2 (gk_ims j hjc) (z0 _ (Nat.le_refl _))) rfl gn_X2 tyX2 tyX2_ok dv_2 wl_X8_22 wb_X2 wz_X2 (by show 119 + 10 * j + 1 ≤ 139; omega) (by show 1069 + 55 * j + 2 ≤ 1179; omega) dX8_init_131 (fun H hG => ?_)
      refine lv_dup hx hb dX8_init_134 rfl ?_
      refine k_callN C hG (c_X2_init l D cs a0 (gk_ims j hjc) z0) wn_X8_24 wi_X2_init wz_X2 wc_X2_init rfl ei_X2 (by decide) ⟨by show 119 + 10 * j + 1 + 9 ≤ 139; omega, by show 1069 + 55 * j + 2 + 53 ≤ 1179; omega⟩ hl.1 (Nat.le_of_ble_eq_true rfl) dX8_init_135 (fun H locs hG => ?_)
      have hG : CH D cs a0 s (NX 8 (120 + 10 * (j + 1)) 8 j 24) Z0 (120 + 10 * (j + 1)) H locs := hG.re ((NX_fill (by omega) (by omega) (by omega) (by omega) (by omega)).trans (by rw [show 120 + 10 * j + 10 = 120 + 10 * (j + 1) by omega])) (by omega)
      have hcl : (nI j).toNatClampNeg = j := nI_clamp (by omega)
      refine k_ast (t0 := 3) (k2 := j + 1) C hG (i := 24) (by omega) (by omega) (cE_13 gk_24) rfl (cE_2 (gk_ims j hjc)) rfl (vp_in_nI (by rw [gl_24]; exact hjc) (by rw [gl_24]; decide)) ?_ dX8_init_138 (fun H locs hG => ?_)
      · rw [cE_13 gk_24, hcl, NX_img]
        congr 7
        exact up_fun
      rw [NX_img] at hG
      obtain ⟨x1, ex1⟩ : ∃ y : Int32, y = nI (j + 1) := ⟨_, rfl⟩
      refine lv_iinc (v := x1) (lv' := [(1, .int x1), (0, .ref (a0 + 0))]) hx hb dX8_init_139 hl (k := 0) rfl (by rw [ex1]; exact nI_1 j) (by decide) rfl (fun ls hl => ?_)
      refine lv_goto (tgt := 121) hx hb dX8_init_142 (by decide) ?_
      refine w_eq (k' := 119 + 10 * (j + 1)) (n' := 1069 + 55 * (j + 1)) (by omega) (by omega) ?_
      rw [ex1] at hl
      exact ih (j + 1) (by omega) H locs hG ls hl
  have loopR : ∀ (k j : Nat), j + k = 8 → ∀ (H : Heap) (locs : List Loc), CH D cs a0 s (NX 8 (104 + 2 * j) j 0 24) Z0 (104 + 2 * j) H locs → ∀ ls : Array Slot, lv_has ls 2 [(1, .int (nI j)), (0, .ref (a0 + 0))] → W p l e (rmc 3 139 1179) s m args below meth c H locs (103 + 2 * j) (717 + 44 * j) Q (F0 m 94 ls []) := by
    intro k
    induction k with
    | zero =>
      intro j hj H locs hG ls hl
      have hj : j = 8 := by omega
      subst hj
      refine lv_iload_n hx hb dX8_init_94 rfl (lv_at hl 0 rfl) ?_
      refine lv_bipush (v := 8) hx hb dX8_init_95 (by decide) ?_
      refine lv_icmp_ge (tgt := 119) hx hb dX8_init_97 (by decide) (fun _ => ?_) (fun q => absurd (by decide) q)
      refine lv_iconst (v := 0) hx hb dX8_init_119 (by decide) ?_
      refine lv_istore_n (lv' := [(1, .int 0), (0, .ref (a0 + 0))]) hx hb dX8_init_120 rfl hl (by decide) rfl (fun ls hl => ?_)
      exact loopI 2 0 rfl H locs (hG.re rfl (by omega)) ls hl
    | succ k ih =>
      intro j hj H locs hG ls hl
      have hjc : j < 8 := by omega
      refine lv_iload_n hx hb dX8_init_94 rfl (lv_at hl 0 rfl) ?_
      refine lv_bipush (v := 8) hx hb dX8_init_95 (by decide) ?_
      refine lv_icmp_ge (tgt := 119) hx hb dX8_init_97 (by decide) (fun q => absurd q (nI_ge hjc (by decide))) (fun _ => ?_)
      refine lv_aload_n hx hb dX8_init_100 rfl (lv_at hl 1 rfl) ?_
      refine k_get (v := .ref (a0 + 1)) C hG (by omega) (cE_8 gk_0) rfl gn_X8 0 (by decide) wf_X8_11 rfl dX8_init_101 ?_
      refine lv_iload_n hx hb dX8_init_104 rfl (lv_at hl 0 rfl) ?_
      have z0 : ∀ t, 104 + 2 * j ≤ t → NX 8 (104 + 2 * j) j 0 24 t = 0 := fun t ht => NX_z ht (by omega) (by omega) (by omega) (by omega)
      refine k_new C hG (cN_5 (gk_rws j hjc) (z0 _ (Nat.le_refl _))) rfl gn_X5 tyX5 tyX5_ok dv_5 wl_X8_9 wb_X5 wz_X5 (by show 103 + 2 * j + 1 ≤ 139; omega) (by show 717 + 44 * j + 4 ≤ 1179; omega) dX8_init_105 (fun H hG => ?_)
      refine lv_dup hx hb dX8_init_108 rfl ?_
      refine k_callN C hG (c_X5_init l D cs a0 (gk_rws j hjc) z0) wn_X8_61 wi_X5_init wz_X5 wc_X5_init rfl ei_X5 (by decide) ⟨by show 103 + 2 * j + 1 + 1 ≤ 139; omega, by show 717 + 44 * j + 4 + 40 ≤ 1179; omega⟩ hl.1 (Nat.le_of_ble_eq_true rfl) dX8_init_109 (fun H locs hG => ?_)
      have hG : CH D cs a0 s (NX 8 (104 + 2 * (j + 1)) j 0 24) Z0 (104 + 2 * (j + 1)) H locs := hG.re ((NX_fill (by omega) (by omega) (by omega) (by omega) (by omega)).trans (by rw [show 104 + 2 * j + 2 = 104 + 2 * (j + 1) by omega])) (by omega)
      have hcl : (nI j).toNatClampNeg = j := nI_clamp (by omega)
      refine k_ast (t0 := 2) (k2 := j + 1) C hG (i := 1) (by omega) (by omega) (cE_12 gk_1) rfl (cE_5 (gk_rws j hjc)) rfl (vp_in_nI (by rw [gl_1]; exact hjc) (by rw [gl_1]; decide)) ?_ dX8_init_112 (fun H locs hG => ?_)
      · rw [cE_12 gk_1, hcl, NX_row]
        congr 7
        exact up_fun
      rw [NX_row] at hG
      obtain ⟨x1, ex1⟩ : ∃ y : Int32, y = nI (j + 1) := ⟨_, rfl⟩
      refine lv_iinc (v := x1) (lv' := [(1, .int x1), (0, .ref (a0 + 0))]) hx hb dX8_init_113 hl (k := 0) rfl (by rw [ex1]; exact nI_1 j) (by decide) rfl (fun ls hl => ?_)
      refine lv_goto (tgt := 94) hx hb dX8_init_116 (by decide) ?_
      refine w_eq (k' := 103 + 2 * (j + 1)) (n' := 717 + 44 * (j + 1)) (by omega) (by omega) ?_
      rw [ex1] at hl
      exact ih (j + 1) (by omega) H locs hG ls hl
  refine lv_aload_n hx hb dX8_init_0 rfl (lv_at hl 0 rfl) ?_
  refine k_obj C hl.1 wm_X8_1 (by decide) (Nat.le_of_ble_eq_true rfl) dX8_init_1 ?_
  refine lv_aload_n hx hb dX8_init_4 rfl (lv_at hl 0 rfl) ?_
  refine lv_bipush (v := 8) hx hb dX8_init_5 (by decide) ?_
  refine k_newq (t0 := 2) (L := 8) (f := fun j => if j < NX 0 1 0 0 0 1 then some (a0 + (104 + 2 * j)) else none) C hG ((cE_12 gk_1).trans (by rw [gl_1])) (fun j => if_neg (Nat.not_lt_zero j)) rfl C.2.2.2.2.2.2.2.1 wl_X8_9 (by decide) (by decide) (by decide) (by decide) (by decide) dX8_init_7 (fun H hG => ?_)
  have hG : CH D cs a0 s (NX 0 1 0 0 0) Z0 2 H locs := hG
  refine k_putR (k2 := 1) (ty := .array (.object "ThirtyBirds$Row")) C hG (by decide) (cE_8 gk_0) rfl gn_X8 tyX8 tyX8_ok nmX8 0 (by decide) (by show 0 < 9; decide) rfl hin rfl (by decide +kernel) (by rw [cE_8 gk_0]; rfl) rfl rfl wf_X8_11 dX8_init_10 (fun H locs hG => ?_)
  have hG : CH D cs a0 s (NX 1 2 0 0 0) Z0 2 H locs := hG.re (NX_up.trans NX_row0) rfl
  refine lv_aload_n hx hb dX8_init_13 rfl (lv_at hl 0 rfl) ?_
  have z2 : ∀ t, 2 ≤ t → NX 1 2 0 0 0 t = 0 := fun t ht => NX_z ht (by decide) (by decide) (by decide) (by decide)
  refine k_new C hG (cN_6 gk_2 (z2 _ (Nat.le_refl _))) rfl gn_X6 tyX6 tyX6_ok dv_6 wl_X8_15 wb_X6 wz_X6 (by decide) (by decide) dX8_init_14 (fun H hG => ?_)
  refine lv_dup hx hb dX8_init_17 rfl ?_
  refine k_callN C hG (c_X6_init l D cs a0 z2) wn_X8_17 wi_X6_init wz_X6 wc_X6_init rfl ei_X6 (by decide) (by decide) hl.1 (Nat.le_of_ble_eq_true rfl) dX8_init_18 (fun H locs hG => ?_)
  have hG : CH D cs a0 s (NX 1 4 0 0 0) Z0 4 H locs := hG.re (NX_fill (by decide) (by decide) (by decide) (by decide) (by decide)) rfl
  refine k_putR (k2 := 2) (ty := .object "ThirtyBirds$Tape") C hG (by decide) (cE_8 gk_0) rfl gn_X8 tyX8 tyX8_ok nmX8 1 (by decide) (by show 1 < 9; decide) rfl hin rfl (by decide +kernel) (by rw [cE_8 gk_0]; rfl) rfl rfl wf_X8_18 dX8_init_21 (fun H locs hG => ?_)
  have hG : CH D cs a0 s (NX 2 4 0 0 0) Z0 4 H locs := hG.re NX_up rfl
  refine lv_aload_n hx hb dX8_init_24 rfl (lv_at hl 0 rfl) ?_
  have z4 : ∀ t, 4 ≤ t → NX 2 4 0 0 0 t = 0 := fun t ht => NX_z ht (by decide) (by decide) (by decide) (by decide)
  refine k_new C hG (cN_2 gk_4 (z4 _ (Nat.le_refl _))) rfl gn_X2 tyX2 tyX2_ok dv_2 wl_X8_22 wb_X2 wz_X2 (by decide) (by decide) dX8_init_25 (fun H hG => ?_)
  refine lv_dup hx hb dX8_init_28 rfl ?_
  refine k_callN C hG (c_X2_init l D cs a0 gk_4 z4) wn_X8_24 wi_X2_init wz_X2 wc_X2_init rfl ei_X2 (by decide) (by decide) hl.1 (Nat.le_of_ble_eq_true rfl) dX8_init_29 (fun H locs hG => ?_)
  have hG : CH D cs a0 s (NX 2 14 0 0 0) Z0 14 H locs := hG.re (NX_fill (by decide) (by decide) (by decide) (by decide) (by decide)) rfl
  refine k_putR (k2 := 3) (ty := .object "ThirtyBirds$Flight") C hG (by decide) (cE_8 gk_0) rfl gn_X8 tyX8 tyX8_ok nmX8 2 (by decide) (by show 2 < 9; decide) rfl hin rfl (by decide +kernel) (by rw [cE_8 gk_0]; rfl) rfl rfl wf_X8_25 dX8_init_32 (fun H locs hG => ?_)
  have hG : CH D cs a0 s (NX 3 14 0 0 0) Z0 14 H locs := hG.re NX_up rfl
  refine lv_aload_n hx hb dX8_init_35 rfl (lv_at hl 0 rfl) ?_
  have z14 : ∀ t, 14 ≤ t → NX 3 14 0 0 0 t = 0 := fun t ht => NX_z ht (by decide) (by decide) (by decide) (by decide)
  refine k_new C hG (cN_2 gk_14 (z14 _ (Nat.le_refl _))) rfl gn_X2 tyX2 tyX2_ok dv_2 wl_X8_22 wb_X2 wz_X2 (by decide) (by decide) dX8_init_36 (fun H hG => ?_)
  refine lv_dup hx hb dX8_init_39 rfl ?_
  refine k_callN C hG (c_X2_init l D cs a0 gk_14 z14) wn_X8_24 wi_X2_init wz_X2 wc_X2_init rfl ei_X2 (by decide) (by decide) hl.1 (Nat.le_of_ble_eq_true rfl) dX8_init_40 (fun H locs hG => ?_)
  have hG : CH D cs a0 s (NX 3 24 0 0 0) Z0 24 H locs := hG.re (NX_fill (by decide) (by decide) (by decide) (by decide) (by decide)) rfl
  refine k_putR (k2 := 4) (ty := .object "ThirtyBirds$Flight") C hG (by decide) (cE_8 gk_0) rfl gn_X8 tyX8 tyX8_ok nmX8 3 (by decide) (by show 3 < 9; decide) rfl hin rfl (by decide +kernel) (by rw [cE_8 gk_0]; rfl) rfl rfl wf_X8_29 dX8_init_43 (fun H locs hG => ?_)
  have hG : CH D cs a0 s (NX 4 24 0 0 0) Z0 24 H locs := hG.re NX_up rfl
  refine lv_aload_n hx hb dX8_init_46 rfl (lv_at hl 0 rfl) ?_
  refine lv_iconst (v := 2) hx hb dX8_init_47 (by decide) ?_
  refine k_newq (t0 := 3) (L := 2) (f := fun j => if j < NX 4 24 0 0 0 24 then some (a0 + (120 + 10 * j)) else none) C hG ((cE_13 gk_24).trans (by rw [gl_24])) (fun j => if_neg (Nat.not_lt_zero j)) rfl C.2.2.2.2.2.2.2.2.1 wl_X8_22 (by decide) (by decide) (by decide) (by decide) (by decide) dX8_init_48 (fun H hG => ?_)
  have hG : CH D cs a0 s (NX 4 24 0 0 0) Z0 25 H locs := hG
  refine k_putR (k2 := 5) (ty := .array (.object "ThirtyBirds$Flight")) C hG (by decide) (cE_8 gk_0) rfl gn_X8 tyX8 tyX8_ok nmX8 4 (by decide) (by show 4 < 9; decide) rfl hin rfl (by decide +kernel) (by rw [cE_8 gk_0]; rfl) rfl rfl wf_X8_32 dX8_init_51 (fun H locs hG => ?_)
  have hG : CH D cs a0 s (NX 5 25 0 0 0) Z0 25 H locs := hG.re (NX_up.trans NX_img0) rfl
  refine lv_aload_n hx hb dX8_init_54 rfl (lv_at hl 0 rfl) ?_
  have z25 : ∀ t, 25 ≤ t → NX 5 25 0 0 0 t = 0 := fun t ht => NX_z ht (by decide) (by decide) (by decide) (by decide)
  refine k_new C hG (cN_0 gk_25 (z25 _ (Nat.le_refl _))) rfl gn_X0 tyX0 tyX0_ok dv_0 wl_X8_36 wb_X0 wz_X0 (by decide) (by decide) dX8_init_55 (fun H hG => ?_)
  refine lv_dup hx hb dX8_init_58 rfl ?_
  refine k_call C hG (c_X0_init l D cs a0 z25) wm_X8_38 wi_X0_init wz_X0 wc_X0_init rfl ei_X0 (by decide) (by decide) hl.1 (Nat.le_of_ble_eq_true rfl) dX8_init_59 (fun H locs hG => ?_)
  have hG : CH D cs a0 s (NX 5 99 0 0 24) Z0 99 H locs := hG.re (NX_acts) rfl
  refine k_putR (k2 := 6) (ty := .object "ThirtyBirds$Acts") C hG (by decide) (cE_8 gk_0) rfl gn_X8 tyX8 tyX8_ok nmX8 5 (by decide) (by show 5 < 9; decide) rfl hin rfl (by decide +kernel) (by rw [cE_8 gk_0]; rfl) rfl rfl wf_X8_39 dX8_init_62 (fun H locs hG => ?_)
  have hG : CH D cs a0 s (NX 6 99 0 0 24) Z0 99 H locs := hG.re NX_up rfl
  refine lv_aload_n hx hb dX8_init_65 rfl (lv_at hl 0 rfl) ?_
  have z99 : ∀ t, 99 ≤ t → NX 6 99 0 0 24 t = 0 := fun t ht => NX_z ht (by decide) (by decide) (by decide) (by decide)
  refine k_new C hG (cN_4 gk_99 (z99 _ (Nat.le_refl _))) rfl gn_X4 tyX4 tyX4_ok dv_4 wl_X8_43 wb_X4 wz_X4 (by decide) (by decide) dX8_init_66 (fun H hG => ?_)
  refine lv_dup hx hb dX8_init_69 rfl ?_
  refine k_callN C hG (c_X4_init l D cs a0 z99) wn_X8_45 wi_X4_init wz_X4 wc_X4_init rfl ei_X4 (by decide) (by decide) hl.1 (Nat.le_of_ble_eq_true rfl) dX8_init_70 (fun H locs hG => ?_)
  have hG : CH D cs a0 s (NX 6 102 0 0 24) Z0 102 H locs := hG.re (NX_fill (by decide) (by decide) (by decide) (by decide) (by decide)) rfl
  refine k_putR (k2 := 7) (ty := .object "ThirtyBirds$Orders") C hG (by decide) (cE_8 gk_0) rfl gn_X8 tyX8 tyX8_ok nmX8 6 (by decide) (by show 6 < 9; decide) rfl hin rfl (by decide +kernel) (by rw [cE_8 gk_0]; rfl) rfl rfl wf_X8_46 dX8_init_73 (fun H locs hG => ?_)
  have hG : CH D cs a0 s (NX 7 102 0 0 24) Z0 102 H locs := hG.re NX_up rfl
  refine lv_aload_n hx hb dX8_init_76 rfl (lv_at hl 0 rfl) ?_
  have z102 : ∀ t, 102 ≤ t → NX 7 102 0 0 24 t = 0 := fun t ht => NX_z ht (by decide) (by decide) (by decide) (by decide)
  refine k_new C hG (cN_1 gk_102 (z102 _ (Nat.le_refl _))) rfl gn_X1 tyX1 tyX1_ok dv_1 wl_X8_50 wb_X1 wz_X1 (by decide) (by decide) dX8_init_77 (fun H hG => ?_)
  refine lv_dup hx hb dX8_init_80 rfl ?_
  refine k_callN C hG (c_X1_init l D cs a0 z102) wn_X8_52 wi_X1_init wz_X1 wc_X1_init rfl ei_X1 (by decide) (by decide) hl.1 (Nat.le_of_ble_eq_true rfl) dX8_init_81 (fun H locs hG => ?_)
  have hG : CH D cs a0 s (NX 7 104 0 0 24) Z0 104 H locs := hG.re (NX_fill (by decide) (by decide) (by decide) (by decide) (by decide)) rfl
  refine k_putR (k2 := 8) (ty := .object "ThirtyBirds$Asks") C hG (by decide) (cE_8 gk_0) rfl gn_X8 tyX8 tyX8_ok nmX8 7 (by decide) (by show 7 < 9; decide) rfl hin rfl (by decide +kernel) (by rw [cE_8 gk_0]; rfl) rfl rfl wf_X8_53 dX8_init_84 (fun H locs hG => ?_)
  have hG : CH D cs a0 s (NX 8 104 0 0 24) Z0 104 H locs := hG.re NX_up rfl
  refine lv_aload_n hx hb dX8_init_87 rfl (lv_at hl 0 rfl) ?_
  refine lv_iconst (v := 0) hx hb dX8_init_88 (by decide) ?_
  refine k_put0 (ty := .int) C hG (by decide) (cE_8 gk_0) rfl gn_X8 tyX8 tyX8_ok nmX8 8 (by decide) (by show 8 < 9; decide) rfl (by decide +kernel) rfl rfl rfl wf_X8_57 dX8_init_89 (fun H locs hG => ?_)
  refine lv_iconst (v := 0) hx hb dX8_init_92 (by decide) ?_
  refine lv_istore_n (lv' := [(1, .int 0), (0, .ref (a0 + 0))]) hx hb dX8_init_93 rfl hl (by decide) rfl (fun ls hl => ?_)
  exact loopR 8 0 rfl H locs (hG.re rfl rfl) ls hl
