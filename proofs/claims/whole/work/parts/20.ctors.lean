theorem clim_le : ∀ k, clim k ≤ 30 := by
  intro k
  rcases Nat.lt_or_ge k 12 with h | h
  · exact (by decide : ∀ k, k < 12 → clim k ≤ 30) k h
  · have : clim k = 0 := by
      unfold clim
      rw [List.getD_eq_getElem?_getD, List.getElem?_eq_none (by exact h)]
      rfl
    omega
theorem fin_as {N N2 : Nat → Nat} {i j : Nat} (h1 : ∀ t, t < i → N2 t = N t) (h2 : ∀ t, i ≤ t → t < j → gK t < 12 ∧ clim (gK t) ≤ N2 t) : ∀ t, t < j → fill N i j t = N2 t ∨ (gK t < 12 ∧ clim (gK t) ≤ N2 t ∧ clim (gK t) ≤ fill N i j t) := by
  intro t ht
  by_cases q : i ≤ t
  · right
    refine ⟨(h2 t q ht).1, (h2 t q ht).2, ?_⟩
    have : fill N i j t = 30 := if_pos ⟨q, ht⟩
    rw [this]
    exact clim_le _
  · left
    have : fill N i j t = N t := if_neg (fun z => q z.1)
    rw [this, h1 t (by omega)]
theorem cN_0 {cs : Nat → ClassId} {a0 : Nat} {N : Nat → Nat} {i : Nat} (h : gK i = 0) (hN : N i = 0) : cE cs a0 N Z0 i = .inr (0, [.null, .int 0, .int 0]) := by rw [cE_0 h]; simp [rfn, hN]
theorem dv_0 : ∀ j, j < 3 → defaultValue (tyX0 j) = vp_V [.null, .int 0, .int 0] j := by
  intro j hj
  rcases (show j = 0 ∨ j = 1 ∨ j = 2 by omega) with rfl | rfl | rfl <;> rfl
theorem cN_1 {cs : Nat → ClassId} {a0 : Nat} {N : Nat → Nat} {i : Nat} (h : gK i = 1) (hN : N i = 0) : cE cs a0 N Z0 i = .inr (1, [.null, .int 0, .int 0, .int 0, .int 0, .int 0]) := by rw [cE_1 h]; simp [rfn, hN]
theorem dv_1 : ∀ j, j < 6 → defaultValue (tyX1 j) = vp_V [.null, .int 0, .int 0, .int 0, .int 0, .int 0] j := by
  intro j hj
  rcases (show j = 0 ∨ j = 1 ∨ j = 2 ∨ j = 3 ∨ j = 4 ∨ j = 5 by omega) with rfl | rfl | rfl | rfl | rfl | rfl <;> rfl
theorem cN_2 {cs : Nat → ClassId} {a0 : Nat} {N : Nat → Nat} {i : Nat} (h : gK i = 2) (hN : N i = 0) : cE cs a0 N Z0 i = .inr (2, [.null, .null]) := by rw [cE_2 h]; simp [rfn, hN]
theorem dv_2 : ∀ j, j < 2 → defaultValue (tyX2 j) = vp_V [.null, .null] j := by
  intro j hj
  rcases (show j = 0 ∨ j = 1 by omega) with rfl | rfl <;> rfl
theorem cN_3 {cs : Nat → ClassId} {a0 : Nat} {N : Nat → Nat} {i : Nat} (h : gK i = 3) (hN : N i = 0) : cE cs a0 N Z0 i = .inr (3, [.int 0, .int 0, .int 0, .int 0, .null, .null]) := by rw [cE_3 h]; simp [rfn, hN]
theorem dv_3 : ∀ j, j < 6 → defaultValue (tyX3 j) = vp_V [.int 0, .int 0, .int 0, .int 0, .null, .null] j := by
  intro j hj
  rcases (show j = 0 ∨ j = 1 ∨ j = 2 ∨ j = 3 ∨ j = 4 ∨ j = 5 by omega) with rfl | rfl | rfl | rfl | rfl | rfl <;> rfl
theorem cN_4 {cs : Nat → ClassId} {a0 : Nat} {N : Nat → Nat} {i : Nat} (h : gK i = 4) (hN : N i = 0) : cE cs a0 N Z0 i = .inr (4, [.null, .null, .int 0, .int 0]) := by rw [cE_4 h]; simp [rfn, hN]
theorem dv_4 : ∀ j, j < 4 → defaultValue (tyX4 j) = vp_V [.null, .null, .int 0, .int 0] j := by
  intro j hj
  rcases (show j = 0 ∨ j = 1 ∨ j = 2 ∨ j = 3 by omega) with rfl | rfl | rfl | rfl <;> rfl
theorem cN_5 {cs : Nat → ClassId} {a0 : Nat} {N : Nat → Nat} {i : Nat} (h : gK i = 5) (hN : N i = 0) : cE cs a0 N Z0 i = .inr (5, [.int 0, .int 0, .int 0, .null]) := by rw [cE_5 h]; simp [rfn, hN]
theorem dv_5 : ∀ j, j < 4 → defaultValue (tyX5 j) = vp_V [.int 0, .int 0, .int 0, .null] j := by
  intro j hj
  rcases (show j = 0 ∨ j = 1 ∨ j = 2 ∨ j = 3 by omega) with rfl | rfl | rfl | rfl <;> rfl
theorem cN_6 {cs : Nat → ClassId} {a0 : Nat} {N : Nat → Nat} {i : Nat} (h : gK i = 6) (hN : N i = 0) : cE cs a0 N Z0 i = .inr (6, [.null, .int 0, .int 0, .int 0, .int 0, .int 0]) := by rw [cE_6 h]; simp [rfn, hN]
theorem dv_6 : ∀ j, j < 6 → defaultValue (tyX6 j) = vp_V [.null, .int 0, .int 0, .int 0, .int 0, .int 0] j := by
  intro j hj
  rcases (show j = 0 ∨ j = 1 ∨ j = 2 ∨ j = 3 ∨ j = 4 ∨ j = 5 by omega) with rfl | rfl | rfl | rfl | rfl | rfl <;> rfl
theorem cN_7 {cs : Nat → ClassId} {a0 : Nat} {N : Nat → Nat} {i : Nat} (h : gK i = 7) (hN : N i = 0) : cE cs a0 N Z0 i = .inr (7, [.int 0, .int 0, .int 0, .null, .null, .null, .null, .null]) := by rw [cE_7 h]; simp [rfn, hN]
theorem dv_7 : ∀ j, j < 8 → defaultValue (tyX7 j) = vp_V [.int 0, .int 0, .int 0, .null, .null, .null, .null, .null] j := by
  intro j hj
  rcases (show j = 0 ∨ j = 1 ∨ j = 2 ∨ j = 3 ∨ j = 4 ∨ j = 5 ∨ j = 6 ∨ j = 7 by omega) with rfl | rfl | rfl | rfl | rfl | rfl | rfl | rfl <;> rfl
theorem cN_8 {cs : Nat → ClassId} {a0 : Nat} {N : Nat → Nat} {i : Nat} (h : gK i = 8) (hN : N i = 0) : cE cs a0 N Z0 i = .inr (8, [.null, .null, .null, .null, .null, .null, .null, .null, .int 0]) := by rw [cE_8 h]; simp [rfn, hN]
theorem dv_8 : ∀ j, j < 9 → defaultValue (tyX8 j) = vp_V [.null, .null, .null, .null, .null, .null, .null, .null, .int 0] j := by
  intro j hj
  rcases (show j = 0 ∨ j = 1 ∨ j = 2 ∨ j = 3 ∨ j = 4 ∨ j = 5 ∨ j = 6 ∨ j = 7 ∨ j = 8 by omega) with rfl | rfl | rfl | rfl | rfl | rfl | rfl | rfl | rfl <;> rfl
theorem cN_9 {cs : Nat → ClassId} {a0 : Nat} {N : Nat → Nat} {i : Nat} (h : gK i = 9) (hN : N i = 0) : cE cs a0 N Z0 i = .inr (9, [.null, .null, .null, .null, .int 0, .null, .int 0, .int 0, .int 0, .int 0, .int 0, .int 0, .int 0, .null, .null, .null, .null, .int 0, .null, .null, .null, .null, .null, .int 0]) := by rw [cE_9 h]; simp [rfn, hN]
theorem dv_9 : ∀ j, j < 24 → defaultValue (tyX9 j) = vp_V [.null, .null, .null, .null, .int 0, .null, .int 0, .int 0, .int 0, .int 0, .int 0, .int 0, .int 0, .null, .null, .null, .null, .int 0, .null, .null, .null, .null, .null, .int 0] j := by
  intro j hj
  rcases (show j = 0 ∨ j = 1 ∨ j = 2 ∨ j = 3 ∨ j = 4 ∨ j = 5 ∨ j = 6 ∨ j = 7 ∨ j = 8 ∨ j = 9 ∨ j = 10 ∨ j = 11 ∨ j = 12 ∨ j = 13 ∨ j = 14 ∨ j = 15 ∨ j = 16 ∨ j = 17 ∨ j = 18 ∨ j = 19 ∨ j = 20 ∨ j = 21 ∨ j = 22 ∨ j = 23 by omega) with rfl | rfl | rfl | rfl | rfl | rfl | rfl | rfl | rfl | rfl | rfl | rfl | rfl | rfl | rfl | rfl | rfl | rfl | rfl | rfl | rfl | rfl | rfl | rfl <;> rfl
theorem ei_X0 : yX0_init.cls ≠ "java/lang/invoke/MethodHandle" ∧ yX0_init.cls ≠ "java/lang/invoke/VarHandle" ∧ (parseMethodDescriptor yX0_init.desc).map (fun d => d.parameters.length) = some 0 := by decide +kernel
theorem ei_X1 : yX1_init.cls ≠ "java/lang/invoke/MethodHandle" ∧ yX1_init.cls ≠ "java/lang/invoke/VarHandle" ∧ (parseMethodDescriptor yX1_init.desc).map (fun d => d.parameters.length) = some 0 := by decide +kernel
theorem ei_X2 : yX2_init.cls ≠ "java/lang/invoke/MethodHandle" ∧ yX2_init.cls ≠ "java/lang/invoke/VarHandle" ∧ (parseMethodDescriptor yX2_init.desc).map (fun d => d.parameters.length) = some 0 := by decide +kernel
theorem ei_X3 : yX3_init.cls ≠ "java/lang/invoke/MethodHandle" ∧ yX3_init.cls ≠ "java/lang/invoke/VarHandle" ∧ (parseMethodDescriptor yX3_init.desc).map (fun d => d.parameters.length) = some 0 := by decide +kernel
theorem ei_X4 : yX4_init.cls ≠ "java/lang/invoke/MethodHandle" ∧ yX4_init.cls ≠ "java/lang/invoke/VarHandle" ∧ (parseMethodDescriptor yX4_init.desc).map (fun d => d.parameters.length) = some 0 := by decide +kernel
theorem ei_X5 : yX5_init.cls ≠ "java/lang/invoke/MethodHandle" ∧ yX5_init.cls ≠ "java/lang/invoke/VarHandle" ∧ (parseMethodDescriptor yX5_init.desc).map (fun d => d.parameters.length) = some 0 := by decide +kernel
theorem ei_X6 : yX6_init.cls ≠ "java/lang/invoke/MethodHandle" ∧ yX6_init.cls ≠ "java/lang/invoke/VarHandle" ∧ (parseMethodDescriptor yX6_init.desc).map (fun d => d.parameters.length) = some 0 := by decide +kernel
theorem ei_X7 : yX7_init.cls ≠ "java/lang/invoke/MethodHandle" ∧ yX7_init.cls ≠ "java/lang/invoke/VarHandle" ∧ (parseMethodDescriptor yX7_init.desc).map (fun d => d.parameters.length) = some 0 := by decide +kernel
theorem ei_X8 : yX8_init.cls ≠ "java/lang/invoke/MethodHandle" ∧ yX8_init.cls ≠ "java/lang/invoke/VarHandle" ∧ (parseMethodDescriptor yX8_init.desc).map (fun d => d.parameters.length) = some 0 := by decide +kernel
theorem ei_X9 : yX9_init.cls ≠ "java/lang/invoke/MethodHandle" ∧ yX9_init.cls ≠ "java/lang/invoke/VarHandle" ∧ (parseMethodDescriptor yX9_init.desc).map (fun d => d.parameters.length) = some 0 := by decide +kernel
set_option maxHeartbeats 4000000 in
set_option maxRecDepth 100000 in
theorem c_X3_init (l : Launch) (D : va_G) (cs : Nat → ClassId) (a0 : Nat) {i : Nat} {N : Nat → Nat} (hk : gK i = 3) (hN : ∀ t, i ≤ t → N t = 0) : CtC l yX3_init cX3_init 1 1 2 11 D cs a0 i N Z0 (i + 1) (fill N i (i + 3)) Z0 (i + 3) := by
  refine ct_c (own := RX3) (by decide) rfl rfl (by decide) ?_
  intro p e s m args below meth c Q C hin hr H locs hG ls hl
  have hx := C.1
  have hb := C.2.1
  have hN0 : N i = 0 := hN i (Nat.le_refl _)
  refine lv_aload_n hx hb dX3_init_0 rfl (lv_at hl 0 rfl) ?_
  refine k_obj C hl.1 wm_X3_3 (by decide) (Nat.le_of_ble_eq_true rfl) dX3_init_1 ?_
  refine lv_aload_n hx hb dX3_init_4 rfl (lv_at hl 0 rfl) ?_
  refine lv_iconst (v := 0) hx hb dX3_init_5 (by decide) ?_
  refine k_put0 (ty := .int) C hG (by omega) (cE_3 hk) rfl gn_X3 tyX3 tyX3_ok nmX3 0 (by decide) (by show 0 < 6; decide) rfl (by decide +kernel) rfl rfl rfl wf_X3_9 dX3_init_6 (fun H locs hG => ?_)
  refine lv_aload_n hx hb dX3_init_9 rfl (lv_at hl 0 rfl) ?_
  refine lv_iconst (v := 0) hx hb dX3_init_10 (by decide) ?_
  refine k_put0 (ty := .int) C hG (by omega) (cE_3 hk) rfl gn_X3 tyX3 tyX3_ok nmX3 1 (by decide) (by show 1 < 6; decide) rfl (by decide +kernel) rfl rfl rfl wf_X3_15 dX3_init_11 (fun H locs hG => ?_)
  refine lv_aload_n hx hb dX3_init_14 rfl (lv_at hl 0 rfl) ?_
  refine lv_iconst (v := 0) hx hb dX3_init_15 (by decide) ?_
  refine k_put0 (ty := .int) C hG (by omega) (cE_3 hk) rfl gn_X3 tyX3 tyX3_ok nmX3 2 (by decide) (by show 2 < 6; decide) rfl (by decide +kernel) rfl rfl rfl wf_X3_18 dX3_init_16 (fun H locs hG => ?_)
  refine lv_aload_n hx hb dX3_init_19 rfl (lv_at hl 0 rfl) ?_
  refine lv_iconst (v := 0) hx hb dX3_init_20 (by decide) ?_
  refine k_put0 (ty := .int) C hG (by omega) (cE_3 hk) rfl gn_X3 tyX3 tyX3_ok nmX3 3 (by decide) (by show 3 < 6; decide) rfl (by decide +kernel) rfl rfl rfl wf_X3_21 dX3_init_21 (fun H locs hG => ?_)
  refine lv_aload_n hx hb dX3_init_24 rfl (lv_at hl 0 rfl) ?_
  refine lv_bipush (v := 6) hx hb dX3_init_25 (by decide) ?_
  refine k_newa C hG (gk_X3_strong hk) (gl_X3_strong hk) rfl (by decide) (by decide) (by decide) (by decide) (by decide) dX3_init_27 (fun H hG => ?_)
  have hG : CH D cs a0 s (N) Z0 (i + 2) H locs := hG
  refine k_putR (k2 := 5) (ty := .array .int) C hG (by omega) (cE_3 hk) rfl gn_X3 tyX3 tyX3_ok nmX3 4 (by decide) (by show 4 < 6; decide) rfl hin rfl (by decide +kernel) (by rw [cE_3 hk]; simp [up, rfn, hN0]) rfl rfl wf_X3_24 dX3_init_29 (fun H locs hG => ?_)
  refine lv_aload_n hx hb dX3_init_32 rfl (lv_at hl 0 rfl) ?_
  refine lv_iconst (v := 5) hx hb dX3_init_33 (by decide) ?_
  refine k_newa C hG (gk_X3_line hk) (gl_X3_line hk) rfl (by decide) (by decide) (by decide) (by decide) (by decide) dX3_init_34 (fun H hG => ?_)
  have hG : CH D cs a0 s (up (N) i 5) Z0 (i + 3) H locs := hG
  refine k_putR (k2 := 6) (ty := .array .int) C hG (by omega) (cE_3 hk) rfl gn_X3 tyX3 tyX3_ok nmX3 5 (by decide) (by show 5 < 6; decide) rfl hin rfl (by decide +kernel) (by rw [cE_3 hk]; simp [up, rfn, hN0]) rfl rfl wf_X3_28 dX3_init_36 (fun H locs hG => ?_)
  refine hr (by decide) (by decide) (hG.as (fin_as (fun t ht => ?_) (fun t h1 h2 => ?_))) dX3_init_39
  · have ne : ¬ t = i := by omega
    simp [up, ne]
  · rcases (show t = i ∨ t = (i + 1) ∨ t = (i + 2) by omega) with rfl | rfl | rfl
    · rw [hk]
      exact ⟨by decide, by simp [up, clim]⟩
    · rw [gk_X3_strong hk]
      exact ⟨by decide, by simp [up, clim]⟩
    · rw [gk_X3_line hk]
      exact ⟨by decide, by simp [up, clim]⟩
set_option maxHeartbeats 4000000 in
set_option maxRecDepth 100000 in
theorem c_X7_init (l : Launch) (D : va_G) (cs : Nat → ClassId) (a0 : Nat) {i : Nat} {N : Nat → Nat} (hk : gK i = 7) (hN : ∀ t, i ≤ t → N t = 0) : CtC l yX7_init cX7_init 1 1 5 28 D cs a0 i N Z0 (i + 1) (fill N i (i + 6)) Z0 (i + 6) := by
  refine ct_c (own := RX7) (by decide) rfl rfl (by decide) ?_
  intro p e s m args below meth c Q C hin hr H locs hG ls hl
  have hx := C.1
  have hb := C.2.1
  have hN0 : N i = 0 := hN i (Nat.le_refl _)
  refine lv_aload_n hx hb dX7_init_0 rfl (lv_at hl 0 rfl) ?_
  refine k_obj C hl.1 wm_X7_3 (by decide) (Nat.le_of_ble_eq_true rfl) dX7_init_1 ?_
  refine lv_aload_n hx hb dX7_init_4 rfl (lv_at hl 0 rfl) ?_
  refine lv_iconst (v := 0) hx hb dX7_init_5 (by decide) ?_
  refine k_put0 (ty := .int) C hG (by omega) (cE_7 hk) rfl gn_X7 tyX7 tyX7_ok nmX7 0 (by decide) (by show 0 < 8; decide) rfl (by decide +kernel) rfl rfl rfl wf_X7_9 dX7_init_6 (fun H locs hG => ?_)
  refine lv_aload_n hx hb dX7_init_9 rfl (lv_at hl 0 rfl) ?_
  refine lv_iconst (v := 0) hx hb dX7_init_10 (by decide) ?_
  refine k_put0 (ty := .int) C hG (by omega) (cE_7 hk) rfl gn_X7 tyX7 tyX7_ok nmX7 1 (by decide) (by show 1 < 8; decide) rfl (by decide +kernel) rfl rfl rfl wf_X7_15 dX7_init_11 (fun H locs hG => ?_)
  refine lv_aload_n hx hb dX7_init_14 rfl (lv_at hl 0 rfl) ?_
  refine lv_iconst (v := 0) hx hb dX7_init_15 (by decide) ?_
  refine k_put0 (ty := .int) C hG (by omega) (cE_7 hk) rfl gn_X7 tyX7 tyX7_ok nmX7 2 (by decide) (by show 2 < 8; decide) rfl (by decide +kernel) rfl rfl rfl wf_X7_18 dX7_init_16 (fun H locs hG => ?_)
  refine lv_aload_n hx hb dX7_init_19 rfl (lv_at hl 0 rfl) ?_
  refine lv_iconst (v := 5) hx hb dX7_init_20 (by decide) ?_
  refine k_newa C hG (gk_X7_asks hk) (gl_X7_asks hk) rfl (by decide) (by decide) (by decide) (by decide) (by decide) dX7_init_21 (fun H hG => ?_)
  have hG : CH D cs a0 s (N) Z0 (i + 2) H locs := hG
  refine k_putR (k2 := 4) (ty := .array .int) C hG (by omega) (cE_7 hk) rfl gn_X7 tyX7 tyX7_ok nmX7 3 (by decide) (by show 3 < 8; decide) rfl hin rfl (by decide +kernel) (by rw [cE_7 hk]; simp [up, rfn, hN0]) rfl rfl wf_X7_21 dX7_init_23 (fun H locs hG => ?_)
  refine lv_aload_n hx hb dX7_init_26 rfl (lv_at hl 0 rfl) ?_
  refine lv_iconst (v := 5) hx hb dX7_init_27 (by decide) ?_
  refine k_newa C hG (gk_X7_losses hk) (gl_X7_losses hk) rfl (by decide) (by decide) (by decide) (by decide) (by decide) dX7_init_28 (fun H hG => ?_)
  have hG : CH D cs a0 s (up (N) i 4) Z0 (i + 3) H locs := hG
  refine k_putR (k2 := 5) (ty := .array .int) C hG (by omega) (cE_7 hk) rfl gn_X7 tyX7 tyX7_ok nmX7 4 (by decide) (by show 4 < 8; decide) rfl hin rfl (by decide +kernel) (by rw [cE_7 hk]; simp [up, rfn, hN0]) rfl rfl wf_X7_25 dX7_init_30 (fun H locs hG => ?_)
  refine lv_aload_n hx hb dX7_init_33 rfl (lv_at hl 0 rfl) ?_
  refine lv_bipush (v := 6) hx hb dX7_init_34 (by decide) ?_
  refine k_newa C hG (gk_X7_kinds hk) (gl_X7_kinds hk) rfl (by decide) (by decide) (by decide) (by decide) (by decide) dX7_init_36 (fun H hG => ?_)
  have hG : CH D cs a0 s (up (up (N) i 4) i 5) Z0 (i + 4) H locs := hG
  refine k_putR (k2 := 6) (ty := .array .int) C hG (by omega) (cE_7 hk) rfl gn_X7 tyX7 tyX7_ok nmX7 5 (by decide) (by show 5 < 8; decide) rfl hin rfl (by decide +kernel) (by rw [cE_7 hk]; simp [up, rfn, hN0]) rfl rfl wf_X7_28 dX7_init_38 (fun H locs hG => ?_)
  refine lv_aload_n hx hb dX7_init_41 rfl (lv_at hl 0 rfl) ?_
  refine lv_bipush (v := 6) hx hb dX7_init_42 (by decide) ?_
  refine k_newa C hG (gk_X7_leaves hk) (gl_X7_leaves hk) rfl (by decide) (by decide) (by decide) (by decide) (by decide) dX7_init_44 (fun H hG => ?_)
  have hG : CH D cs a0 s (up (up (up (N) i 4) i 5) i 6) Z0 (i + 5) H locs := hG
  refine k_putR (k2 := 7) (ty := .array .int) C hG (by omega) (cE_7 hk) rfl gn_X7 tyX7 tyX7_ok nmX7 6 (by decide) (by show 6 < 8; decide) rfl hin rfl (by decide +kernel) (by rw [cE_7 hk]; simp [up, rfn, hN0]) rfl rfl wf_X7_31 dX7_init_46 (fun H locs hG => ?_)
  refine lv_aload_n hx hb dX7_init_49 rfl (lv_at hl 0 rfl) ?_
  refine lv_bipush (v := 6) hx hb dX7_init_50 (by decide) ?_
  refine k_newa C hG (gk_X7_loves hk) (gl_X7_loves hk) rfl (by decide) (by decide) (by decide) (by decide) (by decide) dX7_init_52 (fun H hG => ?_)
  have hG : CH D cs a0 s (up (up (up (up (N) i 4) i 5) i 6) i 7) Z0 (i + 6) H locs := hG
  refine k_putR (k2 := 8) (ty := .array .int) C hG (by omega) (cE_7 hk) rfl gn_X7 tyX7 tyX7_ok nmX7 7 (by decide) (by show 7 < 8; decide) rfl hin rfl (by decide +kernel) (by rw [cE_7 hk]; simp [up, rfn, hN0]) rfl rfl wf_X7_34 dX7_init_54 (fun H locs hG => ?_)
  refine hr (by decide) (by decide) (hG.as (fin_as (fun t ht => ?_) (fun t h1 h2 => ?_))) dX7_init_57
  · have ne : ¬ t = i := by omega
    simp [up, ne]
  · rcases (show t = i ∨ t = (i + 1) ∨ t = (i + 2) ∨ t = (i + 3) ∨ t = (i + 4) ∨ t = (i + 5) by omega) with rfl | rfl | rfl | rfl | rfl | rfl
    · rw [hk]
      exact ⟨by decide, by simp [up, clim]⟩
    · rw [gk_X7_asks hk]
      exact ⟨by decide, by simp [up, clim]⟩
    · rw [gk_X7_losses hk]
      exact ⟨by decide, by simp [up, clim]⟩
    · rw [gk_X7_kinds hk]
      exact ⟨by decide, by simp [up, clim]⟩
    · rw [gk_X7_leaves hk]
      exact ⟨by decide, by simp [up, clim]⟩
    · rw [gk_X7_loves hk]
      exact ⟨by decide, by simp [up, clim]⟩
set_option maxHeartbeats 4000000 in
set_option maxRecDepth 100000 in
theorem c_X5_init (l : Launch) (D : va_G) (cs : Nat → ClassId) (a0 : Nat) {i : Nat} {N : Nat → Nat} (hk : gK i = 5) (hN : ∀ t, i ≤ t → N t = 0) : CtC l yX5_init cX5_init 1 1 1 40 D cs a0 i N Z0 (i + 1) (fill N i (i + 2)) Z0 (i + 2) := by
  refine ct_c (own := RX5) (by decide) rfl rfl (by decide) ?_
  intro p e s m args below meth c Q C hin hr H locs hG ls hl
  have hx := C.1
  have hb := C.2.1
  have hN0 : N i = 0 := hN i (Nat.le_refl _)
  refine lv_aload_n hx hb dX5_init_0 rfl (lv_at hl 0 rfl) ?_
  refine k_obj C hl.1 wm_X5_3 (by decide) (Nat.le_of_ble_eq_true rfl) dX5_init_1 ?_
  refine lv_aload_n hx hb dX5_init_4 rfl (lv_at hl 0 rfl) ?_
  refine lv_iconst (v := 0) hx hb dX5_init_5 (by decide) ?_
  refine k_put0 (ty := .boolean) C hG (by omega) (cE_5 hk) rfl gn_X5 tyX5 tyX5_ok nmX5 0 (by decide) (by show 0 < 4; decide) rfl (by decide +kernel) rfl rfl rfl wf_X5_9 dX5_init_6 (fun H locs hG => ?_)
  refine lv_aload_n hx hb dX5_init_9 rfl (lv_at hl 0 rfl) ?_
  refine lv_iconst (v := 0) hx hb dX5_init_10 (by decide) ?_
  refine k_put0 (ty := .int) C hG (by omega) (cE_5 hk) rfl gn_X5 tyX5 tyX5_ok nmX5 1 (by decide) (by show 1 < 4; decide) rfl (by decide +kernel) rfl rfl rfl wf_X5_15 dX5_init_11 (fun H locs hG => ?_)
  refine lv_aload_n hx hb dX5_init_14 rfl (lv_at hl 0 rfl) ?_
  refine lv_iconst (v := 0) hx hb dX5_init_15 (by decide) ?_
  refine k_put0 (ty := .int) C hG (by omega) (cE_5 hk) rfl gn_X5 tyX5 tyX5_ok nmX5 2 (by decide) (by show 2 < 4; decide) rfl (by decide +kernel) rfl rfl rfl wf_X5_19 dX5_init_16 (fun H locs hG => ?_)
  refine lv_aload_n hx hb dX5_init_19 rfl (lv_at hl 0 rfl) ?_
  refine lv_bipush (v := 40) hx hb dX5_init_20 (by decide) ?_
  refine k_newa C hG (gk_X5_items hk) (gl_X5_items hk) rfl (by decide) (by decide) (by decide) (by decide) (by decide) dX5_init_22 (fun H hG => ?_)
  have hG : CH D cs a0 s (N) Z0 (i + 2) H locs := hG
  refine k_putR (k2 := 4) (ty := .array .int) C hG (by omega) (cE_5 hk) rfl gn_X5 tyX5 tyX5_ok nmX5 3 (by decide) (by show 3 < 4; decide) rfl hin rfl (by decide +kernel) (by rw [cE_5 hk]; simp [up, rfn, hN0]) rfl rfl wf_X5_22 dX5_init_24 (fun H locs hG => ?_)
  refine hr (by decide) (by decide) (hG.as (fin_as (fun t ht => ?_) (fun t h1 h2 => ?_))) dX5_init_27
  · have ne : ¬ t = i := by omega
    simp [up, ne]
  · rcases (show t = i ∨ t = (i + 1) by omega) with rfl | rfl
    · rw [hk]
      exact ⟨by decide, by simp [up, clim]⟩
    · rw [gk_X5_items hk]
      exact ⟨by decide, by simp [up, clim]⟩
set_option maxHeartbeats 4000000 in
set_option maxRecDepth 100000 in
theorem c_X6_init (l : Launch) (D : va_G) (cs : Nat → ClassId) (a0 : Nat) {N : Nat → Nat} (hN : ∀ t, 2 ≤ t → N t = 0) : CtC l yX6_init cX6_init 1 1 1 120 D cs a0 2 N Z0 3 (fill N 2 4) Z0 4 := by
  refine ct_c (own := RX6) (by decide) rfl rfl (by decide) ?_
  intro p e s m args below meth c Q C hin hr H locs hG ls hl
  have hx := C.1
  have hb := C.2.1
  have hN0 : N 2 = 0 := hN 2 (Nat.le_refl _)
  have hk : gK 2 = 6 := gk_2
  refine lv_aload_n hx hb dX6_init_0 rfl (lv_at hl 0 rfl) ?_
  refine k_obj C hl.1 wm_X6_3 (by decide) (Nat.le_of_ble_eq_true rfl) dX6_init_1 ?_
  refine lv_aload_n hx hb dX6_init_4 rfl (lv_at hl 0 rfl) ?_
  refine lv_bipush (v := 120) hx hb dX6_init_5 (by decide) ?_
  refine k_newa C hG (gk_3) (gl_3) rfl (by decide) (by decide) (by decide) (by decide) (by decide) dX6_init_7 (fun H hG => ?_)
  have hG : CH D cs a0 s (N) Z0 4 H locs := hG
  refine k_putR (k2 := 1) (ty := .array .int) C hG (by omega) (cE_6 hk) rfl gn_X6 tyX6 tyX6_ok nmX6 0 (by decide) (by show 0 < 6; decide) rfl hin rfl (by decide +kernel) (by rw [cE_6 hk]; simp [up, rfn, hN0]) rfl rfl wf_X6_9 dX6_init_9 (fun H locs hG => ?_)
  refine lv_aload_n hx hb dX6_init_12 rfl (lv_at hl 0 rfl) ?_
  refine lv_iconst (v := 0) hx hb dX6_init_13 (by decide) ?_
  refine k_put0 (ty := .int) C hG (by omega) (cE_6 hk) rfl gn_X6 tyX6 tyX6_ok nmX6 1 (by decide) (by show 1 < 6; decide) rfl (by decide +kernel) rfl rfl rfl wf_X6_15 dX6_init_14 (fun H locs hG => ?_)
  refine lv_aload_n hx hb dX6_init_17 rfl (lv_at hl 0 rfl) ?_
  refine lv_iconst (v := 0) hx hb dX6_init_18 (by decide) ?_
  refine k_put0 (ty := .int) C hG (by omega) (cE_6 hk) rfl gn_X6 tyX6 tyX6_ok nmX6 2 (by decide) (by show 2 < 6; decide) rfl (by decide +kernel) rfl rfl rfl wf_X6_19 dX6_init_19 (fun H locs hG => ?_)
  refine lv_aload_n hx hb dX6_init_22 rfl (lv_at hl 0 rfl) ?_
  refine lv_iconst (v := 0) hx hb dX6_init_23 (by decide) ?_
  refine k_put0 (ty := .int) C hG (by omega) (cE_6 hk) rfl gn_X6 tyX6 tyX6_ok nmX6 3 (by decide) (by show 3 < 6; decide) rfl (by decide +kernel) rfl rfl rfl wf_X6_22 dX6_init_24 (fun H locs hG => ?_)
  refine lv_aload_n hx hb dX6_init_27 rfl (lv_at hl 0 rfl) ?_
  refine lv_iconst (v := 0) hx hb dX6_init_28 (by decide) ?_
  refine k_put0 (ty := .int) C hG (by omega) (cE_6 hk) rfl gn_X6 tyX6 tyX6_ok nmX6 4 (by decide) (by show 4 < 6; decide) rfl (by decide +kernel) rfl rfl rfl wf_X6_25 dX6_init_29 (fun H locs hG => ?_)
  refine lv_aload_n hx hb dX6_init_32 rfl (lv_at hl 0 rfl) ?_
  refine lv_iconst (v := 0) hx hb dX6_init_33 (by decide) ?_
  refine k_put0 (ty := .boolean) C hG (by omega) (cE_6 hk) rfl gn_X6 tyX6 tyX6_ok nmX6 5 (by decide) (by show 5 < 6; decide) rfl (by decide +kernel) rfl rfl rfl wf_X6_28 dX6_init_34 (fun H locs hG => ?_)
  refine hr (by decide) (by decide) (hG.as (fin_as (fun t ht => ?_) (fun t h1 h2 => ?_))) dX6_init_37
  · have ne : ¬ t = 2 := by omega
    simp [up, ne]
  · rcases (show t = 2 ∨ t = 3 by omega) with rfl | rfl
    · rw [hk]
      exact ⟨by decide, by simp [up, clim]⟩
    · rw [gk_3]
      exact ⟨by decide, by simp [up, clim]⟩
set_option maxHeartbeats 4000000 in
set_option maxRecDepth 100000 in
theorem c_X4_init (l : Launch) (D : va_G) (cs : Nat → ClassId) (a0 : Nat) {N : Nat → Nat} (hN : ∀ t, 99 ≤ t → N t = 0) : CtC l yX4_init cX4_init 1 1 2 10 D cs a0 99 N Z0 100 (fill N 99 102) Z0 102 := by
  refine ct_c (own := RX4) (by decide) rfl rfl (by decide) ?_
  intro p e s m args below meth c Q C hin hr H locs hG ls hl
  have hx := C.1
  have hb := C.2.1
  have hN0 : N 99 = 0 := hN 99 (Nat.le_refl _)
  have hk : gK 99 = 4 := gk_99
  refine lv_aload_n hx hb dX4_init_0 rfl (lv_at hl 0 rfl) ?_
  refine k_obj C hl.1 wm_X4_3 (by decide) (Nat.le_of_ble_eq_true rfl) dX4_init_1 ?_
  refine lv_aload_n hx hb dX4_init_4 rfl (lv_at hl 0 rfl) ?_
  refine lv_iconst (v := 5) hx hb dX4_init_5 (by decide) ?_
  refine k_newa C hG (gk_100) (gl_100) rfl (by decide) (by decide) (by decide) (by decide) (by decide) dX4_init_6 (fun H hG => ?_)
  have hG : CH D cs a0 s (N) Z0 101 H locs := hG
  refine k_putR (k2 := 1) (ty := .array .int) C hG (by omega) (cE_4 hk) rfl gn_X4 tyX4 tyX4_ok nmX4 0 (by decide) (by show 0 < 4; decide) rfl hin rfl (by decide +kernel) (by rw [cE_4 hk]; simp [up, rfn, hN0]) rfl rfl wf_X4_9 dX4_init_8 (fun H locs hG => ?_)
  refine lv_aload_n hx hb dX4_init_11 rfl (lv_at hl 0 rfl) ?_
  refine lv_iconst (v := 5) hx hb dX4_init_12 (by decide) ?_
  refine k_newa C hG (gk_101) (gl_101) rfl (by decide) (by decide) (by decide) (by decide) (by decide) dX4_init_13 (fun H hG => ?_)
  have hG : CH D cs a0 s (up (N) 99 1) Z0 102 H locs := hG
  refine k_putR (k2 := 2) (ty := .array .int) C hG (by omega) (cE_4 hk) rfl gn_X4 tyX4 tyX4_ok nmX4 1 (by decide) (by show 1 < 4; decide) rfl hin rfl (by decide +kernel) (by rw [cE_4 hk]; simp [up, rfn, hN0]) rfl rfl wf_X4_15 dX4_init_15 (fun H locs hG => ?_)
  refine lv_aload_n hx hb dX4_init_18 rfl (lv_at hl 0 rfl) ?_
  refine lv_iconst (v := 0) hx hb dX4_init_19 (by decide) ?_
  refine k_put0 (ty := .int) C hG (by omega) (cE_4 hk) rfl gn_X4 tyX4 tyX4_ok nmX4 2 (by decide) (by show 2 < 4; decide) rfl (by decide +kernel) rfl rfl rfl wf_X4_18 dX4_init_20 (fun H locs hG => ?_)
  refine lv_aload_n hx hb dX4_init_23 rfl (lv_at hl 0 rfl) ?_
  refine lv_iconst (v := 0) hx hb dX4_init_24 (by decide) ?_
  refine k_put0 (ty := .int) C hG (by omega) (cE_4 hk) rfl gn_X4 tyX4 tyX4_ok nmX4 3 (by decide) (by show 3 < 4; decide) rfl (by decide +kernel) rfl rfl rfl wf_X4_22 dX4_init_25 (fun H locs hG => ?_)
  refine hr (by decide) (by decide) (hG.as (fin_as (fun t ht => ?_) (fun t h1 h2 => ?_))) dX4_init_28
  · have ne : ¬ t = 99 := by omega
    simp [up, ne]
  · rcases (show t = 99 ∨ t = 100 ∨ t = 101 by omega) with rfl | rfl | rfl
    · rw [hk]
      exact ⟨by decide, by simp [up, clim]⟩
    · rw [gk_100]
      exact ⟨by decide, by simp [up, clim]⟩
    · rw [gk_101]
      exact ⟨by decide, by simp [up, clim]⟩
set_option maxHeartbeats 4000000 in
set_option maxRecDepth 100000 in
theorem c_X1_init (l : Launch) (D : va_G) (cs : Nat → ClassId) (a0 : Nat) {N : Nat → Nat} (hN : ∀ t, 102 ≤ t → N t = 0) : CtC l yX1_init cX1_init 1 1 1 16 D cs a0 102 N Z0 103 (fill N 102 104) Z0 104 := by
  refine ct_c (own := RX1) (by decide) rfl rfl (by decide) ?_
  intro p e s m args below meth c Q C hin hr H locs hG ls hl
  have hx := C.1
  have hb := C.2.1
  have hN0 : N 102 = 0 := hN 102 (Nat.le_refl _)
  have hk : gK 102 = 1 := gk_102
  refine lv_aload_n hx hb dX1_init_0 rfl (lv_at hl 0 rfl) ?_
  refine k_obj C hl.1 wm_X1_3 (by decide) (Nat.le_of_ble_eq_true rfl) dX1_init_1 ?_
  refine lv_aload_n hx hb dX1_init_4 rfl (lv_at hl 0 rfl) ?_
  refine lv_bipush (v := 16) hx hb dX1_init_5 (by decide) ?_
  refine k_newa C hG (gk_103) (gl_103) rfl (by decide) (by decide) (by decide) (by decide) (by decide) dX1_init_7 (fun H hG => ?_)
  have hG : CH D cs a0 s (N) Z0 104 H locs := hG
  refine k_putR (k2 := 1) (ty := .array .int) C hG (by omega) (cE_1 hk) rfl gn_X1 tyX1 tyX1_ok nmX1 0 (by decide) (by show 0 < 6; decide) rfl hin rfl (by decide +kernel) (by rw [cE_1 hk]; simp [up, rfn, hN0]) rfl rfl wf_X1_9 dX1_init_9 (fun H locs hG => ?_)
  refine lv_aload_n hx hb dX1_init_12 rfl (lv_at hl 0 rfl) ?_
  refine lv_iconst (v := 0) hx hb dX1_init_13 (by decide) ?_
  refine k_put0 (ty := .int) C hG (by omega) (cE_1 hk) rfl gn_X1 tyX1 tyX1_ok nmX1 1 (by decide) (by show 1 < 6; decide) rfl (by decide +kernel) rfl rfl rfl wf_X1_15 dX1_init_14 (fun H locs hG => ?_)
  refine lv_aload_n hx hb dX1_init_17 rfl (lv_at hl 0 rfl) ?_
  refine lv_iconst (v := 0) hx hb dX1_init_18 (by decide) ?_
  refine k_put0 (ty := .int) C hG (by omega) (cE_1 hk) rfl gn_X1 tyX1 tyX1_ok nmX1 2 (by decide) (by show 2 < 6; decide) rfl (by decide +kernel) rfl rfl rfl wf_X1_19 dX1_init_19 (fun H locs hG => ?_)
  refine lv_aload_n hx hb dX1_init_22 rfl (lv_at hl 0 rfl) ?_
  refine lv_iconst (v := 0) hx hb dX1_init_23 (by decide) ?_
  refine k_put0 (ty := .int) C hG (by omega) (cE_1 hk) rfl gn_X1 tyX1 tyX1_ok nmX1 3 (by decide) (by show 3 < 6; decide) rfl (by decide +kernel) rfl rfl rfl wf_X1_22 dX1_init_24 (fun H locs hG => ?_)
  refine lv_aload_n hx hb dX1_init_27 rfl (lv_at hl 0 rfl) ?_
  refine lv_iconst (v := 0) hx hb dX1_init_28 (by decide) ?_
  refine k_put0 (ty := .int) C hG (by omega) (cE_1 hk) rfl gn_X1 tyX1 tyX1_ok nmX1 4 (by decide) (by show 4 < 6; decide) rfl (by decide +kernel) rfl rfl rfl wf_X1_25 dX1_init_29 (fun H locs hG => ?_)
  refine lv_aload_n hx hb dX1_init_32 rfl (lv_at hl 0 rfl) ?_
  refine lv_iconst (v := 0) hx hb dX1_init_33 (by decide) ?_
  refine k_put0 (ty := .int) C hG (by omega) (cE_1 hk) rfl gn_X1 tyX1 tyX1_ok nmX1 5 (by decide) (by show 5 < 6; decide) rfl (by decide +kernel) rfl rfl rfl wf_X1_28 dX1_init_34 (fun H locs hG => ?_)
  refine hr (by decide) (by decide) (hG.as (fin_as (fun t ht => ?_) (fun t h1 h2 => ?_))) dX1_init_37
  · have ne : ¬ t = 102 := by omega
    simp [up, ne]
  · rcases (show t = 102 ∨ t = 103 by omega) with rfl | rfl
    · rw [hk]
      exact ⟨by decide, by simp [up, clim]⟩
    · rw [gk_103]
      exact ⟨by decide, by simp [up, clim]⟩
