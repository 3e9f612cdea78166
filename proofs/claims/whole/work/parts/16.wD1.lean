def f_X8_isWithin (x0 : Int32) (x1 : Int32) : Bool :=
  if x0 < (0 : Int32) then (
    false
  ) else (
    if x1 < x0 then (
      false
    ) else (
      true
    )
  )
theorem e_X8_isWithin : yX8_isWithin.cls ≠ "java/lang/invoke/MethodHandle" ∧ yX8_isWithin.cls ≠ "java/lang/invoke/VarHandle" ∧ (parseMethodDescriptor yX8_isWithin.desc).map (fun d => d.parameters.length) = some 2 := by decide +kernel
set_option maxHeartbeats 4000000 in
set_option maxRecDepth 100000 in
theorem c_X8_isWithin (l : Launch) (D : va_G) (cs : Nat → ClassId) (ad : Nat → Nat) (M : Mem) (x0 : Int32) (x1 : Int32) {z : Bool} (h : f_X8_isWithin x0 x1 = z) : CtI l yX8_isWithin cX8_isWithin 2 .boolean 0 D cs ad [.int x0, .int x1] M (bi z) M := by
  refine ct_z (own := RX8) (by decide) rfl (Nat.le_of_ble_eq_true rfl) ?_
  intro p e s m args below meth c Q C hr
  have hx := C.1
  have hb := C.2.1
  have hown := C.2.2.2.1
  have hts := C.2.2.2.2.1
  intro H locs hG ls hl
  have hl : lv_has ls 2 [(0, .int x0), (1, .int x1)] := hl
  unfold f_X8_isWithin at h
  refine lv_iload_n hx hb dX8_isWithin_0 rfl (lv_at hl 0 rfl) ?_
  refine lv_if_lt (tgt := 13) hx hb dX8_isWithin_1 (by decide) (fun c_1 => ?_) (fun c_1 => ?_)
  · have h := if_t c_1 h
    refine lv_iconst (v := 0) hx hb dX8_isWithin_13 (by decide) ?_
    exact hr (congrArg bi h) rfl hG dX8_isWithin_14
  · have h := if_f c_1 h
    refine lv_iload_n hx hb dX8_isWithin_4 rfl (lv_at hl 0 rfl) ?_
    refine lv_iload_n hx hb dX8_isWithin_5 rfl (lv_at hl 1 rfl) ?_
    refine lv_icmp_gt (tgt := 13) hx hb dX8_isWithin_6 (by decide) (fun c_6 => ?_) (fun c_6 => ?_)
    · have h := if_t c_6 h
      refine lv_iconst (v := 0) hx hb dX8_isWithin_13 (by decide) ?_
      exact hr (congrArg bi h) rfl hG dX8_isWithin_14
    · have h := if_f c_6 h
      refine lv_iconst (v := 1) hx hb dX8_isWithin_9 (by decide) ?_
      refine lv_goto (tgt := 14) hx hb dX8_isWithin_10 (by decide) ?_
      exact hr (congrArg bi h) rfl hG dX8_isWithin_14
def f_X8_isRow (x0 : Int32) : Bool :=
  (f_X8_isWithin x0 (7 : Int32))
theorem e_X8_isRow : yX8_isRow.cls ≠ "java/lang/invoke/MethodHandle" ∧ yX8_isRow.cls ≠ "java/lang/invoke/VarHandle" ∧ (parseMethodDescriptor yX8_isRow.desc).map (fun d => d.parameters.length) = some 1 := by decide +kernel
set_option maxHeartbeats 4000000 in
set_option maxRecDepth 100000 in
theorem c_X8_isRow (l : Launch) (D : va_G) (cs : Nat → ClassId) (ad : Nat → Nat) (M : Mem) (x0 : Int32) {z : Bool} (h : f_X8_isRow x0 = z) : CtI l yX8_isRow cX8_isRow 1 .boolean 1 D cs ad [.int x0] M (bi z) M := by
  refine ct_z (own := RX8) (by decide) rfl (Nat.le_of_ble_eq_true rfl) ?_
  intro p e s m args below meth c Q C hr
  have hx := C.1
  have hb := C.2.1
  have hown := C.2.2.2.1
  have hts := C.2.2.2.2.1
  intro H locs hG ls hl
  have hl : lv_has ls 1 [(0, .int x0)] := hl
  unfold f_X8_isRow at h
  refine lv_iload_n hx hb dX8_isRow_0 rfl (lv_at hl 0 rfl) ?_
  refine lv_bipush (v := 7) hx hb dX8_isRow_1 (by decide) ?_
  refine g_ci hG (g_runS C hG (c_X8_isWithin l D cs ad M x0 (7 : Int32) rfl) wm_X8_66 wt_X8_isWithin wz_X8 wc_X8_isWithin e_X8_isWithin (by decide) hl.1 (Nat.le_of_ble_eq_true rfl) dX8_isRow_3) (fun H locs hG => ?_)
  exact hr (congrArg bi h) rfl hG dX8_isRow_6
def f_X8_found (M : Mem) (x1 : Int32) : Int32 × Mem :=
  nm (st M 0 8 x1) fun M2 =>
  (((-1000010 : Int32) - x1), M2)
theorem e_X8_found : yX8_found.cls = RX8 ∧ yX8_found.cls ≠ "java/lang/invoke/MethodHandle" ∧ yX8_found.cls ≠ "java/lang/invoke/VarHandle" ∧ (parseMethodDescriptor yX8_found.desc).map (fun d => d.parameters.length) = some 1 := by decide +kernel
set_option maxHeartbeats 4000000 in
set_option maxRecDepth 100000 in
theorem c_X8_found (l : Launch) (D : va_G) (cs : Nat → ClassId) (ad : Nat → Nat) (M : Mem) (x1 : Int32) {z : Int32 × Mem} (h : f_X8_found M x1 = z) : CtI l yX8_found cX8_found 2 .int 0 D cs ad [.ref (ad 0), .int x1] M z.1 z.2 := by
  refine ct_i (own := RX8) (by decide) rfl (Nat.le_of_ble_eq_true rfl) ?_
  intro p e s m args below meth c Q C hr
  have hx := C.1
  have hb := C.2.1
  have hown := C.2.2.2.1
  have hts := C.2.2.2.2.1
  intro H locs hG ls hl
  have hl : lv_has ls 2 [(0, .ref (ad 0)), (1, .int x1)] := hl
  unfold f_X8_found at h
  refine lv_aload_n hx hb dX8_found_0 rfl (lv_at hl 0 rfl) ?_
  refine lv_iload_n hx hb dX8_found_1 rfl (lv_at hl 1 rfl) ?_
  refine gp_X8_finding C hG gk_0 wf_X8_57 dX8_found_2 (fun M2 e_2 H locs hG => ?_)
  have h := nm_at e_2 h
  refine lv_ldcw (v := -1000010) hx hb hown (hts _ wk_X8_311) dX8_found_5 ?_
  refine lv_iload_n hx hb dX8_found_8 rfl (lv_at hl 1 rfl) ?_
  refine lv_isub hx hb dX8_found_9 ?_
  exact hr (pf1 h) (pf2 h) hG dX8_found_10
def f_X8_well (M : Mem) (x1 : Int32) : Int32 × Mem :=
  nm (st M 0 8 (0 : Int32)) fun M2 =>
  (x1, M2)
theorem e_X8_well : yX8_well.cls = RX8 ∧ yX8_well.cls ≠ "java/lang/invoke/MethodHandle" ∧ yX8_well.cls ≠ "java/lang/invoke/VarHandle" ∧ (parseMethodDescriptor yX8_well.desc).map (fun d => d.parameters.length) = some 1 := by decide +kernel
set_option maxHeartbeats 4000000 in
set_option maxRecDepth 100000 in
theorem c_X8_well (l : Launch) (D : va_G) (cs : Nat → ClassId) (ad : Nat → Nat) (M : Mem) (x1 : Int32) {z : Int32 × Mem} (h : f_X8_well M x1 = z) : CtI l yX8_well cX8_well 2 .int 0 D cs ad [.ref (ad 0), .int x1] M z.1 z.2 := by
  refine ct_i (own := RX8) (by decide) rfl (Nat.le_of_ble_eq_true rfl) ?_
  intro p e s m args below meth c Q C hr
  have hx := C.1
  have hb := C.2.1
  have hown := C.2.2.2.1
  have hts := C.2.2.2.2.1
  intro H locs hG ls hl
  have hl : lv_has ls 2 [(0, .ref (ad 0)), (1, .int x1)] := hl
  unfold f_X8_well at h
  refine lv_aload_n hx hb dX8_well_0 rfl (lv_at hl 0 rfl) ?_
  refine lv_iconst (v := 0) hx hb dX8_well_1 (by decide) ?_
  refine gp_X8_finding C hG gk_0 wf_X8_57 dX8_well_2 (fun M2 e_2 H locs hG => ?_)
  have h := nm_at e_2 h
  refine lv_iload_n hx hb dX8_well_5 rfl (lv_at hl 1 rfl) ?_
  exact hr (pf1 h) (pf2 h) hG dX8_well_6
def f_X8_row (M : Mem) (x1 : Int32) (x2 : Int32) (x3 : Int32) : Option (Int32 × Mem) :=
  if (f_X8_isRow x1) = true then (
    if (f_X8_isWithin x2 (2 : Int32)) = true then (
      if x3 ≤ (40 : Int32) then (
        if (0 : Int32) ≤ x3 then (
          chk (ixb x1 8) <|
          (f_X5_begin M (104 + 2 * x1.toNatClampNeg) x2 x3).bind fun q42 =>
          nm (f_X8_well q42 x3) fun q47 =>
          some (q47.1, q47.2)
        ) else (
          nm (f_X8_found M (4 : Int32)) fun q30 =>
          some (q30.1, q30.2)
        )
      ) else (
        some ((-1000001 : Int32), M)
      )
    ) else (
      some ((-1000001 : Int32), M)
    )
  ) else (
    some ((-1000001 : Int32), M)
  )
theorem e_X8_row : yX8_row.cls = RX8 ∧ yX8_row.cls ≠ "java/lang/invoke/MethodHandle" ∧ yX8_row.cls ≠ "java/lang/invoke/VarHandle" ∧ (parseMethodDescriptor yX8_row.desc).map (fun d => d.parameters.length) = some 3 := by decide +kernel
set_option maxHeartbeats 4000000 in
set_option maxRecDepth 100000 in
theorem c_X8_row (l : Launch) (D : va_G) (cs : Nat → ClassId) (ad : Nat → Nat) (M : Mem) (x1 : Int32) (x2 : Int32) (x3 : Int32) {z : Int32 × Mem} (h : f_X8_row M x1 x2 x3 = some z) : CtI l yX8_row cX8_row 4 .int 2 D cs ad [.ref (ad 0), .int x1, .int x2, .int x3] M z.1 z.2 := by
  refine ct_i (own := RX8) (by decide) rfl (Nat.le_of_ble_eq_true rfl) ?_
  intro p e s m args below meth c Q C hr
  have hx := C.1
  have hb := C.2.1
  have hown := C.2.2.2.1
  have hts := C.2.2.2.2.1
  intro H locs hG ls hl
  have hl : lv_has ls 4 [(0, .ref (ad 0)), (1, .int x1), (2, .int x2), (3, .int x3)] := hl
  unfold f_X8_row at h
  refine lv_iload_n hx hb dX8_row_0 rfl (lv_at hl 1 rfl) ?_
  refine g_ci hG (g_runS C hG (c_X8_isRow l D cs ad M x1 rfl) wm_X8_62 wt_X8_isRow wz_X8 wc_X8_isRow e_X8_isRow (by decide) hl.1 (Nat.le_of_ble_eq_true rfl) dX8_row_1) (fun H locs hG => ?_)
  refine lv_if_eq (tgt := 21) hx hb dX8_row_4 (by decide) (fun c_4 => ?_) (fun c_4 => ?_)
  · have h := if_f (bi_f c_4) h
    refine lv_ldc (v := -1000001) hx hb hown (hts _ wk_X8_70) dX8_row_21 ?_
    exact hr (pf1 (Option.some.inj h)) (pf2 (Option.some.inj h)) hG dX8_row_23
  · have h := if_t (bi_t c_4) h
    refine lv_iload_n hx hb dX8_row_7 rfl (lv_at hl 2 rfl) ?_
    refine lv_iconst (v := 2) hx hb dX8_row_8 (by decide) ?_
    refine g_ci hG (g_runS C hG (c_X8_isWithin l D cs ad M x2 (2 : Int32) rfl) wm_X8_66 wt_X8_isWithin wz_X8 wc_X8_isWithin e_X8_isWithin (by decide) hl.1 (Nat.le_of_ble_eq_true rfl) dX8_row_9) (fun H locs hG => ?_)
    refine lv_if_eq (tgt := 21) hx hb dX8_row_12 (by decide) (fun c_12 => ?_) (fun c_12 => ?_)
    · have h := if_f (bi_f c_12) h
      refine lv_ldc (v := -1000001) hx hb hown (hts _ wk_X8_70) dX8_row_21 ?_
      exact hr (pf1 (Option.some.inj h)) (pf2 (Option.some.inj h)) hG dX8_row_23
    · have h := if_t (bi_t c_12) h
      refine lv_iload_n hx hb dX8_row_15 rfl (lv_at hl 3 rfl) ?_
      refine lv_bipush (v := 40) hx hb dX8_row_16 (by decide) ?_
      refine lv_icmp_le (tgt := 24) hx hb dX8_row_18 (by decide) (fun c_18 => ?_) (fun c_18 => ?_)
      · have h := if_t c_18 h
        refine lv_iload_n hx hb dX8_row_24 rfl (lv_at hl 3 rfl) ?_
        refine lv_if_ge (tgt := 34) hx hb dX8_row_25 (by decide) (fun c_25 => ?_) (fun c_25 => ?_)
        · have h := if_t c_25 h
          refine lv_aload_n hx hb dX8_row_34 rfl (lv_at hl 0 rfl) ?_
          refine gf_X8_rows C hG gk_0 wf_X8_11 dX8_row_35 ?_
          refine lv_iload_n hx hb dX8_row_38 rfl (lv_at hl 1 rfl) ?_
          obtain ⟨hi_39, h⟩ := ix_e h
          refine g_rowld C hG hi_39 dX8_row_39 ?_
          refine lv_iload_n hx hb dX8_row_40 rfl (lv_at hl 2 rfl) ?_
          refine lv_iload_n hx hb dX8_row_41 rfl (lv_at hl 3 rfl) ?_
          obtain ⟨q42, e_42, h⟩ := bd_e h
          refine g_cv hG (g_runV C hG (gR_5 (gk_row hi_39)) (c_X5_begin l D cs ad M (gk_row hi_39) x2 x3 e_42) wm_X8_75 wi_X5_begin ws_X5_begin wz_X5 wc_X5_begin e_X5_begin (by decide) hl.1 (Nat.le_of_ble_eq_true rfl) dX8_row_42) (fun H locs hG => ?_)
          refine lv_aload_n hx hb dX8_row_45 rfl (lv_at hl 0 rfl) ?_
          refine lv_iload_n hx hb dX8_row_46 rfl (lv_at hl 3 rfl) ?_
          obtain ⟨q47, e_47⟩ : ∃ y, f_X8_well q42 x3 = y := ⟨_, rfl⟩
          have h := nm_at e_47.symm h
          refine g_ci hG (g_runV C hG (gR_8 gk_0) (c_X8_well l D cs ad q42 x3 e_47) wm_X8_79 wi_X8_well ws_X8_well wz_X8 wc_X8_well e_X8_well (by decide) hl.1 (Nat.le_of_ble_eq_true rfl) dX8_row_47) (fun H locs hG => ?_)
          exact hr (pf1 (Option.some.inj h)) (pf2 (Option.some.inj h)) hG dX8_row_50
        · have h := if_f c_25 h
          refine lv_aload_n hx hb dX8_row_28 rfl (lv_at hl 0 rfl) ?_
          refine lv_iconst (v := 4) hx hb dX8_row_29 (by decide) ?_
          obtain ⟨q30, e_30⟩ : ∃ y, f_X8_found M (4 : Int32) = y := ⟨_, rfl⟩
          have h := nm_at e_30.symm h
          refine g_ci hG (g_runV C hG (gR_8 gk_0) (c_X8_found l D cs ad M (4 : Int32) e_30) wm_X8_71 wi_X8_found ws_X8_found wz_X8 wc_X8_found e_X8_found (by decide) hl.1 (Nat.le_of_ble_eq_true rfl) dX8_row_30) (fun H locs hG => ?_)
          exact hr (pf1 (Option.some.inj h)) (pf2 (Option.some.inj h)) hG dX8_row_33
      · have h := if_f c_18 h
        refine lv_ldc (v := -1000001) hx hb hown (hts _ wk_X8_70) dX8_row_21 ?_
        exact hr (pf1 (Option.some.inj h)) (pf2 (Option.some.inj h)) hG dX8_row_23
def f_X8_set (M : Mem) (x1 : Int32) (x2 : Int32) (x3 : Int32) : Option (Int32 × Mem) :=
  if (f_X8_isRow x1) = true then (
    chk (ixb x1 8) <|
    if (M (104 + 2 * x1.toNatClampNeg) 0) = (0 : Int32) then (
      nm (f_X8_found M (1 : Int32)) fun q28 =>
      some (q28.1, q28.2)
    ) else (
      if (f_X5_has M (104 + 2 * x1.toNatClampNeg) x2 (1 : Int32)) = true then (
        (f_X5_put M (104 + 2 * x1.toNatClampNeg) x2 x3).bind fun q53 =>
        nm (f_X8_well q53.2 q53.1) fun q56 =>
        some (q56.1, q56.2)
      ) else (
        nm (f_X8_found M (2 : Int32)) fun q44 =>
        some (q44.1, q44.2)
      )
    )
  ) else (
    some ((-1000001 : Int32), M)
  )
theorem e_X8_set : yX8_set.cls = RX8 ∧ yX8_set.cls ≠ "java/lang/invoke/MethodHandle" ∧ yX8_set.cls ≠ "java/lang/invoke/VarHandle" ∧ (parseMethodDescriptor yX8_set.desc).map (fun d => d.parameters.length) = some 3 := by decide +kernel
set_option maxHeartbeats 4000000 in
set_option maxRecDepth 100000 in
theorem c_X8_set (l : Launch) (D : va_G) (cs : Nat → ClassId) (ad : Nat → Nat) (M : Mem) (x1 : Int32) (x2 : Int32) (x3 : Int32) {z : Int32 × Mem} (h : f_X8_set M x1 x2 x3 = some z) : CtI l yX8_set cX8_set 5 .int 2 D cs ad [.ref (ad 0), .int x1, .int x2, .int x3] M z.1 z.2 := by
  refine ct_i (own := RX8) (by decide) rfl (Nat.le_of_ble_eq_true rfl) ?_
  intro p e s m args below meth c Q C hr
  have hx := C.1
  have hb := C.2.1
  have hown := C.2.2.2.1
  have hts := C.2.2.2.2.1
  intro H locs hG ls hl
  have hl : lv_has ls 5 [(0, .ref (ad 0)), (1, .int x1), (2, .int x2), (3, .int x3)] := hl
  unfold f_X8_set at h
  refine lv_iload_n hx hb dX8_set_0 rfl (lv_at hl 1 rfl) ?_
  refine g_ci hG (g_runS C hG (c_X8_isRow l D cs ad M x1 rfl) wm_X8_62 wt_X8_isRow wz_X8 wc_X8_isRow e_X8_isRow (by decide) hl.1 (Nat.le_of_ble_eq_true rfl) dX8_set_1) (fun H locs hG => ?_)
  refine lv_if_ne (tgt := 10) hx hb dX8_set_4 (by decide) (fun c_4 => ?_) (fun c_4 => ?_)
  · have h := if_t (bi_t c_4) h
    refine lv_aload_n hx hb dX8_set_10 rfl (lv_at hl 0 rfl) ?_
    refine gf_X8_rows C hG gk_0 wf_X8_11 dX8_set_11 ?_
    refine lv_iload_n hx hb dX8_set_14 rfl (lv_at hl 1 rfl) ?_
    obtain ⟨hi_15, h⟩ := ix_e h
    refine g_rowld C hG hi_15 dX8_set_15 ?_
    refine lv_astore (lv' := [(4, .ref (ad (104 + 2 * x1.toNatClampNeg))), (0, .ref (ad 0)), (1, .int x1), (2, .int x2), (3, .int x3)]) hx hb dX8_set_16 hl (by decide) rfl (fun ls hl => ?_)
    refine lv_aload hx hb dX8_set_18 (lv_at hl 0 rfl) ?_
    refine gf_X5_there C hG (gk_row hi_15) wf_X8_82 dX8_set_20 ?_
    refine lv_if_ne (tgt := 32) hx hb dX8_set_23 (by decide) (fun c_23 => ?_) (fun c_23 => ?_)
    · have h := if_f c_23 h
      refine lv_aload hx hb dX8_set_32 (lv_at hl 0 rfl) ?_
      refine lv_iload_n hx hb dX8_set_34 rfl (lv_at hl 3 rfl) ?_
      refine lv_iconst (v := 1) hx hb dX8_set_35 (by decide) ?_
      refine g_ci hG (g_runV C hG (gR_5 (gk_row hi_15)) (c_X5_has l D cs ad M (gk_row hi_15) x2 (1 : Int32) rfl) wm_X8_86 wi_X5_has ws_X5_has wz_X5 wc_X5_has e_X5_has (by decide) hl.1 (Nat.le_of_ble_eq_true rfl) dX8_set_36) (fun H locs hG => ?_)
      refine lv_if_ne (tgt := 48) hx hb dX8_set_39 (by decide) (fun c_39 => ?_) (fun c_39 => ?_)
      · have h := if_t (bi_t c_39) h
        refine lv_aload_n hx hb dX8_set_48 rfl (lv_at hl 1 rfl) ?_
        refine lv_aload hx hb dX8_set_49 (lv_at hl 0 rfl) ?_
        refine lv_iload_n hx hb dX8_set_51 rfl (lv_at hl 3 rfl) ?_
        refine lv_iload_n hx hb dX8_set_52 rfl (lv_at hl 4 rfl) ?_
        obtain ⟨q53, e_53, h⟩ := bd_e h
        refine g_ci hG (g_runV C hG (gR_5 (gk_row hi_15)) (c_X5_put l D cs ad M (gk_row hi_15) x2 x3 e_53) wm_X8_89 wi_X5_put ws_X5_put wz_X5 wc_X5_put e_X5_put (by decide) hl.1 (Nat.le_of_ble_eq_true rfl) dX8_set_53) (fun H locs hG => ?_)
        obtain ⟨q56, e_56⟩ : ∃ y, f_X8_well q53.2 q53.1 = y := ⟨_, rfl⟩
        have h := nm_at e_56.symm h
        refine g_ci hG (g_runV C hG (gR_8 gk_0) (c_X8_well l D cs ad q53.2 q53.1 e_56) wm_X8_79 wi_X8_well ws_X8_well wz_X8 wc_X8_well e_X8_well (by decide) hl.1 (Nat.le_of_ble_eq_true rfl) dX8_set_56) (fun H locs hG => ?_)
        exact hr (pf1 (Option.some.inj h)) (pf2 (Option.some.inj h)) hG dX8_set_59
      · have h := if_f (bi_f c_39) h
        refine lv_aload_n hx hb dX8_set_42 rfl (lv_at hl 1 rfl) ?_
        refine lv_iconst (v := 2) hx hb dX8_set_43 (by decide) ?_
        obtain ⟨q44, e_44⟩ : ∃ y, f_X8_found M (2 : Int32) = y := ⟨_, rfl⟩
        have h := nm_at e_44.symm h
        refine g_ci hG (g_runV C hG (gR_8 gk_0) (c_X8_found l D cs ad M (2 : Int32) e_44) wm_X8_71 wi_X8_found ws_X8_found wz_X8 wc_X8_found e_X8_found (by decide) hl.1 (Nat.le_of_ble_eq_true rfl) dX8_set_44) (fun H locs hG => ?_)
        exact hr (pf1 (Option.some.inj h)) (pf2 (Option.some.inj h)) hG dX8_set_47
    · have h := if_t c_23 h
      refine lv_aload_n hx hb dX8_set_26 rfl (lv_at hl 1 rfl) ?_
      refine lv_iconst (v := 1) hx hb dX8_set_27 (by decide) ?_
      obtain ⟨q28, e_28⟩ : ∃ y, f_X8_found M (1 : Int32) = y := ⟨_, rfl⟩
      have h := nm_at e_28.symm h
      refine g_ci hG (g_runV C hG (gR_8 gk_0) (c_X8_found l D cs ad M (1 : Int32) e_28) wm_X8_71 wi_X8_found ws_X8_found wz_X8 wc_X8_found e_X8_found (by decide) hl.1 (Nat.le_of_ble_eq_true rfl) dX8_set_28) (fun H locs hG => ?_)
      exact hr (pf1 (Option.some.inj h)) (pf2 (Option.some.inj h)) hG dX8_set_31
  · have h := if_f (bi_f c_4) h
    refine lv_ldc (v := -1000001) hx hb hown (hts _ wk_X8_70) dX8_set_7 ?_
    exact hr (pf1 (Option.some.inj h)) (pf2 (Option.some.inj h)) hG dX8_set_9
def f_X8_copy (M : Mem) (x1 : Int32) (x2 : Int32) (x3 : Int32) (x4 : Int32) (x5 : Int32) : Option (Int32 × Mem) :=
  if (f_X8_isRow x1) = true then (
    if (f_X8_isRow x3) = true then (
      chk (ixb x1 8) <|
      chk (ixb x3 8) <|
      if (M (104 + 2 * x1.toNatClampNeg) 0) = (0 : Int32) then (
        nm (f_X8_found M (1 : Int32)) fun q51 =>
        some (q51.1, q51.2)
      ) else (
        if (M (104 + 2 * x3.toNatClampNeg) 0) = (0 : Int32) then (
          nm (f_X8_found M (1 : Int32)) fun q51 =>
          some (q51.1, q51.2)
        ) else (
          if (M (104 + 2 * x1.toNatClampNeg) 1) = (M (104 + 2 * x3.toNatClampNeg) 1) then (
            if (f_X5_has M (104 + 2 * x1.toNatClampNeg) x2 x5) = true then (
              if (f_X5_has M (104 + 2 * x3.toNatClampNeg) x4 x5) = true then (
                chk (cpo x2 x5 40) <|
                chk (cpo x4 x5 40) <|
                nm (stA M ((104 + 2 * x3.toNatClampNeg) + 1) (va_cpy (M ((104 + 2 * x1.toNatClampNeg) + 1)) (M ((104 + 2 * x3.toNatClampNeg) + 1)) x2.toNatClampNeg (x4.toNatClampNeg) (x5.toNatClampNeg))) fun M118 =>
                nm (f_X8_well M118 x5) fun q124 =>
                some (q124.1, q124.2)
              ) else (
                nm (f_X8_found M (2 : Int32)) fun q99 =>
                some (q99.1, q99.2)
              )
            ) else (
              nm (f_X8_found M (2 : Int32)) fun q99 =>
              some (q99.1, q99.2)
            )
          ) else (
            nm (f_X8_found M (5 : Int32)) fun q70 =>
            some (q70.1, q70.2)
          )
        )
      )
    ) else (
      some ((-1000001 : Int32), M)
    )
  ) else (
    some ((-1000001 : Int32), M)
  )
theorem e_X8_copy : yX8_copy.cls = RX8 ∧ yX8_copy.cls ≠ "java/lang/invoke/MethodHandle" ∧ yX8_copy.cls ≠ "java/lang/invoke/VarHandle" ∧ (parseMethodDescriptor yX8_copy.desc).map (fun d => d.parameters.length) = some 5 := by decide +kernel
set_option maxHeartbeats 4000000 in
set_option maxRecDepth 100000 in
theorem c_X8_copy (l : Launch) (D : va_G) (cs : Nat → ClassId) (ad : Nat → Nat) (M : Mem) (x1 : Int32) (x2 : Int32) (x3 : Int32) (x4 : Int32) (x5 : Int32) {z : Int32 × Mem} (h : f_X8_copy M x1 x2 x3 x4 x5 = some z) : CtI l yX8_copy cX8_copy 8 .int 2 D cs ad [.ref (ad 0), .int x1, .int x2, .int x3, .int x4, .int x5] M z.1 z.2 := by
  refine ct_i (own := RX8) (by decide) rfl (Nat.le_of_ble_eq_true rfl) ?_
  intro p e s m args below meth c Q C hr
  have hx := C.1
  have hb := C.2.1
  have hown := C.2.2.2.1
  have hts := C.2.2.2.2.1
  intro H locs hG ls hl
  have hl : lv_has ls 8 [(0, .ref (ad 0)), (1, .int x1), (2, .int x2), (3, .int x3), (4, .int x4), (5, .int x5)] := hl
  unfold f_X8_copy at h
  refine lv_iload_n hx hb dX8_copy_0 rfl (lv_at hl 1 rfl) ?_
  refine g_ci hG (g_runS C hG (c_X8_isRow l D cs ad M x1 rfl) wm_X8_62 wt_X8_isRow wz_X8 wc_X8_isRow e_X8_isRow (by decide) hl.1 (Nat.le_of_ble_eq_true rfl) dX8_copy_1) (fun H locs hG => ?_)
  refine lv_if_eq (tgt := 14) hx hb dX8_copy_4 (by decide) (fun c_4 => ?_) (fun c_4 => ?_)
  · have h := if_f (bi_f c_4) h
    refine lv_ldc (v := -1000001) hx hb hown (hts _ wk_X8_70) dX8_copy_14 ?_
    exact hr (pf1 (Option.some.inj h)) (pf2 (Option.some.inj h)) hG dX8_copy_16
  · have h := if_t (bi_t c_4) h
    refine lv_iload_n hx hb dX8_copy_7 rfl (lv_at hl 3 rfl) ?_
    refine g_ci hG (g_runS C hG (c_X8_isRow l D cs ad M x3 rfl) wm_X8_62 wt_X8_isRow wz_X8 wc_X8_isRow e_X8_isRow (by decide) hl.1 (Nat.le_of_ble_eq_true rfl) dX8_copy_8) (fun H locs hG => ?_)
    refine lv_if_ne (tgt := 17) hx hb dX8_copy_11 (by decide) (fun c_11 => ?_) (fun c_11 => ?_)
    · have h := if_t (bi_t c_11) h
      refine lv_aload_n hx hb dX8_copy_17 rfl (lv_at hl 0 rfl) ?_
      refine gf_X8_rows C hG gk_0 wf_X8_11 dX8_copy_18 ?_
      refine lv_iload_n hx hb dX8_copy_21 rfl (lv_at hl 1 rfl) ?_
      obtain ⟨hi_22, h⟩ := ix_e h
      refine g_rowld C hG hi_22 dX8_copy_22 ?_
      refine lv_astore (lv' := [(6, .ref (ad (104 + 2 * x1.toNatClampNeg))), (0, .ref (ad 0)), (1, .int x1), (2, .int x2), (3, .int x3), (4, .int x4), (5, .int x5)]) hx hb dX8_copy_23 hl (by decide) rfl (fun ls hl => ?_)
      refine lv_aload_n hx hb dX8_copy_25 rfl (lv_at hl 1 rfl) ?_
      refine gf_X8_rows C hG gk_0 wf_X8_11 dX8_copy_26 ?_
      refine lv_iload_n hx hb dX8_copy_29 rfl (lv_at hl 4 rfl) ?_
      obtain ⟨hi_30, h⟩ := ix_e h
      refine g_rowld C hG hi_30 dX8_copy_30 ?_
      refine lv_astore (lv' := [(7, .ref (ad (104 + 2 * x3.toNatClampNeg))), (6, .ref (ad (104 + 2 * x1.toNatClampNeg))), (0, .ref (ad 0)), (1, .int x1), (2, .int x2), (3, .int x3), (4, .int x4), (5, .int x5)]) hx hb dX8_copy_31 hl (by decide) rfl (fun ls hl => ?_)
      refine lv_aload hx hb dX8_copy_33 (lv_at hl 1 rfl) ?_
      refine gf_X5_there C hG (gk_row hi_22) wf_X8_82 dX8_copy_35 ?_
      refine lv_if_eq (tgt := 49) hx hb dX8_copy_38 (by decide) (fun c_38 => ?_) (fun c_38 => ?_)
      · have h := if_t c_38 h
        refine lv_aload_n hx hb dX8_copy_49 rfl (lv_at hl 2 rfl) ?_
        refine lv_iconst (v := 1) hx hb dX8_copy_50 (by decide) ?_
        obtain ⟨q51, e_51⟩ : ∃ y, f_X8_found M (1 : Int32) = y := ⟨_, rfl⟩
        have h := nm_at e_51.symm h
        refine g_ci hG (g_runV C hG (gR_8 gk_0) (c_X8_found l D cs ad M (1 : Int32) e_51) wm_X8_71 wi_X8_found ws_X8_found wz_X8 wc_X8_found e_X8_found (by decide) hl.1 (Nat.le_of_ble_eq_true rfl) dX8_copy_51) (fun H locs hG => ?_)
        exact hr (pf1 (Option.some.inj h)) (pf2 (Option.some.inj h)) hG dX8_copy_54
      · have h := if_f c_38 h
        refine lv_aload hx hb dX8_copy_41 (lv_at hl 0 rfl) ?_
        refine gf_X5_there C hG (gk_row hi_30) wf_X8_82 dX8_copy_43 ?_
        refine lv_if_ne (tgt := 55) hx hb dX8_copy_46 (by decide) (fun c_46 => ?_) (fun c_46 => ?_)
        · have h := if_f c_46 h
          refine lv_aload hx hb dX8_copy_55 (lv_at hl 1 rfl) ?_
          refine gf_X5_lane C hG (gk_row hi_22) wf_X8_93 dX8_copy_57 ?_
          refine lv_aload hx hb dX8_copy_60 (lv_at hl 0 rfl) ?_
          refine gf_X5_lane C hG (gk_row hi_30) wf_X8_93 dX8_copy_62 ?_
          refine lv_icmp_eq (tgt := 74) hx hb dX8_copy_65 (by decide) (fun c_65 => ?_) (fun c_65 => ?_)
          · have h := if_t c_65 h
            refine lv_aload hx hb dX8_copy_74 (lv_at hl 1 rfl) ?_
            refine lv_iload_n hx hb dX8_copy_76 rfl (lv_at hl 4 rfl) ?_
            refine lv_iload hx hb dX8_copy_77 (lv_at hl 7 rfl) ?_
            refine g_ci hG (g_runV C hG (gR_5 (gk_row hi_22)) (c_X5_has l D cs ad M (gk_row hi_22) x2 x5 rfl) wm_X8_86 wi_X5_has ws_X5_has wz_X5 wc_X5_has e_X5_has (by decide) hl.1 (Nat.le_of_ble_eq_true rfl) dX8_copy_79) (fun H locs hG => ?_)
            refine lv_if_eq (tgt := 97) hx hb dX8_copy_82 (by decide) (fun c_82 => ?_) (fun c_82 => ?_)
            · have h := if_f (bi_f c_82) h
              refine lv_aload_n hx hb dX8_copy_97 rfl (lv_at hl 2 rfl) ?_
              refine lv_iconst (v := 2) hx hb dX8_copy_98 (by decide) ?_
              obtain ⟨q99, e_99⟩ : ∃ y, f_X8_found M (2 : Int32) = y := ⟨_, rfl⟩
              have h := nm_at e_99.symm h
              refine g_ci hG (g_runV C hG (gR_8 gk_0) (c_X8_found l D cs ad M (2 : Int32) e_99) wm_X8_71 wi_X8_found ws_X8_found wz_X8 wc_X8_found e_X8_found (by decide) hl.1 (Nat.le_of_ble_eq_true rfl) dX8_copy_99) (fun H locs hG => ?_)
              exact hr (pf1 (Option.some.inj h)) (pf2 (Option.some.inj h)) hG dX8_copy_102
            · have h := if_t (bi_t c_82) h
              refine lv_aload hx hb dX8_copy_85 (lv_at hl 0 rfl) ?_
              refine lv_iload hx hb dX8_copy_87 (lv_at hl 6 rfl) ?_
              refine lv_iload hx hb dX8_copy_89 (lv_at hl 7 rfl) ?_
              refine g_ci hG (g_runV C hG (gR_5 (gk_row hi_30)) (c_X5_has l D cs ad M (gk_row hi_30) x4 x5 rfl) wm_X8_86 wi_X5_has ws_X5_has wz_X5 wc_X5_has e_X5_has (by decide) hl.1 (Nat.le_of_ble_eq_true rfl) dX8_copy_91) (fun H locs hG => ?_)
              refine lv_if_ne (tgt := 103) hx hb dX8_copy_94 (by decide) (fun c_94 => ?_) (fun c_94 => ?_)
              · have h := if_t (bi_t c_94) h
                refine lv_aload hx hb dX8_copy_103 (lv_at hl 1 rfl) ?_
                refine gf_X5_items (j := ((104 + 2 * x1.toNatClampNeg) + 1)) C hG (gk_row hi_22) rfl wf_X8_96 dX8_copy_105 ?_
                refine lv_iload_n hx hb dX8_copy_108 rfl (lv_at hl 4 rfl) ?_
                refine lv_aload hx hb dX8_copy_109 (lv_at hl 0 rfl) ?_
                refine gf_X5_items (j := ((104 + 2 * x3.toNatClampNeg) + 1)) C hG (gk_row hi_30) rfl wf_X8_96 dX8_copy_111 ?_
                refine lv_iload hx hb dX8_copy_114 (lv_at hl 6 rfl) ?_
                refine lv_iload hx hb dX8_copy_116 (lv_at hl 7 rfl) ?_
                obtain ⟨hcs_118, h⟩ := cp_e h
                obtain ⟨hcd_118, h⟩ := cp_e h
                refine g_copy C hG hl.1 (gk_X5_items (gk_row hi_22)) (gl_X5_items (gk_row hi_22)) (gk_X5_items (gk_row hi_30)) (gl_X5_items (gk_row hi_30)) hcs_118 hcd_118 wm_X8_100 (by decide) (Nat.le_of_ble_eq_true rfl) dX8_copy_118 (fun M118 e_118 H locs hG => ?_)
                have h := nm_at e_118 h
                refine lv_aload_n hx hb dX8_copy_121 rfl (lv_at hl 2 rfl) ?_
                refine lv_iload hx hb dX8_copy_122 (lv_at hl 7 rfl) ?_
                obtain ⟨q124, e_124⟩ : ∃ y, f_X8_well M118 x5 = y := ⟨_, rfl⟩
                have h := nm_at e_124.symm h
                refine g_ci hG (g_runV C hG (gR_8 gk_0) (c_X8_well l D cs ad M118 x5 e_124) wm_X8_79 wi_X8_well ws_X8_well wz_X8 wc_X8_well e_X8_well (by decide) hl.1 (Nat.le_of_ble_eq_true rfl) dX8_copy_124) (fun H locs hG => ?_)
                exact hr (pf1 (Option.some.inj h)) (pf2 (Option.some.inj h)) hG dX8_copy_127
              · have h := if_f (bi_f c_94) h
                refine lv_aload_n hx hb dX8_copy_97 rfl (lv_at hl 2 rfl) ?_
                refine lv_iconst (v := 2) hx hb dX8_copy_98 (by decide) ?_
                obtain ⟨q99, e_99⟩ : ∃ y, f_X8_found M (2 : Int32) = y := ⟨_, rfl⟩
                have h := nm_at e_99.symm h
                refine g_ci hG (g_runV C hG (gR_8 gk_0) (c_X8_found l D cs ad M (2 : Int32) e_99) wm_X8_71 wi_X8_found ws_X8_found wz_X8 wc_X8_found e_X8_found (by decide) hl.1 (Nat.le_of_ble_eq_true rfl) dX8_copy_99) (fun H locs hG => ?_)
                exact hr (pf1 (Option.some.inj h)) (pf2 (Option.some.inj h)) hG dX8_copy_102
          · have h := if_f c_65 h
            refine lv_aload_n hx hb dX8_copy_68 rfl (lv_at hl 2 rfl) ?_
            refine lv_iconst (v := 5) hx hb dX8_copy_69 (by decide) ?_
            obtain ⟨q70, e_70⟩ : ∃ y, f_X8_found M (5 : Int32) = y := ⟨_, rfl⟩
            have h := nm_at e_70.symm h
            refine g_ci hG (g_runV C hG (gR_8 gk_0) (c_X8_found l D cs ad M (5 : Int32) e_70) wm_X8_71 wi_X8_found ws_X8_found wz_X8 wc_X8_found e_X8_found (by decide) hl.1 (Nat.le_of_ble_eq_true rfl) dX8_copy_70) (fun H locs hG => ?_)
            exact hr (pf1 (Option.some.inj h)) (pf2 (Option.some.inj h)) hG dX8_copy_73
        · have h := if_t c_46 h
          refine lv_aload_n hx hb dX8_copy_49 rfl (lv_at hl 2 rfl) ?_
          refine lv_iconst (v := 1) hx hb dX8_copy_50 (by decide) ?_
          obtain ⟨q51, e_51⟩ : ∃ y, f_X8_found M (1 : Int32) = y := ⟨_, rfl⟩
          have h := nm_at e_51.symm h
          refine g_ci hG (g_runV C hG (gR_8 gk_0) (c_X8_found l D cs ad M (1 : Int32) e_51) wm_X8_71 wi_X8_found ws_X8_found wz_X8 wc_X8_found e_X8_found (by decide) hl.1 (Nat.le_of_ble_eq_true rfl) dX8_copy_51) (fun H locs hG => ?_)
          exact hr (pf1 (Option.some.inj h)) (pf2 (Option.some.inj h)) hG dX8_copy_54
    · have h := if_f (bi_f c_11) h
      refine lv_ldc (v := -1000001) hx hb hown (hts _ wk_X8_70) dX8_copy_14 ?_
      exact hr (pf1 (Option.some.inj h)) (pf2 (Option.some.inj h)) hG dX8_copy_16
def f_X8_drop (M : Mem) (x1 : Int32) : Option (Int32 × Mem) :=
  if (f_X8_isRow x1) = true then (
    chk (ixb x1 8) <|
    if (M (104 + 2 * x1.toNatClampNeg) 0) = (0 : Int32) then (
      nm (f_X8_found M (1 : Int32)) fun q26 =>
      some (q26.1, q26.2)
    ) else (
      nm (st M (104 + 2 * x1.toNatClampNeg) 0 (0 : Int32)) fun M32 =>
      nm (f_X8_well M32 (M32 (104 + 2 * x1.toNatClampNeg) 2)) fun q40 =>
      some (q40.1, q40.2)
    )
  ) else (
    some ((-1000001 : Int32), M)
  )
theorem e_X8_drop : yX8_drop.cls = RX8 ∧ yX8_drop.cls ≠ "java/lang/invoke/MethodHandle" ∧ yX8_drop.cls ≠ "java/lang/invoke/VarHandle" ∧ (parseMethodDescriptor yX8_drop.desc).map (fun d => d.parameters.length) = some 1 := by decide +kernel
set_option maxHeartbeats 4000000 in
set_option maxRecDepth 100000 in
theorem c_X8_drop (l : Launch) (D : va_G) (cs : Nat → ClassId) (ad : Nat → Nat) (M : Mem) (x1 : Int32) {z : Int32 × Mem} (h : f_X8_drop M x1 = some z) : CtI l yX8_drop cX8_drop 3 .int 2 D cs ad [.ref (ad 0), .int x1] M z.1 z.2 := by
  refine ct_i (own := RX8) (by decide) rfl (Nat.le_of_ble_eq_true rfl) ?_
  intro p e s m args below meth c Q C hr
  have hx := C.1
  have hb := C.2.1
  have hown := C.2.2.2.1
  have hts := C.2.2.2.2.1
  intro H locs hG ls hl
  have hl : lv_has ls 3 [(0, .ref (ad 0)), (1, .int x1)] := hl
  unfold f_X8_drop at h
  refine lv_iload_n hx hb dX8_drop_0 rfl (lv_at hl 1 rfl) ?_
  refine g_ci hG (g_runS C hG (c_X8_isRow l D cs ad M x1 rfl) wm_X8_62 wt_X8_isRow wz_X8 wc_X8_isRow e_X8_isRow (by decide) hl.1 (Nat.le_of_ble_eq_true rfl) dX8_drop_1) (fun H locs hG => ?_)
  refine lv_if_ne (tgt := 10) hx hb dX8_drop_4 (by decide) (fun c_4 => ?_) (fun c_4 => ?_)
  · have h := if_t (bi_t c_4) h
    refine lv_aload_n hx hb dX8_drop_10 rfl (lv_at hl 0 rfl) ?_
    refine gf_X8_rows C hG gk_0 wf_X8_11 dX8_drop_11 ?_
    refine lv_iload_n hx hb dX8_drop_14 rfl (lv_at hl 1 rfl) ?_
    obtain ⟨hi_15, h⟩ := ix_e h
    refine g_rowld C hG hi_15 dX8_drop_15 ?_
    refine lv_astore_n (lv' := [(2, .ref (ad (104 + 2 * x1.toNatClampNeg))), (0, .ref (ad 0)), (1, .int x1)]) hx hb dX8_drop_16 rfl hl (by decide) rfl (fun ls hl => ?_)
    refine lv_aload_n hx hb dX8_drop_17 rfl (lv_at hl 0 rfl) ?_
    refine gf_X5_there C hG (gk_row hi_15) wf_X8_82 dX8_drop_18 ?_
    refine lv_if_ne (tgt := 30) hx hb dX8_drop_21 (by decide) (fun c_21 => ?_) (fun c_21 => ?_)
    · have h := if_f c_21 h
      refine lv_aload_n hx hb dX8_drop_30 rfl (lv_at hl 0 rfl) ?_
      refine lv_iconst (v := 0) hx hb dX8_drop_31 (by decide) ?_
      refine gp_X5_there C hG (gk_row hi_15) (by decide) (by decide) wf_X8_82 dX8_drop_32 (fun M32 e_32 H locs hG => ?_)
      have h := nm_at e_32 h
      refine lv_aload_n hx hb dX8_drop_35 rfl (lv_at hl 1 rfl) ?_
      refine lv_aload_n hx hb dX8_drop_36 rfl (lv_at hl 0 rfl) ?_
      refine gf_X5_length C hG (gk_row hi_15) wf_X8_106 dX8_drop_37 ?_
      obtain ⟨q40, e_40⟩ : ∃ y, f_X8_well M32 (M32 (104 + 2 * x1.toNatClampNeg) 2) = y := ⟨_, rfl⟩
      have h := nm_at e_40.symm h
      refine g_ci hG (g_runV C hG (gR_8 gk_0) (c_X8_well l D cs ad M32 (M32 (104 + 2 * x1.toNatClampNeg) 2) e_40) wm_X8_79 wi_X8_well ws_X8_well wz_X8 wc_X8_well e_X8_well (by decide) hl.1 (Nat.le_of_ble_eq_true rfl) dX8_drop_40) (fun H locs hG => ?_)
      exact hr (pf1 (Option.some.inj h)) (pf2 (Option.some.inj h)) hG dX8_drop_43
    · have h := if_t c_21 h
      refine lv_aload_n hx hb dX8_drop_24 rfl (lv_at hl 1 rfl) ?_
      refine lv_iconst (v := 1) hx hb dX8_drop_25 (by decide) ?_
      obtain ⟨q26, e_26⟩ : ∃ y, f_X8_found M (1 : Int32) = y := ⟨_, rfl⟩
      have h := nm_at e_26.symm h
      refine g_ci hG (g_runV C hG (gR_8 gk_0) (c_X8_found l D cs ad M (1 : Int32) e_26) wm_X8_71 wi_X8_found ws_X8_found wz_X8 wc_X8_found e_X8_found (by decide) hl.1 (Nat.le_of_ble_eq_true rfl) dX8_drop_26) (fun H locs hG => ?_)
      exact hr (pf1 (Option.some.inj h)) (pf2 (Option.some.inj h)) hG dX8_drop_29
  · have h := if_f (bi_f c_4) h
    refine lv_ldc (v := -1000001) hx hb hown (hts _ wk_X8_70) dX8_drop_7 ?_
    exact hr (pf1 (Option.some.inj h)) (pf2 (Option.some.inj h)) hG dX8_drop_9
def f_X8_feed (M : Mem) (x1 : Int32) : Option (Int32 × Mem) :=
  if (f_X8_isWithin x1 (255 : Int32)) = true then (
    (f_X6_add M x1).bind fun q18 =>
    if q18.1 = true then (
      some ((q18.2 2 1), q18.2)
    ) else (
      some ((-1000003 : Int32), q18.2)
    )
  ) else (
    some ((-1000001 : Int32), M)
  )
theorem e_X8_feed : yX8_feed.cls = RX8 ∧ yX8_feed.cls ≠ "java/lang/invoke/MethodHandle" ∧ yX8_feed.cls ≠ "java/lang/invoke/VarHandle" ∧ (parseMethodDescriptor yX8_feed.desc).map (fun d => d.parameters.length) = some 1 := by decide +kernel
set_option maxHeartbeats 4000000 in
set_option maxRecDepth 100000 in
theorem c_X8_feed (l : Launch) (D : va_G) (cs : Nat → ClassId) (ad : Nat → Nat) (M : Mem) (x1 : Int32) {z : Int32 × Mem} (h : f_X8_feed M x1 = some z) : CtI l yX8_feed cX8_feed 2 .int 1 D cs ad [.ref (ad 0), .int x1] M z.1 z.2 := by
  refine ct_i (own := RX8) (by decide) rfl (Nat.le_of_ble_eq_true rfl) ?_
  intro p e s m args below meth c Q C hr
  have hx := C.1
  have hb := C.2.1
  have hown := C.2.2.2.1
  have hts := C.2.2.2.2.1
  intro H locs hG ls hl
  have hl : lv_has ls 2 [(0, .ref (ad 0)), (1, .int x1)] := hl
  unfold f_X8_feed at h
  refine lv_iload_n hx hb dX8_feed_0 rfl (lv_at hl 1 rfl) ?_
  refine lv_sipush (v := 255) hx hb dX8_feed_1 (by decide) ?_
  refine g_ci hG (g_runS C hG (c_X8_isWithin l D cs ad M x1 (255 : Int32) rfl) wm_X8_66 wt_X8_isWithin wz_X8 wc_X8_isWithin e_X8_isWithin (by decide) hl.1 (Nat.le_of_ble_eq_true rfl) dX8_feed_4) (fun H locs hG => ?_)
  refine lv_if_ne (tgt := 13) hx hb dX8_feed_7 (by decide) (fun c_7 => ?_) (fun c_7 => ?_)
  · have h := if_t (bi_t c_7) h
    refine lv_aload_n hx hb dX8_feed_13 rfl (lv_at hl 0 rfl) ?_
    refine gf_X8_tape C hG gk_0 wf_X8_18 dX8_feed_14 ?_
    refine lv_iload_n hx hb dX8_feed_17 rfl (lv_at hl 1 rfl) ?_
    obtain ⟨q18, e_18, h⟩ := bd_e h
    refine g_ci hG (g_runV C hG (gR_6 gk_2) (c_X6_add l D cs ad M x1 e_18) wm_X8_109 wi_X6_add ws_X6_add wz_X6 wc_X6_add e_X6_add (by decide) hl.1 (Nat.le_of_ble_eq_true rfl) dX8_feed_18) (fun H locs hG => ?_)
    refine lv_if_eq (tgt := 34) hx hb dX8_feed_21 (by decide) (fun c_21 => ?_) (fun c_21 => ?_)
    · have h := if_f (bi_f c_21) h
      refine lv_ldc (v := -1000003) hx hb hown (hts _ wk_X8_113) dX8_feed_34 ?_
      exact hr (pf1 (Option.some.inj h)) (pf2 (Option.some.inj h)) hG dX8_feed_36
    · have h := if_t (bi_t c_21) h
      refine lv_aload_n hx hb dX8_feed_24 rfl (lv_at hl 0 rfl) ?_
      refine gf_X8_tape C hG gk_0 wf_X8_18 dX8_feed_25 ?_
      refine gf_X6_length C hG gk_2 wf_X8_112 dX8_feed_28 ?_
      refine lv_goto (tgt := 36) hx hb dX8_feed_31 (by decide) ?_
      exact hr (pf1 (Option.some.inj h)) (pf2 (Option.some.inj h)) hG dX8_feed_36
  · have h := if_f (bi_f c_7) h
    refine lv_ldc (v := -1000001) hx hb hown (hts _ wk_X8_70) dX8_feed_10 ?_
    exact hr (pf1 (Option.some.inj h)) (pf2 (Option.some.inj h)) hG dX8_feed_12
def f_X8_flight (M : Mem) : Option (Int32 × Mem) :=
  (f_X6_readInto M 14).bind fun q8 =>
  nm (st q8.2 2 1 (0 : Int32)) fun M17 =>
  if q8.1 = true then (
    nm (f_X2_become M17 4 14) fun q43 =>
    nm (f_X0_forgetAll q43) fun q50 =>
    some ((q50 5 2), q50)
  ) else (
    some (((-1000100 : Int32) - (M17 2 3)), M17)
  )
theorem e_X8_flight : yX8_flight.cls = RX8 ∧ yX8_flight.cls ≠ "java/lang/invoke/MethodHandle" ∧ yX8_flight.cls ≠ "java/lang/invoke/VarHandle" ∧ (parseMethodDescriptor yX8_flight.desc).map (fun d => d.parameters.length) = some 0 := by decide +kernel
set_option maxHeartbeats 4000000 in
set_option maxRecDepth 100000 in
theorem c_X8_flight (l : Launch) (D : va_G) (cs : Nat → ClassId) (ad : Nat → Nat) (M : Mem) {z : Int32 × Mem} (h : f_X8_flight M = some z) : CtI l yX8_flight cX8_flight 2 .int 5 D cs ad [.ref (ad 0)] M z.1 z.2 := by
  refine ct_i (own := RX8) (by decide) rfl (Nat.le_of_ble_eq_true rfl) ?_
  intro p e s m args below meth c Q C hr
  have hx := C.1
  have hb := C.2.1
  have hown := C.2.2.2.1
  have hts := C.2.2.2.2.1
  intro H locs hG ls hl
  have hl : lv_has ls 2 [(0, .ref (ad 0))] := hl
  unfold f_X8_flight at h
  refine lv_aload_n hx hb dX8_flight_0 rfl (lv_at hl 0 rfl) ?_
  refine gf_X8_tape C hG gk_0 wf_X8_18 dX8_flight_1 ?_
  refine lv_aload_n hx hb dX8_flight_4 rfl (lv_at hl 0 rfl) ?_
  refine gf_X8_trial C hG gk_0 wf_X8_29 dX8_flight_5 ?_
  obtain ⟨q8, e_8, h⟩ := bd_e h
  refine g_ci hG (g_runV C hG (gR_6 gk_2) (c_X6_readInto l D cs ad M gk_14 e_8) wm_X8_114 wi_X6_readInto ws_X6_readInto wz_X6 wc_X6_readInto e_X6_readInto (by decide) hl.1 (Nat.le_of_ble_eq_true rfl) dX8_flight_8) (fun H locs hG => ?_)
  refine lv_istore_n (lv' := [(1, .int (bi q8.1)), (0, .ref (ad 0))]) hx hb dX8_flight_11 rfl hl (by decide) rfl (fun ls hl => ?_)
  refine lv_aload_n hx hb dX8_flight_12 rfl (lv_at hl 1 rfl) ?_
  refine gf_X8_tape C hG gk_0 wf_X8_18 dX8_flight_13 ?_
  refine lv_iconst (v := 0) hx hb dX8_flight_16 (by decide) ?_
  refine gp_X6_length C hG gk_2 wf_X8_112 dX8_flight_17 (fun M17 e_17 H locs hG => ?_)
  have h := nm_at e_17 h
  refine lv_iload_n hx hb dX8_flight_20 rfl (lv_at hl 0 rfl) ?_
  refine lv_if_ne (tgt := 35) hx hb dX8_flight_21 (by decide) (fun c_21 => ?_) (fun c_21 => ?_)
  · have h := if_t (bi_t c_21) h
    refine lv_aload_n hx hb dX8_flight_35 rfl (lv_at hl 1 rfl) ?_
    refine gf_X8_now C hG gk_0 wf_X8_25 dX8_flight_36 ?_
    refine lv_aload_n hx hb dX8_flight_39 rfl (lv_at hl 1 rfl) ?_
    refine gf_X8_trial C hG gk_0 wf_X8_29 dX8_flight_40 ?_
    obtain ⟨q43, e_43⟩ : ∃ y, f_X2_become M17 4 14 = y := ⟨_, rfl⟩
    have h := nm_at e_43.symm h
    refine g_cv hG (g_runV C hG (gR_2 gk_4) (c_X2_become l D cs ad M17 gk_4 gk_14 e_43) wm_X8_122 wi_X2_become ws_X2_become wz_X2 wc_X2_become e_X2_become (by decide) hl.1 (Nat.le_of_ble_eq_true rfl) dX8_flight_43) (fun H locs hG => ?_)
    refine lv_aload_n hx hb dX8_flight_46 rfl (lv_at hl 1 rfl) ?_
    refine gf_X8_acts C hG gk_0 wf_X8_39 dX8_flight_47 ?_
    obtain ⟨q50, e_50⟩ : ∃ y, f_X0_forgetAll q43 = y := ⟨_, rfl⟩
    have h := nm_at e_50.symm h
    refine g_cv hG (g_runV C hG (gR_0 gk_25) (c_X0_forgetAll l D cs ad q43 e_50) wm_X8_126 wi_X0_forgetAll ws_X0_forgetAll wz_X0 wc_X0_forgetAll e_X0_forgetAll (by decide) hl.1 (Nat.le_of_ble_eq_true rfl) dX8_flight_50) (fun H locs hG => ?_)
    refine lv_aload_n hx hb dX8_flight_53 rfl (lv_at hl 1 rfl) ?_
    refine gf_X8_now C hG gk_0 wf_X8_25 dX8_flight_54 ?_
    refine gf_X2_told (j := 5) C hG gk_4 rfl wf_X8_129 dX8_flight_57 ?_
    refine gf_X7_birds C hG gk_5 wf_X8_133 dX8_flight_60 ?_
    exact hr (pf1 (Option.some.inj h)) (pf2 (Option.some.inj h)) hG dX8_flight_63
  · have h := if_f (bi_f c_21) h
    refine lv_ldc (v := -1000100) hx hb hown (hts _ wk_X8_118) dX8_flight_24 ?_
    refine lv_aload_n hx hb dX8_flight_26 rfl (lv_at hl 1 rfl) ?_
    refine gf_X8_tape C hG gk_0 wf_X8_18 dX8_flight_27 ?_
    refine gf_X6_faultPlace C hG gk_2 wf_X8_119 dX8_flight_30 ?_
    refine lv_isub hx hb dX8_flight_33 ?_
    exact hr (pf1 (Option.some.inj h)) (pf2 (Option.some.inj h)) hG dX8_flight_34
def f_X8_fault (M : Mem) : Int32 :=
  (M 2 2)
theorem e_X8_fault : yX8_fault.cls = RX8 ∧ yX8_fault.cls ≠ "java/lang/invoke/MethodHandle" ∧ yX8_fault.cls ≠ "java/lang/invoke/VarHandle" ∧ (parseMethodDescriptor yX8_fault.desc).map (fun d => d.parameters.length) = some 0 := by decide +kernel
set_option maxHeartbeats 4000000 in
set_option maxRecDepth 100000 in
theorem c_X8_fault (l : Launch) (D : va_G) (cs : Nat → ClassId) (ad : Nat → Nat) (M : Mem) {z : Int32} (h : f_X8_fault M = z) : CtI l yX8_fault cX8_fault 1 .int 0 D cs ad [.ref (ad 0)] M z M := by
  refine ct_i (own := RX8) (by decide) rfl (Nat.le_of_ble_eq_true rfl) ?_
  intro p e s m args below meth c Q C hr
  have hx := C.1
  have hb := C.2.1
  have hown := C.2.2.2.1
  have hts := C.2.2.2.2.1
  intro H locs hG ls hl
  have hl : lv_has ls 1 [(0, .ref (ad 0))] := hl
  unfold f_X8_fault at h
  refine lv_aload_n hx hb dX8_fault_0 rfl (lv_at hl 0 rfl) ?_
  refine gf_X8_tape C hG gk_0 wf_X8_18 dX8_fault_1 ?_
  refine gf_X6_faultNumber C hG gk_2 wf_X8_138 dX8_fault_4 ?_
  exact hr h rfl hG dX8_fault_7
def f_X8_fly (M : Mem) : Option (Int32 × Mem) :=
  if (1 : Int32) ≤ (f_X2_coming M 4) then (
    (f_X0_remember M 11).bind fun q25 =>
    (f_X2_flyNext q25 4).bind fun q32 =>
    some ((q32 11 0), q32)
  ) else (
    some ((-1000002 : Int32), M)
  )
theorem e_X8_fly : yX8_fly.cls = RX8 ∧ yX8_fly.cls ≠ "java/lang/invoke/MethodHandle" ∧ yX8_fly.cls ≠ "java/lang/invoke/VarHandle" ∧ (parseMethodDescriptor yX8_fly.desc).map (fun d => d.parameters.length) = some 0 := by decide +kernel
set_option maxHeartbeats 4000000 in
set_option maxRecDepth 100000 in
theorem c_X8_fly (l : Launch) (D : va_G) (cs : Nat → ClassId) (ad : Nat → Nat) (M : Mem) {z : Int32 × Mem} (h : f_X8_fly M = some z) : CtI l yX8_fly cX8_fly 1 .int 4 D cs ad [.ref (ad 0)] M z.1 z.2 := by
  refine ct_i (own := RX8) (by decide) rfl (Nat.le_of_ble_eq_true rfl) ?_
  intro p e s m args below meth c Q C hr
  have hx := C.1
  have hb := C.2.1
  have hown := C.2.2.2.1
  have hts := C.2.2.2.2.1
  intro H locs hG ls hl
  have hl : lv_has ls 1 [(0, .ref (ad 0))] := hl
  unfold f_X8_fly at h
  refine lv_aload_n hx hb dX8_fly_0 rfl (lv_at hl 0 rfl) ?_
  refine gf_X8_now C hG gk_0 wf_X8_25 dX8_fly_1 ?_
  refine g_ci hG (g_runV C hG (gR_2 gk_4) (c_X2_coming l D cs ad M gk_4 rfl) wm_X8_141 wi_X2_coming ws_X2_coming wz_X2 wc_X2_coming e_X2_coming (by decide) hl.1 (Nat.le_of_ble_eq_true rfl) dX8_fly_4) (fun H locs hG => ?_)
  refine lv_iconst (v := 1) hx hb dX8_fly_7 (by decide) ?_
  refine lv_icmp_ge (tgt := 14) hx hb dX8_fly_8 (by decide) (fun c_8 => ?_) (fun c_8 => ?_)
  · have h := if_t c_8 h
    refine lv_aload_n hx hb dX8_fly_14 rfl (lv_at hl 0 rfl) ?_
    refine gf_X8_acts C hG gk_0 wf_X8_39 dX8_fly_15 ?_
    refine lv_aload_n hx hb dX8_fly_18 rfl (lv_at hl 0 rfl) ?_
    refine gf_X8_now C hG gk_0 wf_X8_25 dX8_fly_19 ?_
    refine gf_X2_moment (j := 11) C hG gk_4 rfl wf_X8_146 dX8_fly_22 ?_
    obtain ⟨q25, e_25, h⟩ := bd_e h
    refine g_cv hG (g_runV C hG (gR_0 gk_25) (c_X0_remember l D cs ad M gk_11 e_25) wm_X8_150 wi_X0_remember ws_X0_remember wz_X0 wc_X0_remember e_X0_remember (by decide) hl.1 (Nat.le_of_ble_eq_true rfl) dX8_fly_25) (fun H locs hG => ?_)
    refine lv_aload_n hx hb dX8_fly_28 rfl (lv_at hl 0 rfl) ?_
    refine gf_X8_now C hG gk_0 wf_X8_25 dX8_fly_29 ?_
    obtain ⟨q32, e_32, h⟩ := bd_e h
    refine g_cv hG (g_runV C hG (gR_2 gk_4) (c_X2_flyNext l D cs ad q25 gk_4 e_32) wm_X8_154 wi_X2_flyNext ws_X2_flyNext wz_X2 wc_X2_flyNext e_X2_flyNext (by decide) hl.1 (Nat.le_of_ble_eq_true rfl) dX8_fly_32) (fun H locs hG => ?_)
    refine lv_aload_n hx hb dX8_fly_35 rfl (lv_at hl 0 rfl) ?_
    refine gf_X8_now C hG gk_0 wf_X8_25 dX8_fly_36 ?_
    refine gf_X2_moment (j := 11) C hG gk_4 rfl wf_X8_146 dX8_fly_39 ?_
    refine gf_X3_flying C hG gk_11 wf_X8_157 dX8_fly_42 ?_
    exact hr (pf1 (Option.some.inj h)) (pf2 (Option.some.inj h)) hG dX8_fly_45
  · have h := if_f c_8 h
    refine lv_ldc (v := -1000002) hx hb hown (hts _ wk_X8_145) dX8_fly_11 ?_
    exact hr (pf1 (Option.some.inj h)) (pf2 (Option.some.inj h)) hG dX8_fly_13
def f_X8_isBird (M : Mem) (x1 : Int32) : Bool :=
  if x1 < (0 : Int32) then (
    false
  ) else (
    if (M 5 2) ≤ x1 then (
      false
    ) else (
      true
    )
  )
theorem e_X8_isBird : yX8_isBird.cls = RX8 ∧ yX8_isBird.cls ≠ "java/lang/invoke/MethodHandle" ∧ yX8_isBird.cls ≠ "java/lang/invoke/VarHandle" ∧ (parseMethodDescriptor yX8_isBird.desc).map (fun d => d.parameters.length) = some 1 := by decide +kernel
set_option maxHeartbeats 4000000 in
set_option maxRecDepth 100000 in
theorem c_X8_isBird (l : Launch) (D : va_G) (cs : Nat → ClassId) (ad : Nat → Nat) (M : Mem) (x1 : Int32) {z : Bool} (h : f_X8_isBird M x1 = z) : CtI l yX8_isBird cX8_isBird 2 .boolean 0 D cs ad [.ref (ad 0), .int x1] M (bi z) M := by
  refine ct_z (own := RX8) (by decide) rfl (Nat.le_of_ble_eq_true rfl) ?_
  intro p e s m args below meth c Q C hr
  have hx := C.1
  have hb := C.2.1
  have hown := C.2.2.2.1
  have hts := C.2.2.2.2.1
  intro H locs hG ls hl
  have hl : lv_has ls 2 [(0, .ref (ad 0)), (1, .int x1)] := hl
  unfold f_X8_isBird at h
  refine lv_iload_n hx hb dX8_isBird_0 rfl (lv_at hl 1 rfl) ?_
  refine lv_if_lt (tgt := 22) hx hb dX8_isBird_1 (by decide) (fun c_1 => ?_) (fun c_1 => ?_)
  · have h := if_t c_1 h
    refine lv_iconst (v := 0) hx hb dX8_isBird_22 (by decide) ?_
    exact hr (congrArg bi h) rfl hG dX8_isBird_23
  · have h := if_f c_1 h
    refine lv_iload_n hx hb dX8_isBird_4 rfl (lv_at hl 1 rfl) ?_
    refine lv_aload_n hx hb dX8_isBird_5 rfl (lv_at hl 0 rfl) ?_
    refine gf_X8_now C hG gk_0 wf_X8_25 dX8_isBird_6 ?_
    refine gf_X2_told (j := 5) C hG gk_4 rfl wf_X8_129 dX8_isBird_9 ?_
    refine gf_X7_birds C hG gk_5 wf_X8_133 dX8_isBird_12 ?_
    refine lv_icmp_ge (tgt := 22) hx hb dX8_isBird_15 (by decide) (fun c_15 => ?_) (fun c_15 => ?_)
    · have h := if_t c_15 h
      refine lv_iconst (v := 0) hx hb dX8_isBird_22 (by decide) ?_
      exact hr (congrArg bi h) rfl hG dX8_isBird_23
    · have h := if_f c_15 h
      refine lv_iconst (v := 1) hx hb dX8_isBird_18 (by decide) ?_
      refine lv_goto (tgt := 23) hx hb dX8_isBird_19 (by decide) ?_
      exact hr (congrArg bi h) rfl hG dX8_isBird_23
def f_X8_eat (M : Mem) (x1 : Int32) : Option (Int32 × Mem) :=
  if (f_X8_isBird M x1) = true then (
    (f_X0_remember M 11).bind fun q22 =>
    (f_X2_strengthen q22 4 x1).bind fun q30 =>
    chk (ixb x1 6) <|
    some ((q30 12 x1.toNatClampNeg), q30)
  ) else (
    some ((-1000001 : Int32), M)
  )
theorem e_X8_eat : yX8_eat.cls = RX8 ∧ yX8_eat.cls ≠ "java/lang/invoke/MethodHandle" ∧ yX8_eat.cls ≠ "java/lang/invoke/VarHandle" ∧ (parseMethodDescriptor yX8_eat.desc).map (fun d => d.parameters.length) = some 1 := by decide +kernel
set_option maxHeartbeats 4000000 in
set_option maxRecDepth 100000 in
theorem c_X8_eat (l : Launch) (D : va_G) (cs : Nat → ClassId) (ad : Nat → Nat) (M : Mem) (x1 : Int32) {z : Int32 × Mem} (h : f_X8_eat M x1 = some z) : CtI l yX8_eat cX8_eat 2 .int 3 D cs ad [.ref (ad 0), .int x1] M z.1 z.2 := by
  refine ct_i (own := RX8) (by decide) rfl (Nat.le_of_ble_eq_true rfl) ?_
  intro p e s m args below meth c Q C hr
  have hx := C.1
  have hb := C.2.1
  have hown := C.2.2.2.1
  have hts := C.2.2.2.2.1
  intro H locs hG ls hl
  have hl : lv_has ls 2 [(0, .ref (ad 0)), (1, .int x1)] := hl
  unfold f_X8_eat at h
  refine lv_aload_n hx hb dX8_eat_0 rfl (lv_at hl 0 rfl) ?_
  refine lv_iload_n hx hb dX8_eat_1 rfl (lv_at hl 1 rfl) ?_
  refine g_ci hG (g_runV C hG (gR_8 gk_0) (c_X8_isBird l D cs ad M x1 rfl) wm_X8_162 wi_X8_isBird ws_X8_isBird wz_X8 wc_X8_isBird e_X8_isBird (by decide) hl.1 (Nat.le_of_ble_eq_true rfl) dX8_eat_2) (fun H locs hG => ?_)
  refine lv_if_ne (tgt := 11) hx hb dX8_eat_5 (by decide) (fun c_5 => ?_) (fun c_5 => ?_)
  · have h := if_t (bi_t c_5) h
    refine lv_aload_n hx hb dX8_eat_11 rfl (lv_at hl 0 rfl) ?_
    refine gf_X8_acts C hG gk_0 wf_X8_39 dX8_eat_12 ?_
    refine lv_aload_n hx hb dX8_eat_15 rfl (lv_at hl 0 rfl) ?_
    refine gf_X8_now C hG gk_0 wf_X8_25 dX8_eat_16 ?_
    refine gf_X2_moment (j := 11) C hG gk_4 rfl wf_X8_146 dX8_eat_19 ?_
    obtain ⟨q22, e_22, h⟩ := bd_e h
    refine g_cv hG (g_runV C hG (gR_0 gk_25) (c_X0_remember l D cs ad M gk_11 e_22) wm_X8_150 wi_X0_remember ws_X0_remember wz_X0 wc_X0_remember e_X0_remember (by decide) hl.1 (Nat.le_of_ble_eq_true rfl) dX8_eat_22) (fun H locs hG => ?_)
    refine lv_aload_n hx hb dX8_eat_25 rfl (lv_at hl 0 rfl) ?_
    refine gf_X8_now C hG gk_0 wf_X8_25 dX8_eat_26 ?_
    refine lv_iload_n hx hb dX8_eat_29 rfl (lv_at hl 1 rfl) ?_
    obtain ⟨q30, e_30, h⟩ := bd_e h
    refine g_cv hG (g_runV C hG (gR_2 gk_4) (c_X2_strengthen l D cs ad q22 gk_4 x1 e_30) wm_X8_165 wi_X2_strengthen ws_X2_strengthen wz_X2 wc_X2_strengthen e_X2_strengthen (by decide) hl.1 (Nat.le_of_ble_eq_true rfl) dX8_eat_30) (fun H locs hG => ?_)
    refine lv_aload_n hx hb dX8_eat_33 rfl (lv_at hl 0 rfl) ?_
    refine gf_X8_now C hG gk_0 wf_X8_25 dX8_eat_34 ?_
    refine gf_X2_moment (j := 11) C hG gk_4 rfl wf_X8_146 dX8_eat_37 ?_
    refine gf_X3_strong (j := 12) C hG gk_11 rfl wf_X8_169 dX8_eat_40 ?_
    refine lv_iload_n hx hb dX8_eat_43 rfl (lv_at hl 1 rfl) ?_
    obtain ⟨hi_44, h⟩ := ix_e h
    refine g_al C hG gk_12 gl_12 hi_44 rfl dX8_eat_44 ?_
    exact hr (pf1 (Option.some.inj h)) (pf2 (Option.some.inj h)) hG dX8_eat_45
  · have h := if_f (bi_f c_5) h
    refine lv_ldc (v := -1000001) hx hb hown (hts _ wk_X8_70) dX8_eat_8 ?_
    exact hr (pf1 (Option.some.inj h)) (pf2 (Option.some.inj h)) hG dX8_eat_10
def f_X8_keep (M : Mem) (x1 : Int32) (x2 : Int32) : Option (Int32 × Mem) :=
  if (f_X8_isBird M x1) = true then (
    if (f_X8_isWithin x2 (1 : Int32)) = true then (
      if (f_X8_bitOf (M 11 1) x1) = x2 then (
        some ((-1000002 : Int32), M)
      ) else (
        (f_X0_remember M 11).bind fun q47 =>
        nm (st q47 11 1 ((q47 11 1) ^^^ ((1 : Int32) <<< (x1 &&& 31)))) fun M59 =>
        some ((M59 11 1), M59)
      )
    ) else (
      some ((-1000001 : Int32), M)
    )
  ) else (
    some ((-1000001 : Int32), M)
  )
theorem e_X8_keep : yX8_keep.cls = RX8 ∧ yX8_keep.cls ≠ "java/lang/invoke/MethodHandle" ∧ yX8_keep.cls ≠ "java/lang/invoke/VarHandle" ∧ (parseMethodDescriptor yX8_keep.desc).map (fun d => d.parameters.length) = some 2 := by decide +kernel
set_option maxHeartbeats 4000000 in
set_option maxRecDepth 100000 in
theorem c_X8_keep (l : Launch) (D : va_G) (cs : Nat → ClassId) (ad : Nat → Nat) (M : Mem) (x1 : Int32) (x2 : Int32) {z : Int32 × Mem} (h : f_X8_keep M x1 x2 = some z) : CtI l yX8_keep cX8_keep 4 .int 3 D cs ad [.ref (ad 0), .int x1, .int x2] M z.1 z.2 := by
  refine ct_i (own := RX8) (by decide) rfl (Nat.le_of_ble_eq_true rfl) ?_
  intro p e s m args below meth c Q C hr
  have hx := C.1
  have hb := C.2.1
  have hown := C.2.2.2.1
  have hts := C.2.2.2.2.1
  intro H locs hG ls hl
  have hl : lv_has ls 4 [(0, .ref (ad 0)), (1, .int x1), (2, .int x2)] := hl
  unfold f_X8_keep at h
  refine lv_aload_n hx hb dX8_keep_0 rfl (lv_at hl 0 rfl) ?_
  refine lv_iload_n hx hb dX8_keep_1 rfl (lv_at hl 1 rfl) ?_
  refine g_ci hG (g_runV C hG (gR_8 gk_0) (c_X8_isBird l D cs ad M x1 rfl) wm_X8_162 wi_X8_isBird ws_X8_isBird wz_X8 wc_X8_isBird e_X8_isBird (by decide) hl.1 (Nat.le_of_ble_eq_true rfl) dX8_keep_2) (fun H locs hG => ?_)
  refine lv_if_eq (tgt := 16) hx hb dX8_keep_5 (by decide) (fun c_5 => ?_) (fun c_5 => ?_)
  · have h := if_f (bi_f c_5) h
    refine lv_ldc (v := -1000001) hx hb hown (hts _ wk_X8_70) dX8_keep_16 ?_
    exact hr (pf1 (Option.some.inj h)) (pf2 (Option.some.inj h)) hG dX8_keep_18
  · have h := if_t (bi_t c_5) h
    refine lv_iload_n hx hb dX8_keep_8 rfl (lv_at hl 2 rfl) ?_
    refine lv_iconst (v := 1) hx hb dX8_keep_9 (by decide) ?_
    refine g_ci hG (g_runS C hG (c_X8_isWithin l D cs ad M x2 (1 : Int32) rfl) wm_X8_66 wt_X8_isWithin wz_X8 wc_X8_isWithin e_X8_isWithin (by decide) hl.1 (Nat.le_of_ble_eq_true rfl) dX8_keep_10) (fun H locs hG => ?_)
    refine lv_if_ne (tgt := 19) hx hb dX8_keep_13 (by decide) (fun c_13 => ?_) (fun c_13 => ?_)
    · have h := if_t (bi_t c_13) h
      refine lv_aload_n hx hb dX8_keep_19 rfl (lv_at hl 0 rfl) ?_
      refine gf_X8_now C hG gk_0 wf_X8_25 dX8_keep_20 ?_
      refine gf_X2_moment (j := 11) C hG gk_4 rfl wf_X8_146 dX8_keep_23 ?_
      refine lv_astore_n (lv' := [(3, .ref (ad 11)), (0, .ref (ad 0)), (1, .int x1), (2, .int x2)]) hx hb dX8_keep_26 rfl hl (by decide) rfl (fun ls hl => ?_)
      refine lv_aload_n hx hb dX8_keep_27 rfl (lv_at hl 0 rfl) ?_
      refine gf_X3_kept C hG gk_11 wf_X8_172 dX8_keep_28 ?_
      refine lv_iload_n hx hb dX8_keep_31 rfl (lv_at hl 2 rfl) ?_
      refine g_ci hG (g_runS C hG (c_X8_bitOf l D cs ad M (M 11 1) x1 rfl) wm_X8_175 wt_X8_bitOf wz_X8 wc_X8_bitOf e_X8_bitOf (by decide) hl.1 (Nat.le_of_ble_eq_true rfl) dX8_keep_32) (fun H locs hG => ?_)
      refine lv_iload_n hx hb dX8_keep_35 rfl (lv_at hl 3 rfl) ?_
      refine lv_icmp_ne (tgt := 42) hx hb dX8_keep_36 (by decide) (fun c_36 => ?_) (fun c_36 => ?_)
      · have h := if_f c_36 h
        refine lv_aload_n hx hb dX8_keep_42 rfl (lv_at hl 1 rfl) ?_
        refine gf_X8_acts C hG gk_0 wf_X8_39 dX8_keep_43 ?_
        refine lv_aload_n hx hb dX8_keep_46 rfl (lv_at hl 0 rfl) ?_
        obtain ⟨q47, e_47, h⟩ := bd_e h
        refine g_cv hG (g_runV C hG (gR_0 gk_25) (c_X0_remember l D cs ad M gk_11 e_47) wm_X8_150 wi_X0_remember ws_X0_remember wz_X0 wc_X0_remember e_X0_remember (by decide) hl.1 (Nat.le_of_ble_eq_true rfl) dX8_keep_47) (fun H locs hG => ?_)
        refine lv_aload_n hx hb dX8_keep_50 rfl (lv_at hl 0 rfl) ?_
        refine lv_dup hx hb dX8_keep_51 rfl ?_
        refine gf_X3_kept C hG gk_11 wf_X8_172 dX8_keep_52 ?_
        refine lv_iconst (v := 1) hx hb dX8_keep_55 (by decide) ?_
        refine lv_iload_n hx hb dX8_keep_56 rfl (lv_at hl 2 rfl) ?_
        refine lv_ishl hx hb dX8_keep_57 ?_
        refine lv_ixor hx hb dX8_keep_58 ?_
        refine gp_X3_kept C hG gk_11 wf_X8_172 dX8_keep_59 (fun M59 e_59 H locs hG => ?_)
        have h := nm_at e_59 h
        refine lv_aload_n hx hb dX8_keep_62 rfl (lv_at hl 0 rfl) ?_
        refine gf_X3_kept C hG gk_11 wf_X8_172 dX8_keep_63 ?_
        exact hr (pf1 (Option.some.inj h)) (pf2 (Option.some.inj h)) hG dX8_keep_66
      · have h := if_t c_36 h
        refine lv_ldc (v := -1000002) hx hb hown (hts _ wk_X8_145) dX8_keep_39 ?_
        exact hr (pf1 (Option.some.inj h)) (pf2 (Option.some.inj h)) hG dX8_keep_41
    · have h := if_f (bi_f c_13) h
      refine lv_ldc (v := -1000001) hx hb hown (hts _ wk_X8_70) dX8_keep_16 ?_
      exact hr (pf1 (Option.some.inj h)) (pf2 (Option.some.inj h)) hG dX8_keep_18
def f_X8_call (M : Mem) (x1 : Int32) : Option (Int32 × Mem) :=
  if (f_X8_isBird M x1) = true then (
    if (f_X3_flies M 11 x1) = true then (
      some ((-1000002 : Int32), M)
    ) else (
      (f_X0_remember M 11).bind fun q35 =>
      nm (st q35 11 0 ((q35 11 0) ||| ((1 : Int32) <<< (x1 &&& 31)))) fun M47 =>
      some ((M47 11 0), M47)
    )
  ) else (
    some ((-1000001 : Int32), M)
  )
theorem e_X8_call : yX8_call.cls = RX8 ∧ yX8_call.cls ≠ "java/lang/invoke/MethodHandle" ∧ yX8_call.cls ≠ "java/lang/invoke/VarHandle" ∧ (parseMethodDescriptor yX8_call.desc).map (fun d => d.parameters.length) = some 1 := by decide +kernel
set_option maxHeartbeats 4000000 in
set_option maxRecDepth 100000 in
theorem c_X8_call (l : Launch) (D : va_G) (cs : Nat → ClassId) (ad : Nat → Nat) (M : Mem) (x1 : Int32) {z : Int32 × Mem} (h : f_X8_call M x1 = some z) : CtI l yX8_call cX8_call 3 .int 3 D cs ad [.ref (ad 0), .int x1] M z.1 z.2 := by
  refine ct_i (own := RX8) (by decide) rfl (Nat.le_of_ble_eq_true rfl) ?_
  intro p e s m args below meth c Q C hr
  have hx := C.1
  have hb := C.2.1
  have hown := C.2.2.2.1
  have hts := C.2.2.2.2.1
  intro H locs hG ls hl
  have hl : lv_has ls 3 [(0, .ref (ad 0)), (1, .int x1)] := hl
  unfold f_X8_call at h
  refine lv_aload_n hx hb dX8_call_0 rfl (lv_at hl 0 rfl) ?_
  refine lv_iload_n hx hb dX8_call_1 rfl (lv_at hl 1 rfl) ?_
  refine g_ci hG (g_runV C hG (gR_8 gk_0) (c_X8_isBird l D cs ad M x1 rfl) wm_X8_162 wi_X8_isBird ws_X8_isBird wz_X8 wc_X8_isBird e_X8_isBird (by decide) hl.1 (Nat.le_of_ble_eq_true rfl) dX8_call_2) (fun H locs hG => ?_)
  refine lv_if_ne (tgt := 11) hx hb dX8_call_5 (by decide) (fun c_5 => ?_) (fun c_5 => ?_)
  · have h := if_t (bi_t c_5) h
    refine lv_aload_n hx hb dX8_call_11 rfl (lv_at hl 0 rfl) ?_
    refine gf_X8_now C hG gk_0 wf_X8_25 dX8_call_12 ?_
    refine gf_X2_moment (j := 11) C hG gk_4 rfl wf_X8_146 dX8_call_15 ?_
    refine lv_astore_n (lv' := [(2, .ref (ad 11)), (0, .ref (ad 0)), (1, .int x1)]) hx hb dX8_call_18 rfl hl (by decide) rfl (fun ls hl => ?_)
    refine lv_aload_n hx hb dX8_call_19 rfl (lv_at hl 0 rfl) ?_
    refine lv_iload_n hx hb dX8_call_20 rfl (lv_at hl 2 rfl) ?_
    refine g_ci hG (g_runV C hG (gR_3 gk_11) (c_X3_flies l D cs ad M gk_11 x1 rfl) wm_X8_178 wi_X3_flies ws_X3_flies wz_X3 wc_X3_flies e_X3_flies (by decide) hl.1 (Nat.le_of_ble_eq_true rfl) dX8_call_21) (fun H locs hG => ?_)
    refine lv_if_eq (tgt := 30) hx hb dX8_call_24 (by decide) (fun c_24 => ?_) (fun c_24 => ?_)
    · have h := if_f (bi_f c_24) h
      refine lv_aload_n hx hb dX8_call_30 rfl (lv_at hl 1 rfl) ?_
      refine gf_X8_acts C hG gk_0 wf_X8_39 dX8_call_31 ?_
      refine lv_aload_n hx hb dX8_call_34 rfl (lv_at hl 0 rfl) ?_
      obtain ⟨q35, e_35, h⟩ := bd_e h
      refine g_cv hG (g_runV C hG (gR_0 gk_25) (c_X0_remember l D cs ad M gk_11 e_35) wm_X8_150 wi_X0_remember ws_X0_remember wz_X0 wc_X0_remember e_X0_remember (by decide) hl.1 (Nat.le_of_ble_eq_true rfl) dX8_call_35) (fun H locs hG => ?_)
      refine lv_aload_n hx hb dX8_call_38 rfl (lv_at hl 0 rfl) ?_
      refine lv_dup hx hb dX8_call_39 rfl ?_
      refine gf_X3_flying C hG gk_11 wf_X8_157 dX8_call_40 ?_
      refine lv_iconst (v := 1) hx hb dX8_call_43 (by decide) ?_
      refine lv_iload_n hx hb dX8_call_44 rfl (lv_at hl 2 rfl) ?_
      refine lv_ishl hx hb dX8_call_45 ?_
      refine lv_ior hx hb dX8_call_46 ?_
      refine gp_X3_flying C hG gk_11 wf_X8_157 dX8_call_47 (fun M47 e_47 H locs hG => ?_)
      have h := nm_at e_47 h
      refine lv_aload_n hx hb dX8_call_50 rfl (lv_at hl 0 rfl) ?_
      refine gf_X3_flying C hG gk_11 wf_X8_157 dX8_call_51 ?_
      exact hr (pf1 (Option.some.inj h)) (pf2 (Option.some.inj h)) hG dX8_call_54
    · have h := if_t (bi_t c_24) h
      refine lv_ldc (v := -1000002) hx hb hown (hts _ wk_X8_145) dX8_call_27 ?_
      exact hr (pf1 (Option.some.inj h)) (pf2 (Option.some.inj h)) hG dX8_call_29
  · have h := if_f (bi_f c_5) h
    refine lv_ldc (v := -1000001) hx hb hown (hts _ wk_X8_70) dX8_call_8 ?_
    exact hr (pf1 (Option.some.inj h)) (pf2 (Option.some.inj h)) hG dX8_call_10
def f_X8_swap (M : Mem) : Option (Int32 × Mem) :=
  if (2 : Int32) ≤ (f_X2_coming M 4) then (
    (f_X0_remember M 11).bind fun q27 =>
    (f_X8_exchange q27 13 (q27 11 3) ((q27 11 3) + (1 : Int32))).bind fun q44 =>
    chk (ixb (q44 11 3) 5) <|
    some ((q44 13 (q44 11 3).toNatClampNeg), q44)
  ) else (
    some ((-1000002 : Int32), M)
  )
theorem e_X8_swap : yX8_swap.cls = RX8 ∧ yX8_swap.cls ≠ "java/lang/invoke/MethodHandle" ∧ yX8_swap.cls ≠ "java/lang/invoke/VarHandle" ∧ (parseMethodDescriptor yX8_swap.desc).map (fun d => d.parameters.length) = some 0 := by decide +kernel
set_option maxHeartbeats 4000000 in
set_option maxRecDepth 100000 in
theorem c_X8_swap (l : Launch) (D : va_G) (cs : Nat → ClassId) (ad : Nat → Nat) (M : Mem) {z : Int32 × Mem} (h : f_X8_swap M = some z) : CtI l yX8_swap cX8_swap 2 .int 3 D cs ad [.ref (ad 0)] M z.1 z.2 := by
  refine ct_i (own := RX8) (by decide) rfl (Nat.le_of_ble_eq_true rfl) ?_
  intro p e s m args below meth c Q C hr
  have hx := C.1
  have hb := C.2.1
  have hown := C.2.2.2.1
  have hts := C.2.2.2.2.1
  intro H locs hG ls hl
  have hl : lv_has ls 2 [(0, .ref (ad 0))] := hl
  unfold f_X8_swap at h
  refine lv_aload_n hx hb dX8_swap_0 rfl (lv_at hl 0 rfl) ?_
  refine gf_X8_now C hG gk_0 wf_X8_25 dX8_swap_1 ?_
  refine g_ci hG (g_runV C hG (gR_2 gk_4) (c_X2_coming l D cs ad M gk_4 rfl) wm_X8_141 wi_X2_coming ws_X2_coming wz_X2 wc_X2_coming e_X2_coming (by decide) hl.1 (Nat.le_of_ble_eq_true rfl) dX8_swap_4) (fun H locs hG => ?_)
  refine lv_iconst (v := 2) hx hb dX8_swap_7 (by decide) ?_
  refine lv_icmp_ge (tgt := 14) hx hb dX8_swap_8 (by decide) (fun c_8 => ?_) (fun c_8 => ?_)
  · have h := if_t c_8 h
    refine lv_aload_n hx hb dX8_swap_14 rfl (lv_at hl 0 rfl) ?_
    refine gf_X8_now C hG gk_0 wf_X8_25 dX8_swap_15 ?_
    refine gf_X2_moment (j := 11) C hG gk_4 rfl wf_X8_146 dX8_swap_18 ?_
    refine lv_astore_n (lv' := [(1, .ref (ad 11)), (0, .ref (ad 0))]) hx hb dX8_swap_21 rfl hl (by decide) rfl (fun ls hl => ?_)
    refine lv_aload_n hx hb dX8_swap_22 rfl (lv_at hl 1 rfl) ?_
    refine gf_X8_acts C hG gk_0 wf_X8_39 dX8_swap_23 ?_
    refine lv_aload_n hx hb dX8_swap_26 rfl (lv_at hl 0 rfl) ?_
    obtain ⟨q27, e_27, h⟩ := bd_e h
    refine g_cv hG (g_runV C hG (gR_0 gk_25) (c_X0_remember l D cs ad M gk_11 e_27) wm_X8_150 wi_X0_remember ws_X0_remember wz_X0 wc_X0_remember e_X0_remember (by decide) hl.1 (Nat.le_of_ble_eq_true rfl) dX8_swap_27) (fun H locs hG => ?_)
    refine lv_aload_n hx hb dX8_swap_30 rfl (lv_at hl 0 rfl) ?_
    refine gf_X3_line (j := 13) C hG gk_11 rfl wf_X8_181 dX8_swap_31 ?_
    refine lv_aload_n hx hb dX8_swap_34 rfl (lv_at hl 0 rfl) ?_
    refine gf_X3_through C hG gk_11 wf_X8_184 dX8_swap_35 ?_
    refine lv_aload_n hx hb dX8_swap_38 rfl (lv_at hl 0 rfl) ?_
    refine gf_X3_through C hG gk_11 wf_X8_184 dX8_swap_39 ?_
    refine lv_iconst (v := 1) hx hb dX8_swap_42 (by decide) ?_
    refine lv_iadd hx hb dX8_swap_43 ?_
    obtain ⟨q44, e_44, h⟩ := bd_e h
    refine g_cv hG (g_runS C hG (c_X8_exchange l D cs ad q27 gk_13 gl_13 (q27 11 3) ((q27 11 3) + (1 : Int32)) e_44) wm_X8_187 wt_X8_exchange wz_X8 wc_X8_exchange e_X8_exchange (by decide) hl.1 (Nat.le_of_ble_eq_true rfl) dX8_swap_44) (fun H locs hG => ?_)
    refine lv_aload_n hx hb dX8_swap_47 rfl (lv_at hl 0 rfl) ?_
    refine gf_X3_line (j := 13) C hG gk_11 rfl wf_X8_181 dX8_swap_48 ?_
    refine lv_aload_n hx hb dX8_swap_51 rfl (lv_at hl 0 rfl) ?_
    refine gf_X3_through C hG gk_11 wf_X8_184 dX8_swap_52 ?_
    obtain ⟨hi_55, h⟩ := ix_e h
    refine g_al C hG gk_13 gl_13 hi_55 rfl dX8_swap_55 ?_
    exact hr (pf1 (Option.some.inj h)) (pf2 (Option.some.inj h)) hG dX8_swap_56
  · have h := if_f c_8 h
    refine lv_ldc (v := -1000002) hx hb hown (hts _ wk_X8_145) dX8_swap_11 ?_
    exact hr (pf1 (Option.some.inj h)) (pf2 (Option.some.inj h)) hG dX8_swap_13
def f_X8_undo (M : Mem) : Option (Int32 × Mem) :=
  if (1 : Int32) ≤ (M 25 2) then (
    (f_X0_takeBack M 11).bind fun q25 =>
    some ((q25 25 2), q25)
  ) else (
    some ((-1000002 : Int32), M)
  )
theorem e_X8_undo : yX8_undo.cls = RX8 ∧ yX8_undo.cls ≠ "java/lang/invoke/MethodHandle" ∧ yX8_undo.cls ≠ "java/lang/invoke/VarHandle" ∧ (parseMethodDescriptor yX8_undo.desc).map (fun d => d.parameters.length) = some 0 := by decide +kernel
set_option maxHeartbeats 4000000 in
set_option maxRecDepth 100000 in
theorem c_X8_undo (l : Launch) (D : va_G) (cs : Nat → ClassId) (ad : Nat → Nat) (M : Mem) {z : Int32 × Mem} (h : f_X8_undo M = some z) : CtI l yX8_undo cX8_undo 1 .int 3 D cs ad [.ref (ad 0)] M z.1 z.2 := by
  refine ct_i (own := RX8) (by decide) rfl (Nat.le_of_ble_eq_true rfl) ?_
  intro p e s m args below meth c Q C hr
  have hx := C.1
  have hb := C.2.1
  have hown := C.2.2.2.1
  have hts := C.2.2.2.2.1
  intro H locs hG ls hl
  have hl : lv_has ls 1 [(0, .ref (ad 0))] := hl
  unfold f_X8_undo at h
  refine lv_aload_n hx hb dX8_undo_0 rfl (lv_at hl 0 rfl) ?_
  refine gf_X8_acts C hG gk_0 wf_X8_39 dX8_undo_1 ?_
  refine gf_X0_length C hG gk_25 wf_X8_191 dX8_undo_4 ?_
  refine lv_iconst (v := 1) hx hb dX8_undo_7 (by decide) ?_
  refine lv_icmp_ge (tgt := 14) hx hb dX8_undo_8 (by decide) (fun c_8 => ?_) (fun c_8 => ?_)
  · have h := if_t c_8 h
    refine lv_aload_n hx hb dX8_undo_14 rfl (lv_at hl 0 rfl) ?_
    refine gf_X8_acts C hG gk_0 wf_X8_39 dX8_undo_15 ?_
    refine lv_aload_n hx hb dX8_undo_18 rfl (lv_at hl 0 rfl) ?_
    refine gf_X8_now C hG gk_0 wf_X8_25 dX8_undo_19 ?_
    refine gf_X2_moment (j := 11) C hG gk_4 rfl wf_X8_146 dX8_undo_22 ?_
    obtain ⟨q25, e_25, h⟩ := bd_e h
    refine g_cv hG (g_runV C hG (gR_0 gk_25) (c_X0_takeBack l D cs ad M gk_11 e_25) wm_X8_192 wi_X0_takeBack ws_X0_takeBack wz_X0 wc_X0_takeBack e_X0_takeBack (by decide) hl.1 (Nat.le_of_ble_eq_true rfl) dX8_undo_25) (fun H locs hG => ?_)
    refine lv_aload_n hx hb dX8_undo_28 rfl (lv_at hl 0 rfl) ?_
    refine gf_X8_acts C hG gk_0 wf_X8_39 dX8_undo_29 ?_
    refine gf_X0_length C hG gk_25 wf_X8_191 dX8_undo_32 ?_
    exact hr (pf1 (Option.some.inj h)) (pf2 (Option.some.inj h)) hG dX8_undo_35
  · have h := if_f c_8 h
    refine lv_ldc (v := -1000002) hx hb hown (hts _ wk_X8_145) dX8_undo_11 ?_
    exact hr (pf1 (Option.some.inj h)) (pf2 (Option.some.inj h)) hG dX8_undo_13
def f_X8_bird (M : Mem) (x1 : Int32) (x2 : Int32) : Option Int32 :=
  if (f_X8_isBird M x1) = true then (
    if x2 = (0 : Int32) then (
      chk (ixb x1 6) <|
      some (M 12 x1.toNatClampNeg)
    ) else (
    if x2 = (1 : Int32) then (
      chk (ixb x1 6) <|
      some (M 9 x1.toNatClampNeg)
    ) else (
    if x2 = (2 : Int32) then (
      chk (ixb x1 6) <|
      some (M 10 x1.toNatClampNeg)
    ) else (
    if x2 = (3 : Int32) then (
      some (f_X8_bitOf (M 11 0) x1)
    ) else (
    if x2 = (4 : Int32) then (
      some (f_X8_bitOf (M 11 1) x1)
    ) else (
    if x2 = (5 : Int32) then (
      if (f_X2_coming M 4) ≤ (0 : Int32) then (
        some (0 : Int32)
      ) else (
        if (f_X3_flies M 11 x1) = true then (
          (f_X2_lossOf M 4 x1).bind fun q134 =>
          some q134
        ) else (
          some (0 : Int32)
        )
      )
    ) else (
      some (-1000001 : Int32)
    ))))))
  ) else (
    some (-1000001 : Int32)
  )
theorem e_X8_bird : yX8_bird.cls = RX8 ∧ yX8_bird.cls ≠ "java/lang/invoke/MethodHandle" ∧ yX8_bird.cls ≠ "java/lang/invoke/VarHandle" ∧ (parseMethodDescriptor yX8_bird.desc).map (fun d => d.parameters.length) = some 2 := by decide +kernel
set_option maxHeartbeats 4000000 in
set_option maxRecDepth 100000 in
theorem c_X8_bird (l : Launch) (D : va_G) (cs : Nat → ClassId) (ad : Nat → Nat) (M : Mem) (x1 : Int32) (x2 : Int32) {z : Int32} (h : f_X8_bird M x1 x2 = some z) : CtI l yX8_bird cX8_bird 4 .int 2 D cs ad [.ref (ad 0), .int x1, .int x2] M z M := by
  refine ct_i (own := RX8) (by decide) rfl (Nat.le_of_ble_eq_true rfl) ?_
  intro p e s m args below meth c Q C hr
  have hx := C.1
  have hb := C.2.1
  have hown := C.2.2.2.1
  have hts := C.2.2.2.2.1
  intro H locs hG ls hl
  have hl : lv_has ls 4 [(0, .ref (ad 0)), (1, .int x1), (2, .int x2)] := hl
  unfold f_X8_bird at h
  refine lv_aload_n hx hb dX8_bird_0 rfl (lv_at hl 0 rfl) ?_
  refine lv_iload_n hx hb dX8_bird_1 rfl (lv_at hl 1 rfl) ?_
  refine g_ci hG (g_runV C hG (gR_8 gk_0) (c_X8_isBird l D cs ad M x1 rfl) wm_X8_162 wi_X8_isBird ws_X8_isBird wz_X8 wc_X8_isBird e_X8_isBird (by decide) hl.1 (Nat.le_of_ble_eq_true rfl) dX8_bird_2) (fun H locs hG => ?_)
  refine lv_if_ne (tgt := 11) hx hb dX8_bird_5 (by decide) (fun c_5 => ?_) (fun c_5 => ?_)
  · have h := if_t (bi_t c_5) h
    refine lv_aload_n hx hb dX8_bird_11 rfl (lv_at hl 0 rfl) ?_
    refine gf_X8_now C hG gk_0 wf_X8_25 dX8_bird_12 ?_
    refine gf_X2_moment (j := 11) C hG gk_4 rfl wf_X8_146 dX8_bird_15 ?_
    refine lv_astore_n (lv' := [(3, .ref (ad 11)), (0, .ref (ad 0)), (1, .int x1), (2, .int x2)]) hx hb dX8_bird_18 rfl hl (by decide) rfl (fun ls hl => ?_)
    refine lv_iload_n hx hb dX8_bird_19 rfl (lv_at hl 3 rfl) ?_
    by_cases c_20_0 : x2 = (0 : Int32)
    · have h := if_t c_20_0 h
      refine g_tsw (tgt := 60) (off := 40) hx hb dX8_bird_20 (by rw [c_20_0]; rfl) (by decide) ?_
      refine lv_aload_n hx hb dX8_bird_60 rfl (lv_at hl 0 rfl) ?_
      refine gf_X3_strong (j := 12) C hG gk_11 rfl wf_X8_169 dX8_bird_61 ?_
      refine lv_iload_n hx hb dX8_bird_64 rfl (lv_at hl 2 rfl) ?_
      obtain ⟨hi_65, h⟩ := ix_e h
      refine g_al C hG gk_12 gl_12 hi_65 rfl dX8_bird_65 ?_
      exact hr (Option.some.inj h) rfl hG dX8_bird_66
    have h := if_f c_20_0 h
    by_cases c_20_1 : x2 = (1 : Int32)
    · have h := if_t c_20_1 h
      refine g_tsw (tgt := 67) (off := 47) hx hb dX8_bird_20 (by rw [c_20_1]; rfl) (by decide) ?_
      refine lv_aload_n hx hb dX8_bird_67 rfl (lv_at hl 1 rfl) ?_
      refine gf_X8_now C hG gk_0 wf_X8_25 dX8_bird_68 ?_
      refine gf_X2_told (j := 5) C hG gk_4 rfl wf_X8_129 dX8_bird_71 ?_
      refine gf_X7_leaves (j := 9) C hG gk_5 rfl wf_X8_195 dX8_bird_74 ?_
      refine lv_iload_n hx hb dX8_bird_77 rfl (lv_at hl 2 rfl) ?_
      obtain ⟨hi_78, h⟩ := ix_e h
      refine g_al C hG gk_9 gl_9 hi_78 rfl dX8_bird_78 ?_
      exact hr (Option.some.inj h) rfl hG dX8_bird_79
    have h := if_f c_20_1 h
    by_cases c_20_2 : x2 = (2 : Int32)
    · have h := if_t c_20_2 h
      refine g_tsw (tgt := 80) (off := 60) hx hb dX8_bird_20 (by rw [c_20_2]; rfl) (by decide) ?_
      refine lv_aload_n hx hb dX8_bird_80 rfl (lv_at hl 1 rfl) ?_
      refine gf_X8_now C hG gk_0 wf_X8_25 dX8_bird_81 ?_
      refine gf_X2_told (j := 5) C hG gk_4 rfl wf_X8_129 dX8_bird_84 ?_
      refine gf_X7_loves (j := 10) C hG gk_5 rfl wf_X8_198 dX8_bird_87 ?_
      refine lv_iload_n hx hb dX8_bird_90 rfl (lv_at hl 2 rfl) ?_
      obtain ⟨hi_91, h⟩ := ix_e h
      refine g_al C hG gk_10 gl_10 hi_91 rfl dX8_bird_91 ?_
      exact hr (Option.some.inj h) rfl hG dX8_bird_92
    have h := if_f c_20_2 h
    by_cases c_20_3 : x2 = (3 : Int32)
    · have h := if_t c_20_3 h
      refine g_tsw (tgt := 93) (off := 73) hx hb dX8_bird_20 (by rw [c_20_3]; rfl) (by decide) ?_
      refine lv_aload_n hx hb dX8_bird_93 rfl (lv_at hl 0 rfl) ?_
      refine gf_X3_flying C hG gk_11 wf_X8_157 dX8_bird_94 ?_
      refine lv_iload_n hx hb dX8_bird_97 rfl (lv_at hl 2 rfl) ?_
      refine g_ci hG (g_runS C hG (c_X8_bitOf l D cs ad M (M 11 0) x1 rfl) wm_X8_175 wt_X8_bitOf wz_X8 wc_X8_bitOf e_X8_bitOf (by decide) hl.1 (Nat.le_of_ble_eq_true rfl) dX8_bird_98) (fun H locs hG => ?_)
      exact hr (Option.some.inj h) rfl hG dX8_bird_101
    have h := if_f c_20_3 h
    by_cases c_20_4 : x2 = (4 : Int32)
    · have h := if_t c_20_4 h
      refine g_tsw (tgt := 102) (off := 82) hx hb dX8_bird_20 (by rw [c_20_4]; rfl) (by decide) ?_
      refine lv_aload_n hx hb dX8_bird_102 rfl (lv_at hl 0 rfl) ?_
      refine gf_X3_kept C hG gk_11 wf_X8_172 dX8_bird_103 ?_
      refine lv_iload_n hx hb dX8_bird_106 rfl (lv_at hl 2 rfl) ?_
      refine g_ci hG (g_runS C hG (c_X8_bitOf l D cs ad M (M 11 1) x1 rfl) wm_X8_175 wt_X8_bitOf wz_X8 wc_X8_bitOf e_X8_bitOf (by decide) hl.1 (Nat.le_of_ble_eq_true rfl) dX8_bird_107) (fun H locs hG => ?_)
      exact hr (Option.some.inj h) rfl hG dX8_bird_110
    have h := if_f c_20_4 h
    by_cases c_20_5 : x2 = (5 : Int32)
    · have h := if_t c_20_5 h
      refine g_tsw (tgt := 111) (off := 91) hx hb dX8_bird_20 (by rw [c_20_5]; rfl) (by decide) ?_
      refine lv_aload_n hx hb dX8_bird_111 rfl (lv_at hl 1 rfl) ?_
      refine gf_X8_now C hG gk_0 wf_X8_25 dX8_bird_112 ?_
      refine g_ci hG (g_runV C hG (gR_2 gk_4) (c_X2_coming l D cs ad M gk_4 rfl) wm_X8_141 wi_X2_coming ws_X2_coming wz_X2 wc_X2_coming e_X2_coming (by decide) hl.1 (Nat.le_of_ble_eq_true rfl) dX8_bird_115) (fun H locs hG => ?_)
      refine lv_if_le (tgt := 140) hx hb dX8_bird_118 (by decide) (fun c_118 => ?_) (fun c_118 => ?_)
      · have h := if_t c_118 h
        refine lv_iconst (v := 0) hx hb dX8_bird_140 (by decide) ?_
        exact hr (Option.some.inj h) rfl hG dX8_bird_141
      · have h := if_f c_118 h
        refine lv_aload_n hx hb dX8_bird_121 rfl (lv_at hl 0 rfl) ?_
        refine lv_iload_n hx hb dX8_bird_122 rfl (lv_at hl 2 rfl) ?_
        refine g_ci hG (g_runV C hG (gR_3 gk_11) (c_X3_flies l D cs ad M gk_11 x1 rfl) wm_X8_178 wi_X3_flies ws_X3_flies wz_X3 wc_X3_flies e_X3_flies (by decide) hl.1 (Nat.le_of_ble_eq_true rfl) dX8_bird_123) (fun H locs hG => ?_)
        refine lv_if_eq (tgt := 140) hx hb dX8_bird_126 (by decide) (fun c_126 => ?_) (fun c_126 => ?_)
        · have h := if_f (bi_f c_126) h
          refine lv_iconst (v := 0) hx hb dX8_bird_140 (by decide) ?_
          exact hr (Option.some.inj h) rfl hG dX8_bird_141
        · have h := if_t (bi_t c_126) h
          refine lv_aload_n hx hb dX8_bird_129 rfl (lv_at hl 1 rfl) ?_
          refine gf_X8_now C hG gk_0 wf_X8_25 dX8_bird_130 ?_
          refine lv_iload_n hx hb dX8_bird_133 rfl (lv_at hl 2 rfl) ?_
          obtain ⟨q134, e_134, h⟩ := bd_e h
          refine g_ci hG (g_runV C hG (gR_2 gk_4) (c_X2_lossOf l D cs ad M gk_4 x1 e_134) wm_X8_201 wi_X2_lossOf ws_X2_lossOf wz_X2 wc_X2_lossOf e_X2_lossOf (by decide) hl.1 (Nat.le_of_ble_eq_true rfl) dX8_bird_134) (fun H locs hG => ?_)
          refine lv_goto (tgt := 141) hx hb dX8_bird_137 (by decide) ?_
          exact hr (Option.some.inj h) rfl hG dX8_bird_141
    have h := if_f c_20_5 h
    refine g_tsw (tgt := 142) (off := 122) hx hb dX8_bird_20 ?_ (by decide) ?_
    · have n_0 := i32_ne c_20_0 (j := 0) rfl
      have n_1 := i32_ne c_20_1 (j := 1) rfl
      have n_2 := i32_ne c_20_2 (j := 2) rfl
      have n_3 := i32_ne c_20_3 (j := 3) rfl
      have n_4 := i32_ne c_20_4 (j := 4) rfl
      have n_5 := i32_ne c_20_5 (j := 5) rfl
      rcases (show (x2).toInt < 0 ∨ 5 < (x2).toInt by omega) with q | q
      · exact if_pos (Or.inl q)
      · exact if_pos (Or.inr q)
    · refine lv_ldc (v := -1000001) hx hb hown (hts _ wk_X8_70) dX8_bird_142 ?_
      exact hr (Option.some.inj h) rfl hG dX8_bird_144
  · have h := if_f (bi_f c_5) h
    refine lv_ldc (v := -1000001) hx hb hown (hts _ wk_X8_70) dX8_bird_8 ?_
    exact hr (Option.some.inj h) rfl hG dX8_bird_10
def f_X8_valley (M : Mem) (x1 : Int32) (x2 : Int32) : Option Int32 :=
  if x1 < (0 : Int32) then (
    some (-1000001 : Int32)
  ) else (
    if x1 < (M 5 1) then (
      if x2 = (0 : Int32) then (
        chk (ixb x1 5) <|
        some (M 6 x1.toNatClampNeg)
      ) else (
      if x2 = (1 : Int32) then (
        chk (ixb x1 5) <|
        some (M 7 x1.toNatClampNeg)
      ) else (
      if x2 = (2 : Int32) then (
        (f_X2_placeOf M 4 x1).bind fun q79 =>
        some q79
      ) else (
        some (-1000001 : Int32)
      )))
    ) else (
      some (-1000001 : Int32)
    )
  )
theorem e_X8_valley : yX8_valley.cls = RX8 ∧ yX8_valley.cls ≠ "java/lang/invoke/MethodHandle" ∧ yX8_valley.cls ≠ "java/lang/invoke/VarHandle" ∧ (parseMethodDescriptor yX8_valley.desc).map (fun d => d.parameters.length) = some 2 := by decide +kernel
set_option maxHeartbeats 4000000 in
set_option maxRecDepth 100000 in
theorem c_X8_valley (l : Launch) (D : va_G) (cs : Nat → ClassId) (ad : Nat → Nat) (M : Mem) (x1 : Int32) (x2 : Int32) {z : Int32} (h : f_X8_valley M x1 x2 = some z) : CtI l yX8_valley cX8_valley 3 .int 1 D cs ad [.ref (ad 0), .int x1, .int x2] M z M := by
  refine ct_i (own := RX8) (by decide) rfl (Nat.le_of_ble_eq_true rfl) ?_
  intro p e s m args below meth c Q C hr
  have hx := C.1
  have hb := C.2.1
  have hown := C.2.2.2.1
  have hts := C.2.2.2.2.1
  intro H locs hG ls hl
  have hl : lv_has ls 3 [(0, .ref (ad 0)), (1, .int x1), (2, .int x2)] := hl
  unfold f_X8_valley at h
  refine lv_iload_n hx hb dX8_valley_0 rfl (lv_at hl 1 rfl) ?_
  refine lv_if_lt (tgt := 18) hx hb dX8_valley_1 (by decide) (fun c_1 => ?_) (fun c_1 => ?_)
  · have h := if_t c_1 h
    refine lv_ldc (v := -1000001) hx hb hown (hts _ wk_X8_70) dX8_valley_18 ?_
    exact hr (Option.some.inj h) rfl hG dX8_valley_20
  · have h := if_f c_1 h
    refine lv_iload_n hx hb dX8_valley_4 rfl (lv_at hl 1 rfl) ?_
    refine lv_aload_n hx hb dX8_valley_5 rfl (lv_at hl 0 rfl) ?_
    refine gf_X8_now C hG gk_0 wf_X8_25 dX8_valley_6 ?_
    refine gf_X2_told (j := 5) C hG gk_4 rfl wf_X8_129 dX8_valley_9 ?_
    refine gf_X7_valleys C hG gk_5 wf_X8_204 dX8_valley_12 ?_
    refine lv_icmp_lt (tgt := 21) hx hb dX8_valley_15 (by decide) (fun c_15 => ?_) (fun c_15 => ?_)
    · have h := if_t c_15 h
      refine lv_iload_n hx hb dX8_valley_21 rfl (lv_at hl 2 rfl) ?_
      by_cases c_22_0 : x2 = (0 : Int32)
      · have h := if_t c_22_0 h
        refine g_tsw (tgt := 48) (off := 26) hx hb dX8_valley_22 (by rw [c_22_0]; rfl) (by decide) ?_
        refine lv_aload_n hx hb dX8_valley_48 rfl (lv_at hl 0 rfl) ?_
        refine gf_X8_now C hG gk_0 wf_X8_25 dX8_valley_49 ?_
        refine gf_X2_told (j := 5) C hG gk_4 rfl wf_X8_129 dX8_valley_52 ?_
        refine gf_X7_asks (j := 6) C hG gk_5 rfl wf_X8_207 dX8_valley_55 ?_
        refine lv_iload_n hx hb dX8_valley_58 rfl (lv_at hl 1 rfl) ?_
        obtain ⟨hi_59, h⟩ := ix_e h
        refine g_al C hG gk_6 gl_6 hi_59 rfl dX8_valley_59 ?_
        exact hr (Option.some.inj h) rfl hG dX8_valley_60
      have h := if_f c_22_0 h
      by_cases c_22_1 : x2 = (1 : Int32)
      · have h := if_t c_22_1 h
        refine g_tsw (tgt := 61) (off := 39) hx hb dX8_valley_22 (by rw [c_22_1]; rfl) (by decide) ?_
        refine lv_aload_n hx hb dX8_valley_61 rfl (lv_at hl 0 rfl) ?_
        refine gf_X8_now C hG gk_0 wf_X8_25 dX8_valley_62 ?_
        refine gf_X2_told (j := 5) C hG gk_4 rfl wf_X8_129 dX8_valley_65 ?_
        refine gf_X7_losses (j := 7) C hG gk_5 rfl wf_X8_209 dX8_valley_68 ?_
        refine lv_iload_n hx hb dX8_valley_71 rfl (lv_at hl 1 rfl) ?_
        obtain ⟨hi_72, h⟩ := ix_e h
        refine g_al C hG gk_7 gl_7 hi_72 rfl dX8_valley_72 ?_
        exact hr (Option.some.inj h) rfl hG dX8_valley_73
      have h := if_f c_22_1 h
      by_cases c_22_2 : x2 = (2 : Int32)
      · have h := if_t c_22_2 h
        refine g_tsw (tgt := 74) (off := 52) hx hb dX8_valley_22 (by rw [c_22_2]; rfl) (by decide) ?_
        refine lv_aload_n hx hb dX8_valley_74 rfl (lv_at hl 0 rfl) ?_
        refine gf_X8_now C hG gk_0 wf_X8_25 dX8_valley_75 ?_
        refine lv_iload_n hx hb dX8_valley_78 rfl (lv_at hl 1 rfl) ?_
        obtain ⟨q79, e_79, h⟩ := bd_e h
        refine g_ci hG (g_runV C hG (gR_2 gk_4) (c_X2_placeOf l D cs ad M gk_4 x1 e_79) wm_X8_212 wi_X2_placeOf ws_X2_placeOf wz_X2 wc_X2_placeOf e_X2_placeOf (by decide) hl.1 (Nat.le_of_ble_eq_true rfl) dX8_valley_79) (fun H locs hG => ?_)
        exact hr (Option.some.inj h) rfl hG dX8_valley_82
      have h := if_f c_22_2 h
      refine g_tsw (tgt := 83) (off := 61) hx hb dX8_valley_22 ?_ (by decide) ?_
      · have n_0 := i32_ne c_22_0 (j := 0) rfl
        have n_1 := i32_ne c_22_1 (j := 1) rfl
        have n_2 := i32_ne c_22_2 (j := 2) rfl
        rcases (show (x2).toInt < 0 ∨ 2 < (x2).toInt by omega) with q | q
        · exact if_pos (Or.inl q)
        · exact if_pos (Or.inr q)
      · refine lv_ldc (v := -1000001) hx hb hown (hts _ wk_X8_70) dX8_valley_83 ?_
        exact hr (Option.some.inj h) rfl hG dX8_valley_85
    · have h := if_f c_15 h
      refine lv_ldc (v := -1000001) hx hb hown (hts _ wk_X8_70) dX8_valley_18 ?_
      exact hr (Option.some.inj h) rfl hG dX8_valley_20
def f_X8_arrive (M : Mem) : Option (Int32 × Mem) :=
  if (f_X2_isThere M 4) = true then (
    nm (f_X2_become M 14 4) fun q21 =>
    (f_X2_arriving q21 14).bind fun q28 =>
    some (q28.1, q28.2)
  ) else (
    some ((-1000002 : Int32), M)
  )
theorem e_X8_arrive : yX8_arrive.cls = RX8 ∧ yX8_arrive.cls ≠ "java/lang/invoke/MethodHandle" ∧ yX8_arrive.cls ≠ "java/lang/invoke/VarHandle" ∧ (parseMethodDescriptor yX8_arrive.desc).map (fun d => d.parameters.length) = some 0 := by decide +kernel
set_option maxHeartbeats 4000000 in
set_option maxRecDepth 100000 in
theorem c_X8_arrive (l : Launch) (D : va_G) (cs : Nat → ClassId) (ad : Nat → Nat) (M : Mem) {z : Int32 × Mem} (h : f_X8_arrive M = some z) : CtI l yX8_arrive cX8_arrive 1 .int 5 D cs ad [.ref (ad 0)] M z.1 z.2 := by
  refine ct_i (own := RX8) (by decide) rfl (Nat.le_of_ble_eq_true rfl) ?_
  intro p e s m args below meth c Q C hr
  have hx := C.1
  have hb := C.2.1
  have hown := C.2.2.2.1
  have hts := C.2.2.2.2.1
  intro H locs hG ls hl
  have hl : lv_has ls 1 [(0, .ref (ad 0))] := hl
  unfold f_X8_arrive at h
  refine lv_aload_n hx hb dX8_arrive_0 rfl (lv_at hl 0 rfl) ?_
  refine gf_X8_now C hG gk_0 wf_X8_25 dX8_arrive_1 ?_
  refine g_ci hG (g_runV C hG (gR_2 gk_4) (c_X2_isThere l D cs ad M gk_4 rfl) wm_X8_215 wi_X2_isThere ws_X2_isThere wz_X2 wc_X2_isThere e_X2_isThere (by decide) hl.1 (Nat.le_of_ble_eq_true rfl) dX8_arrive_4) (fun H locs hG => ?_)
  refine lv_if_ne (tgt := 13) hx hb dX8_arrive_7 (by decide) (fun c_7 => ?_) (fun c_7 => ?_)
  · have h := if_t (bi_t c_7) h
    refine lv_aload_n hx hb dX8_arrive_13 rfl (lv_at hl 0 rfl) ?_
    refine gf_X8_trial C hG gk_0 wf_X8_29 dX8_arrive_14 ?_
    refine lv_aload_n hx hb dX8_arrive_17 rfl (lv_at hl 0 rfl) ?_
    refine gf_X8_now C hG gk_0 wf_X8_25 dX8_arrive_18 ?_
    obtain ⟨q21, e_21⟩ : ∃ y, f_X2_become M 14 4 = y := ⟨_, rfl⟩
    have h := nm_at e_21.symm h
    refine g_cv hG (g_runV C hG (gR_2 gk_14) (c_X2_become l D cs ad M gk_14 gk_4 e_21) wm_X8_122 wi_X2_become ws_X2_become wz_X2 wc_X2_become e_X2_become (by decide) hl.1 (Nat.le_of_ble_eq_true rfl) dX8_arrive_21) (fun H locs hG => ?_)
    refine lv_aload_n hx hb dX8_arrive_24 rfl (lv_at hl 0 rfl) ?_
    refine gf_X8_trial C hG gk_0 wf_X8_29 dX8_arrive_25 ?_
    obtain ⟨q28, e_28, h⟩ := bd_e h
    refine g_ci hG (g_runV C hG (gR_2 gk_14) (c_X2_arriving l D cs ad q21 gk_14 e_28) wm_X8_219 wi_X2_arriving ws_X2_arriving wz_X2 wc_X2_arriving e_X2_arriving (by decide) hl.1 (Nat.le_of_ble_eq_true rfl) dX8_arrive_28) (fun H locs hG => ?_)
    exact hr (pf1 (Option.some.inj h)) (pf2 (Option.some.inj h)) hG dX8_arrive_31
  · have h := if_f (bi_f c_7) h
    refine lv_ldc (v := -1000002) hx hb hown (hts _ wk_X8_145) dX8_arrive_10 ?_
    exact hr (pf1 (Option.some.inj h)) (pf2 (Option.some.inj h)) hG dX8_arrive_12
def f_X8_where_49 (x1 : Int32) (r49 : (Mem × Int32) → Option (Int32 × Mem)) (M : Mem) (x2 : Int32) : Option (Int32 × Mem) :=
  if (M 5 1) ≤ x2 then (
    some ((-1000000 : Int32), M)
  ) else (
    (f_X2_flyNext M 14).bind fun q67 =>
    if (f_X3_flies q67 21 x1) = true then (
      nm (x2 + (1 : Int32)) fun x2_86 =>
      r49 (q67, x2_86)
    ) else (
      some (x2, q67)
    )
  )
def f_X8_where (M : Mem) (x1 : Int32) : Option (Int32 × Mem) :=
  if (f_X8_isBird M x1) = true then (
    if (f_X3_flies M 11 x1) = true then (
      nm (f_X2_become M 14 4) fun q35 =>
      nm ((q35 11 3)) fun x2_48 =>
      iter (fun rec a => f_X8_where_49 x1 rec a.1 a.2) fuel (q35, x2_48)
    ) else (
      some ((-1 : Int32), M)
    )
  ) else (
    some ((-1000001 : Int32), M)
  )
theorem e_X8_where : yX8_where.cls = RX8 ∧ yX8_where.cls ≠ "java/lang/invoke/MethodHandle" ∧ yX8_where.cls ≠ "java/lang/invoke/VarHandle" ∧ (parseMethodDescriptor yX8_where.desc).map (fun d => d.parameters.length) = some 1 := by decide +kernel
set_option maxHeartbeats 4000000 in
set_option maxRecDepth 100000 in
theorem c_X8_where (l : Launch) (D : va_G) (cs : Nat → ClassId) (ad : Nat → Nat) (M : Mem) (x1 : Int32) {z : Int32 × Mem} (h : f_X8_where M x1 = some z) : CtI l yX8_where cX8_where 3 .int 4 D cs ad [.ref (ad 0), .int x1] M z.1 z.2 := by
  refine ct_i (own := RX8) (by decide) rfl (Nat.le_of_ble_eq_true rfl) ?_
  intro p e s m args below meth c Q C hr
  have hx := C.1
  have hb := C.2.1
  have hown := C.2.2.2.1
  have hts := C.2.2.2.2.1
  have J_49 : ∀ (x1 : Int32) (n : Nat) (a : Mem × Int32), iter (fun rec a => f_X8_where_49 x1 rec a.1 a.2) n a = some z → GP p l e (rmk 4) s m args below meth c 0 0 Q D cs ad 3 49 [(0, .ref (ad 0)), (1, .int x1), (2, .int a.2)] [] a.1 := by
    intro x1
    refine iter_ind (fun r49 hr49 a h => ?_)
    obtain ⟨M, x2⟩ := a
    have h : f_X8_where_49 x1 r49 M x2 = some z := h
    intro H locs hG ls hl
    have hG : GH D cs ad s M H locs := hG
    have hl : lv_has ls 3 [(0, .ref (ad 0)), (1, .int x1), (2, .int x2)] := hl
    unfold f_X8_where_49 at h
    refine lv_iload_n hx hb dX8_where_49 rfl (lv_at hl 2 rfl) ?_
    refine lv_aload_n hx hb dX8_where_50 rfl (lv_at hl 0 rfl) ?_
    refine gf_X8_now C hG gk_0 wf_X8_25 dX8_where_51 ?_
    refine gf_X2_told (j := 5) C hG gk_4 rfl wf_X8_129 dX8_where_54 ?_
    refine gf_X7_valleys C hG gk_5 wf_X8_204 dX8_where_57 ?_
    refine lv_icmp_ge (tgt := 92) hx hb dX8_where_60 (by decide) (fun c_60 => ?_) (fun c_60 => ?_)
    · have h := if_t c_60 h
      refine lv_ldc (v := -1000000) hx hb hown (hts _ wk_X8_222) dX8_where_92 ?_
      exact hr (pf1 (Option.some.inj h)) (pf2 (Option.some.inj h)) hG dX8_where_94
    · have h := if_f c_60 h
      refine lv_aload_n hx hb dX8_where_63 rfl (lv_at hl 0 rfl) ?_
      refine gf_X8_trial C hG gk_0 wf_X8_29 dX8_where_64 ?_
      obtain ⟨q67, e_67, h⟩ := bd_e h
      refine g_cv hG (g_runV C hG (gR_2 gk_14) (c_X2_flyNext l D cs ad M gk_14 e_67) wm_X8_154 wi_X2_flyNext ws_X2_flyNext wz_X2 wc_X2_flyNext e_X2_flyNext (by decide) hl.1 (Nat.le_of_ble_eq_true rfl) dX8_where_67) (fun H locs hG => ?_)
      refine lv_aload_n hx hb dX8_where_70 rfl (lv_at hl 0 rfl) ?_
      refine gf_X8_trial C hG gk_0 wf_X8_29 dX8_where_71 ?_
      refine gf_X2_moment (j := 21) C hG gk_14 rfl wf_X8_146 dX8_where_74 ?_
      refine lv_iload_n hx hb dX8_where_77 rfl (lv_at hl 1 rfl) ?_
      refine g_ci hG (g_runV C hG (gR_3 gk_21) (c_X3_flies l D cs ad q67 gk_21 x1 rfl) wm_X8_178 wi_X3_flies ws_X3_flies wz_X3 wc_X3_flies e_X3_flies (by decide) hl.1 (Nat.le_of_ble_eq_true rfl) dX8_where_78) (fun H locs hG => ?_)
      refine lv_if_ne (tgt := 86) hx hb dX8_where_81 (by decide) (fun c_81 => ?_) (fun c_81 => ?_)
      · have h := if_t (bi_t c_81) h
        obtain ⟨x2_86, e2_86⟩ : ∃ y : Int32, y = x2 + (1 : Int32) := ⟨_, rfl⟩
        have h := nm_at e2_86 h
        refine lv_iinc (v := x2_86) (lv' := [(2, .int x2_86), (0, .ref (ad 0)), (1, .int x1)]) hx hb dX8_where_86 hl (k := 2) rfl (by rw [e2_86]; rfl) (by decide) rfl (fun ls hl => ?_)
        refine lv_goto (tgt := 49) hx hb dX8_where_89 (by decide) ?_
        exact hr49 (q67, x2_86) h H locs hG ls (lv_sub hl [1, 2, 0] rfl)
      · have h := if_f (bi_f c_81) h
        refine lv_iload_n hx hb dX8_where_84 rfl (lv_at hl 2 rfl) ?_
        exact hr (pf1 (Option.some.inj h)) (pf2 (Option.some.inj h)) hG dX8_where_85
  intro H locs hG ls hl
  have hl : lv_has ls 3 [(0, .ref (ad 0)), (1, .int x1)] := hl
  unfold f_X8_where at h
  refine lv_aload_n hx hb dX8_where_0 rfl (lv_at hl 0 rfl) ?_
  refine lv_iload_n hx hb dX8_where_1 rfl (lv_at hl 1 rfl) ?_
  refine g_ci hG (g_runV C hG (gR_8 gk_0) (c_X8_isBird l D cs ad M x1 rfl) wm_X8_162 wi_X8_isBird ws_X8_isBird wz_X8 wc_X8_isBird e_X8_isBird (by decide) hl.1 (Nat.le_of_ble_eq_true rfl) dX8_where_2) (fun H locs hG => ?_)
  refine lv_if_ne (tgt := 11) hx hb dX8_where_5 (by decide) (fun c_5 => ?_) (fun c_5 => ?_)
  · have h := if_t (bi_t c_5) h
    refine lv_aload_n hx hb dX8_where_11 rfl (lv_at hl 0 rfl) ?_
    refine gf_X8_now C hG gk_0 wf_X8_25 dX8_where_12 ?_
    refine gf_X2_moment (j := 11) C hG gk_4 rfl wf_X8_146 dX8_where_15 ?_
    refine lv_iload_n hx hb dX8_where_18 rfl (lv_at hl 1 rfl) ?_
    refine g_ci hG (g_runV C hG (gR_3 gk_11) (c_X3_flies l D cs ad M gk_11 x1 rfl) wm_X8_178 wi_X3_flies ws_X3_flies wz_X3 wc_X3_flies e_X3_flies (by decide) hl.1 (Nat.le_of_ble_eq_true rfl) dX8_where_19) (fun H locs hG => ?_)
    refine lv_if_ne (tgt := 27) hx hb dX8_where_22 (by decide) (fun c_22 => ?_) (fun c_22 => ?_)
    · have h := if_t (bi_t c_22) h
      refine lv_aload_n hx hb dX8_where_27 rfl (lv_at hl 0 rfl) ?_
      refine gf_X8_trial C hG gk_0 wf_X8_29 dX8_where_28 ?_
      refine lv_aload_n hx hb dX8_where_31 rfl (lv_at hl 0 rfl) ?_
      refine gf_X8_now C hG gk_0 wf_X8_25 dX8_where_32 ?_
      obtain ⟨q35, e_35⟩ : ∃ y, f_X2_become M 14 4 = y := ⟨_, rfl⟩
      have h := nm_at e_35.symm h
      refine g_cv hG (g_runV C hG (gR_2 gk_14) (c_X2_become l D cs ad M gk_14 gk_4 e_35) wm_X8_122 wi_X2_become ws_X2_become wz_X2 wc_X2_become e_X2_become (by decide) hl.1 (Nat.le_of_ble_eq_true rfl) dX8_where_35) (fun H locs hG => ?_)
      refine lv_aload_n hx hb dX8_where_38 rfl (lv_at hl 0 rfl) ?_
      refine gf_X8_now C hG gk_0 wf_X8_25 dX8_where_39 ?_
      refine gf_X2_moment (j := 11) C hG gk_4 rfl wf_X8_146 dX8_where_42 ?_
      refine gf_X3_through C hG gk_11 wf_X8_184 dX8_where_45 ?_
      refine lv_topi (fun x2_48 e2_48 => ?_)
      have h := nm_at e2_48 h
      refine lv_istore_n (lv' := [(2, .int x2_48), (0, .ref (ad 0)), (1, .int x1)]) hx hb dX8_where_48 rfl hl (by decide) rfl (fun ls hl => ?_)
      exact J_49 x1 _ (q35, x2_48) h H locs hG ls (lv_sub hl [1, 2, 0] rfl)
    · have h := if_f (bi_f c_22) h
      refine lv_iconst (v := -1) hx hb dX8_where_25 (by decide) ?_
      exact hr (pf1 (Option.some.inj h)) (pf2 (Option.some.inj h)) hG dX8_where_26
  · have h := if_f (bi_f c_5) h
    refine lv_ldc (v := -1000001) hx hb hown (hts _ wk_X8_70) dX8_where_8 ?_
    exact hr (pf1 (Option.some.inj h)) (pf2 (Option.some.inj h)) hG dX8_where_10
def f_X8_strength_45 (x1 : Int32) (x3 : Int32) (r45 : (Mem × Int32) → Option (Int32 × Mem)) (M : Mem) (x4 : Int32) : Option (Int32 × Mem) :=
  if x3 ≤ x4 then (
    chk (ixb x1 6) <|
    some ((M 22 x1.toNatClampNeg), M)
  ) else (
    (f_X2_flyNext M 14).bind fun q55 =>
    nm (x4 + (1 : Int32)) fun x4_58 =>
    r45 (q55, x4_58)
  )
def f_X8_strength (M : Mem) (x1 : Int32) (x2 : Int32) : Option (Int32 × Mem) :=
  if (f_X8_isBird M x1) = true then (
    if (f_X8_isWithin x2 (5 : Int32)) = true then (
      nm (f_X2_become M 14 4) fun q27 =>
      nm ((if (f_X2_coming q27 4) < x2 then (f_X2_coming q27 4) else x2)) fun x3_41 =>
      iter (fun rec a => f_X8_strength_45 x1 x3_41 rec a.1 a.2) fuel (q27, (0 : Int32))
    ) else (
      some ((-1000001 : Int32), M)
    )
  ) else (
    some ((-1000001 : Int32), M)
  )
theorem e_X8_strength : yX8_strength.cls = RX8 ∧ yX8_strength.cls ≠ "java/lang/invoke/MethodHandle" ∧ yX8_strength.cls ≠ "java/lang/invoke/VarHandle" ∧ (parseMethodDescriptor yX8_strength.desc).map (fun d => d.parameters.length) = some 2 := by decide +kernel
set_option maxHeartbeats 4000000 in
set_option maxRecDepth 100000 in
theorem c_X8_strength (l : Launch) (D : va_G) (cs : Nat → ClassId) (ad : Nat → Nat) (M : Mem) (x1 : Int32) (x2 : Int32) {z : Int32 × Mem} (h : f_X8_strength M x1 x2 = some z) : CtI l yX8_strength cX8_strength 5 .int 4 D cs ad [.ref (ad 0), .int x1, .int x2] M z.1 z.2 := by
  refine ct_i (own := RX8) (by decide) rfl (Nat.le_of_ble_eq_true rfl) ?_
  intro p e s m args below meth c Q C hr
  have hx := C.1
  have hb := C.2.1
  have hown := C.2.2.2.1
  have hts := C.2.2.2.2.1
  have J_45 : ∀ (x1 : Int32) (x3 : Int32) (n : Nat) (a : Mem × Int32), iter (fun rec a => f_X8_strength_45 x1 x3 rec a.1 a.2) n a = some z → GP p l e (rmk 4) s m args below meth c 0 0 Q D cs ad 5 45 [(0, .ref (ad 0)), (1, .int x1), (3, .int x3), (4, .int a.2)] [] a.1 := by
    intro x1 x3
    refine iter_ind (fun r45 hr45 a h => ?_)
    obtain ⟨M, x4⟩ := a
    have h : f_X8_strength_45 x1 x3 r45 M x4 = some z := h
    intro H locs hG ls hl
    have hG : GH D cs ad s M H locs := hG
    have hl : lv_has ls 5 [(0, .ref (ad 0)), (1, .int x1), (3, .int x3), (4, .int x4)] := hl
    unfold f_X8_strength_45 at h
    refine lv_iload hx hb dX8_strength_45 (lv_at hl 3 rfl) ?_
    refine lv_iload_n hx hb dX8_strength_47 rfl (lv_at hl 2 rfl) ?_
    refine lv_icmp_ge (tgt := 64) hx hb dX8_strength_48 (by decide) (fun c_48 => ?_) (fun c_48 => ?_)
    · have h := if_t c_48 h
      refine lv_aload_n hx hb dX8_strength_64 rfl (lv_at hl 0 rfl) ?_
      refine gf_X8_trial C hG gk_0 wf_X8_29 dX8_strength_65 ?_
      refine gf_X2_moment (j := 21) C hG gk_14 rfl wf_X8_146 dX8_strength_68 ?_
      refine gf_X3_strong (j := 22) C hG gk_21 rfl wf_X8_169 dX8_strength_71 ?_
      refine lv_iload_n hx hb dX8_strength_74 rfl (lv_at hl 1 rfl) ?_
      obtain ⟨hi_75, h⟩ := ix_e h
      refine g_al C hG gk_22 gl_22 hi_75 rfl dX8_strength_75 ?_
      exact hr (pf1 (Option.some.inj h)) (pf2 (Option.some.inj h)) hG dX8_strength_76
    · have h := if_f c_48 h
      refine lv_aload_n hx hb dX8_strength_51 rfl (lv_at hl 0 rfl) ?_
      refine gf_X8_trial C hG gk_0 wf_X8_29 dX8_strength_52 ?_
      obtain ⟨q55, e_55, h⟩ := bd_e h
      refine g_cv hG (g_runV C hG (gR_2 gk_14) (c_X2_flyNext l D cs ad M gk_14 e_55) wm_X8_154 wi_X2_flyNext ws_X2_flyNext wz_X2 wc_X2_flyNext e_X2_flyNext (by decide) hl.1 (Nat.le_of_ble_eq_true rfl) dX8_strength_55) (fun H locs hG => ?_)
      obtain ⟨x4_58, e4_58⟩ : ∃ y : Int32, y = x4 + (1 : Int32) := ⟨_, rfl⟩
      have h := nm_at e4_58 h
      refine lv_iinc (v := x4_58) (lv' := [(4, .int x4_58), (0, .ref (ad 0)), (1, .int x1), (3, .int x3)]) hx hb dX8_strength_58 hl (k := 3) rfl (by rw [e4_58]; rfl) (by decide) rfl (fun ls hl => ?_)
      refine lv_goto (tgt := 45) hx hb dX8_strength_61 (by decide) ?_
      exact hr45 (q55, x4_58) h H locs hG ls (lv_sub hl [1, 2, 3, 0] rfl)
  intro H locs hG ls hl
  have hl : lv_has ls 5 [(0, .ref (ad 0)), (1, .int x1), (2, .int x2)] := hl
  unfold f_X8_strength at h
  refine lv_aload_n hx hb dX8_strength_0 rfl (lv_at hl 0 rfl) ?_
  refine lv_iload_n hx hb dX8_strength_1 rfl (lv_at hl 1 rfl) ?_
  refine g_ci hG (g_runV C hG (gR_8 gk_0) (c_X8_isBird l D cs ad M x1 rfl) wm_X8_162 wi_X8_isBird ws_X8_isBird wz_X8 wc_X8_isBird e_X8_isBird (by decide) hl.1 (Nat.le_of_ble_eq_true rfl) dX8_strength_2) (fun H locs hG => ?_)
  refine lv_if_eq (tgt := 16) hx hb dX8_strength_5 (by decide) (fun c_5 => ?_) (fun c_5 => ?_)
  · have h := if_f (bi_f c_5) h
    refine lv_ldc (v := -1000001) hx hb hown (hts _ wk_X8_70) dX8_strength_16 ?_
    exact hr (pf1 (Option.some.inj h)) (pf2 (Option.some.inj h)) hG dX8_strength_18
  · have h := if_t (bi_t c_5) h
    refine lv_iload_n hx hb dX8_strength_8 rfl (lv_at hl 2 rfl) ?_
    refine lv_iconst (v := 5) hx hb dX8_strength_9 (by decide) ?_
    refine g_ci hG (g_runS C hG (c_X8_isWithin l D cs ad M x2 (5 : Int32) rfl) wm_X8_66 wt_X8_isWithin wz_X8 wc_X8_isWithin e_X8_isWithin (by decide) hl.1 (Nat.le_of_ble_eq_true rfl) dX8_strength_10) (fun H locs hG => ?_)
    refine lv_if_ne (tgt := 19) hx hb dX8_strength_13 (by decide) (fun c_13 => ?_) (fun c_13 => ?_)
    · have h := if_t (bi_t c_13) h
      refine lv_aload_n hx hb dX8_strength_19 rfl (lv_at hl 0 rfl) ?_
      refine gf_X8_trial C hG gk_0 wf_X8_29 dX8_strength_20 ?_
      refine lv_aload_n hx hb dX8_strength_23 rfl (lv_at hl 0 rfl) ?_
      refine gf_X8_now C hG gk_0 wf_X8_25 dX8_strength_24 ?_
      obtain ⟨q27, e_27⟩ : ∃ y, f_X2_become M 14 4 = y := ⟨_, rfl⟩
      have h := nm_at e_27.symm h
      refine g_cv hG (g_runV C hG (gR_2 gk_14) (c_X2_become l D cs ad M gk_14 gk_4 e_27) wm_X8_122 wi_X2_become ws_X2_become wz_X2 wc_X2_become e_X2_become (by decide) hl.1 (Nat.le_of_ble_eq_true rfl) dX8_strength_27) (fun H locs hG => ?_)
      refine lv_iload_n hx hb dX8_strength_30 rfl (lv_at hl 2 rfl) ?_
      refine lv_aload_n hx hb dX8_strength_31 rfl (lv_at hl 0 rfl) ?_
      refine gf_X8_now C hG gk_0 wf_X8_25 dX8_strength_32 ?_
      refine g_ci hG (g_runV C hG (gR_2 gk_4) (c_X2_coming l D cs ad q27 gk_4 rfl) wm_X8_141 wi_X2_coming ws_X2_coming wz_X2 wc_X2_coming e_X2_coming (by decide) hl.1 (Nat.le_of_ble_eq_true rfl) dX8_strength_35) (fun H locs hG => ?_)
      refine g_min C hl.1 wm_X8_223 (by decide) (Nat.le_of_ble_eq_true rfl) dX8_strength_38 ?_
      refine lv_topi (fun x3_41 e3_41 => ?_)
      have h := nm_at e3_41 h
      refine lv_istore_n (lv' := [(3, .int x3_41), (0, .ref (ad 0)), (1, .int x1), (2, .int x2)]) hx hb dX8_strength_41 rfl hl (by decide) rfl (fun ls hl => ?_)
      refine lv_iconst (v := 0) hx hb dX8_strength_42 (by decide) ?_
      refine lv_istore (lv' := [(4, .int 0), (3, .int x3_41), (0, .ref (ad 0)), (1, .int x1), (2, .int x2)]) hx hb dX8_strength_43 hl (by decide) rfl (fun ls hl => ?_)
      exact J_45 x1 x3_41 _ (q27, (0 : Int32)) h H locs hG ls (lv_sub hl [2, 3, 1, 0] rfl)
    · have h := if_f (bi_f c_13) h
      refine lv_ldc (v := -1000001) hx hb hown (hts _ wk_X8_70) dX8_strength_16 ?_
      exact hr (pf1 (Option.some.inj h)) (pf2 (Option.some.inj h)) hG dX8_strength_18
