def f_X6_add (M : Mem) (x1 : Int32) : Option (Bool × Mem) :=
  if (M 2 1) < (120 : Int32) then (
    chk (ixb (M 2 1) 120) <|
    nm (st M 3 ((M 2 1).toNatClampNeg) x1) fun M20 =>
    nm (st M20 2 1 ((M20 2 1) + (1 : Int32))) fun M28 =>
    some (true, M28)
  ) else (
    some (false, M)
  )
theorem e_X6_add : yX6_add.cls = RX6 ∧ yX6_add.cls ≠ "java/lang/invoke/MethodHandle" ∧ yX6_add.cls ≠ "java/lang/invoke/VarHandle" ∧ (parseMethodDescriptor yX6_add.desc).map (fun d => d.parameters.length) = some 1 := by decide +kernel
set_option maxHeartbeats 4000000 in
set_option maxRecDepth 100000 in
theorem c_X6_add (l : Launch) (D : va_G) (cs : Nat → ClassId) (ad : Nat → Nat) (M : Mem) (x1 : Int32) {z : Bool × Mem} (h : f_X6_add M x1 = some z) : CtI l yX6_add cX6_add 2 .boolean 0 D cs ad [.ref (ad 2), .int x1] M (bi z.1) z.2 := by
  refine ct_z (own := RX6) (by decide) rfl (Nat.le_of_ble_eq_true rfl) ?_
  intro p e s m args below meth c Q C hr
  have hx := C.1
  have hb := C.2.1
  have hown := C.2.2.2.1
  have hts := C.2.2.2.2.1
  intro H locs hG ls hl
  have hl : lv_has ls 2 [(0, .ref (ad 2)), (1, .int x1)] := hl
  unfold f_X6_add at h
  refine lv_aload_n hx hb dX6_add_0 rfl (lv_at hl 0 rfl) ?_
  refine gf_X6_length C hG gk_2 wf_X6_15 dX6_add_1 ?_
  refine lv_bipush (v := 120) hx hb dX6_add_4 (by decide) ?_
  refine lv_icmp_lt (tgt := 11) hx hb dX6_add_6 (by decide) (fun c_6 => ?_) (fun c_6 => ?_)
  · have h := if_t c_6 h
    refine lv_aload_n hx hb dX6_add_11 rfl (lv_at hl 0 rfl) ?_
    refine gf_X6_letters (j := 3) C hG gk_2 rfl wf_X6_9 dX6_add_12 ?_
    refine lv_aload_n hx hb dX6_add_15 rfl (lv_at hl 0 rfl) ?_
    refine gf_X6_length C hG gk_2 wf_X6_15 dX6_add_16 ?_
    refine lv_iload_n hx hb dX6_add_19 rfl (lv_at hl 1 rfl) ?_
    obtain ⟨hi_20, h⟩ := ix_e h
    refine g_as C hG gk_3 gl_3 hi_20 rfl dX6_add_20 (fun M20 e_20 H locs hG => ?_)
    have h := nm_at e_20 h
    refine lv_aload_n hx hb dX6_add_21 rfl (lv_at hl 0 rfl) ?_
    refine lv_dup hx hb dX6_add_22 rfl ?_
    refine gf_X6_length C hG gk_2 wf_X6_15 dX6_add_23 ?_
    refine lv_iconst (v := 1) hx hb dX6_add_26 (by decide) ?_
    refine lv_iadd hx hb dX6_add_27 ?_
    refine gp_X6_length C hG gk_2 wf_X6_15 dX6_add_28 (fun M28 e_28 H locs hG => ?_)
    have h := nm_at e_28 h
    refine lv_iconst (v := 1) hx hb dX6_add_31 (by decide) ?_
    exact hr (congrArg bi (pf1 (Option.some.inj h))) (pf2 (Option.some.inj h)) hG dX6_add_32
  · have h := if_f c_6 h
    refine lv_iconst (v := 0) hx hb dX6_add_9 (by decide) ?_
    exact hr (congrArg bi (pf1 (Option.some.inj h))) (pf2 (Option.some.inj h)) hG dX6_add_10
def f_X6_letterAt (M : Mem) (x1 : Int32) : Option Int32 :=
  if x1 < (0 : Int32) then (
    some (-1 : Int32)
  ) else (
    if (M 2 1) ≤ x1 then (
      some (-1 : Int32)
    ) else (
      chk (ixb x1 120) <|
      some (M 3 x1.toNatClampNeg)
    )
  )
theorem e_X6_letterAt : yX6_letterAt.cls = RX6 ∧ yX6_letterAt.cls ≠ "java/lang/invoke/MethodHandle" ∧ yX6_letterAt.cls ≠ "java/lang/invoke/VarHandle" ∧ (parseMethodDescriptor yX6_letterAt.desc).map (fun d => d.parameters.length) = some 1 := by decide +kernel
set_option maxHeartbeats 4000000 in
set_option maxRecDepth 100000 in
theorem c_X6_letterAt (l : Launch) (D : va_G) (cs : Nat → ClassId) (ad : Nat → Nat) (M : Mem) (x1 : Int32) {z : Int32} (h : f_X6_letterAt M x1 = some z) : CtI l yX6_letterAt cX6_letterAt 2 .int 0 D cs ad [.ref (ad 2), .int x1] M z M := by
  refine ct_i (own := RX6) (by decide) rfl (Nat.le_of_ble_eq_true rfl) ?_
  intro p e s m args below meth c Q C hr
  have hx := C.1
  have hb := C.2.1
  have hown := C.2.2.2.1
  have hts := C.2.2.2.2.1
  intro H locs hG ls hl
  have hl : lv_has ls 2 [(0, .ref (ad 2)), (1, .int x1)] := hl
  unfold f_X6_letterAt at h
  refine lv_iload_n hx hb dX6_letterAt_0 rfl (lv_at hl 1 rfl) ?_
  refine lv_if_lt (tgt := 21) hx hb dX6_letterAt_1 (by decide) (fun c_1 => ?_) (fun c_1 => ?_)
  · have h := if_t c_1 h
    refine lv_iconst (v := -1) hx hb dX6_letterAt_21 (by decide) ?_
    exact hr (Option.some.inj h) rfl hG dX6_letterAt_22
  · have h := if_f c_1 h
    refine lv_iload_n hx hb dX6_letterAt_4 rfl (lv_at hl 1 rfl) ?_
    refine lv_aload_n hx hb dX6_letterAt_5 rfl (lv_at hl 0 rfl) ?_
    refine gf_X6_length C hG gk_2 wf_X6_15 dX6_letterAt_6 ?_
    refine lv_icmp_ge (tgt := 21) hx hb dX6_letterAt_9 (by decide) (fun c_9 => ?_) (fun c_9 => ?_)
    · have h := if_t c_9 h
      refine lv_iconst (v := -1) hx hb dX6_letterAt_21 (by decide) ?_
      exact hr (Option.some.inj h) rfl hG dX6_letterAt_22
    · have h := if_f c_9 h
      refine lv_aload_n hx hb dX6_letterAt_12 rfl (lv_at hl 0 rfl) ?_
      refine gf_X6_letters (j := 3) C hG gk_2 rfl wf_X6_9 dX6_letterAt_13 ?_
      refine lv_iload_n hx hb dX6_letterAt_16 rfl (lv_at hl 1 rfl) ?_
      obtain ⟨hi_17, h⟩ := ix_e h
      refine g_al C hG gk_3 gl_3 hi_17 rfl dX6_letterAt_17 ?_
      refine lv_goto (tgt := 22) hx hb dX6_letterAt_18 (by decide) ?_
      exact hr (Option.some.inj h) rfl hG dX6_letterAt_22
def f_X6_fail (M : Mem) (x1 : Int32) (x2 : Int32) : Bool × Mem :=
  nm (st M 2 5 (1 : Int32)) fun M2 =>
  nm (st M2 2 2 x1) fun M7 =>
  nm (st M7 2 3 x2) fun M12 =>
  (false, M12)
theorem e_X6_fail : yX6_fail.cls = RX6 ∧ yX6_fail.cls ≠ "java/lang/invoke/MethodHandle" ∧ yX6_fail.cls ≠ "java/lang/invoke/VarHandle" ∧ (parseMethodDescriptor yX6_fail.desc).map (fun d => d.parameters.length) = some 2 := by decide +kernel
set_option maxHeartbeats 4000000 in
set_option maxRecDepth 100000 in
theorem c_X6_fail (l : Launch) (D : va_G) (cs : Nat → ClassId) (ad : Nat → Nat) (M : Mem) (x1 : Int32) (x2 : Int32) {z : Bool × Mem} (h : f_X6_fail M x1 x2 = z) : CtI l yX6_fail cX6_fail 3 .boolean 0 D cs ad [.ref (ad 2), .int x1, .int x2] M (bi z.1) z.2 := by
  refine ct_z (own := RX6) (by decide) rfl (Nat.le_of_ble_eq_true rfl) ?_
  intro p e s m args below meth c Q C hr
  have hx := C.1
  have hb := C.2.1
  have hown := C.2.2.2.1
  have hts := C.2.2.2.2.1
  intro H locs hG ls hl
  have hl : lv_has ls 3 [(0, .ref (ad 2)), (1, .int x1), (2, .int x2)] := hl
  unfold f_X6_fail at h
  refine lv_aload_n hx hb dX6_fail_0 rfl (lv_at hl 0 rfl) ?_
  refine lv_iconst (v := 1) hx hb dX6_fail_1 (by decide) ?_
  refine gp_X6_isFaulty C hG gk_2 (by decide) (by decide) wf_X6_28 dX6_fail_2 (fun M2 e_2 H locs hG => ?_)
  have h := nm_at e_2 h
  refine lv_aload_n hx hb dX6_fail_5 rfl (lv_at hl 0 rfl) ?_
  refine lv_iload_n hx hb dX6_fail_6 rfl (lv_at hl 1 rfl) ?_
  refine gp_X6_faultNumber C hG gk_2 wf_X6_19 dX6_fail_7 (fun M7 e_7 H locs hG => ?_)
  have h := nm_at e_7 h
  refine lv_aload_n hx hb dX6_fail_10 rfl (lv_at hl 0 rfl) ?_
  refine lv_iload_n hx hb dX6_fail_11 rfl (lv_at hl 2 rfl) ?_
  refine gp_X6_faultPlace C hG gk_2 wf_X6_22 dX6_fail_12 (fun M12 e_12 H locs hG => ?_)
  have h := nm_at e_12 h
  refine lv_iconst (v := 0) hx hb dX6_fail_15 (by decide) ?_
  exact hr (congrArg bi (pf1 h)) (pf2 h) hG dX6_fail_16
def f_X6_passes (M : Mem) (x1 : Int32) : Option (Bool × Mem) :=
  if (M 2 5) = (0 : Int32) then (
    (f_X6_letterAt M (M 2 4)).bind fun q14 =>
    if q14 = x1 then (
      nm (st M 2 4 ((M 2 4) + (1 : Int32))) fun M38 =>
      some (true, M38)
    ) else (
      nm (f_X6_fail M (1 : Int32) (M 2 4)) fun q27 =>
      some (q27.1, q27.2)
    )
  ) else (
    some (false, M)
  )
theorem e_X6_passes : yX6_passes.cls = RX6 ∧ yX6_passes.cls ≠ "java/lang/invoke/MethodHandle" ∧ yX6_passes.cls ≠ "java/lang/invoke/VarHandle" ∧ (parseMethodDescriptor yX6_passes.desc).map (fun d => d.parameters.length) = some 1 := by decide +kernel
set_option maxHeartbeats 4000000 in
set_option maxRecDepth 100000 in
theorem c_X6_passes (l : Launch) (D : va_G) (cs : Nat → ClassId) (ad : Nat → Nat) (M : Mem) (x1 : Int32) {z : Bool × Mem} (h : f_X6_passes M x1 = some z) : CtI l yX6_passes cX6_passes 2 .boolean 1 D cs ad [.ref (ad 2), .int x1] M (bi z.1) z.2 := by
  refine ct_z (own := RX6) (by decide) rfl (Nat.le_of_ble_eq_true rfl) ?_
  intro p e s m args below meth c Q C hr
  have hx := C.1
  have hb := C.2.1
  have hown := C.2.2.2.1
  have hts := C.2.2.2.2.1
  intro H locs hG ls hl
  have hl : lv_has ls 2 [(0, .ref (ad 2)), (1, .int x1)] := hl
  unfold f_X6_passes at h
  refine lv_aload_n hx hb dX6_passes_0 rfl (lv_at hl 0 rfl) ?_
  refine gf_X6_isFaulty C hG gk_2 wf_X6_28 dX6_passes_1 ?_
  refine lv_if_eq (tgt := 9) hx hb dX6_passes_4 (by decide) (fun c_4 => ?_) (fun c_4 => ?_)
  · have h := if_t c_4 h
    refine lv_aload_n hx hb dX6_passes_9 rfl (lv_at hl 0 rfl) ?_
    refine lv_aload_n hx hb dX6_passes_10 rfl (lv_at hl 0 rfl) ?_
    refine gf_X6_at C hG gk_2 wf_X6_25 dX6_passes_11 ?_
    obtain ⟨q14, e_14, h⟩ := bd_e h
    refine g_ci hG (g_runV C hG (gR_6 gk_2) (c_X6_letterAt l D cs ad M (M 2 4) e_14) wm_X6_67 wi_X6_letterAt ws_X6_letterAt wz_X6 wc_X6_letterAt e_X6_letterAt (by decide) hl.1 (Nat.le_of_ble_eq_true rfl) dX6_passes_14) (fun H locs hG => ?_)
    refine lv_iload_n hx hb dX6_passes_17 rfl (lv_at hl 1 rfl) ?_
    refine lv_icmp_eq (tgt := 31) hx hb dX6_passes_18 (by decide) (fun c_18 => ?_) (fun c_18 => ?_)
    · have h := if_t c_18 h
      refine lv_aload_n hx hb dX6_passes_31 rfl (lv_at hl 0 rfl) ?_
      refine lv_dup hx hb dX6_passes_32 rfl ?_
      refine gf_X6_at C hG gk_2 wf_X6_25 dX6_passes_33 ?_
      refine lv_iconst (v := 1) hx hb dX6_passes_36 (by decide) ?_
      refine lv_iadd hx hb dX6_passes_37 ?_
      refine gp_X6_at C hG gk_2 wf_X6_25 dX6_passes_38 (fun M38 e_38 H locs hG => ?_)
      have h := nm_at e_38 h
      refine lv_iconst (v := 1) hx hb dX6_passes_41 (by decide) ?_
      exact hr (congrArg bi (pf1 (Option.some.inj h))) (pf2 (Option.some.inj h)) hG dX6_passes_42
    · have h := if_f c_18 h
      refine lv_aload_n hx hb dX6_passes_21 rfl (lv_at hl 0 rfl) ?_
      refine lv_iconst (v := 1) hx hb dX6_passes_22 (by decide) ?_
      refine lv_aload_n hx hb dX6_passes_23 rfl (lv_at hl 0 rfl) ?_
      refine gf_X6_at C hG gk_2 wf_X6_25 dX6_passes_24 ?_
      obtain ⟨q27, e_27⟩ : ∃ y, f_X6_fail M (1 : Int32) (M 2 4) = y := ⟨_, rfl⟩
      have h := nm_at e_27.symm h
      refine g_ci hG (g_runV C hG (gR_6 gk_2) (c_X6_fail l D cs ad M (1 : Int32) (M 2 4) e_27) wm_X6_70 wi_X6_fail ws_X6_fail wz_X6 wc_X6_fail e_X6_fail (by decide) hl.1 (Nat.le_of_ble_eq_true rfl) dX6_passes_27) (fun H locs hG => ?_)
      exact hr (congrArg bi (pf1 (Option.some.inj h))) (pf2 (Option.some.inj h)) hG dX6_passes_30
  · have h := if_f c_4 h
    refine lv_iconst (v := 0) hx hb dX6_passes_7 (by decide) ?_
    exact hr (congrArg bi (pf1 (Option.some.inj h))) (pf2 (Option.some.inj h)) hG dX6_passes_8
def f_X6_isFigure (x0 : Int32) : Bool :=
  if x0 < (48 : Int32) then (
    false
  ) else (
    if (57 : Int32) < x0 then (
      false
    ) else (
      true
    )
  )
theorem e_X6_isFigure : yX6_isFigure.cls ≠ "java/lang/invoke/MethodHandle" ∧ yX6_isFigure.cls ≠ "java/lang/invoke/VarHandle" ∧ (parseMethodDescriptor yX6_isFigure.desc).map (fun d => d.parameters.length) = some 1 := by decide +kernel
set_option maxHeartbeats 4000000 in
set_option maxRecDepth 100000 in
theorem c_X6_isFigure (l : Launch) (D : va_G) (cs : Nat → ClassId) (ad : Nat → Nat) (M : Mem) (x0 : Int32) {z : Bool} (h : f_X6_isFigure x0 = z) : CtI l yX6_isFigure cX6_isFigure 1 .boolean 0 D cs ad [.int x0] M (bi z) M := by
  refine ct_z (own := RX6) (by decide) rfl (Nat.le_of_ble_eq_true rfl) ?_
  intro p e s m args below meth c Q C hr
  have hx := C.1
  have hb := C.2.1
  have hown := C.2.2.2.1
  have hts := C.2.2.2.2.1
  intro H locs hG ls hl
  have hl : lv_has ls 1 [(0, .int x0)] := hl
  unfold f_X6_isFigure at h
  refine lv_iload_n hx hb dX6_isFigure_0 rfl (lv_at hl 0 rfl) ?_
  refine lv_bipush (v := 48) hx hb dX6_isFigure_1 (by decide) ?_
  refine lv_icmp_lt (tgt := 16) hx hb dX6_isFigure_3 (by decide) (fun c_3 => ?_) (fun c_3 => ?_)
  · have h := if_t c_3 h
    refine lv_iconst (v := 0) hx hb dX6_isFigure_16 (by decide) ?_
    exact hr (congrArg bi h) rfl hG dX6_isFigure_17
  · have h := if_f c_3 h
    refine lv_iload_n hx hb dX6_isFigure_6 rfl (lv_at hl 0 rfl) ?_
    refine lv_bipush (v := 57) hx hb dX6_isFigure_7 (by decide) ?_
    refine lv_icmp_gt (tgt := 16) hx hb dX6_isFigure_9 (by decide) (fun c_9 => ?_) (fun c_9 => ?_)
    · have h := if_t c_9 h
      refine lv_iconst (v := 0) hx hb dX6_isFigure_16 (by decide) ?_
      exact hr (congrArg bi h) rfl hG dX6_isFigure_17
    · have h := if_f c_9 h
      refine lv_iconst (v := 1) hx hb dX6_isFigure_12 (by decide) ?_
      refine lv_goto (tgt := 17) hx hb dX6_isFigure_13 (by decide) ?_
      exact hr (congrArg bi h) rfl hG dX6_isFigure_17
def f_X6_number_65 (M : Mem) (x1 : Int32) (x2 : Int32) (x3 : Int32) : Option (Int32 × Mem) :=
  nm ((x3 - (M 2 4))) fun x4_71 =>
  if x4_71 < (1 : Int32) then (
    nm (f_X6_fail M (1 : Int32) (M 2 4)) fun q91 =>
    some ((0 : Int32), q91.2)
  ) else (
    if x4_71 ≤ (2 : Int32) then (
      if x2 ≤ x1 then (
        nm (st M 2 4 x3) fun M116 =>
        some (x2, M116)
      ) else (
        nm (f_X6_fail M (2 : Int32) (M 2 4)) fun q108 =>
        some ((0 : Int32), q108.2)
      )
    ) else (
      nm (f_X6_fail M (1 : Int32) (M 2 4)) fun q91 =>
      some ((0 : Int32), q91.2)
    )
  )
def f_X6_number_16 (M : Mem) (x1 : Int32) (r16 : (Int32 × Int32) → Option (Int32 × Mem)) (x2 : Int32) (x3 : Int32) : Option (Int32 × Mem) :=
  if (M 2 1) ≤ x3 then (
    f_X6_number_65 M x1 x2 x3
  ) else (
    (f_X6_letterAt M x3).bind fun q26 =>
    if (f_X6_isFigure q26) = true then (
      if ((M 2 4) + (3 : Int32)) ≤ x3 then (
        f_X6_number_65 M x1 x2 x3
      ) else (
        (f_X6_letterAt M x3).bind fun q51 =>
        nm ((((x2 * (10 : Int32)) + q51) - (48 : Int32))) fun x2_58 =>
        nm (x3 + (1 : Int32)) fun x3_59 =>
        r16 (x2_58, x3_59)
      )
    ) else (
      f_X6_number_65 M x1 x2 x3
    )
  )
def f_X6_number (M : Mem) (x1 : Int32) : Option (Int32 × Mem) :=
  if (M 2 5) = (0 : Int32) then (
    nm ((M 2 4)) fun x3_15 =>
    iter (fun rec a => f_X6_number_16 M x1 rec a.1 a.2) fuel ((0 : Int32), x3_15)
  ) else (
    some ((0 : Int32), M)
  )
theorem e_X6_number : yX6_number.cls = RX6 ∧ yX6_number.cls ≠ "java/lang/invoke/MethodHandle" ∧ yX6_number.cls ≠ "java/lang/invoke/VarHandle" ∧ (parseMethodDescriptor yX6_number.desc).map (fun d => d.parameters.length) = some 1 := by decide +kernel
set_option maxHeartbeats 4000000 in
set_option maxRecDepth 100000 in
theorem c_X6_number (l : Launch) (D : va_G) (cs : Nat → ClassId) (ad : Nat → Nat) (M : Mem) (x1 : Int32) {z : Int32 × Mem} (h : f_X6_number M x1 = some z) : CtI l yX6_number cX6_number 5 .int 1 D cs ad [.ref (ad 2), .int x1] M z.1 z.2 := by
  refine ct_i (own := RX6) (by decide) rfl (Nat.le_of_ble_eq_true rfl) ?_
  intro p e s m args below meth c Q C hr
  have hx := C.1
  have hb := C.2.1
  have hown := C.2.2.2.1
  have hts := C.2.2.2.2.1
  have J_65 : ∀ (M : Mem) (x1 : Int32) (x2 : Int32) (x3 : Int32), f_X6_number_65 M x1 x2 x3 = some z → GP p l e (rmk 1) s m args below meth c 0 0 Q D cs ad 5 65 [(0, .ref (ad 2)), (1, .int x1), (2, .int x2), (3, .int x3)] [] M := by
    intro M x1 x2 x3 h H locs hG ls hl
    unfold f_X6_number_65 at h
    refine lv_iload_n hx hb dX6_number_65 rfl (lv_at hl 3 rfl) ?_
    refine lv_aload_n hx hb dX6_number_66 rfl (lv_at hl 0 rfl) ?_
    refine gf_X6_at C hG gk_2 wf_X6_25 dX6_number_67 ?_
    refine lv_isub hx hb dX6_number_70 ?_
    refine lv_topi (fun x4_71 e4_71 => ?_)
    have h := nm_at e4_71 h
    refine lv_istore (lv' := [(4, .int x4_71), (0, .ref (ad 2)), (1, .int x1), (2, .int x2), (3, .int x3)]) hx hb dX6_number_71 hl (by decide) rfl (fun ls hl => ?_)
    refine lv_iload hx hb dX6_number_73 (lv_at hl 0 rfl) ?_
    refine lv_iconst (v := 1) hx hb dX6_number_75 (by decide) ?_
    refine lv_icmp_lt (tgt := 85) hx hb dX6_number_76 (by decide) (fun c_76 => ?_) (fun c_76 => ?_)
    · have h := if_t c_76 h
      refine lv_aload_n hx hb dX6_number_85 rfl (lv_at hl 1 rfl) ?_
      refine lv_iconst (v := 1) hx hb dX6_number_86 (by decide) ?_
      refine lv_aload_n hx hb dX6_number_87 rfl (lv_at hl 1 rfl) ?_
      refine gf_X6_at C hG gk_2 wf_X6_25 dX6_number_88 ?_
      obtain ⟨q91, e_91⟩ : ∃ y, f_X6_fail M (1 : Int32) (M 2 4) = y := ⟨_, rfl⟩
      have h := nm_at e_91.symm h
      refine g_ci hG (g_runV C hG (gR_6 gk_2) (c_X6_fail l D cs ad M (1 : Int32) (M 2 4) e_91) wm_X6_70 wi_X6_fail ws_X6_fail wz_X6 wc_X6_fail e_X6_fail (by decide) hl.1 (Nat.le_of_ble_eq_true rfl) dX6_number_91) (fun H locs hG => ?_)
      refine lv_pop hx hb dX6_number_94 rfl ?_
      refine lv_iconst (v := 0) hx hb dX6_number_95 (by decide) ?_
      exact hr (pf1 (Option.some.inj h)) (pf2 (Option.some.inj h)) hG dX6_number_96
    · have h := if_f c_76 h
      refine lv_iload hx hb dX6_number_79 (lv_at hl 0 rfl) ?_
      refine lv_iconst (v := 2) hx hb dX6_number_81 (by decide) ?_
      refine lv_icmp_le (tgt := 97) hx hb dX6_number_82 (by decide) (fun c_82 => ?_) (fun c_82 => ?_)
      · have h := if_t c_82 h
        refine lv_iload_n hx hb dX6_number_97 rfl (lv_at hl 3 rfl) ?_
        refine lv_iload_n hx hb dX6_number_98 rfl (lv_at hl 2 rfl) ?_
        refine lv_icmp_le (tgt := 114) hx hb dX6_number_99 (by decide) (fun c_99 => ?_) (fun c_99 => ?_)
        · have h := if_t c_99 h
          refine lv_aload_n hx hb dX6_number_114 rfl (lv_at hl 1 rfl) ?_
          refine lv_iload_n hx hb dX6_number_115 rfl (lv_at hl 4 rfl) ?_
          refine gp_X6_at C hG gk_2 wf_X6_25 dX6_number_116 (fun M116 e_116 H locs hG => ?_)
          have h := nm_at e_116 h
          refine lv_iload_n hx hb dX6_number_119 rfl (lv_at hl 3 rfl) ?_
          exact hr (pf1 (Option.some.inj h)) (pf2 (Option.some.inj h)) hG dX6_number_120
        · have h := if_f c_99 h
          refine lv_aload_n hx hb dX6_number_102 rfl (lv_at hl 1 rfl) ?_
          refine lv_iconst (v := 2) hx hb dX6_number_103 (by decide) ?_
          refine lv_aload_n hx hb dX6_number_104 rfl (lv_at hl 1 rfl) ?_
          refine gf_X6_at C hG gk_2 wf_X6_25 dX6_number_105 ?_
          obtain ⟨q108, e_108⟩ : ∃ y, f_X6_fail M (2 : Int32) (M 2 4) = y := ⟨_, rfl⟩
          have h := nm_at e_108.symm h
          refine g_ci hG (g_runV C hG (gR_6 gk_2) (c_X6_fail l D cs ad M (2 : Int32) (M 2 4) e_108) wm_X6_70 wi_X6_fail ws_X6_fail wz_X6 wc_X6_fail e_X6_fail (by decide) hl.1 (Nat.le_of_ble_eq_true rfl) dX6_number_108) (fun H locs hG => ?_)
          refine lv_pop hx hb dX6_number_111 rfl ?_
          refine lv_iconst (v := 0) hx hb dX6_number_112 (by decide) ?_
          exact hr (pf1 (Option.some.inj h)) (pf2 (Option.some.inj h)) hG dX6_number_113
      · have h := if_f c_82 h
        refine lv_aload_n hx hb dX6_number_85 rfl (lv_at hl 1 rfl) ?_
        refine lv_iconst (v := 1) hx hb dX6_number_86 (by decide) ?_
        refine lv_aload_n hx hb dX6_number_87 rfl (lv_at hl 1 rfl) ?_
        refine gf_X6_at C hG gk_2 wf_X6_25 dX6_number_88 ?_
        obtain ⟨q91, e_91⟩ : ∃ y, f_X6_fail M (1 : Int32) (M 2 4) = y := ⟨_, rfl⟩
        have h := nm_at e_91.symm h
        refine g_ci hG (g_runV C hG (gR_6 gk_2) (c_X6_fail l D cs ad M (1 : Int32) (M 2 4) e_91) wm_X6_70 wi_X6_fail ws_X6_fail wz_X6 wc_X6_fail e_X6_fail (by decide) hl.1 (Nat.le_of_ble_eq_true rfl) dX6_number_91) (fun H locs hG => ?_)
        refine lv_pop hx hb dX6_number_94 rfl ?_
        refine lv_iconst (v := 0) hx hb dX6_number_95 (by decide) ?_
        exact hr (pf1 (Option.some.inj h)) (pf2 (Option.some.inj h)) hG dX6_number_96
  have J_16 : ∀ (M : Mem) (x1 : Int32) (n : Nat) (a : Int32 × Int32), iter (fun rec a => f_X6_number_16 M x1 rec a.1 a.2) n a = some z → GP p l e (rmk 1) s m args below meth c 0 0 Q D cs ad 5 16 [(0, .ref (ad 2)), (1, .int x1), (2, .int a.1), (3, .int a.2)] [] M := by
    intro M x1
    refine iter_ind (fun r16 hr16 a h => ?_)
    obtain ⟨x2, x3⟩ := a
    have h : f_X6_number_16 M x1 r16 x2 x3 = some z := h
    intro H locs hG ls hl
    have hG : GH D cs ad s M H locs := hG
    have hl : lv_has ls 5 [(0, .ref (ad 2)), (1, .int x1), (2, .int x2), (3, .int x3)] := hl
    unfold f_X6_number_16 at h
    refine lv_iload_n hx hb dX6_number_16 rfl (lv_at hl 3 rfl) ?_
    refine lv_aload_n hx hb dX6_number_17 rfl (lv_at hl 0 rfl) ?_
    refine gf_X6_length C hG gk_2 wf_X6_15 dX6_number_18 ?_
    refine lv_icmp_ge (tgt := 65) hx hb dX6_number_21 (by decide) (fun c_21 => ?_) (fun c_21 => ?_)
    · have h := if_t c_21 h
      exact J_65 M x1 x2 x3 h H locs hG ls (lv_sub hl [0, 1, 2, 3] rfl)
    · have h := if_f c_21 h
      refine lv_aload_n hx hb dX6_number_24 rfl (lv_at hl 0 rfl) ?_
      refine lv_iload_n hx hb dX6_number_25 rfl (lv_at hl 3 rfl) ?_
      obtain ⟨q26, e_26, h⟩ := bd_e h
      refine g_ci hG (g_runV C hG (gR_6 gk_2) (c_X6_letterAt l D cs ad M x3 e_26) wm_X6_67 wi_X6_letterAt ws_X6_letterAt wz_X6 wc_X6_letterAt e_X6_letterAt (by decide) hl.1 (Nat.le_of_ble_eq_true rfl) dX6_number_26) (fun H locs hG => ?_)
      refine g_ci hG (g_runS C hG (c_X6_isFigure l D cs ad M q26 rfl) wm_X6_88 wt_X6_isFigure wz_X6 wc_X6_isFigure e_X6_isFigure (by decide) hl.1 (Nat.le_of_ble_eq_true rfl) dX6_number_29) (fun H locs hG => ?_)
      refine lv_if_eq (tgt := 65) hx hb dX6_number_32 (by decide) (fun c_32 => ?_) (fun c_32 => ?_)
      · have h := if_f (bi_f c_32) h
        exact J_65 M x1 x2 x3 h H locs hG ls (lv_sub hl [0, 1, 2, 3] rfl)
      · have h := if_t (bi_t c_32) h
        refine lv_iload_n hx hb dX6_number_35 rfl (lv_at hl 3 rfl) ?_
        refine lv_aload_n hx hb dX6_number_36 rfl (lv_at hl 0 rfl) ?_
        refine gf_X6_at C hG gk_2 wf_X6_25 dX6_number_37 ?_
        refine lv_iconst (v := 3) hx hb dX6_number_40 (by decide) ?_
        refine lv_iadd hx hb dX6_number_41 ?_
        refine lv_icmp_ge (tgt := 65) hx hb dX6_number_42 (by decide) (fun c_42 => ?_) (fun c_42 => ?_)
        · have h := if_t c_42 h
          exact J_65 M x1 x2 x3 h H locs hG ls (lv_sub hl [0, 1, 2, 3] rfl)
        · have h := if_f c_42 h
          refine lv_iload_n hx hb dX6_number_45 rfl (lv_at hl 2 rfl) ?_
          refine lv_bipush (v := 10) hx hb dX6_number_46 (by decide) ?_
          refine lv_imul hx hb dX6_number_48 ?_
          refine lv_aload_n hx hb dX6_number_49 rfl (lv_at hl 0 rfl) ?_
          refine lv_iload_n hx hb dX6_number_50 rfl (lv_at hl 3 rfl) ?_
          obtain ⟨q51, e_51, h⟩ := bd_e h
          refine g_ci hG (g_runV C hG (gR_6 gk_2) (c_X6_letterAt l D cs ad M x3 e_51) wm_X6_67 wi_X6_letterAt ws_X6_letterAt wz_X6 wc_X6_letterAt e_X6_letterAt (by decide) hl.1 (Nat.le_of_ble_eq_true rfl) dX6_number_51) (fun H locs hG => ?_)
          refine lv_iadd hx hb dX6_number_54 ?_
          refine lv_bipush (v := 48) hx hb dX6_number_55 (by decide) ?_
          refine lv_isub hx hb dX6_number_57 ?_
          refine lv_topi (fun x2_58 e2_58 => ?_)
          have h := nm_at e2_58 h
          refine lv_istore_n (lv' := [(2, .int x2_58), (0, .ref (ad 2)), (1, .int x1), (3, .int x3)]) hx hb dX6_number_58 rfl hl (by decide) rfl (fun ls hl => ?_)
          obtain ⟨x3_59, e3_59⟩ : ∃ y : Int32, y = x3 + (1 : Int32) := ⟨_, rfl⟩
          have h := nm_at e3_59 h
          refine lv_iinc (v := x3_59) (lv' := [(3, .int x3_59), (2, .int x2_58), (0, .ref (ad 2)), (1, .int x1)]) hx hb dX6_number_59 hl (k := 3) rfl (by rw [e3_59]; rfl) (by decide) rfl (fun ls hl => ?_)
          refine lv_goto (tgt := 16) hx hb dX6_number_62 (by decide) ?_
          exact hr16 (x2_58, x3_59) h H locs hG ls (lv_sub hl [2, 3, 1, 0] rfl)
  intro H locs hG ls hl
  have hl : lv_has ls 5 [(0, .ref (ad 2)), (1, .int x1)] := hl
  unfold f_X6_number at h
  refine lv_aload_n hx hb dX6_number_0 rfl (lv_at hl 0 rfl) ?_
  refine gf_X6_isFaulty C hG gk_2 wf_X6_28 dX6_number_1 ?_
  refine lv_if_eq (tgt := 9) hx hb dX6_number_4 (by decide) (fun c_4 => ?_) (fun c_4 => ?_)
  · have h := if_t c_4 h
    refine lv_iconst (v := 0) hx hb dX6_number_9 (by decide) ?_
    refine lv_istore_n (lv' := [(2, .int 0), (0, .ref (ad 2)), (1, .int x1)]) hx hb dX6_number_10 rfl hl (by decide) rfl (fun ls hl => ?_)
    refine lv_aload_n hx hb dX6_number_11 rfl (lv_at hl 1 rfl) ?_
    refine gf_X6_at C hG gk_2 wf_X6_25 dX6_number_12 ?_
    refine lv_topi (fun x3_15 e3_15 => ?_)
    have h := nm_at e3_15 h
    refine lv_istore_n (lv' := [(3, .int x3_15), (2, .int 0), (0, .ref (ad 2)), (1, .int x1)]) hx hb dX6_number_15 rfl hl (by decide) rfl (fun ls hl => ?_)
    exact J_16 M x1 _ ((0 : Int32), x3_15) h H locs hG ls (lv_sub hl [2, 3, 1, 0] rfl)
  · have h := if_f c_4 h
    refine lv_iconst (v := 0) hx hb dX6_number_7 (by decide) ?_
    exact hr (pf1 (Option.some.inj h)) (pf2 (Option.some.inj h)) hG dX6_number_8
def f_X6_readLaw (M : Mem) (i1 : Nat) : Option (Bool × Mem) :=
  (f_X6_passes M (102 : Int32)).bind fun q3 =>
  (f_X6_number q3.2 (9 : Int32)).bind fun q14 =>
  nm (st q14.2 (i1 + 1) 0 q14.1) fun M17 =>
  (f_X6_passes M17 (59 : Int32)).bind fun q23 =>
  some (q23.1, q23.2)
theorem e_X6_readLaw : yX6_readLaw.cls = RX6 ∧ yX6_readLaw.cls ≠ "java/lang/invoke/MethodHandle" ∧ yX6_readLaw.cls ≠ "java/lang/invoke/VarHandle" ∧ (parseMethodDescriptor yX6_readLaw.desc).map (fun d => d.parameters.length) = some 1 := by decide +kernel
set_option maxHeartbeats 4000000 in
set_option maxRecDepth 100000 in
theorem c_X6_readLaw (l : Launch) (D : va_G) (cs : Nat → ClassId) (ad : Nat → Nat) (M : Mem) {i1 : Nat} (k_i1 : gK i1 = 2) {z : Bool × Mem} (h : f_X6_readLaw M i1 = some z) : CtI l yX6_readLaw cX6_readLaw 2 .boolean 2 D cs ad [.ref (ad 2), .ref (ad i1)] M (bi z.1) z.2 := by
  refine ct_z (own := RX6) (by decide) rfl (Nat.le_of_ble_eq_true rfl) ?_
  intro p e s m args below meth c Q C hr
  have hx := C.1
  have hb := C.2.1
  have hown := C.2.2.2.1
  have hts := C.2.2.2.2.1
  intro H locs hG ls hl
  have hl : lv_has ls 2 [(0, .ref (ad 2)), (1, .ref (ad i1))] := hl
  unfold f_X6_readLaw at h
  refine lv_aload_n hx hb dX6_readLaw_0 rfl (lv_at hl 0 rfl) ?_
  refine lv_bipush (v := 102) hx hb dX6_readLaw_1 (by decide) ?_
  obtain ⟨q3, e_3, h⟩ := bd_e h
  refine g_ci hG (g_runV C hG (gR_6 gk_2) (c_X6_passes l D cs ad M (102 : Int32) e_3) wm_X6_47 wi_X6_passes ws_X6_passes wz_X6 wc_X6_passes e_X6_passes (by decide) hl.1 (Nat.le_of_ble_eq_true rfl) dX6_readLaw_3) (fun H locs hG => ?_)
  refine lv_pop hx hb dX6_readLaw_6 rfl ?_
  refine lv_aload_n hx hb dX6_readLaw_7 rfl (lv_at hl 1 rfl) ?_
  refine gf_X2_told (j := (i1 + 1)) C hG k_i1 rfl wf_X6_51 dX6_readLaw_8 ?_
  refine lv_aload_n hx hb dX6_readLaw_11 rfl (lv_at hl 0 rfl) ?_
  refine lv_bipush (v := 9) hx hb dX6_readLaw_12 (by decide) ?_
  obtain ⟨q14, e_14, h⟩ := bd_e h
  refine g_ci hG (g_runV C hG (gR_6 gk_2) (c_X6_number l D cs ad q3.2 (9 : Int32) e_14) wm_X6_55 wi_X6_number ws_X6_number wz_X6 wc_X6_number e_X6_number (by decide) hl.1 (Nat.le_of_ble_eq_true rfl) dX6_readLaw_14) (fun H locs hG => ?_)
  refine gp_X7_lawOfFeed C hG (gk_X2_told k_i1) wf_X6_59 dX6_readLaw_17 (fun M17 e_17 H locs hG => ?_)
  have h := nm_at e_17 h
  refine lv_aload_n hx hb dX6_readLaw_20 rfl (lv_at hl 0 rfl) ?_
  refine lv_bipush (v := 59) hx hb dX6_readLaw_21 (by decide) ?_
  obtain ⟨q23, e_23, h⟩ := bd_e h
  refine g_ci hG (g_runV C hG (gR_6 gk_2) (c_X6_passes l D cs ad M17 (59 : Int32) e_23) wm_X6_47 wi_X6_passes ws_X6_passes wz_X6 wc_X6_passes e_X6_passes (by decide) hl.1 (Nat.le_of_ble_eq_true rfl) dX6_readLaw_23) (fun H locs hG => ?_)
  exact hr (congrArg bi (pf1 (Option.some.inj h))) (pf2 (Option.some.inj h)) hG dX6_readLaw_26
def f_X6_readValley (M : Mem) (i1 : Nat) : Option (Bool × Mem) :=
  (f_X6_passes M (118 : Int32)).bind fun q3 =>
  (f_X6_number q3.2 (20 : Int32)).bind fun q10 =>
  (f_X6_passes q10.2 (44 : Int32)).bind fun q17 =>
  (f_X6_number q17.2 (9 : Int32)).bind fun q24 =>
  (f_X6_passes q24.2 (59 : Int32)).bind fun q31 =>
  if q31.1 = true then (
    (f_X2_addValley q31.2 i1 q10.1 q24.1).bind fun q42 =>
    some (true, q42)
  ) else (
    some (false, q31.2)
  )
theorem e_X6_readValley : yX6_readValley.cls = RX6 ∧ yX6_readValley.cls ≠ "java/lang/invoke/MethodHandle" ∧ yX6_readValley.cls ≠ "java/lang/invoke/VarHandle" ∧ (parseMethodDescriptor yX6_readValley.desc).map (fun d => d.parameters.length) = some 1 := by decide +kernel
set_option maxHeartbeats 4000000 in
set_option maxRecDepth 100000 in
theorem c_X6_readValley (l : Launch) (D : va_G) (cs : Nat → ClassId) (ad : Nat → Nat) (M : Mem) {i1 : Nat} (k_i1 : gK i1 = 2) {z : Bool × Mem} (h : f_X6_readValley M i1 = some z) : CtI l yX6_readValley cX6_readValley 4 .boolean 2 D cs ad [.ref (ad 2), .ref (ad i1)] M (bi z.1) z.2 := by
  refine ct_z (own := RX6) (by decide) rfl (Nat.le_of_ble_eq_true rfl) ?_
  intro p e s m args below meth c Q C hr
  have hx := C.1
  have hb := C.2.1
  have hown := C.2.2.2.1
  have hts := C.2.2.2.2.1
  intro H locs hG ls hl
  have hl : lv_has ls 4 [(0, .ref (ad 2)), (1, .ref (ad i1))] := hl
  unfold f_X6_readValley at h
  refine lv_aload_n hx hb dX6_readValley_0 rfl (lv_at hl 0 rfl) ?_
  refine lv_bipush (v := 118) hx hb dX6_readValley_1 (by decide) ?_
  obtain ⟨q3, e_3, h⟩ := bd_e h
  refine g_ci hG (g_runV C hG (gR_6 gk_2) (c_X6_passes l D cs ad M (118 : Int32) e_3) wm_X6_47 wi_X6_passes ws_X6_passes wz_X6 wc_X6_passes e_X6_passes (by decide) hl.1 (Nat.le_of_ble_eq_true rfl) dX6_readValley_3) (fun H locs hG => ?_)
  refine lv_pop hx hb dX6_readValley_6 rfl ?_
  refine lv_aload_n hx hb dX6_readValley_7 rfl (lv_at hl 0 rfl) ?_
  refine lv_bipush (v := 20) hx hb dX6_readValley_8 (by decide) ?_
  obtain ⟨q10, e_10, h⟩ := bd_e h
  refine g_ci hG (g_runV C hG (gR_6 gk_2) (c_X6_number l D cs ad q3.2 (20 : Int32) e_10) wm_X6_55 wi_X6_number ws_X6_number wz_X6 wc_X6_number e_X6_number (by decide) hl.1 (Nat.le_of_ble_eq_true rfl) dX6_readValley_10) (fun H locs hG => ?_)
  refine lv_istore_n (lv' := [(2, .int q10.1), (0, .ref (ad 2)), (1, .ref (ad i1))]) hx hb dX6_readValley_13 rfl hl (by decide) rfl (fun ls hl => ?_)
  refine lv_aload_n hx hb dX6_readValley_14 rfl (lv_at hl 1 rfl) ?_
  refine lv_bipush (v := 44) hx hb dX6_readValley_15 (by decide) ?_
  obtain ⟨q17, e_17, h⟩ := bd_e h
  refine g_ci hG (g_runV C hG (gR_6 gk_2) (c_X6_passes l D cs ad q10.2 (44 : Int32) e_17) wm_X6_47 wi_X6_passes ws_X6_passes wz_X6 wc_X6_passes e_X6_passes (by decide) hl.1 (Nat.le_of_ble_eq_true rfl) dX6_readValley_17) (fun H locs hG => ?_)
  refine lv_pop hx hb dX6_readValley_20 rfl ?_
  refine lv_aload_n hx hb dX6_readValley_21 rfl (lv_at hl 1 rfl) ?_
  refine lv_bipush (v := 9) hx hb dX6_readValley_22 (by decide) ?_
  obtain ⟨q24, e_24, h⟩ := bd_e h
  refine g_ci hG (g_runV C hG (gR_6 gk_2) (c_X6_number l D cs ad q17.2 (9 : Int32) e_24) wm_X6_55 wi_X6_number ws_X6_number wz_X6 wc_X6_number e_X6_number (by decide) hl.1 (Nat.le_of_ble_eq_true rfl) dX6_readValley_24) (fun H locs hG => ?_)
  refine lv_istore_n (lv' := [(3, .int q24.1), (2, .int q10.1), (0, .ref (ad 2)), (1, .ref (ad i1))]) hx hb dX6_readValley_27 rfl hl (by decide) rfl (fun ls hl => ?_)
  refine lv_aload_n hx hb dX6_readValley_28 rfl (lv_at hl 2 rfl) ?_
  refine lv_bipush (v := 59) hx hb dX6_readValley_29 (by decide) ?_
  obtain ⟨q31, e_31, h⟩ := bd_e h
  refine g_ci hG (g_runV C hG (gR_6 gk_2) (c_X6_passes l D cs ad q24.2 (59 : Int32) e_31) wm_X6_47 wi_X6_passes ws_X6_passes wz_X6 wc_X6_passes e_X6_passes (by decide) hl.1 (Nat.le_of_ble_eq_true rfl) dX6_readValley_31) (fun H locs hG => ?_)
  refine lv_if_ne (tgt := 39) hx hb dX6_readValley_34 (by decide) (fun c_34 => ?_) (fun c_34 => ?_)
  · have h := if_t (bi_t c_34) h
    refine lv_aload_n hx hb dX6_readValley_39 rfl (lv_at hl 3 rfl) ?_
    refine lv_iload_n hx hb dX6_readValley_40 rfl (lv_at hl 1 rfl) ?_
    refine lv_iload_n hx hb dX6_readValley_41 rfl (lv_at hl 0 rfl) ?_
    obtain ⟨q42, e_42, h⟩ := bd_e h
    refine g_cv hG (g_runV C hG (gR_2 k_i1) (c_X2_addValley l D cs ad q31.2 k_i1 q10.1 q24.1 e_42) wm_X6_74 wi_X2_addValley ws_X2_addValley wz_X2 wc_X2_addValley e_X2_addValley (by decide) hl.1 (Nat.le_of_ble_eq_true rfl) dX6_readValley_42) (fun H locs hG => ?_)
    refine lv_iconst (v := 1) hx hb dX6_readValley_45 (by decide) ?_
    exact hr (congrArg bi (pf1 (Option.some.inj h))) (pf2 (Option.some.inj h)) hG dX6_readValley_46
  · have h := if_f (bi_f c_34) h
    refine lv_iconst (v := 0) hx hb dX6_readValley_37 (by decide) ?_
    exact hr (congrArg bi (pf1 (Option.some.inj h))) (pf2 (Option.some.inj h)) hG dX6_readValley_38
def f_X6_readValleys_2 (i1 : Nat) (r2 : (Mem × Int32) → Option (Bool × Mem)) (M : Mem) (x2 : Int32) : Option (Bool × Mem) :=
  if (5 : Int32) ≤ x2 then (
    nm (f_X6_fail M (3 : Int32) (M 2 4)) fun q44 =>
    some (q44.1, q44.2)
  ) else (
    (f_X6_readValley M i1).bind fun q9 =>
    if q9.1 = true then (
      (f_X6_letterAt q9.2 (q9.2 2 4)).bind fun q22 =>
      if q22 = (118 : Int32) then (
        nm (x2 + (1 : Int32)) fun x2_32 =>
        r2 (q9.2, x2_32)
      ) else (
        some (true, q9.2)
      )
    ) else (
      some (false, q9.2)
    )
  )
def f_X6_readValleys (M : Mem) (i1 : Nat) : Option (Bool × Mem) :=
  iter (fun rec a => f_X6_readValleys_2 i1 rec a.1 a.2) fuel (M, (0 : Int32))
theorem e_X6_readValleys : yX6_readValleys.cls = RX6 ∧ yX6_readValleys.cls ≠ "java/lang/invoke/MethodHandle" ∧ yX6_readValleys.cls ≠ "java/lang/invoke/VarHandle" ∧ (parseMethodDescriptor yX6_readValleys.desc).map (fun d => d.parameters.length) = some 1 := by decide +kernel
set_option maxHeartbeats 4000000 in
set_option maxRecDepth 100000 in
theorem c_X6_readValleys (l : Launch) (D : va_G) (cs : Nat → ClassId) (ad : Nat → Nat) (M : Mem) {i1 : Nat} (k_i1 : gK i1 = 2) {z : Bool × Mem} (h : f_X6_readValleys M i1 = some z) : CtI l yX6_readValleys cX6_readValleys 3 .boolean 3 D cs ad [.ref (ad 2), .ref (ad i1)] M (bi z.1) z.2 := by
  refine ct_z (own := RX6) (by decide) rfl (Nat.le_of_ble_eq_true rfl) ?_
  intro p e s m args below meth c Q C hr
  have hx := C.1
  have hb := C.2.1
  have hown := C.2.2.2.1
  have hts := C.2.2.2.2.1
  have J_2 : ∀ (n : Nat) (a : Mem × Int32), iter (fun rec a => f_X6_readValleys_2 i1 rec a.1 a.2) n a = some z → GP p l e (rmk 3) s m args below meth c 0 0 Q D cs ad 3 2 [(0, .ref (ad 2)), (1, .ref (ad i1)), (2, .int a.2)] [] a.1 := by
    refine iter_ind (fun r2 hr2 a h => ?_)
    obtain ⟨M, x2⟩ := a
    have h : f_X6_readValleys_2 i1 r2 M x2 = some z := h
    intro H locs hG ls hl
    have hG : GH D cs ad s M H locs := hG
    have hl : lv_has ls 3 [(0, .ref (ad 2)), (1, .ref (ad i1)), (2, .int x2)] := hl
    unfold f_X6_readValleys_2 at h
    refine lv_iload_n hx hb dX6_readValleys_2 rfl (lv_at hl 2 rfl) ?_
    refine lv_iconst (v := 5) hx hb dX6_readValleys_3 (by decide) ?_
    refine lv_icmp_ge (tgt := 38) hx hb dX6_readValleys_4 (by decide) (fun c_4 => ?_) (fun c_4 => ?_)
    · have h := if_t c_4 h
      refine lv_aload_n hx hb dX6_readValleys_38 rfl (lv_at hl 0 rfl) ?_
      refine lv_iconst (v := 3) hx hb dX6_readValleys_39 (by decide) ?_
      refine lv_aload_n hx hb dX6_readValleys_40 rfl (lv_at hl 0 rfl) ?_
      refine gf_X6_at C hG gk_2 wf_X6_25 dX6_readValleys_41 ?_
      obtain ⟨q44, e_44⟩ : ∃ y, f_X6_fail M (3 : Int32) (M 2 4) = y := ⟨_, rfl⟩
      have h := nm_at e_44.symm h
      refine g_ci hG (g_runV C hG (gR_6 gk_2) (c_X6_fail l D cs ad M (3 : Int32) (M 2 4) e_44) wm_X6_70 wi_X6_fail ws_X6_fail wz_X6 wc_X6_fail e_X6_fail (by decide) hl.1 (Nat.le_of_ble_eq_true rfl) dX6_readValleys_44) (fun H locs hG => ?_)
      exact hr (congrArg bi (pf1 (Option.some.inj h))) (pf2 (Option.some.inj h)) hG dX6_readValleys_47
    · have h := if_f c_4 h
      refine lv_aload_n hx hb dX6_readValleys_7 rfl (lv_at hl 0 rfl) ?_
      refine lv_aload_n hx hb dX6_readValleys_8 rfl (lv_at hl 1 rfl) ?_
      obtain ⟨q9, e_9, h⟩ := bd_e h
      refine g_ci hG (g_runV C hG (gR_6 gk_2) (c_X6_readValley l D cs ad M k_i1 e_9) wm_X6_64 wi_X6_readValley ws_X6_readValley wz_X6 wc_X6_readValley e_X6_readValley (by decide) hl.1 (Nat.le_of_ble_eq_true rfl) dX6_readValleys_9) (fun H locs hG => ?_)
      refine lv_if_ne (tgt := 17) hx hb dX6_readValleys_12 (by decide) (fun c_12 => ?_) (fun c_12 => ?_)
      · have h := if_t (bi_t c_12) h
        refine lv_aload_n hx hb dX6_readValleys_17 rfl (lv_at hl 0 rfl) ?_
        refine lv_aload_n hx hb dX6_readValleys_18 rfl (lv_at hl 0 rfl) ?_
        refine gf_X6_at C hG gk_2 wf_X6_25 dX6_readValleys_19 ?_
        obtain ⟨q22, e_22, h⟩ := bd_e h
        refine g_ci hG (g_runV C hG (gR_6 gk_2) (c_X6_letterAt l D cs ad q9.2 (q9.2 2 4) e_22) wm_X6_67 wi_X6_letterAt ws_X6_letterAt wz_X6 wc_X6_letterAt e_X6_letterAt (by decide) hl.1 (Nat.le_of_ble_eq_true rfl) dX6_readValleys_22) (fun H locs hG => ?_)
        refine lv_bipush (v := 118) hx hb dX6_readValleys_25 (by decide) ?_
        refine lv_icmp_eq (tgt := 32) hx hb dX6_readValleys_27 (by decide) (fun c_27 => ?_) (fun c_27 => ?_)
        · have h := if_t c_27 h
          obtain ⟨x2_32, e2_32⟩ : ∃ y : Int32, y = x2 + (1 : Int32) := ⟨_, rfl⟩
          have h := nm_at e2_32 h
          refine lv_iinc (v := x2_32) (lv' := [(2, .int x2_32), (0, .ref (ad 2)), (1, .ref (ad i1))]) hx hb dX6_readValleys_32 hl (k := 2) rfl (by rw [e2_32]; rfl) (by decide) rfl (fun ls hl => ?_)
          refine lv_goto (tgt := 2) hx hb dX6_readValleys_35 (by decide) ?_
          exact hr2 (q9.2, x2_32) h H locs hG ls (lv_sub hl [1, 2, 0] rfl)
        · have h := if_f c_27 h
          refine lv_iconst (v := 1) hx hb dX6_readValleys_30 (by decide) ?_
          exact hr (congrArg bi (pf1 (Option.some.inj h))) (pf2 (Option.some.inj h)) hG dX6_readValleys_31
      · have h := if_f (bi_f c_12) h
        refine lv_iconst (v := 0) hx hb dX6_readValleys_15 (by decide) ?_
        exact hr (congrArg bi (pf1 (Option.some.inj h))) (pf2 (Option.some.inj h)) hG dX6_readValleys_16
  intro H locs hG ls hl
  have hl : lv_has ls 3 [(0, .ref (ad 2)), (1, .ref (ad i1))] := hl
  unfold f_X6_readValleys at h
  refine lv_iconst (v := 0) hx hb dX6_readValleys_0 (by decide) ?_
  refine lv_istore_n (lv' := [(2, .int 0), (0, .ref (ad 2)), (1, .ref (ad i1))]) hx hb dX6_readValleys_1 rfl hl (by decide) rfl (fun ls hl => ?_)
  exact J_2 _ (M, (0 : Int32)) h H locs hG ls (lv_sub hl [1, 2, 0] rfl)
def f_X6_kindTold (x0 : Int32) : Int32 :=
  if x0 = (100 : Int32) then (
    (2 : Int32)
  ) else (
  if x0 = (104 : Int32) then (
    (1 : Int32)
  ) else (
  if x0 = (110 : Int32) then (
    (4 : Int32)
  ) else (
  if x0 = (111 : Int32) then (
    (3 : Int32)
  ) else (
  if x0 = (112 : Int32) then (
    (5 : Int32)
  ) else (
    (0 : Int32)
  )))))
theorem e_X6_kindTold : yX6_kindTold.cls ≠ "java/lang/invoke/MethodHandle" ∧ yX6_kindTold.cls ≠ "java/lang/invoke/VarHandle" ∧ (parseMethodDescriptor yX6_kindTold.desc).map (fun d => d.parameters.length) = some 1 := by decide +kernel
set_option maxHeartbeats 4000000 in
set_option maxRecDepth 100000 in
theorem c_X6_kindTold (l : Launch) (D : va_G) (cs : Nat → ClassId) (ad : Nat → Nat) (M : Mem) (x0 : Int32) {z : Int32} (h : f_X6_kindTold x0 = z) : CtI l yX6_kindTold cX6_kindTold 1 .int 0 D cs ad [.int x0] M z M := by
  refine ct_i (own := RX6) (by decide) rfl (Nat.le_of_ble_eq_true rfl) ?_
  intro p e s m args below meth c Q C hr
  have hx := C.1
  have hb := C.2.1
  have hown := C.2.2.2.1
  have hts := C.2.2.2.2.1
  intro H locs hG ls hl
  have hl : lv_has ls 1 [(0, .int x0)] := hl
  unfold f_X6_kindTold at h
  refine lv_iload_n hx hb dX6_kindTold_0 rfl (lv_at hl 0 rfl) ?_
  by_cases c_1_100 : x0 = (100 : Int32)
  · have h := if_t c_1_100 h
    refine g_tsw (tgt := 70) (off := 69) hx hb dX6_kindTold_1 (by rw [c_1_100]; rfl) (by decide) ?_
    refine lv_iconst (v := 2) hx hb dX6_kindTold_70 (by decide) ?_
    exact hr h rfl hG dX6_kindTold_71
  have h := if_f c_1_100 h
  by_cases c_1_104 : x0 = (104 : Int32)
  · have h := if_t c_1_104 h
    refine g_tsw (tgt := 68) (off := 67) hx hb dX6_kindTold_1 (by rw [c_1_104]; rfl) (by decide) ?_
    refine lv_iconst (v := 1) hx hb dX6_kindTold_68 (by decide) ?_
    exact hr h rfl hG dX6_kindTold_69
  have h := if_f c_1_104 h
  by_cases c_1_110 : x0 = (110 : Int32)
  · have h := if_t c_1_110 h
    refine g_tsw (tgt := 74) (off := 73) hx hb dX6_kindTold_1 (by rw [c_1_110]; rfl) (by decide) ?_
    refine lv_iconst (v := 4) hx hb dX6_kindTold_74 (by decide) ?_
    exact hr h rfl hG dX6_kindTold_75
  have h := if_f c_1_110 h
  by_cases c_1_111 : x0 = (111 : Int32)
  · have h := if_t c_1_111 h
    refine g_tsw (tgt := 72) (off := 71) hx hb dX6_kindTold_1 (by rw [c_1_111]; rfl) (by decide) ?_
    refine lv_iconst (v := 3) hx hb dX6_kindTold_72 (by decide) ?_
    exact hr h rfl hG dX6_kindTold_73
  have h := if_f c_1_111 h
  by_cases c_1_112 : x0 = (112 : Int32)
  · have h := if_t c_1_112 h
    refine g_tsw (tgt := 76) (off := 75) hx hb dX6_kindTold_1 (by rw [c_1_112]; rfl) (by decide) ?_
    refine lv_iconst (v := 5) hx hb dX6_kindTold_76 (by decide) ?_
    exact hr h rfl hG dX6_kindTold_77
  have h := if_f c_1_112 h
  refine g_tsw (tgt := 78) (off := 77) hx hb dX6_kindTold_1 ?_ (by decide) ?_
  · have n_100 := i32_ne c_1_100 (j := 100) rfl
    have n_104 := i32_ne c_1_104 (j := 104) rfl
    have n_110 := i32_ne c_1_110 (j := 110) rfl
    have n_111 := i32_ne c_1_111 (j := 111) rfl
    have n_112 := i32_ne c_1_112 (j := 112) rfl
    rcases (show (x0).toInt < 100 ∨ 112 < (x0).toInt ∨ (x0).toInt = 101 ∨ (x0).toInt = 102 ∨ (x0).toInt = 103 ∨ (x0).toInt = 105 ∨ (x0).toInt = 106 ∨ (x0).toInt = 107 ∨ (x0).toInt = 108 ∨ (x0).toInt = 109 by omega) with q | q | q | q | q | q | q | q | q | q
    · exact if_pos (Or.inl q)
    · exact if_pos (Or.inr q)
    · rw [q]; rfl
    · rw [q]; rfl
    · rw [q]; rfl
    · rw [q]; rfl
    · rw [q]; rfl
    · rw [q]; rfl
    · rw [q]; rfl
    · rw [q]; rfl
  · refine lv_iconst (v := 0) hx hb dX6_kindTold_78 (by decide) ?_
    exact hr h rfl hG dX6_kindTold_79
def f_X6_readBird (M : Mem) (i1 : Nat) : Option (Bool × Mem) :=
  (f_X6_letterAt M (M 2 4)).bind fun q5 =>
  nm ((f_X6_kindTold q5)) fun x2_11 =>
  if x2_11 = (0 : Int32) then (
    nm (f_X6_fail M (1 : Int32) (M 2 4)) fun q22 =>
    some (q22.1, q22.2)
  ) else (
    nm (st M 2 4 ((M 2 4) + (1 : Int32))) fun M33 =>
    (f_X6_number M33 (30 : Int32)).bind fun q39 =>
    (f_X6_passes q39.2 (44 : Int32)).bind fun q46 =>
    (f_X6_number q46.2 (6 : Int32)).bind fun q53 =>
    (f_X6_passes q53.2 (44 : Int32)).bind fun q61 =>
    (f_X6_number q61.2 (5 : Int32)).bind fun q67 =>
    (f_X6_passes q67.2 (59 : Int32)).bind fun q75 =>
    if q75.1 = true then (
      (f_X2_addBird q75.2 i1 x2_11 q39.1 q53.1 q67.1).bind fun q90 =>
      some (true, q90)
    ) else (
      some (false, q75.2)
    )
  )
theorem e_X6_readBird : yX6_readBird.cls = RX6 ∧ yX6_readBird.cls ≠ "java/lang/invoke/MethodHandle" ∧ yX6_readBird.cls ≠ "java/lang/invoke/VarHandle" ∧ (parseMethodDescriptor yX6_readBird.desc).map (fun d => d.parameters.length) = some 1 := by decide +kernel
set_option maxHeartbeats 4000000 in
set_option maxRecDepth 100000 in
theorem c_X6_readBird (l : Launch) (D : va_G) (cs : Nat → ClassId) (ad : Nat → Nat) (M : Mem) {i1 : Nat} (k_i1 : gK i1 = 2) {z : Bool × Mem} (h : f_X6_readBird M i1 = some z) : CtI l yX6_readBird cX6_readBird 6 .boolean 2 D cs ad [.ref (ad 2), .ref (ad i1)] M (bi z.1) z.2 := by
  refine ct_z (own := RX6) (by decide) rfl (Nat.le_of_ble_eq_true rfl) ?_
  intro p e s m args below meth c Q C hr
  have hx := C.1
  have hb := C.2.1
  have hown := C.2.2.2.1
  have hts := C.2.2.2.2.1
  intro H locs hG ls hl
  have hl : lv_has ls 6 [(0, .ref (ad 2)), (1, .ref (ad i1))] := hl
  unfold f_X6_readBird at h
  refine lv_aload_n hx hb dX6_readBird_0 rfl (lv_at hl 0 rfl) ?_
  refine lv_aload_n hx hb dX6_readBird_1 rfl (lv_at hl 0 rfl) ?_
  refine gf_X6_at C hG gk_2 wf_X6_25 dX6_readBird_2 ?_
  obtain ⟨q5, e_5, h⟩ := bd_e h
  refine g_ci hG (g_runV C hG (gR_6 gk_2) (c_X6_letterAt l D cs ad M (M 2 4) e_5) wm_X6_67 wi_X6_letterAt ws_X6_letterAt wz_X6 wc_X6_letterAt e_X6_letterAt (by decide) hl.1 (Nat.le_of_ble_eq_true rfl) dX6_readBird_5) (fun H locs hG => ?_)
  refine g_ci hG (g_runS C hG (c_X6_kindTold l D cs ad M q5 rfl) wm_X6_81 wt_X6_kindTold wz_X6 wc_X6_kindTold e_X6_kindTold (by decide) hl.1 (Nat.le_of_ble_eq_true rfl) dX6_readBird_8) (fun H locs hG => ?_)
  refine lv_topi (fun x2_11 e2_11 => ?_)
  have h := nm_at e2_11 h
  refine lv_istore_n (lv' := [(2, .int x2_11), (0, .ref (ad 2)), (1, .ref (ad i1))]) hx hb dX6_readBird_11 rfl hl (by decide) rfl (fun ls hl => ?_)
  refine lv_iload_n hx hb dX6_readBird_12 rfl (lv_at hl 0 rfl) ?_
  refine lv_if_ne (tgt := 26) hx hb dX6_readBird_13 (by decide) (fun c_13 => ?_) (fun c_13 => ?_)
  · have h := if_f c_13 h
    refine lv_aload_n hx hb dX6_readBird_26 rfl (lv_at hl 1 rfl) ?_
    refine lv_dup hx hb dX6_readBird_27 rfl ?_
    refine gf_X6_at C hG gk_2 wf_X6_25 dX6_readBird_28 ?_
    refine lv_iconst (v := 1) hx hb dX6_readBird_31 (by decide) ?_
    refine lv_iadd hx hb dX6_readBird_32 ?_
    refine gp_X6_at C hG gk_2 wf_X6_25 dX6_readBird_33 (fun M33 e_33 H locs hG => ?_)
    have h := nm_at e_33 h
    refine lv_aload_n hx hb dX6_readBird_36 rfl (lv_at hl 1 rfl) ?_
    refine lv_bipush (v := 30) hx hb dX6_readBird_37 (by decide) ?_
    obtain ⟨q39, e_39, h⟩ := bd_e h
    refine g_ci hG (g_runV C hG (gR_6 gk_2) (c_X6_number l D cs ad M33 (30 : Int32) e_39) wm_X6_55 wi_X6_number ws_X6_number wz_X6 wc_X6_number e_X6_number (by decide) hl.1 (Nat.le_of_ble_eq_true rfl) dX6_readBird_39) (fun H locs hG => ?_)
    refine lv_istore_n (lv' := [(3, .int q39.1), (2, .int x2_11), (0, .ref (ad 2)), (1, .ref (ad i1))]) hx hb dX6_readBird_42 rfl hl (by decide) rfl (fun ls hl => ?_)
    refine lv_aload_n hx hb dX6_readBird_43 rfl (lv_at hl 2 rfl) ?_
    refine lv_bipush (v := 44) hx hb dX6_readBird_44 (by decide) ?_
    obtain ⟨q46, e_46, h⟩ := bd_e h
    refine g_ci hG (g_runV C hG (gR_6 gk_2) (c_X6_passes l D cs ad q39.2 (44 : Int32) e_46) wm_X6_47 wi_X6_passes ws_X6_passes wz_X6 wc_X6_passes e_X6_passes (by decide) hl.1 (Nat.le_of_ble_eq_true rfl) dX6_readBird_46) (fun H locs hG => ?_)
    refine lv_pop hx hb dX6_readBird_49 rfl ?_
    refine lv_aload_n hx hb dX6_readBird_50 rfl (lv_at hl 2 rfl) ?_
    refine lv_bipush (v := 6) hx hb dX6_readBird_51 (by decide) ?_
    obtain ⟨q53, e_53, h⟩ := bd_e h
    refine g_ci hG (g_runV C hG (gR_6 gk_2) (c_X6_number l D cs ad q46.2 (6 : Int32) e_53) wm_X6_55 wi_X6_number ws_X6_number wz_X6 wc_X6_number e_X6_number (by decide) hl.1 (Nat.le_of_ble_eq_true rfl) dX6_readBird_53) (fun H locs hG => ?_)
    refine lv_istore (lv' := [(4, .int q53.1), (3, .int q39.1), (2, .int x2_11), (0, .ref (ad 2)), (1, .ref (ad i1))]) hx hb dX6_readBird_56 hl (by decide) rfl (fun ls hl => ?_)
    refine lv_aload_n hx hb dX6_readBird_58 rfl (lv_at hl 3 rfl) ?_
    refine lv_bipush (v := 44) hx hb dX6_readBird_59 (by decide) ?_
    obtain ⟨q61, e_61, h⟩ := bd_e h
    refine g_ci hG (g_runV C hG (gR_6 gk_2) (c_X6_passes l D cs ad q53.2 (44 : Int32) e_61) wm_X6_47 wi_X6_passes ws_X6_passes wz_X6 wc_X6_passes e_X6_passes (by decide) hl.1 (Nat.le_of_ble_eq_true rfl) dX6_readBird_61) (fun H locs hG => ?_)
    refine lv_pop hx hb dX6_readBird_64 rfl ?_
    refine lv_aload_n hx hb dX6_readBird_65 rfl (lv_at hl 3 rfl) ?_
    refine lv_iconst (v := 5) hx hb dX6_readBird_66 (by decide) ?_
    obtain ⟨q67, e_67, h⟩ := bd_e h
    refine g_ci hG (g_runV C hG (gR_6 gk_2) (c_X6_number l D cs ad q61.2 (5 : Int32) e_67) wm_X6_55 wi_X6_number ws_X6_number wz_X6 wc_X6_number e_X6_number (by decide) hl.1 (Nat.le_of_ble_eq_true rfl) dX6_readBird_67) (fun H locs hG => ?_)
    refine lv_istore (lv' := [(5, .int q67.1), (4, .int q53.1), (3, .int q39.1), (2, .int x2_11), (0, .ref (ad 2)), (1, .ref (ad i1))]) hx hb dX6_readBird_70 hl (by decide) rfl (fun ls hl => ?_)
    refine lv_aload_n hx hb dX6_readBird_72 rfl (lv_at hl 4 rfl) ?_
    refine lv_bipush (v := 59) hx hb dX6_readBird_73 (by decide) ?_
    obtain ⟨q75, e_75, h⟩ := bd_e h
    refine g_ci hG (g_runV C hG (gR_6 gk_2) (c_X6_passes l D cs ad q67.2 (59 : Int32) e_75) wm_X6_47 wi_X6_passes ws_X6_passes wz_X6 wc_X6_passes e_X6_passes (by decide) hl.1 (Nat.le_of_ble_eq_true rfl) dX6_readBird_75) (fun H locs hG => ?_)
    refine lv_if_ne (tgt := 83) hx hb dX6_readBird_78 (by decide) (fun c_78 => ?_) (fun c_78 => ?_)
    · have h := if_t (bi_t c_78) h
      refine lv_aload_n hx hb dX6_readBird_83 rfl (lv_at hl 5 rfl) ?_
      refine lv_iload_n hx hb dX6_readBird_84 rfl (lv_at hl 3 rfl) ?_
      refine lv_iload_n hx hb dX6_readBird_85 rfl (lv_at hl 2 rfl) ?_
      refine lv_iload hx hb dX6_readBird_86 (lv_at hl 1 rfl) ?_
      refine lv_iload hx hb dX6_readBird_88 (lv_at hl 0 rfl) ?_
      obtain ⟨q90, e_90, h⟩ := bd_e h
      refine g_cv hG (g_runV C hG (gR_2 k_i1) (c_X2_addBird l D cs ad q75.2 k_i1 x2_11 q39.1 q53.1 q67.1 e_90) wm_X6_84 wi_X2_addBird ws_X2_addBird wz_X2 wc_X2_addBird e_X2_addBird (by decide) hl.1 (Nat.le_of_ble_eq_true rfl) dX6_readBird_90) (fun H locs hG => ?_)
      refine lv_iconst (v := 1) hx hb dX6_readBird_93 (by decide) ?_
      exact hr (congrArg bi (pf1 (Option.some.inj h))) (pf2 (Option.some.inj h)) hG dX6_readBird_94
    · have h := if_f (bi_f c_78) h
      refine lv_iconst (v := 0) hx hb dX6_readBird_81 (by decide) ?_
      exact hr (congrArg bi (pf1 (Option.some.inj h))) (pf2 (Option.some.inj h)) hG dX6_readBird_82
  · have h := if_t c_13 h
    refine lv_aload_n hx hb dX6_readBird_16 rfl (lv_at hl 1 rfl) ?_
    refine lv_iconst (v := 1) hx hb dX6_readBird_17 (by decide) ?_
    refine lv_aload_n hx hb dX6_readBird_18 rfl (lv_at hl 1 rfl) ?_
    refine gf_X6_at C hG gk_2 wf_X6_25 dX6_readBird_19 ?_
    obtain ⟨q22, e_22⟩ : ∃ y, f_X6_fail M (1 : Int32) (M 2 4) = y := ⟨_, rfl⟩
    have h := nm_at e_22.symm h
    refine g_ci hG (g_runV C hG (gR_6 gk_2) (c_X6_fail l D cs ad M (1 : Int32) (M 2 4) e_22) wm_X6_70 wi_X6_fail ws_X6_fail wz_X6 wc_X6_fail e_X6_fail (by decide) hl.1 (Nat.le_of_ble_eq_true rfl) dX6_readBird_22) (fun H locs hG => ?_)
    exact hr (congrArg bi (pf1 (Option.some.inj h))) (pf2 (Option.some.inj h)) hG dX6_readBird_25
def f_X6_readBirds_35 (i1 : Nat) (M : Mem) : Option (Bool × Mem) :=
  if (M 2 1) ≤ (M 2 4) then (
    some (true, M)
  ) else (
    (f_X6_letterAt M (M 2 4)).bind fun q52 =>
    if (f_X6_kindTold q52) = (0 : Int32) then (
      nm (f_X6_fail M (1 : Int32) (M 2 4)) fun q70 =>
      some (q70.1, q70.2)
    ) else (
      nm (f_X6_fail M (3 : Int32) (M 2 4)) fun q70 =>
      some (q70.1, q70.2)
    )
  )
def f_X6_readBirds_2 (i1 : Nat) (r2 : (Mem × Int32) → Option (Bool × Mem)) (M : Mem) (x2 : Int32) : Option (Bool × Mem) :=
  if (6 : Int32) ≤ x2 then (
    f_X6_readBirds_35 i1 M
  ) else (
    if (M 2 1) ≤ (M 2 4) then (
      f_X6_readBirds_35 i1 M
    ) else (
      (f_X6_readBird M i1).bind fun q21 =>
      if q21.1 = true then (
        nm (x2 + (1 : Int32)) fun x2_29 =>
        r2 (q21.2, x2_29)
      ) else (
        some (false, q21.2)
      )
    )
  )
def f_X6_readBirds (M : Mem) (i1 : Nat) : Option (Bool × Mem) :=
  iter (fun rec a => f_X6_readBirds_2 i1 rec a.1 a.2) fuel (M, (0 : Int32))
theorem e_X6_readBirds : yX6_readBirds.cls = RX6 ∧ yX6_readBirds.cls ≠ "java/lang/invoke/MethodHandle" ∧ yX6_readBirds.cls ≠ "java/lang/invoke/VarHandle" ∧ (parseMethodDescriptor yX6_readBirds.desc).map (fun d => d.parameters.length) = some 1 := by decide +kernel
set_option maxHeartbeats 4000000 in
set_option maxRecDepth 100000 in
theorem c_X6_readBirds (l : Launch) (D : va_G) (cs : Nat → ClassId) (ad : Nat → Nat) (M : Mem) {i1 : Nat} (k_i1 : gK i1 = 2) {z : Bool × Mem} (h : f_X6_readBirds M i1 = some z) : CtI l yX6_readBirds cX6_readBirds 3 .boolean 3 D cs ad [.ref (ad 2), .ref (ad i1)] M (bi z.1) z.2 := by
  refine ct_z (own := RX6) (by decide) rfl (Nat.le_of_ble_eq_true rfl) ?_
  intro p e s m args below meth c Q C hr
  have hx := C.1
  have hb := C.2.1
  have hown := C.2.2.2.1
  have hts := C.2.2.2.2.1
  have J_35 : ∀ (M : Mem), f_X6_readBirds_35 i1 M = some z → GP p l e (rmk 3) s m args below meth c 0 0 Q D cs ad 3 35 [(0, .ref (ad 2))] [] M := by
    intro M h H locs hG ls hl
    unfold f_X6_readBirds_35 at h
    refine lv_aload_n hx hb dX6_readBirds_35 rfl (lv_at hl 0 rfl) ?_
    refine gf_X6_at C hG gk_2 wf_X6_25 dX6_readBirds_36 ?_
    refine lv_aload_n hx hb dX6_readBirds_39 rfl (lv_at hl 0 rfl) ?_
    refine gf_X6_length C hG gk_2 wf_X6_15 dX6_readBirds_40 ?_
    refine lv_icmp_ge (tgt := 74) hx hb dX6_readBirds_43 (by decide) (fun c_43 => ?_) (fun c_43 => ?_)
    · have h := if_t c_43 h
      refine lv_iconst (v := 1) hx hb dX6_readBirds_74 (by decide) ?_
      exact hr (congrArg bi (pf1 (Option.some.inj h))) (pf2 (Option.some.inj h)) hG dX6_readBirds_75
    · have h := if_f c_43 h
      refine lv_aload_n hx hb dX6_readBirds_46 rfl (lv_at hl 0 rfl) ?_
      refine lv_aload_n hx hb dX6_readBirds_47 rfl (lv_at hl 0 rfl) ?_
      refine lv_aload_n hx hb dX6_readBirds_48 rfl (lv_at hl 0 rfl) ?_
      refine gf_X6_at C hG gk_2 wf_X6_25 dX6_readBirds_49 ?_
      obtain ⟨q52, e_52, h⟩ := bd_e h
      refine g_ci hG (g_runV C hG (gR_6 gk_2) (c_X6_letterAt l D cs ad M (M 2 4) e_52) wm_X6_67 wi_X6_letterAt ws_X6_letterAt wz_X6 wc_X6_letterAt e_X6_letterAt (by decide) hl.1 (Nat.le_of_ble_eq_true rfl) dX6_readBirds_52) (fun H locs hG => ?_)
      refine g_ci hG (g_runS C hG (c_X6_kindTold l D cs ad M q52 rfl) wm_X6_81 wt_X6_kindTold wz_X6 wc_X6_kindTold e_X6_kindTold (by decide) hl.1 (Nat.le_of_ble_eq_true rfl) dX6_readBirds_55) (fun H locs hG => ?_)
      refine lv_if_ne (tgt := 65) hx hb dX6_readBirds_58 (by decide) (fun c_58 => ?_) (fun c_58 => ?_)
      · have h := if_f c_58 h
        refine lv_iconst (v := 3) hx hb dX6_readBirds_65 (by decide) ?_
        refine lv_aload_n hx hb dX6_readBirds_66 rfl (lv_at hl 0 rfl) ?_
        refine gf_X6_at C hG gk_2 wf_X6_25 dX6_readBirds_67 ?_
        obtain ⟨q70, e_70⟩ : ∃ y, f_X6_fail M (3 : Int32) (M 2 4) = y := ⟨_, rfl⟩
        have h := nm_at e_70.symm h
        refine g_ci hG (g_runV C hG (gR_6 gk_2) (c_X6_fail l D cs ad M (3 : Int32) (M 2 4) e_70) wm_X6_70 wi_X6_fail ws_X6_fail wz_X6 wc_X6_fail e_X6_fail (by decide) hl.1 (Nat.le_of_ble_eq_true rfl) dX6_readBirds_70) (fun H locs hG => ?_)
        exact hr (congrArg bi (pf1 (Option.some.inj h))) (pf2 (Option.some.inj h)) hG dX6_readBirds_73
      · have h := if_t c_58 h
        refine lv_iconst (v := 1) hx hb dX6_readBirds_61 (by decide) ?_
        refine lv_goto (tgt := 66) hx hb dX6_readBirds_62 (by decide) ?_
        refine lv_aload_n hx hb dX6_readBirds_66 rfl (lv_at hl 0 rfl) ?_
        refine gf_X6_at C hG gk_2 wf_X6_25 dX6_readBirds_67 ?_
        obtain ⟨q70, e_70⟩ : ∃ y, f_X6_fail M (1 : Int32) (M 2 4) = y := ⟨_, rfl⟩
        have h := nm_at e_70.symm h
        refine g_ci hG (g_runV C hG (gR_6 gk_2) (c_X6_fail l D cs ad M (1 : Int32) (M 2 4) e_70) wm_X6_70 wi_X6_fail ws_X6_fail wz_X6 wc_X6_fail e_X6_fail (by decide) hl.1 (Nat.le_of_ble_eq_true rfl) dX6_readBirds_70) (fun H locs hG => ?_)
        exact hr (congrArg bi (pf1 (Option.some.inj h))) (pf2 (Option.some.inj h)) hG dX6_readBirds_73
  have J_2 : ∀ (n : Nat) (a : Mem × Int32), iter (fun rec a => f_X6_readBirds_2 i1 rec a.1 a.2) n a = some z → GP p l e (rmk 3) s m args below meth c 0 0 Q D cs ad 3 2 [(0, .ref (ad 2)), (1, .ref (ad i1)), (2, .int a.2)] [] a.1 := by
    refine iter_ind (fun r2 hr2 a h => ?_)
    obtain ⟨M, x2⟩ := a
    have h : f_X6_readBirds_2 i1 r2 M x2 = some z := h
    intro H locs hG ls hl
    have hG : GH D cs ad s M H locs := hG
    have hl : lv_has ls 3 [(0, .ref (ad 2)), (1, .ref (ad i1)), (2, .int x2)] := hl
    unfold f_X6_readBirds_2 at h
    refine lv_iload_n hx hb dX6_readBirds_2 rfl (lv_at hl 2 rfl) ?_
    refine lv_bipush (v := 6) hx hb dX6_readBirds_3 (by decide) ?_
    refine lv_icmp_ge (tgt := 35) hx hb dX6_readBirds_5 (by decide) (fun c_5 => ?_) (fun c_5 => ?_)
    · have h := if_t c_5 h
      exact J_35 M h H locs hG ls (lv_sub hl [0] rfl)
    · have h := if_f c_5 h
      refine lv_aload_n hx hb dX6_readBirds_8 rfl (lv_at hl 0 rfl) ?_
      refine gf_X6_at C hG gk_2 wf_X6_25 dX6_readBirds_9 ?_
      refine lv_aload_n hx hb dX6_readBirds_12 rfl (lv_at hl 0 rfl) ?_
      refine gf_X6_length C hG gk_2 wf_X6_15 dX6_readBirds_13 ?_
      refine lv_icmp_ge (tgt := 35) hx hb dX6_readBirds_16 (by decide) (fun c_16 => ?_) (fun c_16 => ?_)
      · have h := if_t c_16 h
        exact J_35 M h H locs hG ls (lv_sub hl [0] rfl)
      · have h := if_f c_16 h
        refine lv_aload_n hx hb dX6_readBirds_19 rfl (lv_at hl 0 rfl) ?_
        refine lv_aload_n hx hb dX6_readBirds_20 rfl (lv_at hl 1 rfl) ?_
        obtain ⟨q21, e_21, h⟩ := bd_e h
        refine g_ci hG (g_runV C hG (gR_6 gk_2) (c_X6_readBird l D cs ad M k_i1 e_21) wm_X6_78 wi_X6_readBird ws_X6_readBird wz_X6 wc_X6_readBird e_X6_readBird (by decide) hl.1 (Nat.le_of_ble_eq_true rfl) dX6_readBirds_21) (fun H locs hG => ?_)
        refine lv_if_ne (tgt := 29) hx hb dX6_readBirds_24 (by decide) (fun c_24 => ?_) (fun c_24 => ?_)
        · have h := if_t (bi_t c_24) h
          obtain ⟨x2_29, e2_29⟩ : ∃ y : Int32, y = x2 + (1 : Int32) := ⟨_, rfl⟩
          have h := nm_at e2_29 h
          refine lv_iinc (v := x2_29) (lv' := [(2, .int x2_29), (0, .ref (ad 2)), (1, .ref (ad i1))]) hx hb dX6_readBirds_29 hl (k := 2) rfl (by rw [e2_29]; rfl) (by decide) rfl (fun ls hl => ?_)
          refine lv_goto (tgt := 2) hx hb dX6_readBirds_32 (by decide) ?_
          exact hr2 (q21.2, x2_29) h H locs hG ls (lv_sub hl [1, 2, 0] rfl)
        · have h := if_f (bi_f c_24) h
          refine lv_iconst (v := 0) hx hb dX6_readBirds_27 (by decide) ?_
          exact hr (congrArg bi (pf1 (Option.some.inj h))) (pf2 (Option.some.inj h)) hG dX6_readBirds_28
  intro H locs hG ls hl
  have hl : lv_has ls 3 [(0, .ref (ad 2)), (1, .ref (ad i1))] := hl
  unfold f_X6_readBirds at h
  refine lv_iconst (v := 0) hx hb dX6_readBirds_0 (by decide) ?_
  refine lv_istore_n (lv' := [(2, .int 0), (0, .ref (ad 2)), (1, .ref (ad i1))]) hx hb dX6_readBirds_1 rfl hl (by decide) rfl (fun ls hl => ?_)
  exact J_2 _ (M, (0 : Int32)) h H locs hG ls (lv_sub hl [1, 2, 0] rfl)
def f_X6_readInto (M : Mem) (i1 : Nat) : Option (Bool × Mem) :=
  nm (st M 2 4 (0 : Int32)) fun M2 =>
  nm (st M2 2 5 (0 : Int32)) fun M7 =>
  nm (f_X2_clear M7 i1) fun q11 =>
  (f_X6_readLaw q11 i1).bind fun q16 =>
  if q16.1 = true then (
    (f_X6_readValleys q16.2 i1).bind fun q24 =>
    if q24.1 = true then (
      (f_X6_readBirds q24.2 i1).bind fun q32 =>
      if q32.1 = true then (
        some (true, q32.2)
      ) else (
        some (false, q32.2)
      )
    ) else (
      some (false, q24.2)
    )
  ) else (
    some (false, q16.2)
  )
theorem e_X6_readInto : yX6_readInto.cls = RX6 ∧ yX6_readInto.cls ≠ "java/lang/invoke/MethodHandle" ∧ yX6_readInto.cls ≠ "java/lang/invoke/VarHandle" ∧ (parseMethodDescriptor yX6_readInto.desc).map (fun d => d.parameters.length) = some 1 := by decide +kernel
set_option maxHeartbeats 4000000 in
set_option maxRecDepth 100000 in
theorem c_X6_readInto (l : Launch) (D : va_G) (cs : Nat → ClassId) (ad : Nat → Nat) (M : Mem) {i1 : Nat} (k_i1 : gK i1 = 2) {z : Bool × Mem} (h : f_X6_readInto M i1 = some z) : CtI l yX6_readInto cX6_readInto 2 .boolean 4 D cs ad [.ref (ad 2), .ref (ad i1)] M (bi z.1) z.2 := by
  refine ct_z (own := RX6) (by decide) rfl (Nat.le_of_ble_eq_true rfl) ?_
  intro p e s m args below meth c Q C hr
  have hx := C.1
  have hb := C.2.1
  have hown := C.2.2.2.1
  have hts := C.2.2.2.2.1
  intro H locs hG ls hl
  have hl : lv_has ls 2 [(0, .ref (ad 2)), (1, .ref (ad i1))] := hl
  unfold f_X6_readInto at h
  refine lv_aload_n hx hb dX6_readInto_0 rfl (lv_at hl 0 rfl) ?_
  refine lv_iconst (v := 0) hx hb dX6_readInto_1 (by decide) ?_
  refine gp_X6_at C hG gk_2 wf_X6_25 dX6_readInto_2 (fun M2 e_2 H locs hG => ?_)
  have h := nm_at e_2 h
  refine lv_aload_n hx hb dX6_readInto_5 rfl (lv_at hl 0 rfl) ?_
  refine lv_iconst (v := 0) hx hb dX6_readInto_6 (by decide) ?_
  refine gp_X6_isFaulty C hG gk_2 (by decide) (by decide) wf_X6_28 dX6_readInto_7 (fun M7 e_7 H locs hG => ?_)
  have h := nm_at e_7 h
  refine lv_aload_n hx hb dX6_readInto_10 rfl (lv_at hl 1 rfl) ?_
  obtain ⟨q11, e_11⟩ : ∃ y, f_X2_clear M7 i1 = y := ⟨_, rfl⟩
  have h := nm_at e_11.symm h
  refine g_cv hG (g_runV C hG (gR_2 k_i1) (c_X2_clear l D cs ad M7 k_i1 e_11) wm_X6_32 wi_X2_clear ws_X2_clear wz_X2 wc_X2_clear e_X2_clear (by decide) hl.1 (Nat.le_of_ble_eq_true rfl) dX6_readInto_11) (fun H locs hG => ?_)
  refine lv_aload_n hx hb dX6_readInto_14 rfl (lv_at hl 0 rfl) ?_
  refine lv_aload_n hx hb dX6_readInto_15 rfl (lv_at hl 1 rfl) ?_
  obtain ⟨q16, e_16, h⟩ := bd_e h
  refine g_ci hG (g_runV C hG (gR_6 gk_2) (c_X6_readLaw l D cs ad q11 k_i1 e_16) wm_X6_37 wi_X6_readLaw ws_X6_readLaw wz_X6 wc_X6_readLaw e_X6_readLaw (by decide) hl.1 (Nat.le_of_ble_eq_true rfl) dX6_readInto_16) (fun H locs hG => ?_)
  refine lv_if_eq (tgt := 42) hx hb dX6_readInto_19 (by decide) (fun c_19 => ?_) (fun c_19 => ?_)
  · have h := if_f (bi_f c_19) h
    refine lv_iconst (v := 0) hx hb dX6_readInto_42 (by decide) ?_
    exact hr (congrArg bi (pf1 (Option.some.inj h))) (pf2 (Option.some.inj h)) hG dX6_readInto_43
  · have h := if_t (bi_t c_19) h
    refine lv_aload_n hx hb dX6_readInto_22 rfl (lv_at hl 0 rfl) ?_
    refine lv_aload_n hx hb dX6_readInto_23 rfl (lv_at hl 1 rfl) ?_
    obtain ⟨q24, e_24, h⟩ := bd_e h
    refine g_ci hG (g_runV C hG (gR_6 gk_2) (c_X6_readValleys l D cs ad q16.2 k_i1 e_24) wm_X6_41 wi_X6_readValleys ws_X6_readValleys wz_X6 wc_X6_readValleys e_X6_readValleys (by decide) hl.1 (Nat.le_of_ble_eq_true rfl) dX6_readInto_24) (fun H locs hG => ?_)
    refine lv_if_eq (tgt := 42) hx hb dX6_readInto_27 (by decide) (fun c_27 => ?_) (fun c_27 => ?_)
    · have h := if_f (bi_f c_27) h
      refine lv_iconst (v := 0) hx hb dX6_readInto_42 (by decide) ?_
      exact hr (congrArg bi (pf1 (Option.some.inj h))) (pf2 (Option.some.inj h)) hG dX6_readInto_43
    · have h := if_t (bi_t c_27) h
      refine lv_aload_n hx hb dX6_readInto_30 rfl (lv_at hl 0 rfl) ?_
      refine lv_aload_n hx hb dX6_readInto_31 rfl (lv_at hl 1 rfl) ?_
      obtain ⟨q32, e_32, h⟩ := bd_e h
      refine g_ci hG (g_runV C hG (gR_6 gk_2) (c_X6_readBirds l D cs ad q24.2 k_i1 e_32) wm_X6_44 wi_X6_readBirds ws_X6_readBirds wz_X6 wc_X6_readBirds e_X6_readBirds (by decide) hl.1 (Nat.le_of_ble_eq_true rfl) dX6_readInto_32) (fun H locs hG => ?_)
      refine lv_if_eq (tgt := 42) hx hb dX6_readInto_35 (by decide) (fun c_35 => ?_) (fun c_35 => ?_)
      · have h := if_f (bi_f c_35) h
        refine lv_iconst (v := 0) hx hb dX6_readInto_42 (by decide) ?_
        exact hr (congrArg bi (pf1 (Option.some.inj h))) (pf2 (Option.some.inj h)) hG dX6_readInto_43
      · have h := if_t (bi_t c_35) h
        refine lv_iconst (v := 1) hx hb dX6_readInto_38 (by decide) ?_
        refine lv_goto (tgt := 43) hx hb dX6_readInto_39 (by decide) ?_
        exact hr (congrArg bi (pf1 (Option.some.inj h))) (pf2 (Option.some.inj h)) hG dX6_readInto_43
