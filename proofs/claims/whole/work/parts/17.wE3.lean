def f_X9_call (M : Mem) (x1 : Int32) : Option (Int32 × Mem) :=
  if (f_X9_isBird M x1) = true then (
    (f_X9_flies M 146 x1).bind fun q16 =>
    if q16 = true then (
      some ((-1000002 : Int32), M)
    ) else (
      (f_X9_notes M).bind fun q26 =>
      chk (ixb (((21 : Int32) + ((6 : Int32) * x1)) + (4 : Int32)) 57) <|
      nm (st q26 146 ((((21 : Int32) + ((6 : Int32) * x1)) + (4 : Int32)).toNatClampNeg) (1 : Int32)) fun M43 =>
      (f_X9_flying M43 146).bind fun q48 =>
      some (q48, M43)
    )
  ) else (
    some ((-1000001 : Int32), M)
  )
theorem e_X9_call : yX9_call.cls = RX9 ∧ yX9_call.cls ≠ "java/lang/invoke/MethodHandle" ∧ yX9_call.cls ≠ "java/lang/invoke/VarHandle" ∧ (parseMethodDescriptor yX9_call.desc).map (fun d => d.parameters.length) = some 1 := by decide +kernel
set_option maxHeartbeats 4000000 in
set_option maxRecDepth 100000 in
theorem c_X9_call (l : Launch) (D : va_G) (cs : Nat → ClassId) (ad : Nat → Nat) (M : Mem) (x1 : Int32) {z : Int32 × Mem} (h : f_X9_call M x1 = some z) : CtI l yX9_call cX9_call 2 .int 2 D cs ad [.ref (ad 140), .int x1] M z.1 z.2 := by
  refine ct_i (own := RX9) (by decide) rfl (Nat.le_of_ble_eq_true rfl) ?_
  intro p e s m args below meth c Q C hr
  have hx := C.1
  have hb := C.2.1
  have hown := C.2.2.2.1
  have hts := C.2.2.2.2.1
  intro H locs hG ls hl
  have hl : lv_has ls 2 [(0, .ref (ad 140)), (1, .int x1)] := hl
  unfold f_X9_call at h
  refine lv_aload_n hx hb dX9_call_0 rfl (lv_at hl 0 rfl) ?_
  refine lv_iload_n hx hb dX9_call_1 rfl (lv_at hl 1 rfl) ?_
  refine g_ci hG (g_runV C hG (gR_9 gk_140) (c_X9_isBird l D cs ad M x1 rfl) wm_X9_187 wi_X9_isBird ws_X9_isBird wz_X9 wc_X9_isBird e_X9_isBird (by decide) hl.1 (Nat.le_of_ble_eq_true rfl) dX9_call_2) (fun H locs hG => ?_)
  refine lv_if_ne (tgt := 11) hx hb dX9_call_5 (by decide) (fun c_5 => ?_) (fun c_5 => ?_)
  · have h := if_t (bi_t c_5) h
    refine lv_aload_n hx hb dX9_call_11 rfl (lv_at hl 0 rfl) ?_
    refine gf_X9_now C hG gk_140 wf_X9_25 dX9_call_12 ?_
    refine lv_iload_n hx hb dX9_call_15 rfl (lv_at hl 1 rfl) ?_
    obtain ⟨q16, e_16, h⟩ := bd_e h
    refine g_ci hG (g_runS C hG (c_X9_flies l D cs ad M gk_146 gl_146 x1 e_16) wm_X9_144 wt_X9_flies wz_X9 wc_X9_flies e_X9_flies (by decide) hl.1 (Nat.le_of_ble_eq_true rfl) dX9_call_16) (fun H locs hG => ?_)
    refine lv_if_eq (tgt := 25) hx hb dX9_call_19 (by decide) (fun c_19 => ?_) (fun c_19 => ?_)
    · have h := if_f (bi_f c_19) h
      refine lv_aload_n hx hb dX9_call_25 rfl (lv_at hl 0 rfl) ?_
      obtain ⟨q26, e_26, h⟩ := bd_e h
      refine g_cv hG (g_runV C hG (gR_9 gk_140) (c_X9_notes l D cs ad M e_26) wm_X9_184 wi_X9_notes ws_X9_notes wz_X9 wc_X9_notes e_X9_notes (by decide) hl.1 (Nat.le_of_ble_eq_true rfl) dX9_call_26) (fun H locs hG => ?_)
      refine lv_aload_n hx hb dX9_call_29 rfl (lv_at hl 0 rfl) ?_
      refine gf_X9_now C hG gk_140 wf_X9_25 dX9_call_30 ?_
      refine lv_bipush (v := 21) hx hb dX9_call_33 (by decide) ?_
      refine lv_bipush (v := 6) hx hb dX9_call_35 (by decide) ?_
      refine lv_iload_n hx hb dX9_call_37 rfl (lv_at hl 1 rfl) ?_
      refine lv_imul hx hb dX9_call_38 ?_
      refine lv_iadd hx hb dX9_call_39 ?_
      refine lv_iconst (v := 4) hx hb dX9_call_40 (by decide) ?_
      refine lv_iadd hx hb dX9_call_41 ?_
      refine lv_iconst (v := 1) hx hb dX9_call_42 (by decide) ?_
      obtain ⟨hi_43, h⟩ := ix_e h
      refine g_as C hG gk_146 gl_146 hi_43 rfl dX9_call_43 (fun M43 e_43 H locs hG => ?_)
      have h := nm_at e_43 h
      refine lv_aload_n hx hb dX9_call_44 rfl (lv_at hl 0 rfl) ?_
      refine gf_X9_now C hG gk_140 wf_X9_25 dX9_call_45 ?_
      obtain ⟨q48, e_48, h⟩ := bd_e h
      refine g_ci hG (g_runS C hG (c_X9_flying l D cs ad M43 gk_146 gl_146 e_48) wm_X9_177 wt_X9_flying wz_X9 wc_X9_flying e_X9_flying (by decide) hl.1 (Nat.le_of_ble_eq_true rfl) dX9_call_48) (fun H locs hG => ?_)
      exact hr (pf1 (Option.some.inj h)) (pf2 (Option.some.inj h)) hG dX9_call_51
    · have h := if_t (bi_t c_19) h
      refine lv_ldc (v := -1000002) hx hb hown (hts _ wk_X9_183) dX9_call_22 ?_
      exact hr (pf1 (Option.some.inj h)) (pf2 (Option.some.inj h)) hG dX9_call_24
  · have h := if_f (bi_f c_5) h
    refine lv_ldc (v := -1000001) hx hb hown (hts _ wk_X9_67) dX9_call_8 ?_
    exact hr (pf1 (Option.some.inj h)) (pf2 (Option.some.inj h)) hG dX9_call_10
def f_X9_swap (M : Mem) : Option (Int32 × Mem) :=
  if (f_X9_isFlight M) = true then (
    if (2 : Int32) ≤ (f_X9_left M 146) then (
      (f_X9_notes M).bind fun q22 =>
      nm (((6 : Int32) + (q22 146 3))) fun x1_34 =>
      chk (ixb x1_34 57) <|
      nm ((q22 146 x1_34.toNatClampNeg)) fun x2_41 =>
      chk (ixb (x1_34 + (1 : Int32)) 57) <|
      nm (st q22 146 x1_34.toNatClampNeg (q22 146 (x1_34 + (1 : Int32)).toNatClampNeg)) fun M55 =>
      nm (st M55 146 ((x1_34 + (1 : Int32)).toNatClampNeg) x2_41) fun M64 =>
      some ((M64 146 x1_34.toNatClampNeg), M64)
    ) else (
      some ((-1000002 : Int32), M)
    )
  ) else (
    some ((-1000002 : Int32), M)
  )
theorem e_X9_swap : yX9_swap.cls = RX9 ∧ yX9_swap.cls ≠ "java/lang/invoke/MethodHandle" ∧ yX9_swap.cls ≠ "java/lang/invoke/VarHandle" ∧ (parseMethodDescriptor yX9_swap.desc).map (fun d => d.parameters.length) = some 0 := by decide +kernel
set_option maxHeartbeats 4000000 in
set_option maxRecDepth 100000 in
theorem c_X9_swap (l : Launch) (D : va_G) (cs : Nat → ClassId) (ad : Nat → Nat) (M : Mem) {z : Int32 × Mem} (h : f_X9_swap M = some z) : CtI l yX9_swap cX9_swap 3 .int 2 D cs ad [.ref (ad 140)] M z.1 z.2 := by
  refine ct_i (own := RX9) (by decide) rfl (Nat.le_of_ble_eq_true rfl) ?_
  intro p e s m args below meth c Q C hr
  have hx := C.1
  have hb := C.2.1
  have hown := C.2.2.2.1
  have hts := C.2.2.2.2.1
  intro H locs hG ls hl
  have hl : lv_has ls 3 [(0, .ref (ad 140))] := hl
  unfold f_X9_swap at h
  refine lv_aload_n hx hb dX9_swap_0 rfl (lv_at hl 0 rfl) ?_
  refine g_ci hG (g_runV C hG (gR_9 gk_140) (c_X9_isFlight l D cs ad M rfl) wm_X9_180 wi_X9_isFlight ws_X9_isFlight wz_X9 wc_X9_isFlight e_X9_isFlight (by decide) hl.1 (Nat.le_of_ble_eq_true rfl) dX9_swap_1) (fun H locs hG => ?_)
  refine lv_if_eq (tgt := 18) hx hb dX9_swap_4 (by decide) (fun c_4 => ?_) (fun c_4 => ?_)
  · have h := if_f (bi_f c_4) h
    refine lv_ldc (v := -1000002) hx hb hown (hts _ wk_X9_183) dX9_swap_18 ?_
    exact hr (pf1 (Option.some.inj h)) (pf2 (Option.some.inj h)) hG dX9_swap_20
  · have h := if_t (bi_t c_4) h
    refine lv_aload_n hx hb dX9_swap_7 rfl (lv_at hl 0 rfl) ?_
    refine gf_X9_now C hG gk_140 wf_X9_25 dX9_swap_8 ?_
    refine g_ci hG (g_runS C hG (c_X9_left l D cs ad M gk_146 gl_146 rfl) wm_X9_170 wt_X9_left wz_X9 wc_X9_left e_X9_left (by decide) hl.1 (Nat.le_of_ble_eq_true rfl) dX9_swap_11) (fun H locs hG => ?_)
    refine lv_iconst (v := 2) hx hb dX9_swap_14 (by decide) ?_
    refine lv_icmp_ge (tgt := 21) hx hb dX9_swap_15 (by decide) (fun c_15 => ?_) (fun c_15 => ?_)
    · have h := if_t c_15 h
      refine lv_aload_n hx hb dX9_swap_21 rfl (lv_at hl 0 rfl) ?_
      obtain ⟨q22, e_22, h⟩ := bd_e h
      refine g_cv hG (g_runV C hG (gR_9 gk_140) (c_X9_notes l D cs ad M e_22) wm_X9_184 wi_X9_notes ws_X9_notes wz_X9 wc_X9_notes e_X9_notes (by decide) hl.1 (Nat.le_of_ble_eq_true rfl) dX9_swap_22) (fun H locs hG => ?_)
      refine lv_bipush (v := 6) hx hb dX9_swap_25 (by decide) ?_
      refine lv_aload_n hx hb dX9_swap_27 rfl (lv_at hl 0 rfl) ?_
      refine gf_X9_now C hG gk_140 wf_X9_25 dX9_swap_28 ?_
      refine lv_iconst (v := 3) hx hb dX9_swap_31 (by decide) ?_
      refine g_al (j := 3) C hG gk_146 gl_146 (ixl rfl) (by decide) dX9_swap_32 ?_
      refine lv_iadd hx hb dX9_swap_33 ?_
      refine lv_topi (fun x1_34 e1_34 => ?_)
      have h := nm_at e1_34 h
      refine lv_istore_n (lv' := [(1, .int x1_34), (0, .ref (ad 140))]) hx hb dX9_swap_34 rfl hl (by decide) rfl (fun ls hl => ?_)
      refine lv_aload_n hx hb dX9_swap_35 rfl (lv_at hl 1 rfl) ?_
      refine gf_X9_now C hG gk_140 wf_X9_25 dX9_swap_36 ?_
      refine lv_iload_n hx hb dX9_swap_39 rfl (lv_at hl 0 rfl) ?_
      obtain ⟨hi_40, h⟩ := ix_e h
      refine g_al C hG gk_146 gl_146 hi_40 rfl dX9_swap_40 ?_
      refine lv_topi (fun x2_41 e2_41 => ?_)
      have h := nm_at e2_41 h
      refine lv_istore_n (lv' := [(2, .int x2_41), (1, .int x1_34), (0, .ref (ad 140))]) hx hb dX9_swap_41 rfl hl (by decide) rfl (fun ls hl => ?_)
      refine lv_aload_n hx hb dX9_swap_42 rfl (lv_at hl 2 rfl) ?_
      refine gf_X9_now C hG gk_140 wf_X9_25 dX9_swap_43 ?_
      refine lv_iload_n hx hb dX9_swap_46 rfl (lv_at hl 1 rfl) ?_
      refine lv_aload_n hx hb dX9_swap_47 rfl (lv_at hl 2 rfl) ?_
      refine gf_X9_now C hG gk_140 wf_X9_25 dX9_swap_48 ?_
      refine lv_iload_n hx hb dX9_swap_51 rfl (lv_at hl 1 rfl) ?_
      refine lv_iconst (v := 1) hx hb dX9_swap_52 (by decide) ?_
      refine lv_iadd hx hb dX9_swap_53 ?_
      obtain ⟨hi_54, h⟩ := ix_e h
      refine g_al C hG gk_146 gl_146 hi_54 rfl dX9_swap_54 ?_
      refine g_as C hG gk_146 gl_146 hi_40 rfl dX9_swap_55 (fun M55 e_55 H locs hG => ?_)
      have h := nm_at e_55 h
      refine lv_aload_n hx hb dX9_swap_56 rfl (lv_at hl 2 rfl) ?_
      refine gf_X9_now C hG gk_140 wf_X9_25 dX9_swap_57 ?_
      refine lv_iload_n hx hb dX9_swap_60 rfl (lv_at hl 1 rfl) ?_
      refine lv_iconst (v := 1) hx hb dX9_swap_61 (by decide) ?_
      refine lv_iadd hx hb dX9_swap_62 ?_
      refine lv_iload_n hx hb dX9_swap_63 rfl (lv_at hl 0 rfl) ?_
      refine g_as C hG gk_146 gl_146 hi_54 rfl dX9_swap_64 (fun M64 e_64 H locs hG => ?_)
      have h := nm_at e_64 h
      refine lv_aload_n hx hb dX9_swap_65 rfl (lv_at hl 2 rfl) ?_
      refine gf_X9_now C hG gk_140 wf_X9_25 dX9_swap_66 ?_
      refine lv_iload_n hx hb dX9_swap_69 rfl (lv_at hl 1 rfl) ?_
      refine g_al C hG gk_146 gl_146 hi_40 rfl dX9_swap_70 ?_
      exact hr (pf1 (Option.some.inj h)) (pf2 (Option.some.inj h)) hG dX9_swap_71
    · have h := if_f c_15 h
      refine lv_ldc (v := -1000002) hx hb hown (hts _ wk_X9_183) dX9_swap_18 ?_
      exact hr (pf1 (Option.some.inj h)) (pf2 (Option.some.inj h)) hG dX9_swap_20
def f_X9_undo (M : Mem) : Option (Int32 × Mem) :=
  if (M 140 17) = (0 : Int32) then (
    some ((-1000002 : Int32), M)
  ) else (
    nm (st M 140 17 ((M 140 17) - (1 : Int32))) fun M17 =>
    (f_X9_copies M17 149 ((57 : Int32) * (M17 140 17)) 146 (0 : Int32)).bind fun q36 =>
    some ((q36 140 17), q36)
  )
theorem e_X9_undo : yX9_undo.cls = RX9 ∧ yX9_undo.cls ≠ "java/lang/invoke/MethodHandle" ∧ yX9_undo.cls ≠ "java/lang/invoke/VarHandle" ∧ (parseMethodDescriptor yX9_undo.desc).map (fun d => d.parameters.length) = some 0 := by decide +kernel
set_option maxHeartbeats 4000000 in
set_option maxRecDepth 100000 in
theorem c_X9_undo (l : Launch) (D : va_G) (cs : Nat → ClassId) (ad : Nat → Nat) (M : Mem) {z : Int32 × Mem} (h : f_X9_undo M = some z) : CtI l yX9_undo cX9_undo 1 .int 1 D cs ad [.ref (ad 140)] M z.1 z.2 := by
  refine ct_i (own := RX9) (by decide) rfl (Nat.le_of_ble_eq_true rfl) ?_
  intro p e s m args below meth c Q C hr
  have hx := C.1
  have hb := C.2.1
  have hown := C.2.2.2.1
  have hts := C.2.2.2.2.1
  intro H locs hG ls hl
  have hl : lv_has ls 1 [(0, .ref (ad 140))] := hl
  unfold f_X9_undo at h
  refine lv_aload_n hx hb dX9_undo_0 rfl (lv_at hl 0 rfl) ?_
  refine gf_X9_acts C hG gk_140 wf_X9_141 dX9_undo_1 ?_
  refine lv_if_ne (tgt := 10) hx hb dX9_undo_4 (by decide) (fun c_4 => ?_) (fun c_4 => ?_)
  · have h := if_f c_4 h
    refine lv_aload_n hx hb dX9_undo_10 rfl (lv_at hl 0 rfl) ?_
    refine lv_dup hx hb dX9_undo_11 rfl ?_
    refine gf_X9_acts C hG gk_140 wf_X9_141 dX9_undo_12 ?_
    refine lv_iconst (v := 1) hx hb dX9_undo_15 (by decide) ?_
    refine lv_isub hx hb dX9_undo_16 ?_
    refine gp_X9_acts C hG gk_140 wf_X9_141 dX9_undo_17 (fun M17 e_17 H locs hG => ?_)
    have h := nm_at e_17 h
    refine lv_aload_n hx hb dX9_undo_20 rfl (lv_at hl 0 rfl) ?_
    refine gf_X9_past C hG gk_140 wf_X9_34 dX9_undo_21 ?_
    refine lv_bipush (v := 57) hx hb dX9_undo_24 (by decide) ?_
    refine lv_aload_n hx hb dX9_undo_26 rfl (lv_at hl 0 rfl) ?_
    refine gf_X9_acts C hG gk_140 wf_X9_141 dX9_undo_27 ?_
    refine lv_imul hx hb dX9_undo_30 ?_
    refine lv_aload_n hx hb dX9_undo_31 rfl (lv_at hl 0 rfl) ?_
    refine gf_X9_now C hG gk_140 wf_X9_25 dX9_undo_32 ?_
    refine lv_iconst (v := 0) hx hb dX9_undo_35 (by decide) ?_
    obtain ⟨q36, e_36, h⟩ := bd_e h
    refine g_cv hG (g_runS C hG (c_X9_copies l D cs ad M17 gk_149 ((57 : Int32) * (M17 140 17)) gk_146 (0 : Int32) e_36) wm_X9_137 wt_X9_copies wz_X9 wc_X9_copies e_X9_copies (by decide) hl.1 (Nat.le_of_ble_eq_true rfl) dX9_undo_36) (fun H locs hG => ?_)
    refine lv_aload_n hx hb dX9_undo_39 rfl (lv_at hl 0 rfl) ?_
    refine gf_X9_acts C hG gk_140 wf_X9_141 dX9_undo_40 ?_
    exact hr (pf1 (Option.some.inj h)) (pf2 (Option.some.inj h)) hG dX9_undo_43
  · have h := if_t c_4 h
    refine lv_ldc (v := -1000002) hx hb hown (hts _ wk_X9_183) dX9_undo_7 ?_
    exact hr (pf1 (Option.some.inj h)) (pf2 (Option.some.inj h)) hG dX9_undo_9
def f_X9_bird (M : Mem) (x1 : Int32) (x2 : Int32) : Option Int32 :=
  if (f_X9_isBird M x1) = true then (
    nm (((21 : Int32) + ((6 : Int32) * x1))) fun x3_18 =>
    if x2 = (0 : Int32) then (
      chk (ixb (x3_18 + (1 : Int32)) 57) <|
      some (M 146 (x3_18 + (1 : Int32)).toNatClampNeg)
    ) else (
    if x2 = (1 : Int32) then (
      chk (ixb (x3_18 + (2 : Int32)) 57) <|
      some (M 146 (x3_18 + (2 : Int32)).toNatClampNeg)
    ) else (
    if x2 = (2 : Int32) then (
      chk (ixb (x3_18 + (3 : Int32)) 57) <|
      some (M 146 (x3_18 + (3 : Int32)).toNatClampNeg)
    ) else (
    if x2 = (3 : Int32) then (
      chk (ixb (x3_18 + (4 : Int32)) 57) <|
      some (M 146 (x3_18 + (4 : Int32)).toNatClampNeg)
    ) else (
    if x2 = (4 : Int32) then (
      chk (ixb (x3_18 + (5 : Int32)) 57) <|
      some (M 146 (x3_18 + (5 : Int32)).toNatClampNeg)
    ) else (
    if x2 = (5 : Int32) then (
      (f_X9_flies M 146 x1).bind fun q110 =>
      if q110 = true then (
        if (f_X9_left M 146) ≤ (0 : Int32) then (
          some (0 : Int32)
        ) else (
          (f_X9_takesOf M 146 x1).bind fun q131 =>
          some q131
        )
      ) else (
        some (0 : Int32)
      )
    ) else (
      some (-1000001 : Int32)
    ))))))
  ) else (
    some (-1000001 : Int32)
  )
theorem e_X9_bird : yX9_bird.cls = RX9 ∧ yX9_bird.cls ≠ "java/lang/invoke/MethodHandle" ∧ yX9_bird.cls ≠ "java/lang/invoke/VarHandle" ∧ (parseMethodDescriptor yX9_bird.desc).map (fun d => d.parameters.length) = some 2 := by decide +kernel
set_option maxHeartbeats 4000000 in
set_option maxRecDepth 100000 in
theorem c_X9_bird (l : Launch) (D : va_G) (cs : Nat → ClassId) (ad : Nat → Nat) (M : Mem) (x1 : Int32) (x2 : Int32) {z : Int32} (h : f_X9_bird M x1 x2 = some z) : CtI l yX9_bird cX9_bird 4 .int 2 D cs ad [.ref (ad 140), .int x1, .int x2] M z M := by
  refine ct_i (own := RX9) (by decide) rfl (Nat.le_of_ble_eq_true rfl) ?_
  intro p e s m args below meth c Q C hr
  have hx := C.1
  have hb := C.2.1
  have hown := C.2.2.2.1
  have hts := C.2.2.2.2.1
  intro H locs hG ls hl
  have hl : lv_has ls 4 [(0, .ref (ad 140)), (1, .int x1), (2, .int x2)] := hl
  unfold f_X9_bird at h
  refine lv_aload_n hx hb dX9_bird_0 rfl (lv_at hl 0 rfl) ?_
  refine lv_iload_n hx hb dX9_bird_1 rfl (lv_at hl 1 rfl) ?_
  refine g_ci hG (g_runV C hG (gR_9 gk_140) (c_X9_isBird l D cs ad M x1 rfl) wm_X9_187 wi_X9_isBird ws_X9_isBird wz_X9 wc_X9_isBird e_X9_isBird (by decide) hl.1 (Nat.le_of_ble_eq_true rfl) dX9_bird_2) (fun H locs hG => ?_)
  refine lv_if_ne (tgt := 11) hx hb dX9_bird_5 (by decide) (fun c_5 => ?_) (fun c_5 => ?_)
  · have h := if_t (bi_t c_5) h
    refine lv_bipush (v := 21) hx hb dX9_bird_11 (by decide) ?_
    refine lv_bipush (v := 6) hx hb dX9_bird_13 (by decide) ?_
    refine lv_iload_n hx hb dX9_bird_15 rfl (lv_at hl 1 rfl) ?_
    refine lv_imul hx hb dX9_bird_16 ?_
    refine lv_iadd hx hb dX9_bird_17 ?_
    refine lv_topi (fun x3_18 e3_18 => ?_)
    have h := nm_at e3_18 h
    refine lv_istore_n (lv' := [(3, .int x3_18), (0, .ref (ad 140)), (1, .int x1), (2, .int x2)]) hx hb dX9_bird_18 rfl hl (by decide) rfl (fun ls hl => ?_)
    refine lv_iload_n hx hb dX9_bird_19 rfl (lv_at hl 3 rfl) ?_
    by_cases c_20_0 : x2 = (0 : Int32)
    · have h := if_t c_20_0 h
      refine g_tsw (tgt := 60) (off := 40) hx hb dX9_bird_20 (by rw [c_20_0]; rfl) (by decide) ?_
      refine lv_aload_n hx hb dX9_bird_60 rfl (lv_at hl 1 rfl) ?_
      refine gf_X9_now C hG gk_140 wf_X9_25 dX9_bird_61 ?_
      refine lv_iload_n hx hb dX9_bird_64 rfl (lv_at hl 0 rfl) ?_
      refine lv_iconst (v := 1) hx hb dX9_bird_65 (by decide) ?_
      refine lv_iadd hx hb dX9_bird_66 ?_
      obtain ⟨hi_67, h⟩ := ix_e h
      refine g_al C hG gk_146 gl_146 hi_67 rfl dX9_bird_67 ?_
      exact hr (Option.some.inj h) rfl hG dX9_bird_68
    have h := if_f c_20_0 h
    by_cases c_20_1 : x2 = (1 : Int32)
    · have h := if_t c_20_1 h
      refine g_tsw (tgt := 69) (off := 49) hx hb dX9_bird_20 (by rw [c_20_1]; rfl) (by decide) ?_
      refine lv_aload_n hx hb dX9_bird_69 rfl (lv_at hl 1 rfl) ?_
      refine gf_X9_now C hG gk_140 wf_X9_25 dX9_bird_70 ?_
      refine lv_iload_n hx hb dX9_bird_73 rfl (lv_at hl 0 rfl) ?_
      refine lv_iconst (v := 2) hx hb dX9_bird_74 (by decide) ?_
      refine lv_iadd hx hb dX9_bird_75 ?_
      obtain ⟨hi_76, h⟩ := ix_e h
      refine g_al C hG gk_146 gl_146 hi_76 rfl dX9_bird_76 ?_
      exact hr (Option.some.inj h) rfl hG dX9_bird_77
    have h := if_f c_20_1 h
    by_cases c_20_2 : x2 = (2 : Int32)
    · have h := if_t c_20_2 h
      refine g_tsw (tgt := 78) (off := 58) hx hb dX9_bird_20 (by rw [c_20_2]; rfl) (by decide) ?_
      refine lv_aload_n hx hb dX9_bird_78 rfl (lv_at hl 1 rfl) ?_
      refine gf_X9_now C hG gk_140 wf_X9_25 dX9_bird_79 ?_
      refine lv_iload_n hx hb dX9_bird_82 rfl (lv_at hl 0 rfl) ?_
      refine lv_iconst (v := 3) hx hb dX9_bird_83 (by decide) ?_
      refine lv_iadd hx hb dX9_bird_84 ?_
      obtain ⟨hi_85, h⟩ := ix_e h
      refine g_al C hG gk_146 gl_146 hi_85 rfl dX9_bird_85 ?_
      exact hr (Option.some.inj h) rfl hG dX9_bird_86
    have h := if_f c_20_2 h
    by_cases c_20_3 : x2 = (3 : Int32)
    · have h := if_t c_20_3 h
      refine g_tsw (tgt := 87) (off := 67) hx hb dX9_bird_20 (by rw [c_20_3]; rfl) (by decide) ?_
      refine lv_aload_n hx hb dX9_bird_87 rfl (lv_at hl 1 rfl) ?_
      refine gf_X9_now C hG gk_140 wf_X9_25 dX9_bird_88 ?_
      refine lv_iload_n hx hb dX9_bird_91 rfl (lv_at hl 0 rfl) ?_
      refine lv_iconst (v := 4) hx hb dX9_bird_92 (by decide) ?_
      refine lv_iadd hx hb dX9_bird_93 ?_
      obtain ⟨hi_94, h⟩ := ix_e h
      refine g_al C hG gk_146 gl_146 hi_94 rfl dX9_bird_94 ?_
      exact hr (Option.some.inj h) rfl hG dX9_bird_95
    have h := if_f c_20_3 h
    by_cases c_20_4 : x2 = (4 : Int32)
    · have h := if_t c_20_4 h
      refine g_tsw (tgt := 96) (off := 76) hx hb dX9_bird_20 (by rw [c_20_4]; rfl) (by decide) ?_
      refine lv_aload_n hx hb dX9_bird_96 rfl (lv_at hl 1 rfl) ?_
      refine gf_X9_now C hG gk_140 wf_X9_25 dX9_bird_97 ?_
      refine lv_iload_n hx hb dX9_bird_100 rfl (lv_at hl 0 rfl) ?_
      refine lv_iconst (v := 5) hx hb dX9_bird_101 (by decide) ?_
      refine lv_iadd hx hb dX9_bird_102 ?_
      obtain ⟨hi_103, h⟩ := ix_e h
      refine g_al C hG gk_146 gl_146 hi_103 rfl dX9_bird_103 ?_
      exact hr (Option.some.inj h) rfl hG dX9_bird_104
    have h := if_f c_20_4 h
    by_cases c_20_5 : x2 = (5 : Int32)
    · have h := if_t c_20_5 h
      refine g_tsw (tgt := 105) (off := 85) hx hb dX9_bird_20 (by rw [c_20_5]; rfl) (by decide) ?_
      refine lv_aload_n hx hb dX9_bird_105 rfl (lv_at hl 1 rfl) ?_
      refine gf_X9_now C hG gk_140 wf_X9_25 dX9_bird_106 ?_
      refine lv_iload_n hx hb dX9_bird_109 rfl (lv_at hl 2 rfl) ?_
      obtain ⟨q110, e_110, h⟩ := bd_e h
      refine g_ci hG (g_runS C hG (c_X9_flies l D cs ad M gk_146 gl_146 x1 e_110) wm_X9_144 wt_X9_flies wz_X9 wc_X9_flies e_X9_flies (by decide) hl.1 (Nat.le_of_ble_eq_true rfl) dX9_bird_110) (fun H locs hG => ?_)
      refine lv_if_eq (tgt := 137) hx hb dX9_bird_113 (by decide) (fun c_113 => ?_) (fun c_113 => ?_)
      · have h := if_f (bi_f c_113) h
        refine lv_iconst (v := 0) hx hb dX9_bird_137 (by decide) ?_
        exact hr (Option.some.inj h) rfl hG dX9_bird_138
      · have h := if_t (bi_t c_113) h
        refine lv_aload_n hx hb dX9_bird_116 rfl (lv_at hl 1 rfl) ?_
        refine gf_X9_now C hG gk_140 wf_X9_25 dX9_bird_117 ?_
        refine g_ci hG (g_runS C hG (c_X9_left l D cs ad M gk_146 gl_146 rfl) wm_X9_170 wt_X9_left wz_X9 wc_X9_left e_X9_left (by decide) hl.1 (Nat.le_of_ble_eq_true rfl) dX9_bird_120) (fun H locs hG => ?_)
        refine lv_if_le (tgt := 137) hx hb dX9_bird_123 (by decide) (fun c_123 => ?_) (fun c_123 => ?_)
        · have h := if_t c_123 h
          refine lv_iconst (v := 0) hx hb dX9_bird_137 (by decide) ?_
          exact hr (Option.some.inj h) rfl hG dX9_bird_138
        · have h := if_f c_123 h
          refine lv_aload_n hx hb dX9_bird_126 rfl (lv_at hl 1 rfl) ?_
          refine gf_X9_now C hG gk_140 wf_X9_25 dX9_bird_127 ?_
          refine lv_iload_n hx hb dX9_bird_130 rfl (lv_at hl 2 rfl) ?_
          obtain ⟨q131, e_131, h⟩ := bd_e h
          refine g_ci hG (g_runS C hG (c_X9_takesOf l D cs ad M gk_146 gl_146 x1 e_131) wm_X9_158 wt_X9_takesOf wz_X9 wc_X9_takesOf e_X9_takesOf (by decide) hl.1 (Nat.le_of_ble_eq_true rfl) dX9_bird_131) (fun H locs hG => ?_)
          refine lv_goto (tgt := 138) hx hb dX9_bird_134 (by decide) ?_
          exact hr (Option.some.inj h) rfl hG dX9_bird_138
    have h := if_f c_20_5 h
    refine g_tsw (tgt := 139) (off := 119) hx hb dX9_bird_20 ?_ (by decide) ?_
    · have n_0 := i32_ne c_20_0 (j := 0) rfl
      have n_1 := i32_ne c_20_1 (j := 1) rfl
      have n_2 := i32_ne c_20_2 (j := 2) rfl
      have n_3 := i32_ne c_20_3 (j := 3) rfl
      have n_4 := i32_ne c_20_4 (j := 4) rfl
      have n_5 := i32_ne c_20_5 (j := 5) rfl
      rcases (show (x2).toInt < 0 ∨ 5 < (x2).toInt by omega) with q | q
      · exact if_pos (Or.inl q)
      · exact if_pos (Or.inr q)
    · refine lv_ldc (v := -1000001) hx hb hown (hts _ wk_X9_67) dX9_bird_139 ?_
      exact hr (Option.some.inj h) rfl hG dX9_bird_141
  · have h := if_f (bi_f c_5) h
    refine lv_ldc (v := -1000001) hx hb hown (hts _ wk_X9_67) dX9_bird_8 ?_
    exact hr (Option.some.inj h) rfl hG dX9_bird_10
def f_X9_valley_30 (M : Mem) (x1 : Int32) (x2 : Int32) (r30 : Int32 → Option Int32) (x3 : Int32) : Option Int32 :=
  chk (ixb ((6 : Int32) + x3) 57) <|
  if (M 146 ((6 : Int32) + x3).toNatClampNeg) = x1 then (
    if x2 = (0 : Int32) then (
      chk (ixb ((11 : Int32) + x1) 57) <|
      some (M 146 ((11 : Int32) + x1).toNatClampNeg)
    ) else (
      if x2 = (1 : Int32) then (
        chk (ixb ((16 : Int32) + x1) 57) <|
        some (M 146 ((16 : Int32) + x1).toNatClampNeg)
      ) else (
        some x3
      )
    )
  ) else (
    nm (x3 + (1 : Int32)) fun x3_43 =>
    r30 x3_43
  )
def f_X9_valley (M : Mem) (x1 : Int32) (x2 : Int32) : Option Int32 :=
  if (f_X9_in x1 (0 : Int32) ((M 146 2) - (1 : Int32))) = true then (
    if (f_X9_in x2 (0 : Int32) (2 : Int32)) = true then (
      iter (fun rec a => f_X9_valley_30 M x1 x2 rec a) fuel (0 : Int32)
    ) else (
      some (-1000001 : Int32)
    )
  ) else (
    some (-1000001 : Int32)
  )
theorem e_X9_valley : yX9_valley.cls = RX9 ∧ yX9_valley.cls ≠ "java/lang/invoke/MethodHandle" ∧ yX9_valley.cls ≠ "java/lang/invoke/VarHandle" ∧ (parseMethodDescriptor yX9_valley.desc).map (fun d => d.parameters.length) = some 2 := by decide +kernel
set_option maxHeartbeats 4000000 in
set_option maxRecDepth 100000 in
theorem c_X9_valley (l : Launch) (D : va_G) (cs : Nat → ClassId) (ad : Nat → Nat) (M : Mem) (x1 : Int32) (x2 : Int32) {z : Int32} (h : f_X9_valley M x1 x2 = some z) : CtI l yX9_valley cX9_valley 4 .int 1 D cs ad [.ref (ad 140), .int x1, .int x2] M z M := by
  refine ct_i (own := RX9) (by decide) rfl (Nat.le_of_ble_eq_true rfl) ?_
  intro p e s m args below meth c Q C hr
  have hx := C.1
  have hb := C.2.1
  have hown := C.2.2.2.1
  have hts := C.2.2.2.2.1
  have J_30 : ∀ (x1 : Int32) (x2 : Int32) (n : Nat) (a : Int32), iter (fun rec a => f_X9_valley_30 M x1 x2 rec a) n a = some z → GP p l e (rmk 1) s m args below meth c 0 0 Q D cs ad 4 30 [(0, .ref (ad 140)), (1, .int x1), (2, .int x2), (3, .int a)] [] M := by
    intro x1 x2
    refine iter_ind (fun r30 hr30 a h => ?_)
    obtain ⟨x3, rfl⟩ : ∃ y, y = a := ⟨_, rfl⟩
    have h : f_X9_valley_30 M x1 x2 r30 x3 = some z := h
    intro H locs hG ls hl
    have hG : GH D cs ad s M H locs := hG
    have hl : lv_has ls 4 [(0, .ref (ad 140)), (1, .int x1), (2, .int x2), (3, .int x3)] := hl
    unfold f_X9_valley_30 at h
    refine lv_aload_n hx hb dX9_valley_30 rfl (lv_at hl 0 rfl) ?_
    refine gf_X9_now C hG gk_140 wf_X9_25 dX9_valley_31 ?_
    refine lv_bipush (v := 6) hx hb dX9_valley_34 (by decide) ?_
    refine lv_iload_n hx hb dX9_valley_36 rfl (lv_at hl 3 rfl) ?_
    refine lv_iadd hx hb dX9_valley_37 ?_
    obtain ⟨hi_38, h⟩ := ix_e h
    refine g_al C hG gk_146 gl_146 hi_38 rfl dX9_valley_38 ?_
    refine lv_iload_n hx hb dX9_valley_39 rfl (lv_at hl 1 rfl) ?_
    refine lv_icmp_eq (tgt := 49) hx hb dX9_valley_40 (by decide) (fun c_40 => ?_) (fun c_40 => ?_)
    · have h := if_t c_40 h
      refine lv_iload_n hx hb dX9_valley_49 rfl (lv_at hl 2 rfl) ?_
      refine lv_if_ne (tgt := 65) hx hb dX9_valley_50 (by decide) (fun c_50 => ?_) (fun c_50 => ?_)
      · have h := if_f c_50 h
        refine lv_iload_n hx hb dX9_valley_65 rfl (lv_at hl 2 rfl) ?_
        refine lv_iconst (v := 1) hx hb dX9_valley_66 (by decide) ?_
        refine lv_icmp_ne (tgt := 82) hx hb dX9_valley_67 (by decide) (fun c_67 => ?_) (fun c_67 => ?_)
        · have h := if_f c_67 h
          refine lv_iload_n hx hb dX9_valley_82 rfl (lv_at hl 3 rfl) ?_
          exact hr (Option.some.inj h) rfl hG dX9_valley_83
        · have h := if_t c_67 h
          refine lv_aload_n hx hb dX9_valley_70 rfl (lv_at hl 0 rfl) ?_
          refine gf_X9_now C hG gk_140 wf_X9_25 dX9_valley_71 ?_
          refine lv_bipush (v := 16) hx hb dX9_valley_74 (by decide) ?_
          refine lv_iload_n hx hb dX9_valley_76 rfl (lv_at hl 1 rfl) ?_
          refine lv_iadd hx hb dX9_valley_77 ?_
          obtain ⟨hi_78, h⟩ := ix_e h
          refine g_al C hG gk_146 gl_146 hi_78 rfl dX9_valley_78 ?_
          refine lv_goto (tgt := 83) hx hb dX9_valley_79 (by decide) ?_
          exact hr (Option.some.inj h) rfl hG dX9_valley_83
      · have h := if_t c_50 h
        refine lv_aload_n hx hb dX9_valley_53 rfl (lv_at hl 0 rfl) ?_
        refine gf_X9_now C hG gk_140 wf_X9_25 dX9_valley_54 ?_
        refine lv_bipush (v := 11) hx hb dX9_valley_57 (by decide) ?_
        refine lv_iload_n hx hb dX9_valley_59 rfl (lv_at hl 1 rfl) ?_
        refine lv_iadd hx hb dX9_valley_60 ?_
        obtain ⟨hi_61, h⟩ := ix_e h
        refine g_al C hG gk_146 gl_146 hi_61 rfl dX9_valley_61 ?_
        refine lv_goto (tgt := 83) hx hb dX9_valley_62 (by decide) ?_
        exact hr (Option.some.inj h) rfl hG dX9_valley_83
    · have h := if_f c_40 h
      obtain ⟨x3_43, e3_43⟩ : ∃ y : Int32, y = x3 + (1 : Int32) := ⟨_, rfl⟩
      have h := nm_at e3_43 h
      refine lv_iinc (v := x3_43) (lv' := [(3, .int x3_43), (0, .ref (ad 140)), (1, .int x1), (2, .int x2)]) hx hb dX9_valley_43 hl (k := 3) rfl (by rw [e3_43]; rfl) (by decide) rfl (fun ls hl => ?_)
      refine lv_goto (tgt := 30) hx hb dX9_valley_46 (by decide) ?_
      exact hr30 x3_43 h H locs hG ls (lv_sub hl [1, 2, 3, 0] rfl)
  intro H locs hG ls hl
  have hl : lv_has ls 4 [(0, .ref (ad 140)), (1, .int x1), (2, .int x2)] := hl
  unfold f_X9_valley at h
  refine lv_iload_n hx hb dX9_valley_0 rfl (lv_at hl 1 rfl) ?_
  refine lv_iconst (v := 0) hx hb dX9_valley_1 (by decide) ?_
  refine lv_aload_n hx hb dX9_valley_2 rfl (lv_at hl 0 rfl) ?_
  refine gf_X9_now C hG gk_140 wf_X9_25 dX9_valley_3 ?_
  refine lv_iconst (v := 2) hx hb dX9_valley_6 (by decide) ?_
  refine g_al (j := 2) C hG gk_146 gl_146 (ixl rfl) (by decide) dX9_valley_7 ?_
  refine lv_iconst (v := 1) hx hb dX9_valley_8 (by decide) ?_
  refine lv_isub hx hb dX9_valley_9 ?_
  refine g_ci hG (g_runS C hG (c_X9_in l D cs ad M x1 (0 : Int32) ((M 146 2) - (1 : Int32)) rfl) wm_X9_59 wt_X9_in wz_X9 wc_X9_in e_X9_in (by decide) hl.1 (Nat.le_of_ble_eq_true rfl) dX9_valley_10) (fun H locs hG => ?_)
  refine lv_if_eq (tgt := 25) hx hb dX9_valley_13 (by decide) (fun c_13 => ?_) (fun c_13 => ?_)
  · have h := if_f (bi_f c_13) h
    refine lv_ldc (v := -1000001) hx hb hown (hts _ wk_X9_67) dX9_valley_25 ?_
    exact hr (Option.some.inj h) rfl hG dX9_valley_27
  · have h := if_t (bi_t c_13) h
    refine lv_iload_n hx hb dX9_valley_16 rfl (lv_at hl 2 rfl) ?_
    refine lv_iconst (v := 0) hx hb dX9_valley_17 (by decide) ?_
    refine lv_iconst (v := 2) hx hb dX9_valley_18 (by decide) ?_
    refine g_ci hG (g_runS C hG (c_X9_in l D cs ad M x2 (0 : Int32) (2 : Int32) rfl) wm_X9_59 wt_X9_in wz_X9 wc_X9_in e_X9_in (by decide) hl.1 (Nat.le_of_ble_eq_true rfl) dX9_valley_19) (fun H locs hG => ?_)
    refine lv_if_ne (tgt := 28) hx hb dX9_valley_22 (by decide) (fun c_22 => ?_) (fun c_22 => ?_)
    · have h := if_t (bi_t c_22) h
      refine lv_iconst (v := 0) hx hb dX9_valley_28 (by decide) ?_
      refine lv_istore_n (lv' := [(3, .int 0), (0, .ref (ad 140)), (1, .int x1), (2, .int x2)]) hx hb dX9_valley_29 rfl hl (by decide) rfl (fun ls hl => ?_)
      exact J_30 x1 x2 _ (0 : Int32) h H locs hG ls (lv_sub hl [1, 2, 3, 0] rfl)
    · have h := if_f (bi_f c_22) h
      refine lv_ldc (v := -1000001) hx hb hown (hts _ wk_X9_67) dX9_valley_25 ?_
      exact hr (Option.some.inj h) rfl hG dX9_valley_27
def f_X9_tries (M : Mem) : Option Mem :=
  (f_X9_copies M 146 (0 : Int32) 148 (0 : Int32)).bind fun q10 =>
  some q10
theorem e_X9_tries : yX9_tries.cls = RX9 ∧ yX9_tries.cls ≠ "java/lang/invoke/MethodHandle" ∧ yX9_tries.cls ≠ "java/lang/invoke/VarHandle" ∧ (parseMethodDescriptor yX9_tries.desc).map (fun d => d.parameters.length) = some 0 := by decide +kernel
set_option maxHeartbeats 4000000 in
set_option maxRecDepth 100000 in
theorem c_X9_tries (l : Launch) (D : va_G) (cs : Nat → ClassId) (ad : Nat → Nat) (M : Mem) {z : Mem} (h : f_X9_tries M = some z) : CtV l yX9_tries cX9_tries 1 1 D cs ad [.ref (ad 140)] M z := by
  refine ct_v (own := RX9) (by decide) rfl (Nat.le_of_ble_eq_true rfl) ?_
  intro p e s m args below meth c Q C hr
  have hx := C.1
  have hb := C.2.1
  have hown := C.2.2.2.1
  have hts := C.2.2.2.2.1
  intro H locs hG ls hl
  have hl : lv_has ls 1 [(0, .ref (ad 140))] := hl
  unfold f_X9_tries at h
  refine lv_aload_n hx hb dX9_tries_0 rfl (lv_at hl 0 rfl) ?_
  refine gf_X9_now C hG gk_140 wf_X9_25 dX9_tries_1 ?_
  refine lv_iconst (v := 0) hx hb dX9_tries_4 (by decide) ?_
  refine lv_aload_n hx hb dX9_tries_5 rfl (lv_at hl 0 rfl) ?_
  refine gf_X9_tried C hG gk_140 wf_X9_31 dX9_tries_6 ?_
  refine lv_iconst (v := 0) hx hb dX9_tries_9 (by decide) ?_
  obtain ⟨q10, e_10, h⟩ := bd_e h
  refine g_cv hG (g_runS C hG (c_X9_copies l D cs ad M gk_146 (0 : Int32) gk_148 (0 : Int32) e_10) wm_X9_137 wt_X9_copies wz_X9 wc_X9_copies e_X9_copies (by decide) hl.1 (Nat.le_of_ble_eq_true rfl) dX9_tries_10) (fun H locs hG => ?_)
  exact hr (Option.some.inj h) hG dX9_tries_13
def f_X9_ends_0 (r0 : Mem → Option (Int32 × Mem)) (M : Mem) : Option (Int32 × Mem) :=
  if (f_X9_left M 148) ≤ (0 : Int32) then (
    (f_X9_flying M 148).bind fun q24 =>
    some (q24, M)
  ) else (
    (f_X9_passes M 148).bind fun q14 =>
    r0 q14
  )
def f_X9_ends (M : Mem) : Option (Int32 × Mem) :=
  iter (fun rec a => f_X9_ends_0 rec a) fuel M
theorem e_X9_ends : yX9_ends.cls = RX9 ∧ yX9_ends.cls ≠ "java/lang/invoke/MethodHandle" ∧ yX9_ends.cls ≠ "java/lang/invoke/VarHandle" ∧ (parseMethodDescriptor yX9_ends.desc).map (fun d => d.parameters.length) = some 0 := by decide +kernel
set_option maxHeartbeats 4000000 in
set_option maxRecDepth 100000 in
theorem c_X9_ends (l : Launch) (D : va_G) (cs : Nat → ClassId) (ad : Nat → Nat) (M : Mem) {z : Int32 × Mem} (h : f_X9_ends M = some z) : CtI l yX9_ends cX9_ends 1 .int 4 D cs ad [.ref (ad 140)] M z.1 z.2 := by
  refine ct_i (own := RX9) (by decide) rfl (Nat.le_of_ble_eq_true rfl) ?_
  intro p e s m args below meth c Q C hr
  have hx := C.1
  have hb := C.2.1
  have hown := C.2.2.2.1
  have hts := C.2.2.2.2.1
  have J_0 : ∀ (n : Nat) (a : Mem), iter (fun rec a => f_X9_ends_0 rec a) n a = some z → GP p l e (rmk 4) s m args below meth c 0 0 Q D cs ad 1 0 [(0, .ref (ad 140))] [] a := by
    refine iter_ind (fun r0 hr0 a h => ?_)
    obtain ⟨M, rfl⟩ : ∃ y, y = a := ⟨_, rfl⟩
    have h : f_X9_ends_0 r0 M = some z := h
    intro H locs hG ls hl
    have hG : GH D cs ad s M H locs := hG
    have hl : lv_has ls 1 [(0, .ref (ad 140))] := hl
    unfold f_X9_ends_0 at h
    refine lv_aload_n hx hb dX9_ends_0 rfl (lv_at hl 0 rfl) ?_
    refine gf_X9_tried C hG gk_140 wf_X9_31 dX9_ends_1 ?_
    refine g_ci hG (g_runS C hG (c_X9_left l D cs ad M gk_148 gl_148 rfl) wm_X9_170 wt_X9_left wz_X9 wc_X9_left e_X9_left (by decide) hl.1 (Nat.le_of_ble_eq_true rfl) dX9_ends_4) (fun H locs hG => ?_)
    refine lv_if_le (tgt := 20) hx hb dX9_ends_7 (by decide) (fun c_7 => ?_) (fun c_7 => ?_)
    · have h := if_t c_7 h
      refine lv_aload_n hx hb dX9_ends_20 rfl (lv_at hl 0 rfl) ?_
      refine gf_X9_tried C hG gk_140 wf_X9_31 dX9_ends_21 ?_
      obtain ⟨q24, e_24, h⟩ := bd_e h
      refine g_ci hG (g_runS C hG (c_X9_flying l D cs ad M gk_148 gl_148 e_24) wm_X9_177 wt_X9_flying wz_X9 wc_X9_flying e_X9_flying (by decide) hl.1 (Nat.le_of_ble_eq_true rfl) dX9_ends_24) (fun H locs hG => ?_)
      exact hr (pf1 (Option.some.inj h)) (pf2 (Option.some.inj h)) hG dX9_ends_27
    · have h := if_f c_7 h
      refine lv_aload_n hx hb dX9_ends_10 rfl (lv_at hl 0 rfl) ?_
      refine gf_X9_tried C hG gk_140 wf_X9_31 dX9_ends_11 ?_
      obtain ⟨q14, e_14, h⟩ := bd_e h
      refine g_cv hG (g_runS C hG (c_X9_passes l D cs ad M gk_148 gl_148 e_14) wm_X9_173 wt_X9_passes wz_X9 wc_X9_passes e_X9_passes (by decide) hl.1 (Nat.le_of_ble_eq_true rfl) dX9_ends_14) (fun H locs hG => ?_)
      refine lv_goto (tgt := 0) hx hb dX9_ends_17 (by decide) ?_
      exact hr0 q14 h H locs hG ls (lv_sub hl [0] rfl)
  intro H locs hG ls hl
  have hl : lv_has ls 1 [(0, .ref (ad 140))] := hl
  unfold f_X9_ends at h
  exact J_0 _ M h H locs hG ls (lv_sub hl [0] rfl)
def f_X9_arrive (M : Mem) : Option (Int32 × Mem) :=
  if (f_X9_isFlight M) = true then (
    (f_X9_tries M).bind fun q11 =>
    (f_X9_ends q11).bind fun q15 =>
    some (q15.1, q15.2)
  ) else (
    some ((-1000002 : Int32), M)
  )
theorem e_X9_arrive : yX9_arrive.cls = RX9 ∧ yX9_arrive.cls ≠ "java/lang/invoke/MethodHandle" ∧ yX9_arrive.cls ≠ "java/lang/invoke/VarHandle" ∧ (parseMethodDescriptor yX9_arrive.desc).map (fun d => d.parameters.length) = some 0 := by decide +kernel
set_option maxHeartbeats 4000000 in
set_option maxRecDepth 100000 in
theorem c_X9_arrive (l : Launch) (D : va_G) (cs : Nat → ClassId) (ad : Nat → Nat) (M : Mem) {z : Int32 × Mem} (h : f_X9_arrive M = some z) : CtI l yX9_arrive cX9_arrive 1 .int 5 D cs ad [.ref (ad 140)] M z.1 z.2 := by
  refine ct_i (own := RX9) (by decide) rfl (Nat.le_of_ble_eq_true rfl) ?_
  intro p e s m args below meth c Q C hr
  have hx := C.1
  have hb := C.2.1
  have hown := C.2.2.2.1
  have hts := C.2.2.2.2.1
  intro H locs hG ls hl
  have hl : lv_has ls 1 [(0, .ref (ad 140))] := hl
  unfold f_X9_arrive at h
  refine lv_aload_n hx hb dX9_arrive_0 rfl (lv_at hl 0 rfl) ?_
  refine g_ci hG (g_runV C hG (gR_9 gk_140) (c_X9_isFlight l D cs ad M rfl) wm_X9_180 wi_X9_isFlight ws_X9_isFlight wz_X9 wc_X9_isFlight e_X9_isFlight (by decide) hl.1 (Nat.le_of_ble_eq_true rfl) dX9_arrive_1) (fun H locs hG => ?_)
  refine lv_if_ne (tgt := 10) hx hb dX9_arrive_4 (by decide) (fun c_4 => ?_) (fun c_4 => ?_)
  · have h := if_t (bi_t c_4) h
    refine lv_aload_n hx hb dX9_arrive_10 rfl (lv_at hl 0 rfl) ?_
    obtain ⟨q11, e_11, h⟩ := bd_e h
    refine g_cv hG (g_runV C hG (gR_9 gk_140) (c_X9_tries l D cs ad M e_11) wm_X9_196 wi_X9_tries ws_X9_tries wz_X9 wc_X9_tries e_X9_tries (by decide) hl.1 (Nat.le_of_ble_eq_true rfl) dX9_arrive_11) (fun H locs hG => ?_)
    refine lv_aload_n hx hb dX9_arrive_14 rfl (lv_at hl 0 rfl) ?_
    obtain ⟨q15, e_15, h⟩ := bd_e h
    refine g_ci hG (g_runV C hG (gR_9 gk_140) (c_X9_ends l D cs ad q11 e_15) wm_X9_199 wi_X9_ends ws_X9_ends wz_X9 wc_X9_ends e_X9_ends (by decide) hl.1 (Nat.le_of_ble_eq_true rfl) dX9_arrive_15) (fun H locs hG => ?_)
    exact hr (pf1 (Option.some.inj h)) (pf2 (Option.some.inj h)) hG dX9_arrive_18
  · have h := if_f (bi_f c_4) h
    refine lv_ldc (v := -1000002) hx hb hown (hts _ wk_X9_183) dX9_arrive_7 ?_
    exact hr (pf1 (Option.some.inj h)) (pf2 (Option.some.inj h)) hG dX9_arrive_9
def f_X9_where_28 (x1 : Int32) (r28 : Mem → Option (Int32 × Mem)) (M : Mem) : Option (Int32 × Mem) :=
  if (f_X9_left M 148) ≤ (0 : Int32) then (
    some ((-1000000 : Int32), M)
  ) else (
    (f_X9_passes M 148).bind fun q42 =>
    (f_X9_flies q42 148 x1).bind fun q50 =>
    if q50 = true then (
      r28 q42
    ) else (
      some (((q42 148 3) - (1 : Int32)), q42)
    )
  )
def f_X9_where (M : Mem) (x1 : Int32) : Option (Int32 × Mem) :=
  if (f_X9_isBird M x1) = true then (
    (f_X9_flies M 146 x1).bind fun q16 =>
    if q16 = true then (
      (f_X9_tries M).bind fun q25 =>
      iter (fun rec a => f_X9_where_28 x1 rec a) fuel q25
    ) else (
      some ((-1 : Int32), M)
    )
  ) else (
    some ((-1000001 : Int32), M)
  )
theorem e_X9_where : yX9_where.cls = RX9 ∧ yX9_where.cls ≠ "java/lang/invoke/MethodHandle" ∧ yX9_where.cls ≠ "java/lang/invoke/VarHandle" ∧ (parseMethodDescriptor yX9_where.desc).map (fun d => d.parameters.length) = some 1 := by decide +kernel
set_option maxHeartbeats 4000000 in
set_option maxRecDepth 100000 in
theorem c_X9_where (l : Launch) (D : va_G) (cs : Nat → ClassId) (ad : Nat → Nat) (M : Mem) (x1 : Int32) {z : Int32 × Mem} (h : f_X9_where M x1 = some z) : CtI l yX9_where cX9_where 2 .int 4 D cs ad [.ref (ad 140), .int x1] M z.1 z.2 := by
  refine ct_i (own := RX9) (by decide) rfl (Nat.le_of_ble_eq_true rfl) ?_
  intro p e s m args below meth c Q C hr
  have hx := C.1
  have hb := C.2.1
  have hown := C.2.2.2.1
  have hts := C.2.2.2.2.1
  have J_28 : ∀ (x1 : Int32) (n : Nat) (a : Mem), iter (fun rec a => f_X9_where_28 x1 rec a) n a = some z → GP p l e (rmk 4) s m args below meth c 0 0 Q D cs ad 2 28 [(0, .ref (ad 140)), (1, .int x1)] [] a := by
    intro x1
    refine iter_ind (fun r28 hr28 a h => ?_)
    obtain ⟨M, rfl⟩ : ∃ y, y = a := ⟨_, rfl⟩
    have h : f_X9_where_28 x1 r28 M = some z := h
    intro H locs hG ls hl
    have hG : GH D cs ad s M H locs := hG
    have hl : lv_has ls 2 [(0, .ref (ad 140)), (1, .int x1)] := hl
    unfold f_X9_where_28 at h
    refine lv_aload_n hx hb dX9_where_28 rfl (lv_at hl 0 rfl) ?_
    refine gf_X9_tried C hG gk_140 wf_X9_31 dX9_where_29 ?_
    refine g_ci hG (g_runS C hG (c_X9_left l D cs ad M gk_148 gl_148 rfl) wm_X9_170 wt_X9_left wz_X9 wc_X9_left e_X9_left (by decide) hl.1 (Nat.le_of_ble_eq_true rfl) dX9_where_32) (fun H locs hG => ?_)
    refine lv_if_le (tgt := 65) hx hb dX9_where_35 (by decide) (fun c_35 => ?_) (fun c_35 => ?_)
    · have h := if_t c_35 h
      refine lv_ldc (v := -1000000) hx hb hown (hts _ wk_X9_53) dX9_where_65 ?_
      exact hr (pf1 (Option.some.inj h)) (pf2 (Option.some.inj h)) hG dX9_where_67
    · have h := if_f c_35 h
      refine lv_aload_n hx hb dX9_where_38 rfl (lv_at hl 0 rfl) ?_
      refine gf_X9_tried C hG gk_140 wf_X9_31 dX9_where_39 ?_
      obtain ⟨q42, e_42, h⟩ := bd_e h
      refine g_cv hG (g_runS C hG (c_X9_passes l D cs ad M gk_148 gl_148 e_42) wm_X9_173 wt_X9_passes wz_X9 wc_X9_passes e_X9_passes (by decide) hl.1 (Nat.le_of_ble_eq_true rfl) dX9_where_42) (fun H locs hG => ?_)
      refine lv_aload_n hx hb dX9_where_45 rfl (lv_at hl 0 rfl) ?_
      refine gf_X9_tried C hG gk_140 wf_X9_31 dX9_where_46 ?_
      refine lv_iload_n hx hb dX9_where_49 rfl (lv_at hl 1 rfl) ?_
      obtain ⟨q50, e_50, h⟩ := bd_e h
      refine g_ci hG (g_runS C hG (c_X9_flies l D cs ad q42 gk_148 gl_148 x1 e_50) wm_X9_144 wt_X9_flies wz_X9 wc_X9_flies e_X9_flies (by decide) hl.1 (Nat.le_of_ble_eq_true rfl) dX9_where_50) (fun H locs hG => ?_)
      refine lv_if_ne (tgt := 28) hx hb dX9_where_53 (by decide) (fun c_53 => ?_) (fun c_53 => ?_)
      · have h := if_t (bi_t c_53) h
        exact hr28 q42 h H locs hG ls (lv_sub hl [0, 1] rfl)
      · have h := if_f (bi_f c_53) h
        refine lv_aload_n hx hb dX9_where_56 rfl (lv_at hl 0 rfl) ?_
        refine gf_X9_tried C hG gk_140 wf_X9_31 dX9_where_57 ?_
        refine lv_iconst (v := 3) hx hb dX9_where_60 (by decide) ?_
        refine g_al (j := 3) C hG gk_148 gl_148 (ixl rfl) (by decide) dX9_where_61 ?_
        refine lv_iconst (v := 1) hx hb dX9_where_62 (by decide) ?_
        refine lv_isub hx hb dX9_where_63 ?_
        exact hr (pf1 (Option.some.inj h)) (pf2 (Option.some.inj h)) hG dX9_where_64
  intro H locs hG ls hl
  have hl : lv_has ls 2 [(0, .ref (ad 140)), (1, .int x1)] := hl
  unfold f_X9_where at h
  refine lv_aload_n hx hb dX9_where_0 rfl (lv_at hl 0 rfl) ?_
  refine lv_iload_n hx hb dX9_where_1 rfl (lv_at hl 1 rfl) ?_
  refine g_ci hG (g_runV C hG (gR_9 gk_140) (c_X9_isBird l D cs ad M x1 rfl) wm_X9_187 wi_X9_isBird ws_X9_isBird wz_X9 wc_X9_isBird e_X9_isBird (by decide) hl.1 (Nat.le_of_ble_eq_true rfl) dX9_where_2) (fun H locs hG => ?_)
  refine lv_if_ne (tgt := 11) hx hb dX9_where_5 (by decide) (fun c_5 => ?_) (fun c_5 => ?_)
  · have h := if_t (bi_t c_5) h
    refine lv_aload_n hx hb dX9_where_11 rfl (lv_at hl 0 rfl) ?_
    refine gf_X9_now C hG gk_140 wf_X9_25 dX9_where_12 ?_
    refine lv_iload_n hx hb dX9_where_15 rfl (lv_at hl 1 rfl) ?_
    obtain ⟨q16, e_16, h⟩ := bd_e h
    refine g_ci hG (g_runS C hG (c_X9_flies l D cs ad M gk_146 gl_146 x1 e_16) wm_X9_144 wt_X9_flies wz_X9 wc_X9_flies e_X9_flies (by decide) hl.1 (Nat.le_of_ble_eq_true rfl) dX9_where_16) (fun H locs hG => ?_)
    refine lv_if_ne (tgt := 24) hx hb dX9_where_19 (by decide) (fun c_19 => ?_) (fun c_19 => ?_)
    · have h := if_t (bi_t c_19) h
      refine lv_aload_n hx hb dX9_where_24 rfl (lv_at hl 0 rfl) ?_
      obtain ⟨q25, e_25, h⟩ := bd_e h
      refine g_cv hG (g_runV C hG (gR_9 gk_140) (c_X9_tries l D cs ad M e_25) wm_X9_196 wi_X9_tries ws_X9_tries wz_X9 wc_X9_tries e_X9_tries (by decide) hl.1 (Nat.le_of_ble_eq_true rfl) dX9_where_25) (fun H locs hG => ?_)
      exact J_28 x1 _ q25 h H locs hG ls (lv_sub hl [0, 1] rfl)
    · have h := if_f (bi_f c_19) h
      refine lv_iconst (v := -1) hx hb dX9_where_22 (by decide) ?_
      exact hr (pf1 (Option.some.inj h)) (pf2 (Option.some.inj h)) hG dX9_where_23
  · have h := if_f (bi_f c_5) h
    refine lv_ldc (v := -1000001) hx hb hown (hts _ wk_X9_67) dX9_where_8 ?_
    exact hr (pf1 (Option.some.inj h)) (pf2 (Option.some.inj h)) hG dX9_where_10
def f_X9_strength_54 (M : Mem) (x1 : Int32) : Option (Int32 × Mem) :=
  chk (ixb (((21 : Int32) + ((6 : Int32) * x1)) + (1 : Int32)) 57) <|
  some ((M 148 (((21 : Int32) + ((6 : Int32) * x1)) + (1 : Int32)).toNatClampNeg), M)
def f_X9_strength_26 (x1 : Int32) (x2 : Int32) (r26 : (Mem × Int32) → Option (Int32 × Mem)) (M : Mem) (x3 : Int32) : Option (Int32 × Mem) :=
  if x2 ≤ x3 then (
    f_X9_strength_54 M x1
  ) else (
    if (f_X9_left M 148) ≤ (0 : Int32) then (
      f_X9_strength_54 M x1
    ) else (
      (f_X9_passes M 148).bind fun q45 =>
      nm (x3 + (1 : Int32)) fun x3_48 =>
      r26 (q45, x3_48)
    )
  )
def f_X9_strength (M : Mem) (x1 : Int32) (x2 : Int32) : Option (Int32 × Mem) :=
  if (f_X9_isBird M x1) = true then (
    if (f_X9_in x2 (0 : Int32) (5 : Int32)) = true then (
      (f_X9_tries M).bind fun q21 =>
      iter (fun rec a => f_X9_strength_26 x1 x2 rec a.1 a.2) fuel (q21, (0 : Int32))
    ) else (
      some ((-1000001 : Int32), M)
    )
  ) else (
    some ((-1000001 : Int32), M)
  )
theorem e_X9_strength : yX9_strength.cls = RX9 ∧ yX9_strength.cls ≠ "java/lang/invoke/MethodHandle" ∧ yX9_strength.cls ≠ "java/lang/invoke/VarHandle" ∧ (parseMethodDescriptor yX9_strength.desc).map (fun d => d.parameters.length) = some 2 := by decide +kernel
set_option maxHeartbeats 4000000 in
set_option maxRecDepth 100000 in
theorem c_X9_strength (l : Launch) (D : va_G) (cs : Nat → ClassId) (ad : Nat → Nat) (M : Mem) (x1 : Int32) (x2 : Int32) {z : Int32 × Mem} (h : f_X9_strength M x1 x2 = some z) : CtI l yX9_strength cX9_strength 4 .int 4 D cs ad [.ref (ad 140), .int x1, .int x2] M z.1 z.2 := by
  refine ct_i (own := RX9) (by decide) rfl (Nat.le_of_ble_eq_true rfl) ?_
  intro p e s m args below meth c Q C hr
  have hx := C.1
  have hb := C.2.1
  have hown := C.2.2.2.1
  have hts := C.2.2.2.2.1
  have J_54 : ∀ (M : Mem) (x1 : Int32), f_X9_strength_54 M x1 = some z → GP p l e (rmk 4) s m args below meth c 0 0 Q D cs ad 4 54 [(0, .ref (ad 140)), (1, .int x1)] [] M := by
    intro M x1 h H locs hG ls hl
    unfold f_X9_strength_54 at h
    refine lv_aload_n hx hb dX9_strength_54 rfl (lv_at hl 0 rfl) ?_
    refine gf_X9_tried C hG gk_140 wf_X9_31 dX9_strength_55 ?_
    refine lv_bipush (v := 21) hx hb dX9_strength_58 (by decide) ?_
    refine lv_bipush (v := 6) hx hb dX9_strength_60 (by decide) ?_
    refine lv_iload_n hx hb dX9_strength_62 rfl (lv_at hl 1 rfl) ?_
    refine lv_imul hx hb dX9_strength_63 ?_
    refine lv_iadd hx hb dX9_strength_64 ?_
    refine lv_iconst (v := 1) hx hb dX9_strength_65 (by decide) ?_
    refine lv_iadd hx hb dX9_strength_66 ?_
    obtain ⟨hi_67, h⟩ := ix_e h
    refine g_al C hG gk_148 gl_148 hi_67 rfl dX9_strength_67 ?_
    exact hr (pf1 (Option.some.inj h)) (pf2 (Option.some.inj h)) hG dX9_strength_68
  have J_26 : ∀ (x1 : Int32) (x2 : Int32) (n : Nat) (a : Mem × Int32), iter (fun rec a => f_X9_strength_26 x1 x2 rec a.1 a.2) n a = some z → GP p l e (rmk 4) s m args below meth c 0 0 Q D cs ad 4 26 [(0, .ref (ad 140)), (1, .int x1), (2, .int x2), (3, .int a.2)] [] a.1 := by
    intro x1 x2
    refine iter_ind (fun r26 hr26 a h => ?_)
    obtain ⟨M, x3⟩ := a
    have h : f_X9_strength_26 x1 x2 r26 M x3 = some z := h
    intro H locs hG ls hl
    have hG : GH D cs ad s M H locs := hG
    have hl : lv_has ls 4 [(0, .ref (ad 140)), (1, .int x1), (2, .int x2), (3, .int x3)] := hl
    unfold f_X9_strength_26 at h
    refine lv_iload_n hx hb dX9_strength_26 rfl (lv_at hl 3 rfl) ?_
    refine lv_iload_n hx hb dX9_strength_27 rfl (lv_at hl 2 rfl) ?_
    refine lv_icmp_ge (tgt := 54) hx hb dX9_strength_28 (by decide) (fun c_28 => ?_) (fun c_28 => ?_)
    · have h := if_t c_28 h
      exact J_54 M x1 h H locs hG ls (lv_sub hl [0, 1] rfl)
    · have h := if_f c_28 h
      refine lv_aload_n hx hb dX9_strength_31 rfl (lv_at hl 0 rfl) ?_
      refine gf_X9_tried C hG gk_140 wf_X9_31 dX9_strength_32 ?_
      refine g_ci hG (g_runS C hG (c_X9_left l D cs ad M gk_148 gl_148 rfl) wm_X9_170 wt_X9_left wz_X9 wc_X9_left e_X9_left (by decide) hl.1 (Nat.le_of_ble_eq_true rfl) dX9_strength_35) (fun H locs hG => ?_)
      refine lv_if_le (tgt := 54) hx hb dX9_strength_38 (by decide) (fun c_38 => ?_) (fun c_38 => ?_)
      · have h := if_t c_38 h
        exact J_54 M x1 h H locs hG ls (lv_sub hl [0, 1] rfl)
      · have h := if_f c_38 h
        refine lv_aload_n hx hb dX9_strength_41 rfl (lv_at hl 0 rfl) ?_
        refine gf_X9_tried C hG gk_140 wf_X9_31 dX9_strength_42 ?_
        obtain ⟨q45, e_45, h⟩ := bd_e h
        refine g_cv hG (g_runS C hG (c_X9_passes l D cs ad M gk_148 gl_148 e_45) wm_X9_173 wt_X9_passes wz_X9 wc_X9_passes e_X9_passes (by decide) hl.1 (Nat.le_of_ble_eq_true rfl) dX9_strength_45) (fun H locs hG => ?_)
        obtain ⟨x3_48, e3_48⟩ : ∃ y : Int32, y = x3 + (1 : Int32) := ⟨_, rfl⟩
        have h := nm_at e3_48 h
        refine lv_iinc (v := x3_48) (lv' := [(3, .int x3_48), (0, .ref (ad 140)), (1, .int x1), (2, .int x2)]) hx hb dX9_strength_48 hl (k := 3) rfl (by rw [e3_48]; rfl) (by decide) rfl (fun ls hl => ?_)
        refine lv_goto (tgt := 26) hx hb dX9_strength_51 (by decide) ?_
        exact hr26 (q45, x3_48) h H locs hG ls (lv_sub hl [1, 2, 3, 0] rfl)
  intro H locs hG ls hl
  have hl : lv_has ls 4 [(0, .ref (ad 140)), (1, .int x1), (2, .int x2)] := hl
  unfold f_X9_strength at h
  refine lv_aload_n hx hb dX9_strength_0 rfl (lv_at hl 0 rfl) ?_
  refine lv_iload_n hx hb dX9_strength_1 rfl (lv_at hl 1 rfl) ?_
  refine g_ci hG (g_runV C hG (gR_9 gk_140) (c_X9_isBird l D cs ad M x1 rfl) wm_X9_187 wi_X9_isBird ws_X9_isBird wz_X9 wc_X9_isBird e_X9_isBird (by decide) hl.1 (Nat.le_of_ble_eq_true rfl) dX9_strength_2) (fun H locs hG => ?_)
  refine lv_if_eq (tgt := 17) hx hb dX9_strength_5 (by decide) (fun c_5 => ?_) (fun c_5 => ?_)
  · have h := if_f (bi_f c_5) h
    refine lv_ldc (v := -1000001) hx hb hown (hts _ wk_X9_67) dX9_strength_17 ?_
    exact hr (pf1 (Option.some.inj h)) (pf2 (Option.some.inj h)) hG dX9_strength_19
  · have h := if_t (bi_t c_5) h
    refine lv_iload_n hx hb dX9_strength_8 rfl (lv_at hl 2 rfl) ?_
    refine lv_iconst (v := 0) hx hb dX9_strength_9 (by decide) ?_
    refine lv_iconst (v := 5) hx hb dX9_strength_10 (by decide) ?_
    refine g_ci hG (g_runS C hG (c_X9_in l D cs ad M x2 (0 : Int32) (5 : Int32) rfl) wm_X9_59 wt_X9_in wz_X9 wc_X9_in e_X9_in (by decide) hl.1 (Nat.le_of_ble_eq_true rfl) dX9_strength_11) (fun H locs hG => ?_)
    refine lv_if_ne (tgt := 20) hx hb dX9_strength_14 (by decide) (fun c_14 => ?_) (fun c_14 => ?_)
    · have h := if_t (bi_t c_14) h
      refine lv_aload_n hx hb dX9_strength_20 rfl (lv_at hl 0 rfl) ?_
      obtain ⟨q21, e_21, h⟩ := bd_e h
      refine g_cv hG (g_runV C hG (gR_9 gk_140) (c_X9_tries l D cs ad M e_21) wm_X9_196 wi_X9_tries ws_X9_tries wz_X9 wc_X9_tries e_X9_tries (by decide) hl.1 (Nat.le_of_ble_eq_true rfl) dX9_strength_21) (fun H locs hG => ?_)
      refine lv_iconst (v := 0) hx hb dX9_strength_24 (by decide) ?_
      refine lv_istore_n (lv' := [(3, .int 0), (0, .ref (ad 140)), (1, .int x1), (2, .int x2)]) hx hb dX9_strength_25 rfl hl (by decide) rfl (fun ls hl => ?_)
      exact J_26 x1 x2 _ (q21, (0 : Int32)) h H locs hG ls (lv_sub hl [1, 2, 3, 0] rfl)
    · have h := if_f (bi_f c_14) h
      refine lv_ldc (v := -1000001) hx hb hown (hts _ wk_X9_67) dX9_strength_17 ?_
      exact hr (pf1 (Option.some.inj h)) (pf2 (Option.some.inj h)) hG dX9_strength_19
def f_X9_nextOrder_100 (r100 : (Mem × Int32 × Int32) → Option (Bool × Mem)) (M : Mem) (x5 : Int32) (x6 : Int32) : Option (Bool × Mem) :=
  if x6 ≤ x5 then (
    some (true, M)
  ) else (
    chk (ixb x5 5) <|
    nm ((M 152 x5.toNatClampNeg)) fun x7_114 =>
    chk (ixb x6 5) <|
    nm (st M 152 x5.toNatClampNeg (M 152 x6.toNatClampNeg)) fun M129 =>
    nm (st M129 152 x6.toNatClampNeg x7_114) fun M138 =>
    nm (x5 + (1 : Int32)) fun x5_139 =>
    nm (x6 + (-1 : Int32)) fun x6_142 =>
    r100 (M138, x5_139, x6_142)
  )
def f_X9_nextOrder_41 (M : Mem) (x1 : Int32) (x2 : Int32) (r41 : Int32 → Option (Bool × Mem)) (x3 : Int32) : Option (Bool × Mem) :=
  chk (ixb x3 5) <|
  chk (ixb x2 5) <|
  if (M 152 x2.toNatClampNeg) ≤ (M 152 x3.toNatClampNeg) then (
    nm ((M 152 x2.toNatClampNeg)) fun x4_68 =>
    nm (st M 152 x2.toNatClampNeg (M 152 x3.toNatClampNeg)) fun M81 =>
    nm (st M81 152 x3.toNatClampNeg x4_68) fun M89 =>
    nm ((x2 + (1 : Int32))) fun x5_93 =>
    nm ((x1 - (1 : Int32))) fun x6_98 =>
    iter (fun rec a => f_X9_nextOrder_100 rec a.1 a.2.1 a.2.2) fuel (M89, x5_93, x6_98)
  ) else (
    nm (x3 + (-1 : Int32)) fun x3_56 =>
    r41 x3_56
  )
def f_X9_nextOrder_31 (M : Mem) (x1 : Int32) (x2 : Int32) : Option (Bool × Mem) :=
  if (0 : Int32) ≤ x2 then (
    nm ((x1 - (1 : Int32))) fun x3_40 =>
    iter (fun rec a => f_X9_nextOrder_41 M x1 x2 rec a) fuel x3_40
  ) else (
    some (false, M)
  )
def f_X9_nextOrder_4 (M : Mem) (x1 : Int32) (r4 : Int32 → Option (Bool × Mem)) (x2 : Int32) : Option (Bool × Mem) :=
  if x2 < (0 : Int32) then (
    f_X9_nextOrder_31 M x1 x2
  ) else (
    chk (ixb x2 5) <|
    chk (ixb (x2 + (1 : Int32)) 5) <|
    if (M 152 x2.toNatClampNeg) ≤ (M 152 (x2 + (1 : Int32)).toNatClampNeg) then (
      f_X9_nextOrder_31 M x1 x2
    ) else (
      nm (x2 + (-1 : Int32)) fun x2_25 =>
      r4 x2_25
    )
  )
def f_X9_nextOrder (M : Mem) (x1 : Int32) : Option (Bool × Mem) :=
  nm ((x1 - (2 : Int32))) fun x2_3 =>
  iter (fun rec a => f_X9_nextOrder_4 M x1 rec a) fuel x2_3
theorem e_X9_nextOrder : yX9_nextOrder.cls = RX9 ∧ yX9_nextOrder.cls ≠ "java/lang/invoke/MethodHandle" ∧ yX9_nextOrder.cls ≠ "java/lang/invoke/VarHandle" ∧ (parseMethodDescriptor yX9_nextOrder.desc).map (fun d => d.parameters.length) = some 1 := by decide +kernel
set_option maxHeartbeats 4000000 in
set_option maxRecDepth 100000 in
theorem c_X9_nextOrder (l : Launch) (D : va_G) (cs : Nat → ClassId) (ad : Nat → Nat) (M : Mem) (x1 : Int32) {z : Bool × Mem} (h : f_X9_nextOrder M x1 = some z) : CtI l yX9_nextOrder cX9_nextOrder 8 .boolean 0 D cs ad [.ref (ad 140), .int x1] M (bi z.1) z.2 := by
  refine ct_z (own := RX9) (by decide) rfl (Nat.le_of_ble_eq_true rfl) ?_
  intro p e s m args below meth c Q C hr
  have hx := C.1
  have hb := C.2.1
  have hown := C.2.2.2.1
  have hts := C.2.2.2.2.1
  have J_100 : ∀ (n : Nat) (a : Mem × Int32 × Int32), iter (fun rec a => f_X9_nextOrder_100 rec a.1 a.2.1 a.2.2) n a = some z → GP p l e (rmk 0) s m args below meth c 0 0 Q D cs ad 8 100 [(0, .ref (ad 140)), (5, .int a.2.1), (6, .int a.2.2)] [] a.1 := by
    refine iter_ind (fun r100 hr100 a h => ?_)
    obtain ⟨M, x5, x6⟩ := a
    have h : f_X9_nextOrder_100 r100 M x5 x6 = some z := h
    intro H locs hG ls hl
    have hG : GH D cs ad s M H locs := hG
    have hl : lv_has ls 8 [(0, .ref (ad 140)), (5, .int x5), (6, .int x6)] := hl
    unfold f_X9_nextOrder_100 at h
    refine lv_iload hx hb dX9_nextOrder_100 (lv_at hl 1 rfl) ?_
    refine lv_iload hx hb dX9_nextOrder_102 (lv_at hl 2 rfl) ?_
    refine lv_icmp_ge (tgt := 148) hx hb dX9_nextOrder_104 (by decide) (fun c_104 => ?_) (fun c_104 => ?_)
    · have h := if_t c_104 h
      refine lv_iconst (v := 1) hx hb dX9_nextOrder_148 (by decide) ?_
      exact hr (congrArg bi (pf1 (Option.some.inj h))) (pf2 (Option.some.inj h)) hG dX9_nextOrder_149
    · have h := if_f c_104 h
      refine lv_aload_n hx hb dX9_nextOrder_107 rfl (lv_at hl 0 rfl) ?_
      refine gf_X9_order C hG gk_140 wf_X9_44 dX9_nextOrder_108 ?_
      refine lv_iload hx hb dX9_nextOrder_111 (lv_at hl 1 rfl) ?_
      obtain ⟨hi_113, h⟩ := ix_e h
      refine g_al C hG gk_152 gl_152 hi_113 rfl dX9_nextOrder_113 ?_
      refine lv_topi (fun x7_114 e7_114 => ?_)
      have h := nm_at e7_114 h
      refine lv_istore (lv' := [(7, .int x7_114), (0, .ref (ad 140)), (5, .int x5), (6, .int x6)]) hx hb dX9_nextOrder_114 hl (by decide) rfl (fun ls hl => ?_)
      refine lv_aload_n hx hb dX9_nextOrder_116 rfl (lv_at hl 1 rfl) ?_
      refine gf_X9_order C hG gk_140 wf_X9_44 dX9_nextOrder_117 ?_
      refine lv_iload hx hb dX9_nextOrder_120 (lv_at hl 2 rfl) ?_
      refine lv_aload_n hx hb dX9_nextOrder_122 rfl (lv_at hl 1 rfl) ?_
      refine gf_X9_order C hG gk_140 wf_X9_44 dX9_nextOrder_123 ?_
      refine lv_iload hx hb dX9_nextOrder_126 (lv_at hl 3 rfl) ?_
      obtain ⟨hi_128, h⟩ := ix_e h
      refine g_al C hG gk_152 gl_152 hi_128 rfl dX9_nextOrder_128 ?_
      refine g_as C hG gk_152 gl_152 hi_113 rfl dX9_nextOrder_129 (fun M129 e_129 H locs hG => ?_)
      have h := nm_at e_129 h
      refine lv_aload_n hx hb dX9_nextOrder_130 rfl (lv_at hl 1 rfl) ?_
      refine gf_X9_order C hG gk_140 wf_X9_44 dX9_nextOrder_131 ?_
      refine lv_iload hx hb dX9_nextOrder_134 (lv_at hl 3 rfl) ?_
      refine lv_iload hx hb dX9_nextOrder_136 (lv_at hl 0 rfl) ?_
      refine g_as C hG gk_152 gl_152 hi_128 rfl dX9_nextOrder_138 (fun M138 e_138 H locs hG => ?_)
      have h := nm_at e_138 h
      obtain ⟨x5_139, e5_139⟩ : ∃ y : Int32, y = x5 + (1 : Int32) := ⟨_, rfl⟩
      have h := nm_at e5_139 h
      refine lv_iinc (v := x5_139) (lv' := [(5, .int x5_139), (7, .int x7_114), (0, .ref (ad 140)), (6, .int x6)]) hx hb dX9_nextOrder_139 hl (k := 2) rfl (by rw [e5_139]; rfl) (by decide) rfl (fun ls hl => ?_)
      obtain ⟨x6_142, e6_142⟩ : ∃ y : Int32, y = x6 + (-1 : Int32) := ⟨_, rfl⟩
      have h := nm_at e6_142 h
      refine lv_iinc (v := x6_142) (lv' := [(6, .int x6_142), (5, .int x5_139), (7, .int x7_114), (0, .ref (ad 140))]) hx hb dX9_nextOrder_142 hl (k := 3) rfl (by rw [e6_142]; rfl) (by decide) rfl (fun ls hl => ?_)
      refine lv_goto (tgt := 100) hx hb dX9_nextOrder_145 (by decide) ?_
      exact hr100 (M138, x5_139, x6_142) h H locs hG ls (lv_sub hl [3, 1, 0] rfl)
  have J_41 : ∀ (M : Mem) (x1 : Int32) (x2 : Int32) (n : Nat) (a : Int32), iter (fun rec a => f_X9_nextOrder_41 M x1 x2 rec a) n a = some z → GP p l e (rmk 0) s m args below meth c 0 0 Q D cs ad 8 41 [(0, .ref (ad 140)), (1, .int x1), (2, .int x2), (3, .int a)] [] M := by
    intro M x1 x2
    refine iter_ind (fun r41 hr41 a h => ?_)
    obtain ⟨x3, rfl⟩ : ∃ y, y = a := ⟨_, rfl⟩
    have h : f_X9_nextOrder_41 M x1 x2 r41 x3 = some z := h
    intro H locs hG ls hl
    have hG : GH D cs ad s M H locs := hG
    have hl : lv_has ls 8 [(0, .ref (ad 140)), (1, .int x1), (2, .int x2), (3, .int x3)] := hl
    unfold f_X9_nextOrder_41 at h
    refine lv_aload_n hx hb dX9_nextOrder_41 rfl (lv_at hl 0 rfl) ?_
    refine gf_X9_order C hG gk_140 wf_X9_44 dX9_nextOrder_42 ?_
    refine lv_iload_n hx hb dX9_nextOrder_45 rfl (lv_at hl 3 rfl) ?_
    obtain ⟨hi_46, h⟩ := ix_e h
    refine g_al C hG gk_152 gl_152 hi_46 rfl dX9_nextOrder_46 ?_
    refine lv_aload_n hx hb dX9_nextOrder_47 rfl (lv_at hl 0 rfl) ?_
    refine gf_X9_order C hG gk_140 wf_X9_44 dX9_nextOrder_48 ?_
    refine lv_iload_n hx hb dX9_nextOrder_51 rfl (lv_at hl 2 rfl) ?_
    obtain ⟨hi_52, h⟩ := ix_e h
    refine g_al C hG gk_152 gl_152 hi_52 rfl dX9_nextOrder_52 ?_
    refine lv_icmp_ge (tgt := 62) hx hb dX9_nextOrder_53 (by decide) (fun c_53 => ?_) (fun c_53 => ?_)
    · have h := if_t c_53 h
      refine lv_aload_n hx hb dX9_nextOrder_62 rfl (lv_at hl 0 rfl) ?_
      refine gf_X9_order C hG gk_140 wf_X9_44 dX9_nextOrder_63 ?_
      refine lv_iload_n hx hb dX9_nextOrder_66 rfl (lv_at hl 2 rfl) ?_
      refine g_al C hG gk_152 gl_152 hi_52 rfl dX9_nextOrder_67 ?_
      refine lv_topi (fun x4_68 e4_68 => ?_)
      have h := nm_at e4_68 h
      refine lv_istore (lv' := [(4, .int x4_68), (0, .ref (ad 140)), (1, .int x1), (2, .int x2), (3, .int x3)]) hx hb dX9_nextOrder_68 hl (by decide) rfl (fun ls hl => ?_)
      refine lv_aload_n hx hb dX9_nextOrder_70 rfl (lv_at hl 1 rfl) ?_
      refine gf_X9_order C hG gk_140 wf_X9_44 dX9_nextOrder_71 ?_
      refine lv_iload_n hx hb dX9_nextOrder_74 rfl (lv_at hl 3 rfl) ?_
      refine lv_aload_n hx hb dX9_nextOrder_75 rfl (lv_at hl 1 rfl) ?_
      refine gf_X9_order C hG gk_140 wf_X9_44 dX9_nextOrder_76 ?_
      refine lv_iload_n hx hb dX9_nextOrder_79 rfl (lv_at hl 4 rfl) ?_
      refine g_al C hG gk_152 gl_152 hi_46 rfl dX9_nextOrder_80 ?_
      refine g_as C hG gk_152 gl_152 hi_52 rfl dX9_nextOrder_81 (fun M81 e_81 H locs hG => ?_)
      have h := nm_at e_81 h
      refine lv_aload_n hx hb dX9_nextOrder_82 rfl (lv_at hl 1 rfl) ?_
      refine gf_X9_order C hG gk_140 wf_X9_44 dX9_nextOrder_83 ?_
      refine lv_iload_n hx hb dX9_nextOrder_86 rfl (lv_at hl 4 rfl) ?_
      refine lv_iload hx hb dX9_nextOrder_87 (lv_at hl 0 rfl) ?_
      refine g_as C hG gk_152 gl_152 hi_46 rfl dX9_nextOrder_89 (fun M89 e_89 H locs hG => ?_)
      have h := nm_at e_89 h
      refine lv_iload_n hx hb dX9_nextOrder_90 rfl (lv_at hl 3 rfl) ?_
      refine lv_iconst (v := 1) hx hb dX9_nextOrder_91 (by decide) ?_
      refine lv_iadd hx hb dX9_nextOrder_92 ?_
      refine lv_topi (fun x5_93 e5_93 => ?_)
      have h := nm_at e5_93 h
      refine lv_istore (lv' := [(5, .int x5_93), (4, .int x4_68), (0, .ref (ad 140)), (1, .int x1), (2, .int x2), (3, .int x3)]) hx hb dX9_nextOrder_93 hl (by decide) rfl (fun ls hl => ?_)
      refine lv_iload_n hx hb dX9_nextOrder_95 rfl (lv_at hl 3 rfl) ?_
      refine lv_iconst (v := 1) hx hb dX9_nextOrder_96 (by decide) ?_
      refine lv_isub hx hb dX9_nextOrder_97 ?_
      refine lv_topi (fun x6_98 e6_98 => ?_)
      have h := nm_at e6_98 h
      refine lv_istore (lv' := [(6, .int x6_98), (5, .int x5_93), (4, .int x4_68), (0, .ref (ad 140)), (1, .int x1), (2, .int x2), (3, .int x3)]) hx hb dX9_nextOrder_98 hl (by decide) rfl (fun ls hl => ?_)
      exact J_100 _ (M89, x5_93, x6_98) h H locs hG ls (lv_sub hl [3, 1, 0] rfl)
    · have h := if_f c_53 h
      obtain ⟨x3_56, e3_56⟩ : ∃ y : Int32, y = x3 + (-1 : Int32) := ⟨_, rfl⟩
      have h := nm_at e3_56 h
      refine lv_iinc (v := x3_56) (lv' := [(3, .int x3_56), (0, .ref (ad 140)), (1, .int x1), (2, .int x2)]) hx hb dX9_nextOrder_56 hl (k := 3) rfl (by rw [e3_56]; rfl) (by decide) rfl (fun ls hl => ?_)
      refine lv_goto (tgt := 41) hx hb dX9_nextOrder_59 (by decide) ?_
      exact hr41 x3_56 h H locs hG ls (lv_sub hl [1, 2, 3, 0] rfl)
  have J_31 : ∀ (M : Mem) (x1 : Int32) (x2 : Int32), f_X9_nextOrder_31 M x1 x2 = some z → GP p l e (rmk 0) s m args below meth c 0 0 Q D cs ad 8 31 [(0, .ref (ad 140)), (1, .int x1), (2, .int x2)] [] M := by
    intro M x1 x2 h H locs hG ls hl
    unfold f_X9_nextOrder_31 at h
    refine lv_iload_n hx hb dX9_nextOrder_31 rfl (lv_at hl 2 rfl) ?_
    refine lv_if_ge (tgt := 37) hx hb dX9_nextOrder_32 (by decide) (fun c_32 => ?_) (fun c_32 => ?_)
    · have h := if_t c_32 h
      refine lv_iload_n hx hb dX9_nextOrder_37 rfl (lv_at hl 1 rfl) ?_
      refine lv_iconst (v := 1) hx hb dX9_nextOrder_38 (by decide) ?_
      refine lv_isub hx hb dX9_nextOrder_39 ?_
      refine lv_topi (fun x3_40 e3_40 => ?_)
      have h := nm_at e3_40 h
      refine lv_istore_n (lv' := [(3, .int x3_40), (0, .ref (ad 140)), (1, .int x1), (2, .int x2)]) hx hb dX9_nextOrder_40 rfl hl (by decide) rfl (fun ls hl => ?_)
      exact J_41 M x1 x2 _ x3_40 h H locs hG ls (lv_sub hl [1, 2, 3, 0] rfl)
    · have h := if_f c_32 h
      refine lv_iconst (v := 0) hx hb dX9_nextOrder_35 (by decide) ?_
      exact hr (congrArg bi (pf1 (Option.some.inj h))) (pf2 (Option.some.inj h)) hG dX9_nextOrder_36
  have J_4 : ∀ (M : Mem) (x1 : Int32) (n : Nat) (a : Int32), iter (fun rec a => f_X9_nextOrder_4 M x1 rec a) n a = some z → GP p l e (rmk 0) s m args below meth c 0 0 Q D cs ad 8 4 [(0, .ref (ad 140)), (1, .int x1), (2, .int a)] [] M := by
    intro M x1
    refine iter_ind (fun r4 hr4 a h => ?_)
    obtain ⟨x2, rfl⟩ : ∃ y, y = a := ⟨_, rfl⟩
    have h : f_X9_nextOrder_4 M x1 r4 x2 = some z := h
    intro H locs hG ls hl
    have hG : GH D cs ad s M H locs := hG
    have hl : lv_has ls 8 [(0, .ref (ad 140)), (1, .int x1), (2, .int x2)] := hl
    unfold f_X9_nextOrder_4 at h
    refine lv_iload_n hx hb dX9_nextOrder_4 rfl (lv_at hl 2 rfl) ?_
    refine lv_if_lt (tgt := 31) hx hb dX9_nextOrder_5 (by decide) (fun c_5 => ?_) (fun c_5 => ?_)
    · have h := if_t c_5 h
      exact J_31 M x1 x2 h H locs hG ls (lv_sub hl [0, 1, 2] rfl)
    · have h := if_f c_5 h
      refine lv_aload_n hx hb dX9_nextOrder_8 rfl (lv_at hl 0 rfl) ?_
      refine gf_X9_order C hG gk_140 wf_X9_44 dX9_nextOrder_9 ?_
      refine lv_iload_n hx hb dX9_nextOrder_12 rfl (lv_at hl 2 rfl) ?_
      obtain ⟨hi_13, h⟩ := ix_e h
      refine g_al C hG gk_152 gl_152 hi_13 rfl dX9_nextOrder_13 ?_
      refine lv_aload_n hx hb dX9_nextOrder_14 rfl (lv_at hl 0 rfl) ?_
      refine gf_X9_order C hG gk_140 wf_X9_44 dX9_nextOrder_15 ?_
      refine lv_iload_n hx hb dX9_nextOrder_18 rfl (lv_at hl 2 rfl) ?_
      refine lv_iconst (v := 1) hx hb dX9_nextOrder_19 (by decide) ?_
      refine lv_iadd hx hb dX9_nextOrder_20 ?_
      obtain ⟨hi_21, h⟩ := ix_e h
      refine g_al C hG gk_152 gl_152 hi_21 rfl dX9_nextOrder_21 ?_
      refine lv_icmp_le (tgt := 31) hx hb dX9_nextOrder_22 (by decide) (fun c_22 => ?_) (fun c_22 => ?_)
      · have h := if_t c_22 h
        exact J_31 M x1 x2 h H locs hG ls (lv_sub hl [0, 1, 2] rfl)
      · have h := if_f c_22 h
        obtain ⟨x2_25, e2_25⟩ : ∃ y : Int32, y = x2 + (-1 : Int32) := ⟨_, rfl⟩
        have h := nm_at e2_25 h
        refine lv_iinc (v := x2_25) (lv' := [(2, .int x2_25), (0, .ref (ad 140)), (1, .int x1)]) hx hb dX9_nextOrder_25 hl (k := 2) rfl (by rw [e2_25]; rfl) (by decide) rfl (fun ls hl => ?_)
        refine lv_goto (tgt := 4) hx hb dX9_nextOrder_28 (by decide) ?_
        exact hr4 x2_25 h H locs hG ls (lv_sub hl [1, 2, 0] rfl)
  intro H locs hG ls hl
  have hl : lv_has ls 8 [(0, .ref (ad 140)), (1, .int x1)] := hl
  unfold f_X9_nextOrder at h
  refine lv_iload_n hx hb dX9_nextOrder_0 rfl (lv_at hl 1 rfl) ?_
  refine lv_iconst (v := 2) hx hb dX9_nextOrder_1 (by decide) ?_
  refine lv_isub hx hb dX9_nextOrder_2 ?_
  refine lv_topi (fun x2_3 e2_3 => ?_)
  have h := nm_at e2_3 h
  refine lv_istore_n (lv' := [(2, .int x2_3), (0, .ref (ad 140)), (1, .int x1)]) hx hb dX9_nextOrder_3 rfl hl (by decide) rfl (fun ls hl => ?_)
  exact J_4 M x1 _ x2_3 h H locs hG ls (lv_sub hl [1, 2, 0] rfl)
def f_X9_order_57 (r35 : (Mem × Int32 × Int32) → Option (Int32 × Mem)) (M : Mem) (x1 : Int32) (x2 : Int32) (x3 : Int32) (x4 : Int32) (r57 : (Bool × Int32) → Option (Int32 × Mem)) (x5 : Bool) (x6 : Int32) : Option (Int32 × Mem) :=
  if (M 146 2) ≤ x6 then (
    if x5 = true then (
      chk (ixb x3 5) <|
      nm (st M 152 x3.toNatClampNeg x4) fun M113 =>
      nm (x3 + (1 : Int32)) fun x3_114 =>
      nm (x4 + (1 : Int32)) fun x4_117 =>
      r35 (M113, x3_114, x4_117)
    ) else (
      nm (x4 + (1 : Int32)) fun x4_117 =>
      r35 (M, x3, x4_117)
    )
  ) else (
    if x5 = true then (
      nm (x6 + (1 : Int32)) fun x6_95 =>
      r57 (true, x6_95)
    ) else (
      chk (ixb ((6 : Int32) + x6) 57) <|
      if (M 146 ((6 : Int32) + x6).toNatClampNeg) = x4 then (
        nm (x6 + (1 : Int32)) fun x6_95 =>
        r57 (true, x6_95)
      ) else (
        nm (x6 + (1 : Int32)) fun x6_95 =>
        r57 (false, x6_95)
      )
    )
  )
def f_X9_order_223 (r130 : (Mem × Int32 × Bool) → Option (Int32 × Mem)) (M : Mem) (x1 : Int32) (x2 : Int32) (x4 : Int32) (x6 : Int32) : Option (Int32 × Mem) :=
  if x6 ≤ x4 then (
    (f_X9_nextOrder M x2).bind fun q241 =>
    r130 (q241.2, x4, q241.1)
  ) else (
    (f_X9_nextOrder M x2).bind fun q241 =>
    r130 (q241.2, x6, q241.1)
  )
def f_X9_order_190 (r130 : (Mem × Int32 × Bool) → Option (Int32 × Mem)) (x1 : Int32) (x2 : Int32) (x4 : Int32) (x6 : Int32) (r190 : (Mem × Int32) → Option (Int32 × Mem)) (M : Mem) (x7 : Int32) : Option (Int32 × Mem) :=
  if x2 ≤ x7 then (
    f_X9_order_223 r130 M x1 x2 x4 x6
  ) else (
    if x6 ≤ x4 then (
      f_X9_order_223 r130 M x1 x2 x4 x6
    ) else (
      chk (ixb x7 5) <|
      nm (st M 153 x7.toNatClampNeg (M 152 x7.toNatClampNeg)) fun M216 =>
      nm (x7 + (1 : Int32)) fun x7_217 =>
      r190 (M216, x7_217)
    )
  )
def f_X9_order_142 (r130 : (Mem × Int32 × Bool) → Option (Int32 × Mem)) (x1 : Int32) (x2 : Int32) (x4 : Int32) (r142 : (Mem × Int32) → Option (Int32 × Mem)) (M : Mem) (x6 : Int32) : Option (Int32 × Mem) :=
  if x2 ≤ x6 then (
    (f_X9_ends M).bind fun q179 =>
    (f_X9_ones q179.1).bind fun q182 =>
    iter (fun rec a => f_X9_order_190 r130 x1 x2 x4 q182 rec a.1 a.2) fuel (q179.2, (0 : Int32))
  ) else (
    chk (ixb x6 5) <|
    chk (ixb (((6 : Int32) + (M 146 3)) + x6) 57) <|
    nm (st M 148 ((((6 : Int32) + (M 146 3)) + x6).toNatClampNeg) (M 152 x6.toNatClampNeg)) fun M171 =>
    nm (x6 + (1 : Int32)) fun x6_172 =>
    r142 (M171, x6_172)
  )
def f_X9_order_130 (x1 : Int32) (x2 : Int32) (r130 : (Mem × Int32 × Bool) → Option (Int32 × Mem)) (M : Mem) (x4 : Int32) (x5 : Bool) : Option (Int32 × Mem) :=
  if x5 = true then (
    (f_X9_tries M).bind fun q136 =>
    iter (fun rec a => f_X9_order_142 r130 x1 x2 x4 rec a.1 a.2) fuel (q136, (0 : Int32))
  ) else (
    if x1 = (-1 : Int32) then (
      some (x4, M)
    ) else (
      if x2 ≤ x1 then (
        some ((-1000000 : Int32), M)
      ) else (
        chk (ixb x1 5) <|
        some ((M 153 x1.toNatClampNeg), M)
      )
    )
  )
def f_X9_order_35 (x1 : Int32) (x2 : Int32) (r35 : (Mem × Int32 × Int32) → Option (Int32 × Mem)) (M : Mem) (x3 : Int32) (x4 : Int32) : Option (Int32 × Mem) :=
  if (M 146 2) ≤ x4 then (
    iter (fun rec a => f_X9_order_130 x1 x2 rec a.1 a.2.1 a.2.2) fuel (M, (-1000000 : Int32), true)
  ) else (
    nm ((M 146 3)) fun x6_55 =>
    iter (fun rec a => f_X9_order_57 r35 M x1 x2 x3 x4 rec a.1 a.2) fuel (false, x6_55)
  )
def f_X9_order (M : Mem) (x1 : Int32) : Option (Int32 × Mem) :=
  if (f_X9_isFlight M) = true then (
    if (f_X9_in x1 (-1 : Int32) (4 : Int32)) = true then (
      nm ((f_X9_left M 146)) fun x2_29 =>
      iter (fun rec a => f_X9_order_35 x1 x2_29 rec a.1 a.2.1 a.2.2) fuel (M, (0 : Int32), (0 : Int32))
    ) else (
      some ((-1000001 : Int32), M)
    )
  ) else (
    some ((-1000002 : Int32), M)
  )
theorem e_X9_order : yX9_order.cls = RX9 ∧ yX9_order.cls ≠ "java/lang/invoke/MethodHandle" ∧ yX9_order.cls ≠ "java/lang/invoke/VarHandle" ∧ (parseMethodDescriptor yX9_order.desc).map (fun d => d.parameters.length) = some 1 := by decide +kernel
set_option maxHeartbeats 4000000 in
set_option maxRecDepth 100000 in
theorem c_X9_order (l : Launch) (D : va_G) (cs : Nat → ClassId) (ad : Nat → Nat) (M : Mem) (x1 : Int32) {z : Int32 × Mem} (h : f_X9_order M x1 = some z) : CtI l yX9_order cX9_order 8 .int 5 D cs ad [.ref (ad 140), .int x1] M z.1 z.2 := by
  refine ct_i (own := RX9) (by decide) rfl (Nat.le_of_ble_eq_true rfl) ?_
  intro p e s m args below meth c Q C hr
  have hx := C.1
  have hb := C.2.1
  have hown := C.2.2.2.1
  have hts := C.2.2.2.2.1
  have J_57 : ∀ (M : Mem) (x1 : Int32) (x2 : Int32) (x3 : Int32) (x4 : Int32) (r35 : (Mem × Int32 × Int32) → Option (Int32 × Mem)) (hr35 : ∀ a, r35 a = some z → GP p l e (rmk 5) s m args below meth c 0 0 Q D cs ad 8 35 [(0, .ref (ad 140)), (1, .int x1), (2, .int x2), (3, .int a.2.1), (4, .int a.2.2)] [] a.1) (n : Nat) (a : Bool × Int32), iter (fun rec a => f_X9_order_57 r35 M x1 x2 x3 x4 rec a.1 a.2) n a = some z → GP p l e (rmk 5) s m args below meth c 0 0 Q D cs ad 8 57 [(0, .ref (ad 140)), (1, .int x1), (2, .int x2), (3, .int x3), (4, .int x4), (5, .int (bi a.1)), (6, .int a.2)] [] M := by
    intro M x1 x2 x3 x4 r35 hr35
    refine iter_ind (fun r57 hr57 a h => ?_)
    obtain ⟨x5, x6⟩ := a
    have h : f_X9_order_57 r35 M x1 x2 x3 x4 r57 x5 x6 = some z := h
    intro H locs hG ls hl
    have hG : GH D cs ad s M H locs := hG
    have hl : lv_has ls 8 [(0, .ref (ad 140)), (1, .int x1), (2, .int x2), (3, .int x3), (4, .int x4), (5, .int (bi x5)), (6, .int x6)] := hl
    unfold f_X9_order_57 at h
    refine lv_iload hx hb dX9_order_57 (lv_at hl 6 rfl) ?_
    refine lv_aload_n hx hb dX9_order_59 rfl (lv_at hl 0 rfl) ?_
    refine gf_X9_now C hG gk_140 wf_X9_25 dX9_order_60 ?_
    refine lv_iconst (v := 2) hx hb dX9_order_63 (by decide) ?_
    refine g_al (j := 2) C hG gk_146 gl_146 (ixl rfl) (by decide) dX9_order_64 ?_
    refine lv_icmp_ge (tgt := 101) hx hb dX9_order_65 (by decide) (fun c_65 => ?_) (fun c_65 => ?_)
    · have h := if_t c_65 h
      refine lv_iload hx hb dX9_order_101 (lv_at hl 5 rfl) ?_
      refine lv_if_eq (tgt := 117) hx hb dX9_order_103 (by decide) (fun c_103 => ?_) (fun c_103 => ?_)
      · have h := if_f (bi_f c_103) h
        obtain ⟨x4_117, e4_117⟩ : ∃ y : Int32, y = x4 + (1 : Int32) := ⟨_, rfl⟩
        have h := nm_at e4_117 h
        refine lv_iinc (v := x4_117) (lv' := [(4, .int x4_117), (0, .ref (ad 140)), (1, .int x1), (2, .int x2), (3, .int x3), (5, .int (bi x5)), (6, .int x6)]) hx hb dX9_order_117 hl (k := 4) rfl (by rw [e4_117]; rfl) (by decide) rfl (fun ls hl => ?_)
        refine lv_goto (tgt := 35) hx hb dX9_order_120 (by decide) ?_
        exact hr35 (M, x3, x4_117) h H locs hG ls (lv_sub hl [1, 2, 3, 4, 0] rfl)
      · have h := if_t (bi_t c_103) h
        refine lv_aload_n hx hb dX9_order_106 rfl (lv_at hl 0 rfl) ?_
        refine gf_X9_order C hG gk_140 wf_X9_44 dX9_order_107 ?_
        refine lv_iload_n hx hb dX9_order_110 rfl (lv_at hl 3 rfl) ?_
        refine lv_iload hx hb dX9_order_111 (lv_at hl 4 rfl) ?_
        obtain ⟨hi_113, h⟩ := ix_e h
        refine g_as C hG gk_152 gl_152 hi_113 rfl dX9_order_113 (fun M113 e_113 H locs hG => ?_)
        have h := nm_at e_113 h
        obtain ⟨x3_114, e3_114⟩ : ∃ y : Int32, y = x3 + (1 : Int32) := ⟨_, rfl⟩
        have h := nm_at e3_114 h
        refine lv_iinc (v := x3_114) (lv' := [(3, .int x3_114), (0, .ref (ad 140)), (1, .int x1), (2, .int x2), (4, .int x4), (5, .int (bi x5)), (6, .int x6)]) hx hb dX9_order_114 hl (k := 3) rfl (by rw [e3_114]; rfl) (by decide) rfl (fun ls hl => ?_)
        obtain ⟨x4_117, e4_117⟩ : ∃ y : Int32, y = x4 + (1 : Int32) := ⟨_, rfl⟩
        have h := nm_at e4_117 h
        refine lv_iinc (v := x4_117) (lv' := [(4, .int x4_117), (3, .int x3_114), (0, .ref (ad 140)), (1, .int x1), (2, .int x2), (5, .int (bi x5)), (6, .int x6)]) hx hb dX9_order_117 hl (k := 4) rfl (by rw [e4_117]; rfl) (by decide) rfl (fun ls hl => ?_)
        refine lv_goto (tgt := 35) hx hb dX9_order_120 (by decide) ?_
        exact hr35 (M113, x3_114, x4_117) h H locs hG ls (lv_sub hl [2, 3, 4, 1, 0] rfl)
    · have h := if_f c_65 h
      refine lv_iload hx hb dX9_order_68 (lv_at hl 5 rfl) ?_
      refine lv_if_ne (tgt := 88) hx hb dX9_order_70 (by decide) (fun c_70 => ?_) (fun c_70 => ?_)
      · have h := if_t (bi_t c_70) h
        refine lv_iconst (v := 1) hx hb dX9_order_88 (by decide) ?_
        refine lv_goto (tgt := 93) hx hb dX9_order_89 (by decide) ?_
        refine lv_istore (lv' := [(5, .int 1), (0, .ref (ad 140)), (1, .int x1), (2, .int x2), (3, .int x3), (4, .int x4), (6, .int x6)]) hx hb dX9_order_93 hl (by decide) rfl (fun ls hl => ?_)
        obtain ⟨x6_95, e6_95⟩ : ∃ y : Int32, y = x6 + (1 : Int32) := ⟨_, rfl⟩
        have h := nm_at e6_95 h
        refine lv_iinc (v := x6_95) (lv' := [(6, .int x6_95), (5, .int 1), (0, .ref (ad 140)), (1, .int x1), (2, .int x2), (3, .int x3), (4, .int x4)]) hx hb dX9_order_95 hl (k := 6) rfl (by rw [e6_95]; rfl) (by decide) rfl (fun ls hl => ?_)
        refine lv_goto (tgt := 57) hx hb dX9_order_98 (by decide) ?_
        exact hr57 (true, x6_95) h H locs hG ls (lv_sub hl [2, 3, 4, 5, 6, 1, 0] rfl)
      · have h := if_f (bi_f c_70) h
        refine lv_aload_n hx hb dX9_order_73 rfl (lv_at hl 0 rfl) ?_
        refine gf_X9_now C hG gk_140 wf_X9_25 dX9_order_74 ?_
        refine lv_bipush (v := 6) hx hb dX9_order_77 (by decide) ?_
        refine lv_iload hx hb dX9_order_79 (lv_at hl 6 rfl) ?_
        refine lv_iadd hx hb dX9_order_81 ?_
        obtain ⟨hi_82, h⟩ := ix_e h
        refine g_al C hG gk_146 gl_146 hi_82 rfl dX9_order_82 ?_
        refine lv_iload hx hb dX9_order_83 (lv_at hl 4 rfl) ?_
        refine lv_icmp_ne (tgt := 92) hx hb dX9_order_85 (by decide) (fun c_85 => ?_) (fun c_85 => ?_)
        · have h := if_f c_85 h
          refine lv_iconst (v := 0) hx hb dX9_order_92 (by decide) ?_
          refine lv_istore (lv' := [(5, .int 0), (0, .ref (ad 140)), (1, .int x1), (2, .int x2), (3, .int x3), (4, .int x4), (6, .int x6)]) hx hb dX9_order_93 hl (by decide) rfl (fun ls hl => ?_)
          obtain ⟨x6_95, e6_95⟩ : ∃ y : Int32, y = x6 + (1 : Int32) := ⟨_, rfl⟩
          have h := nm_at e6_95 h
          refine lv_iinc (v := x6_95) (lv' := [(6, .int x6_95), (5, .int 0), (0, .ref (ad 140)), (1, .int x1), (2, .int x2), (3, .int x3), (4, .int x4)]) hx hb dX9_order_95 hl (k := 6) rfl (by rw [e6_95]; rfl) (by decide) rfl (fun ls hl => ?_)
          refine lv_goto (tgt := 57) hx hb dX9_order_98 (by decide) ?_
          exact hr57 (false, x6_95) h H locs hG ls (lv_sub hl [2, 3, 4, 5, 6, 1, 0] rfl)
        · have h := if_t c_85 h
          refine lv_iconst (v := 1) hx hb dX9_order_88 (by decide) ?_
          refine lv_goto (tgt := 93) hx hb dX9_order_89 (by decide) ?_
          refine lv_istore (lv' := [(5, .int 1), (0, .ref (ad 140)), (1, .int x1), (2, .int x2), (3, .int x3), (4, .int x4), (6, .int x6)]) hx hb dX9_order_93 hl (by decide) rfl (fun ls hl => ?_)
          obtain ⟨x6_95, e6_95⟩ : ∃ y : Int32, y = x6 + (1 : Int32) := ⟨_, rfl⟩
          have h := nm_at e6_95 h
          refine lv_iinc (v := x6_95) (lv' := [(6, .int x6_95), (5, .int 1), (0, .ref (ad 140)), (1, .int x1), (2, .int x2), (3, .int x3), (4, .int x4)]) hx hb dX9_order_95 hl (k := 6) rfl (by rw [e6_95]; rfl) (by decide) rfl (fun ls hl => ?_)
          refine lv_goto (tgt := 57) hx hb dX9_order_98 (by decide) ?_
          exact hr57 (true, x6_95) h H locs hG ls (lv_sub hl [2, 3, 4, 5, 6, 1, 0] rfl)
  have J_223 : ∀ (M : Mem) (x1 : Int32) (x2 : Int32) (x4 : Int32) (x6 : Int32) (r130 : (Mem × Int32 × Bool) → Option (Int32 × Mem)) (hr130 : ∀ a, r130 a = some z → GP p l e (rmk 5) s m args below meth c 0 0 Q D cs ad 8 130 [(0, .ref (ad 140)), (1, .int x1), (2, .int x2), (4, .int a.2.1), (5, .int (bi a.2.2))] [] a.1), f_X9_order_223 r130 M x1 x2 x4 x6 = some z → GP p l e (rmk 5) s m args below meth c 0 0 Q D cs ad 8 223 [(0, .ref (ad 140)), (1, .int x1), (2, .int x2), (4, .int x4), (6, .int x6)] [] M := by
    intro M x1 x2 x4 x6 r130 hr130 h H locs hG ls hl
    unfold f_X9_order_223 at h
    refine lv_iload hx hb dX9_order_223 (lv_at hl 4 rfl) ?_
    refine lv_iload hx hb dX9_order_225 (lv_at hl 3 rfl) ?_
    refine lv_icmp_le (tgt := 235) hx hb dX9_order_227 (by decide) (fun c_227 => ?_) (fun c_227 => ?_)
    · have h := if_t c_227 h
      refine lv_iload hx hb dX9_order_235 (lv_at hl 3 rfl) ?_
      refine lv_istore (lv' := [(4, .int x4), (0, .ref (ad 140)), (1, .int x1), (2, .int x2), (6, .int x6)]) hx hb dX9_order_237 hl (by decide) rfl (fun ls hl => ?_)
      refine lv_aload_n hx hb dX9_order_239 rfl (lv_at hl 1 rfl) ?_
      refine lv_iload_n hx hb dX9_order_240 rfl (lv_at hl 3 rfl) ?_
      obtain ⟨q241, e_241, h⟩ := bd_e h
      refine g_ci hG (g_runV C hG (gR_9 gk_140) (c_X9_nextOrder l D cs ad M x2 e_241) wm_X9_203 wi_X9_nextOrder ws_X9_nextOrder wz_X9 wc_X9_nextOrder e_X9_nextOrder (by decide) hl.1 (Nat.le_of_ble_eq_true rfl) dX9_order_241) (fun H locs hG => ?_)
      refine lv_istore (lv' := [(5, .int (bi q241.1)), (4, .int x4), (0, .ref (ad 140)), (1, .int x1), (2, .int x2), (6, .int x6)]) hx hb dX9_order_244 hl (by decide) rfl (fun ls hl => ?_)
      refine lv_goto (tgt := 130) hx hb dX9_order_246 (by decide) ?_
      exact hr130 (q241.2, x4, q241.1) h H locs hG ls (lv_sub hl [2, 3, 4, 1, 0] rfl)
    · have h := if_f c_227 h
      refine lv_iload hx hb dX9_order_230 (lv_at hl 4 rfl) ?_
      refine lv_goto (tgt := 237) hx hb dX9_order_232 (by decide) ?_
      refine lv_istore (lv' := [(4, .int x6), (0, .ref (ad 140)), (1, .int x1), (2, .int x2), (6, .int x6)]) hx hb dX9_order_237 hl (by decide) rfl (fun ls hl => ?_)
      refine lv_aload_n hx hb dX9_order_239 rfl (lv_at hl 1 rfl) ?_
      refine lv_iload_n hx hb dX9_order_240 rfl (lv_at hl 3 rfl) ?_
      obtain ⟨q241, e_241, h⟩ := bd_e h
      refine g_ci hG (g_runV C hG (gR_9 gk_140) (c_X9_nextOrder l D cs ad M x2 e_241) wm_X9_203 wi_X9_nextOrder ws_X9_nextOrder wz_X9 wc_X9_nextOrder e_X9_nextOrder (by decide) hl.1 (Nat.le_of_ble_eq_true rfl) dX9_order_241) (fun H locs hG => ?_)
      refine lv_istore (lv' := [(5, .int (bi q241.1)), (4, .int x6), (0, .ref (ad 140)), (1, .int x1), (2, .int x2), (6, .int x6)]) hx hb dX9_order_244 hl (by decide) rfl (fun ls hl => ?_)
      refine lv_goto (tgt := 130) hx hb dX9_order_246 (by decide) ?_
      exact hr130 (q241.2, x6, q241.1) h H locs hG ls (lv_sub hl [2, 3, 4, 1, 0] rfl)
  have J_190 : ∀ (x1 : Int32) (x2 : Int32) (x4 : Int32) (x6 : Int32) (r130 : (Mem × Int32 × Bool) → Option (Int32 × Mem)) (hr130 : ∀ a, r130 a = some z → GP p l e (rmk 5) s m args below meth c 0 0 Q D cs ad 8 130 [(0, .ref (ad 140)), (1, .int x1), (2, .int x2), (4, .int a.2.1), (5, .int (bi a.2.2))] [] a.1) (n : Nat) (a : Mem × Int32), iter (fun rec a => f_X9_order_190 r130 x1 x2 x4 x6 rec a.1 a.2) n a = some z → GP p l e (rmk 5) s m args below meth c 0 0 Q D cs ad 8 190 [(0, .ref (ad 140)), (1, .int x1), (2, .int x2), (4, .int x4), (6, .int x6), (7, .int a.2)] [] a.1 := by
    intro x1 x2 x4 x6 r130 hr130
    refine iter_ind (fun r190 hr190 a h => ?_)
    obtain ⟨M, x7⟩ := a
    have h : f_X9_order_190 r130 x1 x2 x4 x6 r190 M x7 = some z := h
    intro H locs hG ls hl
    have hG : GH D cs ad s M H locs := hG
    have hl : lv_has ls 8 [(0, .ref (ad 140)), (1, .int x1), (2, .int x2), (4, .int x4), (6, .int x6), (7, .int x7)] := hl
    unfold f_X9_order_190 at h
    refine lv_iload hx hb dX9_order_190 (lv_at hl 5 rfl) ?_
    refine lv_iload_n hx hb dX9_order_192 rfl (lv_at hl 2 rfl) ?_
    refine lv_icmp_ge (tgt := 223) hx hb dX9_order_193 (by decide) (fun c_193 => ?_) (fun c_193 => ?_)
    · have h := if_t c_193 h
      exact J_223 M x1 x2 x4 x6 r130 hr130 h H locs hG ls (lv_sub hl [0, 1, 2, 3, 4] rfl)
    · have h := if_f c_193 h
      refine lv_iload hx hb dX9_order_196 (lv_at hl 4 rfl) ?_
      refine lv_iload hx hb dX9_order_198 (lv_at hl 3 rfl) ?_
      refine lv_icmp_le (tgt := 223) hx hb dX9_order_200 (by decide) (fun c_200 => ?_) (fun c_200 => ?_)
      · have h := if_t c_200 h
        exact J_223 M x1 x2 x4 x6 r130 hr130 h H locs hG ls (lv_sub hl [0, 1, 2, 3, 4] rfl)
      · have h := if_f c_200 h
        refine lv_aload_n hx hb dX9_order_203 rfl (lv_at hl 0 rfl) ?_
        refine gf_X9_best C hG gk_140 wf_X9_47 dX9_order_204 ?_
        refine lv_iload hx hb dX9_order_207 (lv_at hl 5 rfl) ?_
        refine lv_aload_n hx hb dX9_order_209 rfl (lv_at hl 0 rfl) ?_
        refine gf_X9_order C hG gk_140 wf_X9_44 dX9_order_210 ?_
        refine lv_iload hx hb dX9_order_213 (lv_at hl 5 rfl) ?_
        obtain ⟨hi_215, h⟩ := ix_e h
        refine g_al C hG gk_152 gl_152 hi_215 rfl dX9_order_215 ?_
        refine g_as C hG gk_153 gl_153 hi_215 rfl dX9_order_216 (fun M216 e_216 H locs hG => ?_)
        have h := nm_at e_216 h
        obtain ⟨x7_217, e7_217⟩ : ∃ y : Int32, y = x7 + (1 : Int32) := ⟨_, rfl⟩
        have h := nm_at e7_217 h
        refine lv_iinc (v := x7_217) (lv' := [(7, .int x7_217), (0, .ref (ad 140)), (1, .int x1), (2, .int x2), (4, .int x4), (6, .int x6)]) hx hb dX9_order_217 hl (k := 5) rfl (by rw [e7_217]; rfl) (by decide) rfl (fun ls hl => ?_)
        refine lv_goto (tgt := 190) hx hb dX9_order_220 (by decide) ?_
        exact hr190 (M216, x7_217) h H locs hG ls (lv_sub hl [1, 2, 3, 4, 5, 0] rfl)
  have J_142 : ∀ (x1 : Int32) (x2 : Int32) (x4 : Int32) (r130 : (Mem × Int32 × Bool) → Option (Int32 × Mem)) (hr130 : ∀ a, r130 a = some z → GP p l e (rmk 5) s m args below meth c 0 0 Q D cs ad 8 130 [(0, .ref (ad 140)), (1, .int x1), (2, .int x2), (4, .int a.2.1), (5, .int (bi a.2.2))] [] a.1) (n : Nat) (a : Mem × Int32), iter (fun rec a => f_X9_order_142 r130 x1 x2 x4 rec a.1 a.2) n a = some z → GP p l e (rmk 5) s m args below meth c 0 0 Q D cs ad 8 142 [(0, .ref (ad 140)), (1, .int x1), (2, .int x2), (4, .int x4), (6, .int a.2)] [] a.1 := by
    intro x1 x2 x4 r130 hr130
    refine iter_ind (fun r142 hr142 a h => ?_)
    obtain ⟨M, x6⟩ := a
    have h : f_X9_order_142 r130 x1 x2 x4 r142 M x6 = some z := h
    intro H locs hG ls hl
    have hG : GH D cs ad s M H locs := hG
    have hl : lv_has ls 8 [(0, .ref (ad 140)), (1, .int x1), (2, .int x2), (4, .int x4), (6, .int x6)] := hl
    unfold f_X9_order_142 at h
    refine lv_iload hx hb dX9_order_142 (lv_at hl 4 rfl) ?_
    refine lv_iload_n hx hb dX9_order_144 rfl (lv_at hl 2 rfl) ?_
    refine lv_icmp_ge (tgt := 178) hx hb dX9_order_145 (by decide) (fun c_145 => ?_) (fun c_145 => ?_)
    · have h := if_t c_145 h
      refine lv_aload_n hx hb dX9_order_178 rfl (lv_at hl 0 rfl) ?_
      obtain ⟨q179, e_179, h⟩ := bd_e h
      refine g_ci hG (g_runV C hG (gR_9 gk_140) (c_X9_ends l D cs ad M e_179) wm_X9_199 wi_X9_ends ws_X9_ends wz_X9 wc_X9_ends e_X9_ends (by decide) hl.1 (Nat.le_of_ble_eq_true rfl) dX9_order_179) (fun H locs hG => ?_)
      obtain ⟨q182, e_182, h⟩ := bd_e h
      refine g_ci hG (g_runS C hG (c_X9_ones l D cs ad q179.2 q179.1 e_182) wm_X9_152 wt_X9_ones wz_X9 wc_X9_ones e_X9_ones (by decide) hl.1 (Nat.le_of_ble_eq_true rfl) dX9_order_182) (fun H locs hG => ?_)
      refine lv_istore (lv' := [(6, .int q182), (0, .ref (ad 140)), (1, .int x1), (2, .int x2), (4, .int x4)]) hx hb dX9_order_185 hl (by decide) rfl (fun ls hl => ?_)
      refine lv_iconst (v := 0) hx hb dX9_order_187 (by decide) ?_
      refine lv_istore (lv' := [(7, .int 0), (6, .int q182), (0, .ref (ad 140)), (1, .int x1), (2, .int x2), (4, .int x4)]) hx hb dX9_order_188 hl (by decide) rfl (fun ls hl => ?_)
      exact J_190 x1 x2 x4 q182 r130 hr130 _ (q179.2, (0 : Int32)) h H locs hG ls (lv_sub hl [2, 3, 4, 5, 1, 0] rfl)
    · have h := if_f c_145 h
      refine lv_aload_n hx hb dX9_order_148 rfl (lv_at hl 0 rfl) ?_
      refine gf_X9_tried C hG gk_140 wf_X9_31 dX9_order_149 ?_
      refine lv_bipush (v := 6) hx hb dX9_order_152 (by decide) ?_
      refine lv_aload_n hx hb dX9_order_154 rfl (lv_at hl 0 rfl) ?_
      refine gf_X9_now C hG gk_140 wf_X9_25 dX9_order_155 ?_
      refine lv_iconst (v := 3) hx hb dX9_order_158 (by decide) ?_
      refine g_al (j := 3) C hG gk_146 gl_146 (ixl rfl) (by decide) dX9_order_159 ?_
      refine lv_iadd hx hb dX9_order_160 ?_
      refine lv_iload hx hb dX9_order_161 (lv_at hl 4 rfl) ?_
      refine lv_iadd hx hb dX9_order_163 ?_
      refine lv_aload_n hx hb dX9_order_164 rfl (lv_at hl 0 rfl) ?_
      refine gf_X9_order C hG gk_140 wf_X9_44 dX9_order_165 ?_
      refine lv_iload hx hb dX9_order_168 (lv_at hl 4 rfl) ?_
      obtain ⟨hi_170, h⟩ := ix_e h
      refine g_al C hG gk_152 gl_152 hi_170 rfl dX9_order_170 ?_
      obtain ⟨hi_171, h⟩ := ix_e h
      refine g_as C hG gk_148 gl_148 hi_171 rfl dX9_order_171 (fun M171 e_171 H locs hG => ?_)
      have h := nm_at e_171 h
      obtain ⟨x6_172, e6_172⟩ : ∃ y : Int32, y = x6 + (1 : Int32) := ⟨_, rfl⟩
      have h := nm_at e6_172 h
      refine lv_iinc (v := x6_172) (lv' := [(6, .int x6_172), (0, .ref (ad 140)), (1, .int x1), (2, .int x2), (4, .int x4)]) hx hb dX9_order_172 hl (k := 4) rfl (by rw [e6_172]; rfl) (by decide) rfl (fun ls hl => ?_)
      refine lv_goto (tgt := 142) hx hb dX9_order_175 (by decide) ?_
      exact hr142 (M171, x6_172) h H locs hG ls (lv_sub hl [1, 2, 3, 4, 0] rfl)
  have J_130 : ∀ (x1 : Int32) (x2 : Int32) (n : Nat) (a : Mem × Int32 × Bool), iter (fun rec a => f_X9_order_130 x1 x2 rec a.1 a.2.1 a.2.2) n a = some z → GP p l e (rmk 5) s m args below meth c 0 0 Q D cs ad 8 130 [(0, .ref (ad 140)), (1, .int x1), (2, .int x2), (4, .int a.2.1), (5, .int (bi a.2.2))] [] a.1 := by
    intro x1 x2
    refine iter_ind (fun r130 hr130 a h => ?_)
    obtain ⟨M, x4, x5⟩ := a
    have h : f_X9_order_130 x1 x2 r130 M x4 x5 = some z := h
    intro H locs hG ls hl
    have hG : GH D cs ad s M H locs := hG
    have hl : lv_has ls 8 [(0, .ref (ad 140)), (1, .int x1), (2, .int x2), (4, .int x4), (5, .int (bi x5))] := hl
    unfold f_X9_order_130 at h
    refine lv_iload hx hb dX9_order_130 (lv_at hl 4 rfl) ?_
    refine lv_if_eq (tgt := 249) hx hb dX9_order_132 (by decide) (fun c_132 => ?_) (fun c_132 => ?_)
    · have h := if_f (bi_f c_132) h
      refine lv_iload_n hx hb dX9_order_249 rfl (lv_at hl 1 rfl) ?_
      refine lv_iconst (v := -1) hx hb dX9_order_250 (by decide) ?_
      refine lv_icmp_ne (tgt := 259) hx hb dX9_order_251 (by decide) (fun c_251 => ?_) (fun c_251 => ?_)
      · have h := if_f c_251 h
        refine lv_iload_n hx hb dX9_order_259 rfl (lv_at hl 1 rfl) ?_
        refine lv_iload_n hx hb dX9_order_260 rfl (lv_at hl 2 rfl) ?_
        refine lv_icmp_ge (tgt := 273) hx hb dX9_order_261 (by decide) (fun c_261 => ?_) (fun c_261 => ?_)
        · have h := if_t c_261 h
          refine lv_ldc (v := -1000000) hx hb hown (hts _ wk_X9_53) dX9_order_273 ?_
          exact hr (pf1 (Option.some.inj h)) (pf2 (Option.some.inj h)) hG dX9_order_275
        · have h := if_f c_261 h
          refine lv_aload_n hx hb dX9_order_264 rfl (lv_at hl 0 rfl) ?_
          refine gf_X9_best C hG gk_140 wf_X9_47 dX9_order_265 ?_
          refine lv_iload_n hx hb dX9_order_268 rfl (lv_at hl 1 rfl) ?_
          obtain ⟨hi_269, h⟩ := ix_e h
          refine g_al C hG gk_153 gl_153 hi_269 rfl dX9_order_269 ?_
          refine lv_goto (tgt := 275) hx hb dX9_order_270 (by decide) ?_
          exact hr (pf1 (Option.some.inj h)) (pf2 (Option.some.inj h)) hG dX9_order_275
      · have h := if_t c_251 h
        refine lv_iload hx hb dX9_order_254 (lv_at hl 3 rfl) ?_
        refine lv_goto (tgt := 275) hx hb dX9_order_256 (by decide) ?_
        exact hr (pf1 (Option.some.inj h)) (pf2 (Option.some.inj h)) hG dX9_order_275
    · have h := if_t (bi_t c_132) h
      refine lv_aload_n hx hb dX9_order_135 rfl (lv_at hl 0 rfl) ?_
      obtain ⟨q136, e_136, h⟩ := bd_e h
      refine g_cv hG (g_runV C hG (gR_9 gk_140) (c_X9_tries l D cs ad M e_136) wm_X9_196 wi_X9_tries ws_X9_tries wz_X9 wc_X9_tries e_X9_tries (by decide) hl.1 (Nat.le_of_ble_eq_true rfl) dX9_order_136) (fun H locs hG => ?_)
      refine lv_iconst (v := 0) hx hb dX9_order_139 (by decide) ?_
      refine lv_istore (lv' := [(6, .int 0), (0, .ref (ad 140)), (1, .int x1), (2, .int x2), (4, .int x4), (5, .int (bi x5))]) hx hb dX9_order_140 hl (by decide) rfl (fun ls hl => ?_)
      exact J_142 x1 x2 x4 r130 hr130 _ (q136, (0 : Int32)) h H locs hG ls (lv_sub hl [1, 2, 3, 4, 0] rfl)
  have J_35 : ∀ (x1 : Int32) (x2 : Int32) (n : Nat) (a : Mem × Int32 × Int32), iter (fun rec a => f_X9_order_35 x1 x2 rec a.1 a.2.1 a.2.2) n a = some z → GP p l e (rmk 5) s m args below meth c 0 0 Q D cs ad 8 35 [(0, .ref (ad 140)), (1, .int x1), (2, .int x2), (3, .int a.2.1), (4, .int a.2.2)] [] a.1 := by
    intro x1 x2
    refine iter_ind (fun r35 hr35 a h => ?_)
    obtain ⟨M, x3, x4⟩ := a
    have h : f_X9_order_35 x1 x2 r35 M x3 x4 = some z := h
    intro H locs hG ls hl
    have hG : GH D cs ad s M H locs := hG
    have hl : lv_has ls 8 [(0, .ref (ad 140)), (1, .int x1), (2, .int x2), (3, .int x3), (4, .int x4)] := hl
    unfold f_X9_order_35 at h
    refine lv_iload hx hb dX9_order_35 (lv_at hl 4 rfl) ?_
    refine lv_aload_n hx hb dX9_order_37 rfl (lv_at hl 0 rfl) ?_
    refine gf_X9_now C hG gk_140 wf_X9_25 dX9_order_38 ?_
    refine lv_iconst (v := 2) hx hb dX9_order_41 (by decide) ?_
    refine g_al (j := 2) C hG gk_146 gl_146 (ixl rfl) (by decide) dX9_order_42 ?_
    refine lv_icmp_ge (tgt := 123) hx hb dX9_order_43 (by decide) (fun c_43 => ?_) (fun c_43 => ?_)
    · have h := if_t c_43 h
      refine lv_ldc (v := -1000000) hx hb hown (hts _ wk_X9_53) dX9_order_123 ?_
      refine lv_istore (lv' := [(4, .int (-1000000)), (0, .ref (ad 140)), (1, .int x1), (2, .int x2), (3, .int x3)]) hx hb dX9_order_125 hl (by decide) rfl (fun ls hl => ?_)
      refine lv_iconst (v := 1) hx hb dX9_order_127 (by decide) ?_
      refine lv_istore (lv' := [(5, .int 1), (4, .int (-1000000)), (0, .ref (ad 140)), (1, .int x1), (2, .int x2), (3, .int x3)]) hx hb dX9_order_128 hl (by decide) rfl (fun ls hl => ?_)
      exact J_130 x1 x2 _ (M, (-1000000 : Int32), true) h H locs hG ls (lv_sub hl [2, 3, 4, 1, 0] rfl)
    · have h := if_f c_43 h
      refine lv_iconst (v := 0) hx hb dX9_order_46 (by decide) ?_
      refine lv_istore (lv' := [(5, .int 0), (0, .ref (ad 140)), (1, .int x1), (2, .int x2), (3, .int x3), (4, .int x4)]) hx hb dX9_order_47 hl (by decide) rfl (fun ls hl => ?_)
      refine lv_aload_n hx hb dX9_order_49 rfl (lv_at hl 1 rfl) ?_
      refine gf_X9_now C hG gk_140 wf_X9_25 dX9_order_50 ?_
      refine lv_iconst (v := 3) hx hb dX9_order_53 (by decide) ?_
      refine g_al (j := 3) C hG gk_146 gl_146 (ixl rfl) (by decide) dX9_order_54 ?_
      refine lv_topi (fun x6_55 e6_55 => ?_)
      have h := nm_at e6_55 h
      refine lv_istore (lv' := [(6, .int x6_55), (5, .int 0), (0, .ref (ad 140)), (1, .int x1), (2, .int x2), (3, .int x3), (4, .int x4)]) hx hb dX9_order_55 hl (by decide) rfl (fun ls hl => ?_)
      exact J_57 M x1 x2 x3 x4 r35 hr35 _ (false, x6_55) h H locs hG ls (lv_sub hl [2, 3, 4, 5, 6, 1, 0] rfl)
  intro H locs hG ls hl
  have hl : lv_has ls 8 [(0, .ref (ad 140)), (1, .int x1)] := hl
  unfold f_X9_order at h
  refine lv_aload_n hx hb dX9_order_0 rfl (lv_at hl 0 rfl) ?_
  refine g_ci hG (g_runV C hG (gR_9 gk_140) (c_X9_isFlight l D cs ad M rfl) wm_X9_180 wi_X9_isFlight ws_X9_isFlight wz_X9 wc_X9_isFlight e_X9_isFlight (by decide) hl.1 (Nat.le_of_ble_eq_true rfl) dX9_order_1) (fun H locs hG => ?_)
  refine lv_if_ne (tgt := 10) hx hb dX9_order_4 (by decide) (fun c_4 => ?_) (fun c_4 => ?_)
  · have h := if_t (bi_t c_4) h
    refine lv_iload_n hx hb dX9_order_10 rfl (lv_at hl 1 rfl) ?_
    refine lv_iconst (v := -1) hx hb dX9_order_11 (by decide) ?_
    refine lv_iconst (v := 4) hx hb dX9_order_12 (by decide) ?_
    refine g_ci hG (g_runS C hG (c_X9_in l D cs ad M x1 (-1 : Int32) (4 : Int32) rfl) wm_X9_59 wt_X9_in wz_X9 wc_X9_in e_X9_in (by decide) hl.1 (Nat.le_of_ble_eq_true rfl) dX9_order_13) (fun H locs hG => ?_)
    refine lv_if_ne (tgt := 22) hx hb dX9_order_16 (by decide) (fun c_16 => ?_) (fun c_16 => ?_)
    · have h := if_t (bi_t c_16) h
      refine lv_aload_n hx hb dX9_order_22 rfl (lv_at hl 0 rfl) ?_
      refine gf_X9_now C hG gk_140 wf_X9_25 dX9_order_23 ?_
      refine g_ci hG (g_runS C hG (c_X9_left l D cs ad M gk_146 gl_146 rfl) wm_X9_170 wt_X9_left wz_X9 wc_X9_left e_X9_left (by decide) hl.1 (Nat.le_of_ble_eq_true rfl) dX9_order_26) (fun H locs hG => ?_)
      refine lv_topi (fun x2_29 e2_29 => ?_)
      have h := nm_at e2_29 h
      refine lv_istore_n (lv' := [(2, .int x2_29), (0, .ref (ad 140)), (1, .int x1)]) hx hb dX9_order_29 rfl hl (by decide) rfl (fun ls hl => ?_)
      refine lv_iconst (v := 0) hx hb dX9_order_30 (by decide) ?_
      refine lv_istore_n (lv' := [(3, .int 0), (2, .int x2_29), (0, .ref (ad 140)), (1, .int x1)]) hx hb dX9_order_31 rfl hl (by decide) rfl (fun ls hl => ?_)
      refine lv_iconst (v := 0) hx hb dX9_order_32 (by decide) ?_
      refine lv_istore (lv' := [(4, .int 0), (3, .int 0), (2, .int x2_29), (0, .ref (ad 140)), (1, .int x1)]) hx hb dX9_order_33 hl (by decide) rfl (fun ls hl => ?_)
      exact J_35 x1 x2_29 _ (M, (0 : Int32), (0 : Int32)) h H locs hG ls (lv_sub hl [3, 4, 2, 1, 0] rfl)
    · have h := if_f (bi_f c_16) h
      refine lv_ldc (v := -1000001) hx hb hown (hts _ wk_X9_67) dX9_order_19 ?_
      exact hr (pf1 (Option.some.inj h)) (pf2 (Option.some.inj h)) hG dX9_order_21
  · have h := if_f (bi_f c_4) h
    refine lv_ldc (v := -1000002) hx hb hown (hts _ wk_X9_183) dX9_order_7 ?_
    exact hr (pf1 (Option.some.inj h)) (pf2 (Option.some.inj h)) hG dX9_order_9
def f_X9_fewest_106 (r5 : (Mem × Int32 × Int32) → Option (Int32 × Mem)) (x1 : Int32) (x2 : Int32) (x3 : Int32) (r106 : (Mem × Int32) → Option (Int32 × Mem)) (M : Mem) (x5 : Int32) : Option (Int32 × Mem) :=
  if (M 146 5) ≤ x5 then (
    (f_X9_ends M).bind fun q167 =>
    (f_X9_ones q167.1).bind fun q170 =>
    if q170 < x1 then (
      nm (x3 + (1 : Int32)) fun x3_183 =>
      r5 (q167.2, x2, x3_183)
    ) else (
      nm (x3 + (1 : Int32)) fun x3_183 =>
      r5 (q167.2, x3, x3_183)
    )
  ) else (
    if (f_X9_has x3 x5) = true then (
      chk (ixb (((21 : Int32) + ((6 : Int32) * x5)) + (5 : Int32)) 57) <|
      nm (st M 148 ((((21 : Int32) + ((6 : Int32) * x5)) + (5 : Int32)).toNatClampNeg) (1 : Int32)) fun M159 =>
      nm (x5 + (1 : Int32)) fun x5_160 =>
      r106 (M159, x5_160)
    ) else (
      chk (ixb (((21 : Int32) + ((6 : Int32) * x5)) + (5 : Int32)) 57) <|
      nm (st M 148 ((((21 : Int32) + ((6 : Int32) * x5)) + (5 : Int32)).toNatClampNeg) (M 148 (((21 : Int32) + ((6 : Int32) * x5)) + (5 : Int32)).toNatClampNeg)) fun M159 =>
      nm (x5 + (1 : Int32)) fun x5_160 =>
      r106 (M159, x5_160)
    )
  )
def f_X9_fewest_44 (r5 : (Mem × Int32 × Int32) → Option (Int32 × Mem)) (M : Mem) (x1 : Int32) (x2 : Int32) (x3 : Int32) (r44 : (Bool × Int32) → Option (Int32 × Mem)) (x4 : Bool) (x5 : Int32) : Option (Int32 × Mem) :=
  if (M 146 5) ≤ x5 then (
    if x4 = true then (
      (f_X9_tries M).bind fun q100 =>
      iter (fun rec a => f_X9_fewest_106 r5 x1 x2 x3 rec a.1 a.2) fuel (q100, (0 : Int32))
    ) else (
      nm (x3 + (1 : Int32)) fun x3_183 =>
      r5 (M, x2, x3_183)
    )
  ) else (
    if x4 = true then (
      if (f_X9_has x3 x5) = true then (
        (f_X9_isLoose M 146 x5).bind fun q75 =>
        if q75 = true then (
          nm (x5 + (1 : Int32)) fun x5_88 =>
          r44 (true, x5_88)
        ) else (
          nm (x5 + (1 : Int32)) fun x5_88 =>
          r44 (false, x5_88)
        )
      ) else (
        nm (x5 + (1 : Int32)) fun x5_88 =>
        r44 (true, x5_88)
      )
    ) else (
      nm (x5 + (1 : Int32)) fun x5_88 =>
      r44 (false, x5_88)
    )
  )
def f_X9_fewest_5 (x1 : Int32) (r5 : (Mem × Int32 × Int32) → Option (Int32 × Mem)) (M : Mem) (x2 : Int32) (x3 : Int32) : Option (Int32 × Mem) :=
  if ((1 : Int32) <<< ((M 146 5) &&& 31)) ≤ x3 then (
    some (x2, M)
  ) else (
    if x2 = (-1000000 : Int32) then (
      iter (fun rec a => f_X9_fewest_44 r5 M x1 x2 x3 rec a.1 a.2) fuel (true, (0 : Int32))
    ) else (
      (f_X9_ones x3).bind fun q24 =>
      (f_X9_ones x2).bind fun q28 =>
      if q28 ≤ q24 then (
        iter (fun rec a => f_X9_fewest_44 r5 M x1 x2 x3 rec a.1 a.2) fuel (false, (0 : Int32))
      ) else (
        iter (fun rec a => f_X9_fewest_44 r5 M x1 x2 x3 rec a.1 a.2) fuel (true, (0 : Int32))
      )
    )
  )
def f_X9_fewest (M : Mem) (x1 : Int32) : Option (Int32 × Mem) :=
  iter (fun rec a => f_X9_fewest_5 x1 rec a.1 a.2.1 a.2.2) fuel (M, (-1000000 : Int32), (0 : Int32))
theorem e_X9_fewest : yX9_fewest.cls = RX9 ∧ yX9_fewest.cls ≠ "java/lang/invoke/MethodHandle" ∧ yX9_fewest.cls ≠ "java/lang/invoke/VarHandle" ∧ (parseMethodDescriptor yX9_fewest.desc).map (fun d => d.parameters.length) = some 1 := by decide +kernel
set_option maxHeartbeats 4000000 in
set_option maxRecDepth 100000 in
theorem c_X9_fewest (l : Launch) (D : va_G) (cs : Nat → ClassId) (ad : Nat → Nat) (M : Mem) (x1 : Int32) {z : Int32 × Mem} (h : f_X9_fewest M x1 = some z) : CtI l yX9_fewest cX9_fewest 6 .int 5 D cs ad [.ref (ad 140), .int x1] M z.1 z.2 := by
  refine ct_i (own := RX9) (by decide) rfl (Nat.le_of_ble_eq_true rfl) ?_
  intro p e s m args below meth c Q C hr
  have hx := C.1
  have hb := C.2.1
  have hown := C.2.2.2.1
  have hts := C.2.2.2.2.1
  have J_106 : ∀ (x1 : Int32) (x2 : Int32) (x3 : Int32) (r5 : (Mem × Int32 × Int32) → Option (Int32 × Mem)) (hr5 : ∀ a, r5 a = some z → GP p l e (rmk 5) s m args below meth c 0 0 Q D cs ad 6 5 [(0, .ref (ad 140)), (1, .int x1), (2, .int a.2.1), (3, .int a.2.2)] [] a.1) (n : Nat) (a : Mem × Int32), iter (fun rec a => f_X9_fewest_106 r5 x1 x2 x3 rec a.1 a.2) n a = some z → GP p l e (rmk 5) s m args below meth c 0 0 Q D cs ad 6 106 [(0, .ref (ad 140)), (1, .int x1), (2, .int x2), (3, .int x3), (5, .int a.2)] [] a.1 := by
    intro x1 x2 x3 r5 hr5
    refine iter_ind (fun r106 hr106 a h => ?_)
    obtain ⟨M, x5⟩ := a
    have h : f_X9_fewest_106 r5 x1 x2 x3 r106 M x5 = some z := h
    intro H locs hG ls hl
    have hG : GH D cs ad s M H locs := hG
    have hl : lv_has ls 6 [(0, .ref (ad 140)), (1, .int x1), (2, .int x2), (3, .int x3), (5, .int x5)] := hl
    unfold f_X9_fewest_106 at h
    refine lv_iload hx hb dX9_fewest_106 (lv_at hl 4 rfl) ?_
    refine lv_aload_n hx hb dX9_fewest_108 rfl (lv_at hl 0 rfl) ?_
    refine gf_X9_now C hG gk_140 wf_X9_25 dX9_fewest_109 ?_
    refine lv_iconst (v := 5) hx hb dX9_fewest_112 (by decide) ?_
    refine g_al (j := 5) C hG gk_146 gl_146 (ixl rfl) (by decide) dX9_fewest_113 ?_
    refine lv_icmp_ge (tgt := 166) hx hb dX9_fewest_114 (by decide) (fun c_114 => ?_) (fun c_114 => ?_)
    · have h := if_t c_114 h
      refine lv_aload_n hx hb dX9_fewest_166 rfl (lv_at hl 0 rfl) ?_
      obtain ⟨q167, e_167, h⟩ := bd_e h
      refine g_ci hG (g_runV C hG (gR_9 gk_140) (c_X9_ends l D cs ad M e_167) wm_X9_199 wi_X9_ends ws_X9_ends wz_X9 wc_X9_ends e_X9_ends (by decide) hl.1 (Nat.le_of_ble_eq_true rfl) dX9_fewest_167) (fun H locs hG => ?_)
      obtain ⟨q170, e_170, h⟩ := bd_e h
      refine g_ci hG (g_runS C hG (c_X9_ones l D cs ad q167.2 q167.1 e_170) wm_X9_152 wt_X9_ones wz_X9 wc_X9_ones e_X9_ones (by decide) hl.1 (Nat.le_of_ble_eq_true rfl) dX9_fewest_170) (fun H locs hG => ?_)
      refine lv_iload_n hx hb dX9_fewest_173 rfl (lv_at hl 1 rfl) ?_
      refine lv_icmp_lt (tgt := 181) hx hb dX9_fewest_174 (by decide) (fun c_174 => ?_) (fun c_174 => ?_)
      · have h := if_t c_174 h
        refine lv_iload_n hx hb dX9_fewest_181 rfl (lv_at hl 2 rfl) ?_
        refine lv_istore_n (lv' := [(2, .int x2), (0, .ref (ad 140)), (1, .int x1), (3, .int x3), (5, .int x5)]) hx hb dX9_fewest_182 rfl hl (by decide) rfl (fun ls hl => ?_)
        obtain ⟨x3_183, e3_183⟩ : ∃ y : Int32, y = x3 + (1 : Int32) := ⟨_, rfl⟩
        have h := nm_at e3_183 h
        refine lv_iinc (v := x3_183) (lv' := [(3, .int x3_183), (2, .int x2), (0, .ref (ad 140)), (1, .int x1), (5, .int x5)]) hx hb dX9_fewest_183 hl (k := 3) rfl (by rw [e3_183]; rfl) (by decide) rfl (fun ls hl => ?_)
        refine lv_goto (tgt := 5) hx hb dX9_fewest_186 (by decide) ?_
        exact hr5 (q167.2, x2, x3_183) h H locs hG ls (lv_sub hl [2, 3, 1, 0] rfl)
      · have h := if_f c_174 h
        refine lv_iload_n hx hb dX9_fewest_177 rfl (lv_at hl 3 rfl) ?_
        refine lv_goto (tgt := 182) hx hb dX9_fewest_178 (by decide) ?_
        refine lv_istore_n (lv' := [(2, .int x3), (0, .ref (ad 140)), (1, .int x1), (3, .int x3), (5, .int x5)]) hx hb dX9_fewest_182 rfl hl (by decide) rfl (fun ls hl => ?_)
        obtain ⟨x3_183, e3_183⟩ : ∃ y : Int32, y = x3 + (1 : Int32) := ⟨_, rfl⟩
        have h := nm_at e3_183 h
        refine lv_iinc (v := x3_183) (lv' := [(3, .int x3_183), (2, .int x3), (0, .ref (ad 140)), (1, .int x1), (5, .int x5)]) hx hb dX9_fewest_183 hl (k := 3) rfl (by rw [e3_183]; rfl) (by decide) rfl (fun ls hl => ?_)
        refine lv_goto (tgt := 5) hx hb dX9_fewest_186 (by decide) ?_
        exact hr5 (q167.2, x3, x3_183) h H locs hG ls (lv_sub hl [2, 3, 1, 0] rfl)
    · have h := if_f c_114 h
      refine lv_aload_n hx hb dX9_fewest_117 rfl (lv_at hl 0 rfl) ?_
      refine gf_X9_tried C hG gk_140 wf_X9_31 dX9_fewest_118 ?_
      refine lv_bipush (v := 21) hx hb dX9_fewest_121 (by decide) ?_
      refine lv_bipush (v := 6) hx hb dX9_fewest_123 (by decide) ?_
      refine lv_iload hx hb dX9_fewest_125 (lv_at hl 4 rfl) ?_
      refine lv_imul hx hb dX9_fewest_127 ?_
      refine lv_iadd hx hb dX9_fewest_128 ?_
      refine lv_iconst (v := 5) hx hb dX9_fewest_129 (by decide) ?_
      refine lv_iadd hx hb dX9_fewest_130 ?_
      refine lv_iload_n hx hb dX9_fewest_131 rfl (lv_at hl 3 rfl) ?_
      refine lv_iload hx hb dX9_fewest_132 (lv_at hl 4 rfl) ?_
      refine g_ci hG (g_runS C hG (c_X9_has l D cs ad M x3 x5 rfl) wm_X9_148 wt_X9_has wz_X9 wc_X9_has e_X9_has (by decide) hl.1 (Nat.le_of_ble_eq_true rfl) dX9_fewest_134) (fun H locs hG => ?_)
      refine lv_if_eq (tgt := 144) hx hb dX9_fewest_137 (by decide) (fun c_137 => ?_) (fun c_137 => ?_)
      · have h := if_f (bi_f c_137) h
        refine lv_aload_n hx hb dX9_fewest_144 rfl (lv_at hl 0 rfl) ?_
        refine gf_X9_tried C hG gk_140 wf_X9_31 dX9_fewest_145 ?_
        refine lv_bipush (v := 21) hx hb dX9_fewest_148 (by decide) ?_
        refine lv_bipush (v := 6) hx hb dX9_fewest_150 (by decide) ?_
        refine lv_iload hx hb dX9_fewest_152 (lv_at hl 4 rfl) ?_
        refine lv_imul hx hb dX9_fewest_154 ?_
        refine lv_iadd hx hb dX9_fewest_155 ?_
        refine lv_iconst (v := 5) hx hb dX9_fewest_156 (by decide) ?_
        refine lv_iadd hx hb dX9_fewest_157 ?_
        obtain ⟨hi_158, h⟩ := ix_e h
        refine g_al C hG gk_148 gl_148 hi_158 rfl dX9_fewest_158 ?_
        refine g_as C hG gk_148 gl_148 hi_158 rfl dX9_fewest_159 (fun M159 e_159 H locs hG => ?_)
        have h := nm_at e_159 h
        obtain ⟨x5_160, e5_160⟩ : ∃ y : Int32, y = x5 + (1 : Int32) := ⟨_, rfl⟩
        have h := nm_at e5_160 h
        refine lv_iinc (v := x5_160) (lv' := [(5, .int x5_160), (0, .ref (ad 140)), (1, .int x1), (2, .int x2), (3, .int x3)]) hx hb dX9_fewest_160 hl (k := 4) rfl (by rw [e5_160]; rfl) (by decide) rfl (fun ls hl => ?_)
        refine lv_goto (tgt := 106) hx hb dX9_fewest_163 (by decide) ?_
        exact hr106 (M159, x5_160) h H locs hG ls (lv_sub hl [1, 2, 3, 4, 0] rfl)
      · have h := if_t (bi_t c_137) h
        refine lv_iconst (v := 1) hx hb dX9_fewest_140 (by decide) ?_
        refine lv_goto (tgt := 159) hx hb dX9_fewest_141 (by decide) ?_
        obtain ⟨hi_159, h⟩ := ix_e h
        refine g_as C hG gk_148 gl_148 hi_159 rfl dX9_fewest_159 (fun M159 e_159 H locs hG => ?_)
        have h := nm_at e_159 h
        obtain ⟨x5_160, e5_160⟩ : ∃ y : Int32, y = x5 + (1 : Int32) := ⟨_, rfl⟩
        have h := nm_at e5_160 h
        refine lv_iinc (v := x5_160) (lv' := [(5, .int x5_160), (0, .ref (ad 140)), (1, .int x1), (2, .int x2), (3, .int x3)]) hx hb dX9_fewest_160 hl (k := 4) rfl (by rw [e5_160]; rfl) (by decide) rfl (fun ls hl => ?_)
        refine lv_goto (tgt := 106) hx hb dX9_fewest_163 (by decide) ?_
        exact hr106 (M159, x5_160) h H locs hG ls (lv_sub hl [1, 2, 3, 4, 0] rfl)
  have J_44 : ∀ (M : Mem) (x1 : Int32) (x2 : Int32) (x3 : Int32) (r5 : (Mem × Int32 × Int32) → Option (Int32 × Mem)) (hr5 : ∀ a, r5 a = some z → GP p l e (rmk 5) s m args below meth c 0 0 Q D cs ad 6 5 [(0, .ref (ad 140)), (1, .int x1), (2, .int a.2.1), (3, .int a.2.2)] [] a.1) (n : Nat) (a : Bool × Int32), iter (fun rec a => f_X9_fewest_44 r5 M x1 x2 x3 rec a.1 a.2) n a = some z → GP p l e (rmk 5) s m args below meth c 0 0 Q D cs ad 6 44 [(0, .ref (ad 140)), (1, .int x1), (2, .int x2), (3, .int x3), (4, .int (bi a.1)), (5, .int a.2)] [] M := by
    intro M x1 x2 x3 r5 hr5
    refine iter_ind (fun r44 hr44 a h => ?_)
    obtain ⟨x4, x5⟩ := a
    have h : f_X9_fewest_44 r5 M x1 x2 x3 r44 x4 x5 = some z := h
    intro H locs hG ls hl
    have hG : GH D cs ad s M H locs := hG
    have hl : lv_has ls 6 [(0, .ref (ad 140)), (1, .int x1), (2, .int x2), (3, .int x3), (4, .int (bi x4)), (5, .int x5)] := hl
    unfold f_X9_fewest_44 at h
    refine lv_iload hx hb dX9_fewest_44 (lv_at hl 5 rfl) ?_
    refine lv_aload_n hx hb dX9_fewest_46 rfl (lv_at hl 0 rfl) ?_
    refine gf_X9_now C hG gk_140 wf_X9_25 dX9_fewest_47 ?_
    refine lv_iconst (v := 5) hx hb dX9_fewest_50 (by decide) ?_
    refine g_al (j := 5) C hG gk_146 gl_146 (ixl rfl) (by decide) dX9_fewest_51 ?_
    refine lv_icmp_ge (tgt := 94) hx hb dX9_fewest_52 (by decide) (fun c_52 => ?_) (fun c_52 => ?_)
    · have h := if_t c_52 h
      refine lv_iload hx hb dX9_fewest_94 (lv_at hl 4 rfl) ?_
      refine lv_if_eq (tgt := 183) hx hb dX9_fewest_96 (by decide) (fun c_96 => ?_) (fun c_96 => ?_)
      · have h := if_f (bi_f c_96) h
        obtain ⟨x3_183, e3_183⟩ : ∃ y : Int32, y = x3 + (1 : Int32) := ⟨_, rfl⟩
        have h := nm_at e3_183 h
        refine lv_iinc (v := x3_183) (lv' := [(3, .int x3_183), (0, .ref (ad 140)), (1, .int x1), (2, .int x2), (4, .int (bi x4)), (5, .int x5)]) hx hb dX9_fewest_183 hl (k := 3) rfl (by rw [e3_183]; rfl) (by decide) rfl (fun ls hl => ?_)
        refine lv_goto (tgt := 5) hx hb dX9_fewest_186 (by decide) ?_
        exact hr5 (M, x2, x3_183) h H locs hG ls (lv_sub hl [1, 2, 3, 0] rfl)
      · have h := if_t (bi_t c_96) h
        refine lv_aload_n hx hb dX9_fewest_99 rfl (lv_at hl 0 rfl) ?_
        obtain ⟨q100, e_100, h⟩ := bd_e h
        refine g_cv hG (g_runV C hG (gR_9 gk_140) (c_X9_tries l D cs ad M e_100) wm_X9_196 wi_X9_tries ws_X9_tries wz_X9 wc_X9_tries e_X9_tries (by decide) hl.1 (Nat.le_of_ble_eq_true rfl) dX9_fewest_100) (fun H locs hG => ?_)
        refine lv_iconst (v := 0) hx hb dX9_fewest_103 (by decide) ?_
        refine lv_istore (lv' := [(5, .int 0), (0, .ref (ad 140)), (1, .int x1), (2, .int x2), (3, .int x3), (4, .int (bi x4))]) hx hb dX9_fewest_104 hl (by decide) rfl (fun ls hl => ?_)
        exact J_106 x1 x2 x3 r5 hr5 _ (q100, (0 : Int32)) h H locs hG ls (lv_sub hl [1, 2, 3, 4, 0] rfl)
    · have h := if_f c_52 h
      refine lv_iload hx hb dX9_fewest_55 (lv_at hl 4 rfl) ?_
      refine lv_if_eq (tgt := 85) hx hb dX9_fewest_57 (by decide) (fun c_57 => ?_) (fun c_57 => ?_)
      · have h := if_f (bi_f c_57) h
        refine lv_iconst (v := 0) hx hb dX9_fewest_85 (by decide) ?_
        refine lv_istore (lv' := [(4, .int 0), (0, .ref (ad 140)), (1, .int x1), (2, .int x2), (3, .int x3), (5, .int x5)]) hx hb dX9_fewest_86 hl (by decide) rfl (fun ls hl => ?_)
        obtain ⟨x5_88, e5_88⟩ : ∃ y : Int32, y = x5 + (1 : Int32) := ⟨_, rfl⟩
        have h := nm_at e5_88 h
        refine lv_iinc (v := x5_88) (lv' := [(5, .int x5_88), (4, .int 0), (0, .ref (ad 140)), (1, .int x1), (2, .int x2), (3, .int x3)]) hx hb dX9_fewest_88 hl (k := 5) rfl (by rw [e5_88]; rfl) (by decide) rfl (fun ls hl => ?_)
        refine lv_goto (tgt := 44) hx hb dX9_fewest_91 (by decide) ?_
        exact hr44 (false, x5_88) h H locs hG ls (lv_sub hl [2, 3, 4, 5, 1, 0] rfl)
      · have h := if_t (bi_t c_57) h
        refine lv_iload_n hx hb dX9_fewest_60 rfl (lv_at hl 3 rfl) ?_
        refine lv_iload hx hb dX9_fewest_61 (lv_at hl 5 rfl) ?_
        refine g_ci hG (g_runS C hG (c_X9_has l D cs ad M x3 x5 rfl) wm_X9_148 wt_X9_has wz_X9 wc_X9_has e_X9_has (by decide) hl.1 (Nat.le_of_ble_eq_true rfl) dX9_fewest_63) (fun H locs hG => ?_)
        refine lv_if_eq (tgt := 81) hx hb dX9_fewest_66 (by decide) (fun c_66 => ?_) (fun c_66 => ?_)
        · have h := if_f (bi_f c_66) h
          refine lv_iconst (v := 1) hx hb dX9_fewest_81 (by decide) ?_
          refine lv_goto (tgt := 86) hx hb dX9_fewest_82 (by decide) ?_
          refine lv_istore (lv' := [(4, .int 1), (0, .ref (ad 140)), (1, .int x1), (2, .int x2), (3, .int x3), (5, .int x5)]) hx hb dX9_fewest_86 hl (by decide) rfl (fun ls hl => ?_)
          obtain ⟨x5_88, e5_88⟩ : ∃ y : Int32, y = x5 + (1 : Int32) := ⟨_, rfl⟩
          have h := nm_at e5_88 h
          refine lv_iinc (v := x5_88) (lv' := [(5, .int x5_88), (4, .int 1), (0, .ref (ad 140)), (1, .int x1), (2, .int x2), (3, .int x3)]) hx hb dX9_fewest_88 hl (k := 5) rfl (by rw [e5_88]; rfl) (by decide) rfl (fun ls hl => ?_)
          refine lv_goto (tgt := 44) hx hb dX9_fewest_91 (by decide) ?_
          exact hr44 (true, x5_88) h H locs hG ls (lv_sub hl [2, 3, 4, 5, 1, 0] rfl)
        · have h := if_t (bi_t c_66) h
          refine lv_aload_n hx hb dX9_fewest_69 rfl (lv_at hl 0 rfl) ?_
          refine gf_X9_now C hG gk_140 wf_X9_25 dX9_fewest_70 ?_
          refine lv_iload hx hb dX9_fewest_73 (lv_at hl 5 rfl) ?_
          obtain ⟨q75, e_75, h⟩ := bd_e h
          refine g_ci hG (g_runS C hG (c_X9_isLoose l D cs ad M gk_146 gl_146 x5 e_75) wm_X9_155 wt_X9_isLoose wz_X9 wc_X9_isLoose e_X9_isLoose (by decide) hl.1 (Nat.le_of_ble_eq_true rfl) dX9_fewest_75) (fun H locs hG => ?_)
          refine lv_if_eq (tgt := 85) hx hb dX9_fewest_78 (by decide) (fun c_78 => ?_) (fun c_78 => ?_)
          · have h := if_f (bi_f c_78) h
            refine lv_iconst (v := 0) hx hb dX9_fewest_85 (by decide) ?_
            refine lv_istore (lv' := [(4, .int 0), (0, .ref (ad 140)), (1, .int x1), (2, .int x2), (3, .int x3), (5, .int x5)]) hx hb dX9_fewest_86 hl (by decide) rfl (fun ls hl => ?_)
            obtain ⟨x5_88, e5_88⟩ : ∃ y : Int32, y = x5 + (1 : Int32) := ⟨_, rfl⟩
            have h := nm_at e5_88 h
            refine lv_iinc (v := x5_88) (lv' := [(5, .int x5_88), (4, .int 0), (0, .ref (ad 140)), (1, .int x1), (2, .int x2), (3, .int x3)]) hx hb dX9_fewest_88 hl (k := 5) rfl (by rw [e5_88]; rfl) (by decide) rfl (fun ls hl => ?_)
            refine lv_goto (tgt := 44) hx hb dX9_fewest_91 (by decide) ?_
            exact hr44 (false, x5_88) h H locs hG ls (lv_sub hl [2, 3, 4, 5, 1, 0] rfl)
          · have h := if_t (bi_t c_78) h
            refine lv_iconst (v := 1) hx hb dX9_fewest_81 (by decide) ?_
            refine lv_goto (tgt := 86) hx hb dX9_fewest_82 (by decide) ?_
            refine lv_istore (lv' := [(4, .int 1), (0, .ref (ad 140)), (1, .int x1), (2, .int x2), (3, .int x3), (5, .int x5)]) hx hb dX9_fewest_86 hl (by decide) rfl (fun ls hl => ?_)
            obtain ⟨x5_88, e5_88⟩ : ∃ y : Int32, y = x5 + (1 : Int32) := ⟨_, rfl⟩
            have h := nm_at e5_88 h
            refine lv_iinc (v := x5_88) (lv' := [(5, .int x5_88), (4, .int 1), (0, .ref (ad 140)), (1, .int x1), (2, .int x2), (3, .int x3)]) hx hb dX9_fewest_88 hl (k := 5) rfl (by rw [e5_88]; rfl) (by decide) rfl (fun ls hl => ?_)
            refine lv_goto (tgt := 44) hx hb dX9_fewest_91 (by decide) ?_
            exact hr44 (true, x5_88) h H locs hG ls (lv_sub hl [2, 3, 4, 5, 1, 0] rfl)
  have J_5 : ∀ (x1 : Int32) (n : Nat) (a : Mem × Int32 × Int32), iter (fun rec a => f_X9_fewest_5 x1 rec a.1 a.2.1 a.2.2) n a = some z → GP p l e (rmk 5) s m args below meth c 0 0 Q D cs ad 6 5 [(0, .ref (ad 140)), (1, .int x1), (2, .int a.2.1), (3, .int a.2.2)] [] a.1 := by
    intro x1
    refine iter_ind (fun r5 hr5 a h => ?_)
    obtain ⟨M, x2, x3⟩ := a
    have h : f_X9_fewest_5 x1 r5 M x2 x3 = some z := h
    intro H locs hG ls hl
    have hG : GH D cs ad s M H locs := hG
    have hl : lv_has ls 6 [(0, .ref (ad 140)), (1, .int x1), (2, .int x2), (3, .int x3)] := hl
    unfold f_X9_fewest_5 at h
    refine lv_iload_n hx hb dX9_fewest_5 rfl (lv_at hl 3 rfl) ?_
    refine lv_iconst (v := 1) hx hb dX9_fewest_6 (by decide) ?_
    refine lv_aload_n hx hb dX9_fewest_7 rfl (lv_at hl 0 rfl) ?_
    refine gf_X9_now C hG gk_140 wf_X9_25 dX9_fewest_8 ?_
    refine lv_iconst (v := 5) hx hb dX9_fewest_11 (by decide) ?_
    refine g_al (j := 5) C hG gk_146 gl_146 (ixl rfl) (by decide) dX9_fewest_12 ?_
    refine lv_ishl hx hb dX9_fewest_13 ?_
    refine lv_icmp_ge (tgt := 189) hx hb dX9_fewest_14 (by decide) (fun c_14 => ?_) (fun c_14 => ?_)
    · have h := if_t c_14 h
      refine lv_iload_n hx hb dX9_fewest_189 rfl (lv_at hl 2 rfl) ?_
      exact hr (pf1 (Option.some.inj h)) (pf2 (Option.some.inj h)) hG dX9_fewest_190
    · have h := if_f c_14 h
      refine lv_iload_n hx hb dX9_fewest_17 rfl (lv_at hl 2 rfl) ?_
      refine lv_ldc (v := -1000000) hx hb hown (hts _ wk_X9_53) dX9_fewest_18 ?_
      refine lv_icmp_eq (tgt := 34) hx hb dX9_fewest_20 (by decide) (fun c_20 => ?_) (fun c_20 => ?_)
      · have h := if_t c_20 h
        refine lv_iconst (v := 1) hx hb dX9_fewest_34 (by decide) ?_
        refine lv_goto (tgt := 39) hx hb dX9_fewest_35 (by decide) ?_
        refine lv_istore (lv' := [(4, .int 1), (0, .ref (ad 140)), (1, .int x1), (2, .int x2), (3, .int x3)]) hx hb dX9_fewest_39 hl (by decide) rfl (fun ls hl => ?_)
        refine lv_iconst (v := 0) hx hb dX9_fewest_41 (by decide) ?_
        refine lv_istore (lv' := [(5, .int 0), (4, .int 1), (0, .ref (ad 140)), (1, .int x1), (2, .int x2), (3, .int x3)]) hx hb dX9_fewest_42 hl (by decide) rfl (fun ls hl => ?_)
        exact J_44 M x1 x2 x3 r5 hr5 _ (true, (0 : Int32)) h H locs hG ls (lv_sub hl [2, 3, 4, 5, 1, 0] rfl)
      · have h := if_f c_20 h
        refine lv_iload_n hx hb dX9_fewest_23 rfl (lv_at hl 3 rfl) ?_
        obtain ⟨q24, e_24, h⟩ := bd_e h
        refine g_ci hG (g_runS C hG (c_X9_ones l D cs ad M x3 e_24) wm_X9_152 wt_X9_ones wz_X9 wc_X9_ones e_X9_ones (by decide) hl.1 (Nat.le_of_ble_eq_true rfl) dX9_fewest_24) (fun H locs hG => ?_)
        refine lv_iload_n hx hb dX9_fewest_27 rfl (lv_at hl 2 rfl) ?_
        obtain ⟨q28, e_28, h⟩ := bd_e h
        refine g_ci hG (g_runS C hG (c_X9_ones l D cs ad M x2 e_28) wm_X9_152 wt_X9_ones wz_X9 wc_X9_ones e_X9_ones (by decide) hl.1 (Nat.le_of_ble_eq_true rfl) dX9_fewest_28) (fun H locs hG => ?_)
        refine lv_icmp_ge (tgt := 38) hx hb dX9_fewest_31 (by decide) (fun c_31 => ?_) (fun c_31 => ?_)
        · have h := if_t c_31 h
          refine lv_iconst (v := 0) hx hb dX9_fewest_38 (by decide) ?_
          refine lv_istore (lv' := [(4, .int 0), (0, .ref (ad 140)), (1, .int x1), (2, .int x2), (3, .int x3)]) hx hb dX9_fewest_39 hl (by decide) rfl (fun ls hl => ?_)
          refine lv_iconst (v := 0) hx hb dX9_fewest_41 (by decide) ?_
          refine lv_istore (lv' := [(5, .int 0), (4, .int 0), (0, .ref (ad 140)), (1, .int x1), (2, .int x2), (3, .int x3)]) hx hb dX9_fewest_42 hl (by decide) rfl (fun ls hl => ?_)
          exact J_44 M x1 x2 x3 r5 hr5 _ (false, (0 : Int32)) h H locs hG ls (lv_sub hl [2, 3, 4, 5, 1, 0] rfl)
        · have h := if_f c_31 h
          refine lv_iconst (v := 1) hx hb dX9_fewest_34 (by decide) ?_
          refine lv_goto (tgt := 39) hx hb dX9_fewest_35 (by decide) ?_
          refine lv_istore (lv' := [(4, .int 1), (0, .ref (ad 140)), (1, .int x1), (2, .int x2), (3, .int x3)]) hx hb dX9_fewest_39 hl (by decide) rfl (fun ls hl => ?_)
          refine lv_iconst (v := 0) hx hb dX9_fewest_41 (by decide) ?_
          refine lv_istore (lv' := [(5, .int 0), (4, .int 1), (0, .ref (ad 140)), (1, .int x1), (2, .int x2), (3, .int x3)]) hx hb dX9_fewest_42 hl (by decide) rfl (fun ls hl => ?_)
          exact J_44 M x1 x2 x3 r5 hr5 _ (true, (0 : Int32)) h H locs hG ls (lv_sub hl [2, 3, 4, 5, 1, 0] rfl)
  intro H locs hG ls hl
  have hl : lv_has ls 6 [(0, .ref (ad 140)), (1, .int x1)] := hl
  unfold f_X9_fewest at h
  refine lv_ldc (v := -1000000) hx hb hown (hts _ wk_X9_53) dX9_fewest_0 ?_
  refine lv_istore_n (lv' := [(2, .int (-1000000)), (0, .ref (ad 140)), (1, .int x1)]) hx hb dX9_fewest_2 rfl hl (by decide) rfl (fun ls hl => ?_)
  refine lv_iconst (v := 0) hx hb dX9_fewest_3 (by decide) ?_
  refine lv_istore_n (lv' := [(3, .int 0), (2, .int (-1000000)), (0, .ref (ad 140)), (1, .int x1)]) hx hb dX9_fewest_4 rfl hl (by decide) rfl (fun ls hl => ?_)
  exact J_5 x1 _ (M, (-1000000 : Int32), (0 : Int32)) h H locs hG ls (lv_sub hl [2, 3, 1, 0] rfl)
