def f_X5_begin_17 (i0 : Nat) (x2 : Int32) (r17 : (Mem × Int32) → Option Mem) (M : Mem) (x3 : Int32) : Option Mem :=
  if x2 ≤ x3 then (
    some M
  ) else (
    if (40 : Int32) ≤ x3 then (
      some M
    ) else (
      chk (ixb x3 40) <|
      nm (st M (i0 + 1) x3.toNatClampNeg (0 : Int32)) fun M34 =>
      nm (x3 + (1 : Int32)) fun x3_35 =>
      r17 (M34, x3_35)
    )
  )
def f_X5_begin (M : Mem) (i0 : Nat) (x1 : Int32) (x2 : Int32) : Option Mem :=
  nm (st M i0 0 (1 : Int32)) fun M2 =>
  nm (st M2 i0 1 x1) fun M7 =>
  nm (st M7 i0 2 x2) fun M12 =>
  iter (fun rec a => f_X5_begin_17 i0 x2 rec a.1 a.2) fuel (M12, (0 : Int32))
theorem e_X5_begin : yX5_begin.cls = RX5 ∧ yX5_begin.cls ≠ "java/lang/invoke/MethodHandle" ∧ yX5_begin.cls ≠ "java/lang/invoke/VarHandle" ∧ (parseMethodDescriptor yX5_begin.desc).map (fun d => d.parameters.length) = some 2 := by decide +kernel
set_option maxHeartbeats 4000000 in
set_option maxRecDepth 100000 in
theorem c_X5_begin (l : Launch) (D : va_G) (cs : Nat → ClassId) (ad : Nat → Nat) (M : Mem) {i0 : Nat} (k_i0 : gK i0 = 5) (x1 : Int32) (x2 : Int32) {z : Mem} (h : f_X5_begin M i0 x1 x2 = some z) : CtV l yX5_begin cX5_begin 4 0 D cs ad [.ref (ad i0), .int x1, .int x2] M z := by
  refine ct_v (own := RX5) (by decide) rfl (Nat.le_of_ble_eq_true rfl) ?_
  intro p e s m args below meth c Q C hr
  have hx := C.1
  have hb := C.2.1
  have hown := C.2.2.2.1
  have hts := C.2.2.2.2.1
  have J_17 : ∀ (x2 : Int32) (n : Nat) (a : Mem × Int32), iter (fun rec a => f_X5_begin_17 i0 x2 rec a.1 a.2) n a = some z → GP p l e (rmk 0) s m args below meth c 0 0 Q D cs ad 4 17 [(0, .ref (ad i0)), (2, .int x2), (3, .int a.2)] [] a.1 := by
    intro x2
    refine iter_ind (fun r17 hr17 a h => ?_)
    obtain ⟨M, x3⟩ := a
    have h : f_X5_begin_17 i0 x2 r17 M x3 = some z := h
    intro H locs hG ls hl
    have hG : GH D cs ad s M H locs := hG
    have hl : lv_has ls 4 [(0, .ref (ad i0)), (2, .int x2), (3, .int x3)] := hl
    unfold f_X5_begin_17 at h
    refine lv_iload_n hx hb dX5_begin_17 rfl (lv_at hl 2 rfl) ?_
    refine lv_iload_n hx hb dX5_begin_18 rfl (lv_at hl 1 rfl) ?_
    refine lv_icmp_ge (tgt := 41) hx hb dX5_begin_19 (by decide) (fun c_19 => ?_) (fun c_19 => ?_)
    · have h := if_t c_19 h
      exact hr (Option.some.inj h) hG dX5_begin_41
    · have h := if_f c_19 h
      refine lv_iload_n hx hb dX5_begin_22 rfl (lv_at hl 2 rfl) ?_
      refine lv_bipush (v := 40) hx hb dX5_begin_23 (by decide) ?_
      refine lv_icmp_ge (tgt := 41) hx hb dX5_begin_25 (by decide) (fun c_25 => ?_) (fun c_25 => ?_)
      · have h := if_t c_25 h
        exact hr (Option.some.inj h) hG dX5_begin_41
      · have h := if_f c_25 h
        refine lv_aload_n hx hb dX5_begin_28 rfl (lv_at hl 0 rfl) ?_
        refine gf_X5_items (j := (i0 + 1)) C hG k_i0 rfl wf_X5_22 dX5_begin_29 ?_
        refine lv_iload_n hx hb dX5_begin_32 rfl (lv_at hl 2 rfl) ?_
        refine lv_iconst (v := 0) hx hb dX5_begin_33 (by decide) ?_
        obtain ⟨hi_34, h⟩ := ix_e h
        refine g_as C hG (gk_X5_items k_i0) (gl_X5_items k_i0) hi_34 rfl dX5_begin_34 (fun M34 e_34 H locs hG => ?_)
        have h := nm_at e_34 h
        obtain ⟨x3_35, e3_35⟩ : ∃ y : Int32, y = x3 + (1 : Int32) := ⟨_, rfl⟩
        have h := nm_at e3_35 h
        refine lv_iinc (v := x3_35) (lv' := [(3, .int x3_35), (0, .ref (ad i0)), (2, .int x2)]) hx hb dX5_begin_35 hl (k := 2) rfl (by rw [e3_35]; rfl) (by decide) rfl (fun ls hl => ?_)
        refine lv_goto (tgt := 17) hx hb dX5_begin_38 (by decide) ?_
        exact hr17 (M34, x3_35) h H locs hG ls (lv_sub hl [1, 2, 0] rfl)
  intro H locs hG ls hl
  have hl : lv_has ls 4 [(0, .ref (ad i0)), (1, .int x1), (2, .int x2)] := hl
  unfold f_X5_begin at h
  refine lv_aload_n hx hb dX5_begin_0 rfl (lv_at hl 0 rfl) ?_
  refine lv_iconst (v := 1) hx hb dX5_begin_1 (by decide) ?_
  refine gp_X5_there C hG k_i0 (by decide) (by decide) wf_X5_9 dX5_begin_2 (fun M2 e_2 H locs hG => ?_)
  have h := nm_at e_2 h
  refine lv_aload_n hx hb dX5_begin_5 rfl (lv_at hl 0 rfl) ?_
  refine lv_iload_n hx hb dX5_begin_6 rfl (lv_at hl 1 rfl) ?_
  refine gp_X5_lane C hG k_i0 wf_X5_15 dX5_begin_7 (fun M7 e_7 H locs hG => ?_)
  have h := nm_at e_7 h
  refine lv_aload_n hx hb dX5_begin_10 rfl (lv_at hl 0 rfl) ?_
  refine lv_iload_n hx hb dX5_begin_11 rfl (lv_at hl 2 rfl) ?_
  refine gp_X5_length C hG k_i0 wf_X5_19 dX5_begin_12 (fun M12 e_12 H locs hG => ?_)
  have h := nm_at e_12 h
  refine lv_iconst (v := 0) hx hb dX5_begin_15 (by decide) ?_
  refine lv_istore_n (lv' := [(3, .int 0), (0, .ref (ad i0)), (1, .int x1), (2, .int x2)]) hx hb dX5_begin_16 rfl hl (by decide) rfl (fun ls hl => ?_)
  exact J_17 x2 _ (M12, (0 : Int32)) h H locs hG ls (lv_sub hl [1, 3, 0] rfl)
def f_X5_has (M : Mem) (i0 : Nat) (x1 : Int32) (x2 : Int32) : Bool :=
  if x1 < (0 : Int32) then (
    false
  ) else (
    if x2 < (0 : Int32) then (
      false
    ) else (
      if (M i0 2) < x2 then (
        false
      ) else (
        if ((M i0 2) - x2) < x1 then (
          false
        ) else (
          true
        )
      )
    )
  )
theorem e_X5_has : yX5_has.cls = RX5 ∧ yX5_has.cls ≠ "java/lang/invoke/MethodHandle" ∧ yX5_has.cls ≠ "java/lang/invoke/VarHandle" ∧ (parseMethodDescriptor yX5_has.desc).map (fun d => d.parameters.length) = some 2 := by decide +kernel
set_option maxHeartbeats 4000000 in
set_option maxRecDepth 100000 in
theorem c_X5_has (l : Launch) (D : va_G) (cs : Nat → ClassId) (ad : Nat → Nat) (M : Mem) {i0 : Nat} (k_i0 : gK i0 = 5) (x1 : Int32) (x2 : Int32) {z : Bool} (h : f_X5_has M i0 x1 x2 = z) : CtI l yX5_has cX5_has 3 .boolean 0 D cs ad [.ref (ad i0), .int x1, .int x2] M (bi z) M := by
  refine ct_z (own := RX5) (by decide) rfl (Nat.le_of_ble_eq_true rfl) ?_
  intro p e s m args below meth c Q C hr
  have hx := C.1
  have hb := C.2.1
  have hown := C.2.2.2.1
  have hts := C.2.2.2.2.1
  intro H locs hG ls hl
  have hl : lv_has ls 3 [(0, .ref (ad i0)), (1, .int x1), (2, .int x2)] := hl
  unfold f_X5_has at h
  refine lv_iload_n hx hb dX5_has_0 rfl (lv_at hl 1 rfl) ?_
  refine lv_if_lt (tgt := 30) hx hb dX5_has_1 (by decide) (fun c_1 => ?_) (fun c_1 => ?_)
  · have h := if_t c_1 h
    refine lv_iconst (v := 0) hx hb dX5_has_30 (by decide) ?_
    exact hr (congrArg bi h) rfl hG dX5_has_31
  · have h := if_f c_1 h
    refine lv_iload_n hx hb dX5_has_4 rfl (lv_at hl 2 rfl) ?_
    refine lv_if_lt (tgt := 30) hx hb dX5_has_5 (by decide) (fun c_5 => ?_) (fun c_5 => ?_)
    · have h := if_t c_5 h
      refine lv_iconst (v := 0) hx hb dX5_has_30 (by decide) ?_
      exact hr (congrArg bi h) rfl hG dX5_has_31
    · have h := if_f c_5 h
      refine lv_iload_n hx hb dX5_has_8 rfl (lv_at hl 2 rfl) ?_
      refine lv_aload_n hx hb dX5_has_9 rfl (lv_at hl 0 rfl) ?_
      refine gf_X5_length C hG k_i0 wf_X5_19 dX5_has_10 ?_
      refine lv_icmp_gt (tgt := 30) hx hb dX5_has_13 (by decide) (fun c_13 => ?_) (fun c_13 => ?_)
      · have h := if_t c_13 h
        refine lv_iconst (v := 0) hx hb dX5_has_30 (by decide) ?_
        exact hr (congrArg bi h) rfl hG dX5_has_31
      · have h := if_f c_13 h
        refine lv_iload_n hx hb dX5_has_16 rfl (lv_at hl 1 rfl) ?_
        refine lv_aload_n hx hb dX5_has_17 rfl (lv_at hl 0 rfl) ?_
        refine gf_X5_length C hG k_i0 wf_X5_19 dX5_has_18 ?_
        refine lv_iload_n hx hb dX5_has_21 rfl (lv_at hl 2 rfl) ?_
        refine lv_isub hx hb dX5_has_22 ?_
        refine lv_icmp_gt (tgt := 30) hx hb dX5_has_23 (by decide) (fun c_23 => ?_) (fun c_23 => ?_)
        · have h := if_t c_23 h
          refine lv_iconst (v := 0) hx hb dX5_has_30 (by decide) ?_
          exact hr (congrArg bi h) rfl hG dX5_has_31
        · have h := if_f c_23 h
          refine lv_iconst (v := 1) hx hb dX5_has_26 (by decide) ?_
          refine lv_goto (tgt := 31) hx hb dX5_has_27 (by decide) ?_
          exact hr (congrArg bi h) rfl hG dX5_has_31
def f_X5_put (M : Mem) (i0 : Nat) (x1 : Int32) (x2 : Int32) : Option (Int32 × Mem) :=
  if (M i0 1) = (0 : Int32) then (
    chk (ixb x1 40) <|
    nm (st M (i0 + 1) x1.toNatClampNeg ((x2).toInt8.toInt32)) fun M31 =>
    some ((M31 (i0 + 1) x1.toNatClampNeg), M31)
  ) else (
    if (M i0 1) = (1 : Int32) then (
      chk (ixb x1 40) <|
      nm (st M (i0 + 1) x1.toNatClampNeg ((x2).toInt16.toInt32)) fun M31 =>
      some ((M31 (i0 + 1) x1.toNatClampNeg), M31)
    ) else (
      chk (ixb x1 40) <|
      nm (st M (i0 + 1) x1.toNatClampNeg x2) fun M31 =>
      some ((M31 (i0 + 1) x1.toNatClampNeg), M31)
    )
  )
theorem e_X5_put : yX5_put.cls = RX5 ∧ yX5_put.cls ≠ "java/lang/invoke/MethodHandle" ∧ yX5_put.cls ≠ "java/lang/invoke/VarHandle" ∧ (parseMethodDescriptor yX5_put.desc).map (fun d => d.parameters.length) = some 2 := by decide +kernel
set_option maxHeartbeats 4000000 in
set_option maxRecDepth 100000 in
theorem c_X5_put (l : Launch) (D : va_G) (cs : Nat → ClassId) (ad : Nat → Nat) (M : Mem) {i0 : Nat} (k_i0 : gK i0 = 5) (x1 : Int32) (x2 : Int32) {z : Int32 × Mem} (h : f_X5_put M i0 x1 x2 = some z) : CtI l yX5_put cX5_put 3 .int 0 D cs ad [.ref (ad i0), .int x1, .int x2] M z.1 z.2 := by
  refine ct_i (own := RX5) (by decide) rfl (Nat.le_of_ble_eq_true rfl) ?_
  intro p e s m args below meth c Q C hr
  have hx := C.1
  have hb := C.2.1
  have hown := C.2.2.2.1
  have hts := C.2.2.2.2.1
  intro H locs hG ls hl
  have hl : lv_has ls 3 [(0, .ref (ad i0)), (1, .int x1), (2, .int x2)] := hl
  unfold f_X5_put at h
  refine lv_aload_n hx hb dX5_put_0 rfl (lv_at hl 0 rfl) ?_
  refine gf_X5_items (j := (i0 + 1)) C hG k_i0 rfl wf_X5_22 dX5_put_1 ?_
  refine lv_iload_n hx hb dX5_put_4 rfl (lv_at hl 1 rfl) ?_
  refine lv_aload_n hx hb dX5_put_5 rfl (lv_at hl 0 rfl) ?_
  refine gf_X5_lane C hG k_i0 wf_X5_15 dX5_put_6 ?_
  refine lv_if_ne (tgt := 17) hx hb dX5_put_9 (by decide) (fun c_9 => ?_) (fun c_9 => ?_)
  · have h := if_f c_9 h
    refine lv_aload_n hx hb dX5_put_17 rfl (lv_at hl 0 rfl) ?_
    refine gf_X5_lane C hG k_i0 wf_X5_15 dX5_put_18 ?_
    refine lv_iconst (v := 1) hx hb dX5_put_21 (by decide) ?_
    refine lv_icmp_ne (tgt := 30) hx hb dX5_put_22 (by decide) (fun c_22 => ?_) (fun c_22 => ?_)
    · have h := if_f c_22 h
      refine lv_iload_n hx hb dX5_put_30 rfl (lv_at hl 2 rfl) ?_
      obtain ⟨hi_31, h⟩ := ix_e h
      refine g_as C hG (gk_X5_items k_i0) (gl_X5_items k_i0) hi_31 rfl dX5_put_31 (fun M31 e_31 H locs hG => ?_)
      have h := nm_at e_31 h
      refine lv_aload_n hx hb dX5_put_32 rfl (lv_at hl 0 rfl) ?_
      refine gf_X5_items (j := (i0 + 1)) C hG k_i0 rfl wf_X5_22 dX5_put_33 ?_
      refine lv_iload_n hx hb dX5_put_36 rfl (lv_at hl 1 rfl) ?_
      refine g_al C hG (gk_X5_items k_i0) (gl_X5_items k_i0) hi_31 rfl dX5_put_37 ?_
      exact hr (pf1 (Option.some.inj h)) (pf2 (Option.some.inj h)) hG dX5_put_38
    · have h := if_t c_22 h
      refine lv_iload_n hx hb dX5_put_25 rfl (lv_at hl 2 rfl) ?_
      refine lv_i2s hx hb dX5_put_26 rfl ?_
      refine lv_goto (tgt := 31) hx hb dX5_put_27 (by decide) ?_
      obtain ⟨hi_31, h⟩ := ix_e h
      refine g_as C hG (gk_X5_items k_i0) (gl_X5_items k_i0) hi_31 rfl dX5_put_31 (fun M31 e_31 H locs hG => ?_)
      have h := nm_at e_31 h
      refine lv_aload_n hx hb dX5_put_32 rfl (lv_at hl 0 rfl) ?_
      refine gf_X5_items (j := (i0 + 1)) C hG k_i0 rfl wf_X5_22 dX5_put_33 ?_
      refine lv_iload_n hx hb dX5_put_36 rfl (lv_at hl 1 rfl) ?_
      refine g_al C hG (gk_X5_items k_i0) (gl_X5_items k_i0) hi_31 rfl dX5_put_37 ?_
      exact hr (pf1 (Option.some.inj h)) (pf2 (Option.some.inj h)) hG dX5_put_38
  · have h := if_t c_9 h
    refine lv_iload_n hx hb dX5_put_12 rfl (lv_at hl 2 rfl) ?_
    refine lv_i2b hx hb dX5_put_13 rfl ?_
    refine lv_goto (tgt := 31) hx hb dX5_put_14 (by decide) ?_
    obtain ⟨hi_31, h⟩ := ix_e h
    refine g_as C hG (gk_X5_items k_i0) (gl_X5_items k_i0) hi_31 rfl dX5_put_31 (fun M31 e_31 H locs hG => ?_)
    have h := nm_at e_31 h
    refine lv_aload_n hx hb dX5_put_32 rfl (lv_at hl 0 rfl) ?_
    refine gf_X5_items (j := (i0 + 1)) C hG k_i0 rfl wf_X5_22 dX5_put_33 ?_
    refine lv_iload_n hx hb dX5_put_36 rfl (lv_at hl 1 rfl) ?_
    refine g_al C hG (gk_X5_items k_i0) (gl_X5_items k_i0) hi_31 rfl dX5_put_37 ?_
    exact hr (pf1 (Option.some.inj h)) (pf2 (Option.some.inj h)) hG dX5_put_38
def f_X7_become (M : Mem) (i0 : Nat) (i1 : Nat) : Mem :=
  nm (st M i0 0 (M i1 0)) fun M5 =>
  nm (st M5 i0 1 (M5 i1 1)) fun M13 =>
  nm (st M13 i0 2 (M13 i1 2)) fun M21 =>
  nm (stA M21 (i0 + 1) (va_cpy (M21 (i1 + 1)) (M21 (i0 + 1)) 0 (0) (5))) fun M35 =>
  nm (stA M35 (i0 + 2) (va_cpy (M35 (i1 + 2)) (M35 (i0 + 2)) 0 (0) (5))) fun M49 =>
  nm (stA M49 (i0 + 3) (va_cpy (M49 (i1 + 3)) (M49 (i0 + 3)) 0 (0) (6))) fun M64 =>
  nm (stA M64 (i0 + 4) (va_cpy (M64 (i1 + 4)) (M64 (i0 + 4)) 0 (0) (6))) fun M79 =>
  nm (stA M79 (i0 + 5) (va_cpy (M79 (i1 + 5)) (M79 (i0 + 5)) 0 (0) (6))) fun M94 =>
  M94
theorem e_X7_become : yX7_become.cls = RX7 ∧ yX7_become.cls ≠ "java/lang/invoke/MethodHandle" ∧ yX7_become.cls ≠ "java/lang/invoke/VarHandle" ∧ (parseMethodDescriptor yX7_become.desc).map (fun d => d.parameters.length) = some 1 := by decide +kernel
set_option maxHeartbeats 4000000 in
set_option maxRecDepth 100000 in
theorem c_X7_become (l : Launch) (D : va_G) (cs : Nat → ClassId) (ad : Nat → Nat) (M : Mem) {i0 : Nat} (k_i0 : gK i0 = 7) {i1 : Nat} (k_i1 : gK i1 = 7) {z : Mem} (h : f_X7_become M i0 i1 = z) : CtV l yX7_become cX7_become 2 1 D cs ad [.ref (ad i0), .ref (ad i1)] M z := by
  refine ct_v (own := RX7) (by decide) rfl (Nat.le_of_ble_eq_true rfl) ?_
  intro p e s m args below meth c Q C hr
  have hx := C.1
  have hb := C.2.1
  have hown := C.2.2.2.1
  have hts := C.2.2.2.2.1
  intro H locs hG ls hl
  have hl : lv_has ls 2 [(0, .ref (ad i0)), (1, .ref (ad i1))] := hl
  unfold f_X7_become at h
  refine lv_aload_n hx hb dX7_become_0 rfl (lv_at hl 0 rfl) ?_
  refine lv_aload_n hx hb dX7_become_1 rfl (lv_at hl 1 rfl) ?_
  refine gf_X7_lawOfFeed C hG k_i1 wf_X7_9 dX7_become_2 ?_
  refine gp_X7_lawOfFeed C hG k_i0 wf_X7_9 dX7_become_5 (fun M5 e_5 H locs hG => ?_)
  have h := nm_at e_5 h
  refine lv_aload_n hx hb dX7_become_8 rfl (lv_at hl 0 rfl) ?_
  refine lv_aload_n hx hb dX7_become_9 rfl (lv_at hl 1 rfl) ?_
  refine gf_X7_valleys C hG k_i1 wf_X7_15 dX7_become_10 ?_
  refine gp_X7_valleys C hG k_i0 wf_X7_15 dX7_become_13 (fun M13 e_13 H locs hG => ?_)
  have h := nm_at e_13 h
  refine lv_aload_n hx hb dX7_become_16 rfl (lv_at hl 0 rfl) ?_
  refine lv_aload_n hx hb dX7_become_17 rfl (lv_at hl 1 rfl) ?_
  refine gf_X7_birds C hG k_i1 wf_X7_18 dX7_become_18 ?_
  refine gp_X7_birds C hG k_i0 wf_X7_18 dX7_become_21 (fun M21 e_21 H locs hG => ?_)
  have h := nm_at e_21 h
  refine lv_aload_n hx hb dX7_become_24 rfl (lv_at hl 1 rfl) ?_
  refine gf_X7_asks (j := (i1 + 1)) C hG k_i1 rfl wf_X7_21 dX7_become_25 ?_
  refine lv_iconst (v := 0) hx hb dX7_become_28 (by decide) ?_
  refine lv_aload_n hx hb dX7_become_29 rfl (lv_at hl 0 rfl) ?_
  refine gf_X7_asks (j := (i0 + 1)) C hG k_i0 rfl wf_X7_21 dX7_become_30 ?_
  refine lv_iconst (v := 0) hx hb dX7_become_33 (by decide) ?_
  refine lv_iconst (v := 5) hx hb dX7_become_34 (by decide) ?_
  refine g_copy C hG hl.1 (gk_X7_asks k_i1) (gl_X7_asks k_i1) (gk_X7_asks k_i0) (gl_X7_asks k_i0) (by decide) (by decide) wm_X7_37 (by decide) (Nat.le_of_ble_eq_true rfl) dX7_become_35 (fun M35 e_35 H locs hG => ?_)
  have h := nm_at e_35 h
  refine lv_aload_n hx hb dX7_become_38 rfl (lv_at hl 1 rfl) ?_
  refine gf_X7_losses (j := (i1 + 2)) C hG k_i1 rfl wf_X7_25 dX7_become_39 ?_
  refine lv_iconst (v := 0) hx hb dX7_become_42 (by decide) ?_
  refine lv_aload_n hx hb dX7_become_43 rfl (lv_at hl 0 rfl) ?_
  refine gf_X7_losses (j := (i0 + 2)) C hG k_i0 rfl wf_X7_25 dX7_become_44 ?_
  refine lv_iconst (v := 0) hx hb dX7_become_47 (by decide) ?_
  refine lv_iconst (v := 5) hx hb dX7_become_48 (by decide) ?_
  refine g_copy C hG hl.1 (gk_X7_losses k_i1) (gl_X7_losses k_i1) (gk_X7_losses k_i0) (gl_X7_losses k_i0) (by decide) (by decide) wm_X7_37 (by decide) (Nat.le_of_ble_eq_true rfl) dX7_become_49 (fun M49 e_49 H locs hG => ?_)
  have h := nm_at e_49 h
  refine lv_aload_n hx hb dX7_become_52 rfl (lv_at hl 1 rfl) ?_
  refine gf_X7_kinds (j := (i1 + 3)) C hG k_i1 rfl wf_X7_28 dX7_become_53 ?_
  refine lv_iconst (v := 0) hx hb dX7_become_56 (by decide) ?_
  refine lv_aload_n hx hb dX7_become_57 rfl (lv_at hl 0 rfl) ?_
  refine gf_X7_kinds (j := (i0 + 3)) C hG k_i0 rfl wf_X7_28 dX7_become_58 ?_
  refine lv_iconst (v := 0) hx hb dX7_become_61 (by decide) ?_
  refine lv_bipush (v := 6) hx hb dX7_become_62 (by decide) ?_
  refine g_copy C hG hl.1 (gk_X7_kinds k_i1) (gl_X7_kinds k_i1) (gk_X7_kinds k_i0) (gl_X7_kinds k_i0) (by decide) (by decide) wm_X7_37 (by decide) (Nat.le_of_ble_eq_true rfl) dX7_become_64 (fun M64 e_64 H locs hG => ?_)
  have h := nm_at e_64 h
  refine lv_aload_n hx hb dX7_become_67 rfl (lv_at hl 1 rfl) ?_
  refine gf_X7_leaves (j := (i1 + 4)) C hG k_i1 rfl wf_X7_31 dX7_become_68 ?_
  refine lv_iconst (v := 0) hx hb dX7_become_71 (by decide) ?_
  refine lv_aload_n hx hb dX7_become_72 rfl (lv_at hl 0 rfl) ?_
  refine gf_X7_leaves (j := (i0 + 4)) C hG k_i0 rfl wf_X7_31 dX7_become_73 ?_
  refine lv_iconst (v := 0) hx hb dX7_become_76 (by decide) ?_
  refine lv_bipush (v := 6) hx hb dX7_become_77 (by decide) ?_
  refine g_copy C hG hl.1 (gk_X7_leaves k_i1) (gl_X7_leaves k_i1) (gk_X7_leaves k_i0) (gl_X7_leaves k_i0) (by decide) (by decide) wm_X7_37 (by decide) (Nat.le_of_ble_eq_true rfl) dX7_become_79 (fun M79 e_79 H locs hG => ?_)
  have h := nm_at e_79 h
  refine lv_aload_n hx hb dX7_become_82 rfl (lv_at hl 1 rfl) ?_
  refine gf_X7_loves (j := (i1 + 5)) C hG k_i1 rfl wf_X7_34 dX7_become_83 ?_
  refine lv_iconst (v := 0) hx hb dX7_become_86 (by decide) ?_
  refine lv_aload_n hx hb dX7_become_87 rfl (lv_at hl 0 rfl) ?_
  refine gf_X7_loves (j := (i0 + 5)) C hG k_i0 rfl wf_X7_34 dX7_become_88 ?_
  refine lv_iconst (v := 0) hx hb dX7_become_91 (by decide) ?_
  refine lv_bipush (v := 6) hx hb dX7_become_92 (by decide) ?_
  refine g_copy C hG hl.1 (gk_X7_loves k_i1) (gl_X7_loves k_i1) (gk_X7_loves k_i0) (gl_X7_loves k_i0) (by decide) (by decide) wm_X7_37 (by decide) (Nat.le_of_ble_eq_true rfl) dX7_become_94 (fun M94 e_94 H locs hG => ?_)
  have h := nm_at e_94 h
  exact hr h hG dX7_become_97
def f_X3_become (M : Mem) (i0 : Nat) (i1 : Nat) : Mem :=
  nm (st M i0 0 (M i1 0)) fun M5 =>
  nm (st M5 i0 1 (M5 i1 1)) fun M13 =>
  nm (st M13 i0 2 (M13 i1 2)) fun M21 =>
  nm (st M21 i0 3 (M21 i1 3)) fun M29 =>
  nm (stA M29 (i0 + 1) (va_cpy (M29 (i1 + 1)) (M29 (i0 + 1)) 0 (0) (6))) fun M44 =>
  nm (stA M44 (i0 + 2) (va_cpy (M44 (i1 + 2)) (M44 (i0 + 2)) 0 (0) (5))) fun M58 =>
  M58
theorem e_X3_become : yX3_become.cls = RX3 ∧ yX3_become.cls ≠ "java/lang/invoke/MethodHandle" ∧ yX3_become.cls ≠ "java/lang/invoke/VarHandle" ∧ (parseMethodDescriptor yX3_become.desc).map (fun d => d.parameters.length) = some 1 := by decide +kernel
set_option maxHeartbeats 4000000 in
set_option maxRecDepth 100000 in
theorem c_X3_become (l : Launch) (D : va_G) (cs : Nat → ClassId) (ad : Nat → Nat) (M : Mem) {i0 : Nat} (k_i0 : gK i0 = 3) {i1 : Nat} (k_i1 : gK i1 = 3) {z : Mem} (h : f_X3_become M i0 i1 = z) : CtV l yX3_become cX3_become 2 1 D cs ad [.ref (ad i0), .ref (ad i1)] M z := by
  refine ct_v (own := RX3) (by decide) rfl (Nat.le_of_ble_eq_true rfl) ?_
  intro p e s m args below meth c Q C hr
  have hx := C.1
  have hb := C.2.1
  have hown := C.2.2.2.1
  have hts := C.2.2.2.2.1
  intro H locs hG ls hl
  have hl : lv_has ls 2 [(0, .ref (ad i0)), (1, .ref (ad i1))] := hl
  unfold f_X3_become at h
  refine lv_aload_n hx hb dX3_become_0 rfl (lv_at hl 0 rfl) ?_
  refine lv_aload_n hx hb dX3_become_1 rfl (lv_at hl 1 rfl) ?_
  refine gf_X3_flying C hG k_i1 wf_X3_9 dX3_become_2 ?_
  refine gp_X3_flying C hG k_i0 wf_X3_9 dX3_become_5 (fun M5 e_5 H locs hG => ?_)
  have h := nm_at e_5 h
  refine lv_aload_n hx hb dX3_become_8 rfl (lv_at hl 0 rfl) ?_
  refine lv_aload_n hx hb dX3_become_9 rfl (lv_at hl 1 rfl) ?_
  refine gf_X3_kept C hG k_i1 wf_X3_15 dX3_become_10 ?_
  refine gp_X3_kept C hG k_i0 wf_X3_15 dX3_become_13 (fun M13 e_13 H locs hG => ?_)
  have h := nm_at e_13 h
  refine lv_aload_n hx hb dX3_become_16 rfl (lv_at hl 0 rfl) ?_
  refine lv_aload_n hx hb dX3_become_17 rfl (lv_at hl 1 rfl) ?_
  refine gf_X3_turned C hG k_i1 wf_X3_18 dX3_become_18 ?_
  refine gp_X3_turned C hG k_i0 wf_X3_18 dX3_become_21 (fun M21 e_21 H locs hG => ?_)
  have h := nm_at e_21 h
  refine lv_aload_n hx hb dX3_become_24 rfl (lv_at hl 0 rfl) ?_
  refine lv_aload_n hx hb dX3_become_25 rfl (lv_at hl 1 rfl) ?_
  refine gf_X3_through C hG k_i1 wf_X3_21 dX3_become_26 ?_
  refine gp_X3_through C hG k_i0 wf_X3_21 dX3_become_29 (fun M29 e_29 H locs hG => ?_)
  have h := nm_at e_29 h
  refine lv_aload_n hx hb dX3_become_32 rfl (lv_at hl 1 rfl) ?_
  refine gf_X3_strong (j := (i1 + 1)) C hG k_i1 rfl wf_X3_24 dX3_become_33 ?_
  refine lv_iconst (v := 0) hx hb dX3_become_36 (by decide) ?_
  refine lv_aload_n hx hb dX3_become_37 rfl (lv_at hl 0 rfl) ?_
  refine gf_X3_strong (j := (i0 + 1)) C hG k_i0 rfl wf_X3_24 dX3_become_38 ?_
  refine lv_iconst (v := 0) hx hb dX3_become_41 (by decide) ?_
  refine lv_bipush (v := 6) hx hb dX3_become_42 (by decide) ?_
  refine g_copy C hG hl.1 (gk_X3_strong k_i1) (gl_X3_strong k_i1) (gk_X3_strong k_i0) (gl_X3_strong k_i0) (by decide) (by decide) wm_X3_31 (by decide) (Nat.le_of_ble_eq_true rfl) dX3_become_44 (fun M44 e_44 H locs hG => ?_)
  have h := nm_at e_44 h
  refine lv_aload_n hx hb dX3_become_47 rfl (lv_at hl 1 rfl) ?_
  refine gf_X3_line (j := (i1 + 2)) C hG k_i1 rfl wf_X3_28 dX3_become_48 ?_
  refine lv_iconst (v := 0) hx hb dX3_become_51 (by decide) ?_
  refine lv_aload_n hx hb dX3_become_52 rfl (lv_at hl 0 rfl) ?_
  refine gf_X3_line (j := (i0 + 2)) C hG k_i0 rfl wf_X3_28 dX3_become_53 ?_
  refine lv_iconst (v := 0) hx hb dX3_become_56 (by decide) ?_
  refine lv_iconst (v := 5) hx hb dX3_become_57 (by decide) ?_
  refine g_copy C hG hl.1 (gk_X3_line k_i1) (gl_X3_line k_i1) (gk_X3_line k_i0) (gl_X3_line k_i0) (by decide) (by decide) wm_X3_31 (by decide) (Nat.le_of_ble_eq_true rfl) dX3_become_58 (fun M58 e_58 H locs hG => ?_)
  have h := nm_at e_58 h
  exact hr h hG dX3_become_61
def f_X0_forgetAll (M : Mem) : Mem :=
  nm (st M 25 2 (0 : Int32)) fun M2 =>
  M2
theorem e_X0_forgetAll : yX0_forgetAll.cls = RX0 ∧ yX0_forgetAll.cls ≠ "java/lang/invoke/MethodHandle" ∧ yX0_forgetAll.cls ≠ "java/lang/invoke/VarHandle" ∧ (parseMethodDescriptor yX0_forgetAll.desc).map (fun d => d.parameters.length) = some 0 := by decide +kernel
set_option maxHeartbeats 4000000 in
set_option maxRecDepth 100000 in
theorem c_X0_forgetAll (l : Launch) (D : va_G) (cs : Nat → ClassId) (ad : Nat → Nat) (M : Mem) {z : Mem} (h : f_X0_forgetAll M = z) : CtV l yX0_forgetAll cX0_forgetAll 1 0 D cs ad [.ref (ad 25)] M z := by
  refine ct_v (own := RX0) (by decide) rfl (Nat.le_of_ble_eq_true rfl) ?_
  intro p e s m args below meth c Q C hr
  have hx := C.1
  have hb := C.2.1
  have hown := C.2.2.2.1
  have hts := C.2.2.2.2.1
  intro H locs hG ls hl
  have hl : lv_has ls 1 [(0, .ref (ad 25))] := hl
  unfold f_X0_forgetAll at h
  refine lv_aload_n hx hb dX0_forgetAll_0 rfl (lv_at hl 0 rfl) ?_
  refine lv_iconst (v := 0) hx hb dX0_forgetAll_1 (by decide) ?_
  refine gp_X0_length C hG gk_25 wf_X0_21 dX0_forgetAll_2 (fun M2 e_2 H locs hG => ?_)
  have h := nm_at e_2 h
  exact hr h hG dX0_forgetAll_5
def f_X0_remember_33 (i1 : Nat) (M : Mem) (s1 : Int32) : Option Mem :=
  nm (st M 25 1 s1) fun M33 =>
  nm (st M33 25 2 (if ((M33 25 2) + (1 : Int32)) < (24 : Int32) then ((M33 25 2) + (1 : Int32)) else (24 : Int32))) fun M48 =>
  some M48
def f_X0_remember (M : Mem) (i1 : Nat) : Option Mem :=
  chk (ixb (M 25 1) 24) <|
  nm (f_X3_become M (27 + 3 * (M 25 1).toNatClampNeg) i1) fun q10 =>
  if (23 : Int32) ≤ (q10 25 1) then (
    f_X0_remember_33 i1 q10 (0 : Int32)
  ) else (
    f_X0_remember_33 i1 q10 ((q10 25 1) + (1 : Int32))
  )
theorem e_X0_remember : yX0_remember.cls = RX0 ∧ yX0_remember.cls ≠ "java/lang/invoke/MethodHandle" ∧ yX0_remember.cls ≠ "java/lang/invoke/VarHandle" ∧ (parseMethodDescriptor yX0_remember.desc).map (fun d => d.parameters.length) = some 1 := by decide +kernel
set_option maxHeartbeats 4000000 in
set_option maxRecDepth 100000 in
theorem c_X0_remember (l : Launch) (D : va_G) (cs : Nat → ClassId) (ad : Nat → Nat) (M : Mem) {i1 : Nat} (k_i1 : gK i1 = 3) {z : Mem} (h : f_X0_remember M i1 = some z) : CtV l yX0_remember cX0_remember 2 2 D cs ad [.ref (ad 25), .ref (ad i1)] M z := by
  refine ct_v (own := RX0) (by decide) rfl (Nat.le_of_ble_eq_true rfl) ?_
  intro p e s m args below meth c Q C hr
  have hx := C.1
  have hb := C.2.1
  have hown := C.2.2.2.1
  have hts := C.2.2.2.2.1
  have J_33 : ∀ (M : Mem) (s1 : Int32), f_X0_remember_33 i1 M s1 = some z → GP p l e (rmk 2) s m args below meth c 0 0 Q D cs ad 2 33 [(0, .ref (ad 25))] [.int s1, .ref (ad 25)] M := by
    intro M s1 h H locs hG ls hl
    unfold f_X0_remember_33 at h
    refine gp_X0_next C hG gk_25 wf_X0_17 dX0_remember_33 (fun M33 e_33 H locs hG => ?_)
    have h := nm_at e_33 h
    refine lv_aload_n hx hb dX0_remember_36 rfl (lv_at hl 0 rfl) ?_
    refine lv_bipush (v := 24) hx hb dX0_remember_37 (by decide) ?_
    refine lv_aload_n hx hb dX0_remember_39 rfl (lv_at hl 0 rfl) ?_
    refine gf_X0_length C hG gk_25 wf_X0_21 dX0_remember_40 ?_
    refine lv_iconst (v := 1) hx hb dX0_remember_43 (by decide) ?_
    refine lv_iadd hx hb dX0_remember_44 ?_
    refine g_min C hl.1 wm_X0_29 (by decide) (Nat.le_of_ble_eq_true rfl) dX0_remember_45 ?_
    refine gp_X0_length C hG gk_25 wf_X0_21 dX0_remember_48 (fun M48 e_48 H locs hG => ?_)
    have h := nm_at e_48 h
    exact hr (Option.some.inj h) hG dX0_remember_51
  intro H locs hG ls hl
  have hl : lv_has ls 2 [(0, .ref (ad 25)), (1, .ref (ad i1))] := hl
  unfold f_X0_remember at h
  refine lv_aload_n hx hb dX0_remember_0 rfl (lv_at hl 0 rfl) ?_
  refine gf_X0_ahead (j := 26) C hG gk_25 rfl wf_X0_11 dX0_remember_1 ?_
  refine lv_aload_n hx hb dX0_remember_4 rfl (lv_at hl 0 rfl) ?_
  refine gf_X0_next C hG gk_25 wf_X0_17 dX0_remember_5 ?_
  obtain ⟨hi_8, h⟩ := ix_e h
  refine g_aheld C hG hi_8 dX0_remember_8 ?_
  refine lv_aload_n hx hb dX0_remember_9 rfl (lv_at hl 1 rfl) ?_
  obtain ⟨q10, e_10⟩ : ∃ y, f_X3_become M (27 + 3 * (M 25 1).toNatClampNeg) i1 = y := ⟨_, rfl⟩
  have h := nm_at e_10.symm h
  refine g_cv hG (g_runV C hG (gR_3 (gk_ahe hi_8)) (c_X3_become l D cs ad M (gk_ahe hi_8) k_i1 e_10) wm_X0_25 wi_X3_become ws_X3_become wz_X3 wc_X3_become e_X3_become (by decide) hl.1 (Nat.le_of_ble_eq_true rfl) dX0_remember_10) (fun H locs hG => ?_)
  refine lv_aload_n hx hb dX0_remember_13 rfl (lv_at hl 0 rfl) ?_
  refine lv_aload_n hx hb dX0_remember_14 rfl (lv_at hl 0 rfl) ?_
  refine gf_X0_next C hG gk_25 wf_X0_17 dX0_remember_15 ?_
  refine lv_bipush (v := 23) hx hb dX0_remember_18 (by decide) ?_
  refine lv_icmp_ge (tgt := 32) hx hb dX0_remember_20 (by decide) (fun c_20 => ?_) (fun c_20 => ?_)
  · have h := if_t c_20 h
    refine lv_iconst (v := 0) hx hb dX0_remember_32 (by decide) ?_
    exact J_33 q10 (0 : Int32) h H locs hG ls (lv_sub hl [0] rfl)
  · have h := if_f c_20 h
    refine lv_aload_n hx hb dX0_remember_23 rfl (lv_at hl 0 rfl) ?_
    refine gf_X0_next C hG gk_25 wf_X0_17 dX0_remember_24 ?_
    refine lv_iconst (v := 1) hx hb dX0_remember_27 (by decide) ?_
    refine lv_iadd hx hb dX0_remember_28 ?_
    refine lv_goto (tgt := 33) hx hb dX0_remember_29 (by decide) ?_
    exact J_33 q10 ((q10 25 1) + (1 : Int32)) h H locs hG ls (lv_sub hl [0] rfl)
def f_X3_flies (M : Mem) (i0 : Nat) (x1 : Int32) : Bool :=
  if (((M i0 0) >>> (x1 &&& 31)) &&& (1 : Int32)) = (1 : Int32) then (
    true
  ) else (
    false
  )
theorem e_X3_flies : yX3_flies.cls = RX3 ∧ yX3_flies.cls ≠ "java/lang/invoke/MethodHandle" ∧ yX3_flies.cls ≠ "java/lang/invoke/VarHandle" ∧ (parseMethodDescriptor yX3_flies.desc).map (fun d => d.parameters.length) = some 1 := by decide +kernel
set_option maxHeartbeats 4000000 in
set_option maxRecDepth 100000 in
theorem c_X3_flies (l : Launch) (D : va_G) (cs : Nat → ClassId) (ad : Nat → Nat) (M : Mem) {i0 : Nat} (k_i0 : gK i0 = 3) (x1 : Int32) {z : Bool} (h : f_X3_flies M i0 x1 = z) : CtI l yX3_flies cX3_flies 2 .boolean 0 D cs ad [.ref (ad i0), .int x1] M (bi z) M := by
  refine ct_z (own := RX3) (by decide) rfl (Nat.le_of_ble_eq_true rfl) ?_
  intro p e s m args below meth c Q C hr
  have hx := C.1
  have hb := C.2.1
  have hown := C.2.2.2.1
  have hts := C.2.2.2.2.1
  intro H locs hG ls hl
  have hl : lv_has ls 2 [(0, .ref (ad i0)), (1, .int x1)] := hl
  unfold f_X3_flies at h
  refine lv_aload_n hx hb dX3_flies_0 rfl (lv_at hl 0 rfl) ?_
  refine gf_X3_flying C hG k_i0 wf_X3_9 dX3_flies_1 ?_
  refine lv_iload_n hx hb dX3_flies_4 rfl (lv_at hl 1 rfl) ?_
  refine lv_ishr hx hb dX3_flies_5 ?_
  refine lv_iconst (v := 1) hx hb dX3_flies_6 (by decide) ?_
  refine lv_iand hx hb dX3_flies_7 ?_
  refine lv_iconst (v := 1) hx hb dX3_flies_8 (by decide) ?_
  refine lv_icmp_ne (tgt := 16) hx hb dX3_flies_9 (by decide) (fun c_9 => ?_) (fun c_9 => ?_)
  · have h := if_f c_9 h
    refine lv_iconst (v := 0) hx hb dX3_flies_16 (by decide) ?_
    exact hr (congrArg bi h) rfl hG dX3_flies_17
  · have h := if_t c_9 h
    refine lv_iconst (v := 1) hx hb dX3_flies_12 (by decide) ?_
    refine lv_goto (tgt := 17) hx hb dX3_flies_13 (by decide) ?_
    exact hr (congrArg bi h) rfl hG dX3_flies_17
def f_J6_bitCount_0f7a4 (x0 : Int32) : Int32 :=
  nm ((x0 - ((((x0).toUInt32 >>> (((1 : Int32)).toUInt32 &&& Int32.toUInt32 31)).toInt32) &&& (1431655765 : Int32)))) fun x0_9 =>
  nm (((x0_9 &&& (858993459 : Int32)) + ((((x0_9).toUInt32 >>> (((2 : Int32)).toUInt32 &&& Int32.toUInt32 31)).toInt32) &&& (858993459 : Int32)))) fun x0_23 =>
  nm (((x0_23 + (((x0_23).toUInt32 >>> (((4 : Int32)).toUInt32 &&& Int32.toUInt32 31)).toInt32)) &&& (252645135 : Int32))) fun x0_33 =>
  nm ((x0_33 + (((x0_33).toUInt32 >>> (((8 : Int32)).toUInt32 &&& Int32.toUInt32 31)).toInt32))) fun x0_40 =>
  nm ((x0_40 + (((x0_40).toUInt32 >>> (((16 : Int32)).toUInt32 &&& Int32.toUInt32 31)).toInt32))) fun x0_47 =>
  (x0_47 &&& (63 : Int32))
theorem e_J6_bitCount_0f7a4 : yJ6_bitCount_0f7a4.cls ≠ "java/lang/invoke/MethodHandle" ∧ yJ6_bitCount_0f7a4.cls ≠ "java/lang/invoke/VarHandle" ∧ (parseMethodDescriptor yJ6_bitCount_0f7a4.desc).map (fun d => d.parameters.length) = some 1 := by decide +kernel
set_option maxHeartbeats 4000000 in
set_option maxRecDepth 100000 in
theorem c_J6_bitCount_0f7a4 (l : Launch) (D : va_G) (cs : Nat → ClassId) (ad : Nat → Nat) (M : Mem) (x0 : Int32) {z : Int32} (h : f_J6_bitCount_0f7a4 x0 = z) : CtI l yJ6_bitCount_0f7a4 cJ6_bitCount_0f7a4 1 .int 0 D cs ad [.int x0] M z M := by
  refine ct_i (own := RJ6) (by decide) rfl (Nat.le_of_ble_eq_true rfl) ?_
  intro p e s m args below meth c Q C hr
  have hx := C.1
  have hb := C.2.1
  have hown := C.2.2.2.1
  have hts := C.2.2.2.2.1
  intro H locs hG ls hl
  have hl : lv_has ls 1 [(0, .int x0)] := hl
  unfold f_J6_bitCount_0f7a4 at h
  refine lv_iload_n hx hb dJ6_bitCount_0f7a4_0 rfl (lv_at hl 0 rfl) ?_
  refine lv_iload_n hx hb dJ6_bitCount_0f7a4_1 rfl (lv_at hl 0 rfl) ?_
  refine lv_iconst (v := 1) hx hb dJ6_bitCount_0f7a4_2 (by decide) ?_
  refine lv_iushr (v := ((x0).toUInt32 >>> (((1 : Int32)).toUInt32 &&& Int32.toUInt32 31)).toInt32) hx hb dJ6_bitCount_0f7a4_3 rfl ?_
  refine lv_ldcw (v := 1431655765) hx hb hown (hts _ wk_J6_265) dJ6_bitCount_0f7a4_4 ?_
  refine lv_iand hx hb dJ6_bitCount_0f7a4_7 ?_
  refine lv_isub hx hb dJ6_bitCount_0f7a4_8 ?_
  refine lv_topi (fun x0_9 e0_9 => ?_)
  have h := nm_at e0_9 h
  refine lv_istore_n (lv' := [(0, .int x0_9)]) hx hb dJ6_bitCount_0f7a4_9 rfl hl (by decide) rfl (fun ls hl => ?_)
  refine lv_iload_n hx hb dJ6_bitCount_0f7a4_10 rfl (lv_at hl 0 rfl) ?_
  refine lv_ldcw (v := 858993459) hx hb hown (hts _ wk_J6_266) dJ6_bitCount_0f7a4_11 ?_
  refine lv_iand hx hb dJ6_bitCount_0f7a4_14 ?_
  refine lv_iload_n hx hb dJ6_bitCount_0f7a4_15 rfl (lv_at hl 0 rfl) ?_
  refine lv_iconst (v := 2) hx hb dJ6_bitCount_0f7a4_16 (by decide) ?_
  refine lv_iushr (v := ((x0_9).toUInt32 >>> (((2 : Int32)).toUInt32 &&& Int32.toUInt32 31)).toInt32) hx hb dJ6_bitCount_0f7a4_17 rfl ?_
  refine lv_ldcw (v := 858993459) hx hb hown (hts _ wk_J6_266) dJ6_bitCount_0f7a4_18 ?_
  refine lv_iand hx hb dJ6_bitCount_0f7a4_21 ?_
  refine lv_iadd hx hb dJ6_bitCount_0f7a4_22 ?_
  refine lv_topi (fun x0_23 e0_23 => ?_)
  have h := nm_at e0_23 h
  refine lv_istore_n (lv' := [(0, .int x0_23)]) hx hb dJ6_bitCount_0f7a4_23 rfl hl (by decide) rfl (fun ls hl => ?_)
  refine lv_iload_n hx hb dJ6_bitCount_0f7a4_24 rfl (lv_at hl 0 rfl) ?_
  refine lv_iload_n hx hb dJ6_bitCount_0f7a4_25 rfl (lv_at hl 0 rfl) ?_
  refine lv_iconst (v := 4) hx hb dJ6_bitCount_0f7a4_26 (by decide) ?_
  refine lv_iushr (v := ((x0_23).toUInt32 >>> (((4 : Int32)).toUInt32 &&& Int32.toUInt32 31)).toInt32) hx hb dJ6_bitCount_0f7a4_27 rfl ?_
  refine lv_iadd hx hb dJ6_bitCount_0f7a4_28 ?_
  refine lv_ldcw (v := 252645135) hx hb hown (hts _ wk_J6_267) dJ6_bitCount_0f7a4_29 ?_
  refine lv_iand hx hb dJ6_bitCount_0f7a4_32 ?_
  refine lv_topi (fun x0_33 e0_33 => ?_)
  have h := nm_at e0_33 h
  refine lv_istore_n (lv' := [(0, .int x0_33)]) hx hb dJ6_bitCount_0f7a4_33 rfl hl (by decide) rfl (fun ls hl => ?_)
  refine lv_iload_n hx hb dJ6_bitCount_0f7a4_34 rfl (lv_at hl 0 rfl) ?_
  refine lv_iload_n hx hb dJ6_bitCount_0f7a4_35 rfl (lv_at hl 0 rfl) ?_
  refine lv_bipush (v := 8) hx hb dJ6_bitCount_0f7a4_36 (by decide) ?_
  refine lv_iushr (v := ((x0_33).toUInt32 >>> (((8 : Int32)).toUInt32 &&& Int32.toUInt32 31)).toInt32) hx hb dJ6_bitCount_0f7a4_38 rfl ?_
  refine lv_iadd hx hb dJ6_bitCount_0f7a4_39 ?_
  refine lv_topi (fun x0_40 e0_40 => ?_)
  have h := nm_at e0_40 h
  refine lv_istore_n (lv' := [(0, .int x0_40)]) hx hb dJ6_bitCount_0f7a4_40 rfl hl (by decide) rfl (fun ls hl => ?_)
  refine lv_iload_n hx hb dJ6_bitCount_0f7a4_41 rfl (lv_at hl 0 rfl) ?_
  refine lv_iload_n hx hb dJ6_bitCount_0f7a4_42 rfl (lv_at hl 0 rfl) ?_
  refine lv_bipush (v := 16) hx hb dJ6_bitCount_0f7a4_43 (by decide) ?_
  refine lv_iushr (v := ((x0_40).toUInt32 >>> (((16 : Int32)).toUInt32 &&& Int32.toUInt32 31)).toInt32) hx hb dJ6_bitCount_0f7a4_45 rfl ?_
  refine lv_iadd hx hb dJ6_bitCount_0f7a4_46 ?_
  refine lv_topi (fun x0_47 e0_47 => ?_)
  have h := nm_at e0_47 h
  refine lv_istore_n (lv' := [(0, .int x0_47)]) hx hb dJ6_bitCount_0f7a4_47 rfl hl (by decide) rfl (fun ls hl => ?_)
  refine lv_iload_n hx hb dJ6_bitCount_0f7a4_48 rfl (lv_at hl 0 rfl) ?_
  refine lv_bipush (v := 63) hx hb dJ6_bitCount_0f7a4_49 (by decide) ?_
  refine lv_iand hx hb dJ6_bitCount_0f7a4_51 ?_
  exact hr h rfl hG dJ6_bitCount_0f7a4_52
def f_X3_turnBack (M : Mem) (i0 : Nat) (x1 : Int32) : Mem :=
  nm (st M i0 0 ((M i0 0) &&& (x1 ^^^ (-1 : Int32)))) fun M9 =>
  nm (st M9 i0 2 ((M9 i0 2) + (f_J6_bitCount_0f7a4 x1))) fun M22 =>
  M22
theorem e_X3_turnBack : yX3_turnBack.cls = RX3 ∧ yX3_turnBack.cls ≠ "java/lang/invoke/MethodHandle" ∧ yX3_turnBack.cls ≠ "java/lang/invoke/VarHandle" ∧ (parseMethodDescriptor yX3_turnBack.desc).map (fun d => d.parameters.length) = some 1 := by decide +kernel
set_option maxHeartbeats 4000000 in
set_option maxRecDepth 100000 in
theorem c_X3_turnBack (l : Launch) (D : va_G) (cs : Nat → ClassId) (ad : Nat → Nat) (M : Mem) {i0 : Nat} (k_i0 : gK i0 = 3) (x1 : Int32) {z : Mem} (h : f_X3_turnBack M i0 x1 = z) : CtV l yX3_turnBack cX3_turnBack 2 1 D cs ad [.ref (ad i0), .int x1] M z := by
  refine ct_v (own := RX3) (by decide) rfl (Nat.le_of_ble_eq_true rfl) ?_
  intro p e s m args below meth c Q C hr
  have hx := C.1
  have hb := C.2.1
  have hown := C.2.2.2.1
  have hts := C.2.2.2.2.1
  intro H locs hG ls hl
  have hl : lv_has ls 2 [(0, .ref (ad i0)), (1, .int x1)] := hl
  unfold f_X3_turnBack at h
  refine lv_aload_n hx hb dX3_turnBack_0 rfl (lv_at hl 0 rfl) ?_
  refine lv_dup hx hb dX3_turnBack_1 rfl ?_
  refine gf_X3_flying C hG k_i0 wf_X3_9 dX3_turnBack_2 ?_
  refine lv_iload_n hx hb dX3_turnBack_5 rfl (lv_at hl 1 rfl) ?_
  refine lv_iconst (v := -1) hx hb dX3_turnBack_6 (by decide) ?_
  refine lv_ixor hx hb dX3_turnBack_7 ?_
  refine lv_iand hx hb dX3_turnBack_8 ?_
  refine gp_X3_flying C hG k_i0 wf_X3_9 dX3_turnBack_9 (fun M9 e_9 H locs hG => ?_)
  have h := nm_at e_9 h
  refine lv_aload_n hx hb dX3_turnBack_12 rfl (lv_at hl 0 rfl) ?_
  refine lv_dup hx hb dX3_turnBack_13 rfl ?_
  refine gf_X3_turned C hG k_i0 wf_X3_18 dX3_turnBack_14 ?_
  refine lv_iload_n hx hb dX3_turnBack_17 rfl (lv_at hl 1 rfl) ?_
  refine g_ci hG (g_runS C hG (c_J6_bitCount_0f7a4 l D cs ad M9 x1 rfl) wm_X3_37 wt_J6_bitCount_0f7a4 wz_J6 wc_J6_bitCount_0f7a4 e_J6_bitCount_0f7a4 (by decide) hl.1 (Nat.le_of_ble_eq_true rfl) dX3_turnBack_18) (fun H locs hG => ?_)
  refine lv_iadd hx hb dX3_turnBack_21 ?_
  refine gp_X3_turned C hG k_i0 wf_X3_18 dX3_turnBack_22 (fun M22 e_22 H locs hG => ?_)
  have h := nm_at e_22 h
  exact hr h hG dX3_turnBack_25
def f_X0_takeBack_19 (i1 : Nat) (M : Mem) (s1 : Int32) : Option Mem :=
  nm (st M 25 1 s1) fun M19 =>
  chk (ixb (M19 25 1) 24) <|
  nm (f_X3_become M19 i1 (27 + 3 * (M19 25 1).toNatClampNeg)) fun q32 =>
  nm (st q32 25 2 ((q32 25 2) - (1 : Int32))) fun M42 =>
  some M42
def f_X0_takeBack (M : Mem) (i1 : Nat) : Option Mem :=
  if (M 25 1) ≤ (0 : Int32) then (
    f_X0_takeBack_19 i1 M (23 : Int32)
  ) else (
    f_X0_takeBack_19 i1 M ((M 25 1) - (1 : Int32))
  )
theorem e_X0_takeBack : yX0_takeBack.cls = RX0 ∧ yX0_takeBack.cls ≠ "java/lang/invoke/MethodHandle" ∧ yX0_takeBack.cls ≠ "java/lang/invoke/VarHandle" ∧ (parseMethodDescriptor yX0_takeBack.desc).map (fun d => d.parameters.length) = some 1 := by decide +kernel
set_option maxHeartbeats 4000000 in
set_option maxRecDepth 100000 in
theorem c_X0_takeBack (l : Launch) (D : va_G) (cs : Nat → ClassId) (ad : Nat → Nat) (M : Mem) {i1 : Nat} (k_i1 : gK i1 = 3) {z : Mem} (h : f_X0_takeBack M i1 = some z) : CtV l yX0_takeBack cX0_takeBack 2 2 D cs ad [.ref (ad 25), .ref (ad i1)] M z := by
  refine ct_v (own := RX0) (by decide) rfl (Nat.le_of_ble_eq_true rfl) ?_
  intro p e s m args below meth c Q C hr
  have hx := C.1
  have hb := C.2.1
  have hown := C.2.2.2.1
  have hts := C.2.2.2.2.1
  have J_19 : ∀ (M : Mem) (s1 : Int32), f_X0_takeBack_19 i1 M s1 = some z → GP p l e (rmk 2) s m args below meth c 0 0 Q D cs ad 2 19 [(0, .ref (ad 25)), (1, .ref (ad i1))] [.int s1, .ref (ad 25)] M := by
    intro M s1 h H locs hG ls hl
    unfold f_X0_takeBack_19 at h
    refine gp_X0_next C hG gk_25 wf_X0_17 dX0_takeBack_19 (fun M19 e_19 H locs hG => ?_)
    have h := nm_at e_19 h
    refine lv_aload_n hx hb dX0_takeBack_22 rfl (lv_at hl 1 rfl) ?_
    refine lv_aload_n hx hb dX0_takeBack_23 rfl (lv_at hl 0 rfl) ?_
    refine gf_X0_ahead (j := 26) C hG gk_25 rfl wf_X0_11 dX0_takeBack_24 ?_
    refine lv_aload_n hx hb dX0_takeBack_27 rfl (lv_at hl 0 rfl) ?_
    refine gf_X0_next C hG gk_25 wf_X0_17 dX0_takeBack_28 ?_
    obtain ⟨hi_31, h⟩ := ix_e h
    refine g_aheld C hG hi_31 dX0_takeBack_31 ?_
    obtain ⟨q32, e_32⟩ : ∃ y, f_X3_become M19 i1 (27 + 3 * (M19 25 1).toNatClampNeg) = y := ⟨_, rfl⟩
    have h := nm_at e_32.symm h
    refine g_cv hG (g_runV C hG (gR_3 k_i1) (c_X3_become l D cs ad M19 k_i1 (gk_ahe hi_31) e_32) wm_X0_25 wi_X3_become ws_X3_become wz_X3 wc_X3_become e_X3_become (by decide) hl.1 (Nat.le_of_ble_eq_true rfl) dX0_takeBack_32) (fun H locs hG => ?_)
    refine lv_aload_n hx hb dX0_takeBack_35 rfl (lv_at hl 0 rfl) ?_
    refine lv_dup hx hb dX0_takeBack_36 rfl ?_
    refine gf_X0_length C hG gk_25 wf_X0_21 dX0_takeBack_37 ?_
    refine lv_iconst (v := 1) hx hb dX0_takeBack_40 (by decide) ?_
    refine lv_isub hx hb dX0_takeBack_41 ?_
    refine gp_X0_length C hG gk_25 wf_X0_21 dX0_takeBack_42 (fun M42 e_42 H locs hG => ?_)
    have h := nm_at e_42 h
    exact hr (Option.some.inj h) hG dX0_takeBack_45
  intro H locs hG ls hl
  have hl : lv_has ls 2 [(0, .ref (ad 25)), (1, .ref (ad i1))] := hl
  unfold f_X0_takeBack at h
  refine lv_aload_n hx hb dX0_takeBack_0 rfl (lv_at hl 0 rfl) ?_
  refine lv_aload_n hx hb dX0_takeBack_1 rfl (lv_at hl 0 rfl) ?_
  refine gf_X0_next C hG gk_25 wf_X0_17 dX0_takeBack_2 ?_
  refine lv_if_le (tgt := 17) hx hb dX0_takeBack_5 (by decide) (fun c_5 => ?_) (fun c_5 => ?_)
  · have h := if_t c_5 h
    refine lv_bipush (v := 23) hx hb dX0_takeBack_17 (by decide) ?_
    exact J_19 M (23 : Int32) h H locs hG ls (lv_sub hl [0, 1] rfl)
  · have h := if_f c_5 h
    refine lv_aload_n hx hb dX0_takeBack_8 rfl (lv_at hl 0 rfl) ?_
    refine gf_X0_next C hG gk_25 wf_X0_17 dX0_takeBack_9 ?_
    refine lv_iconst (v := 1) hx hb dX0_takeBack_12 (by decide) ?_
    refine lv_isub hx hb dX0_takeBack_13 ?_
    refine lv_goto (tgt := 19) hx hb dX0_takeBack_14 (by decide) ?_
    exact J_19 M ((M 25 1) - (1 : Int32)) h H locs hG ls (lv_sub hl [0, 1] rfl)
def f_X1_begin (M : Mem) (i1 : Nat) (x2 : Int32) : Option Mem :=
  nm (st M 102 1 (0 : Int32)) fun M2 =>
  nm (st M2 102 2 x2) fun M7 =>
  chk (ixb x2 6) <|
  nm (st M7 102 3 (M7 (i1 + 4) x2.toNatClampNeg)) fun M20 =>
  nm (st M20 102 4 (M20 (i1 + 8) x2.toNatClampNeg)) fun M33 =>
  nm (st M33 102 5 (M33 (i1 + 5) x2.toNatClampNeg)) fun M46 =>
  some M46
theorem e_X1_begin : yX1_begin.cls = RX1 ∧ yX1_begin.cls ≠ "java/lang/invoke/MethodHandle" ∧ yX1_begin.cls ≠ "java/lang/invoke/VarHandle" ∧ (parseMethodDescriptor yX1_begin.desc).map (fun d => d.parameters.length) = some 2 := by decide +kernel
set_option maxHeartbeats 4000000 in
set_option maxRecDepth 100000 in
theorem c_X1_begin (l : Launch) (D : va_G) (cs : Nat → ClassId) (ad : Nat → Nat) (M : Mem) {i1 : Nat} (k_i1 : gK i1 = 2) (x2 : Int32) {z : Mem} (h : f_X1_begin M i1 x2 = some z) : CtV l yX1_begin cX1_begin 3 0 D cs ad [.ref (ad 102), .ref (ad i1), .int x2] M z := by
  refine ct_v (own := RX1) (by decide) rfl (Nat.le_of_ble_eq_true rfl) ?_
  intro p e s m args below meth c Q C hr
  have hx := C.1
  have hb := C.2.1
  have hown := C.2.2.2.1
  have hts := C.2.2.2.2.1
  intro H locs hG ls hl
  have hl : lv_has ls 3 [(0, .ref (ad 102)), (1, .ref (ad i1)), (2, .int x2)] := hl
  unfold f_X1_begin at h
  refine lv_aload_n hx hb dX1_begin_0 rfl (lv_at hl 0 rfl) ?_
  refine lv_iconst (v := 0) hx hb dX1_begin_1 (by decide) ?_
  refine gp_X1_length C hG gk_102 wf_X1_15 dX1_begin_2 (fun M2 e_2 H locs hG => ?_)
  have h := nm_at e_2 h
  refine lv_aload_n hx hb dX1_begin_5 rfl (lv_at hl 0 rfl) ?_
  refine lv_iload_n hx hb dX1_begin_6 rfl (lv_at hl 2 rfl) ?_
  refine gp_X1_number C hG gk_102 wf_X1_19 dX1_begin_7 (fun M7 e_7 H locs hG => ?_)
  have h := nm_at e_7 h
  refine lv_aload_n hx hb dX1_begin_10 rfl (lv_at hl 0 rfl) ?_
  refine lv_aload_n hx hb dX1_begin_11 rfl (lv_at hl 1 rfl) ?_
  refine gf_X2_told (j := (i1 + 1)) C hG k_i1 rfl wf_X1_31 dX1_begin_12 ?_
  refine gf_X7_kinds (j := (i1 + 4)) C hG (gk_X2_told k_i1) rfl wf_X1_37 dX1_begin_15 ?_
  refine lv_iload_n hx hb dX1_begin_18 rfl (lv_at hl 2 rfl) ?_
  obtain ⟨hi_19, h⟩ := ix_e h
  refine g_al C hG (gk_X7_kinds (gk_X2_told k_i1)) (gl_X7_kinds (gk_X2_told k_i1)) hi_19 rfl dX1_begin_19 ?_
  refine gp_X1_kind C hG gk_102 wf_X1_22 dX1_begin_20 (fun M20 e_20 H locs hG => ?_)
  have h := nm_at e_20 h
  refine lv_aload_n hx hb dX1_begin_23 rfl (lv_at hl 0 rfl) ?_
  refine lv_aload_n hx hb dX1_begin_24 rfl (lv_at hl 1 rfl) ?_
  refine gf_X2_moment (j := (i1 + 7)) C hG k_i1 rfl wf_X1_42 dX1_begin_25 ?_
  refine gf_X3_strong (j := (i1 + 8)) C hG (gk_X2_moment k_i1) rfl wf_X1_46 dX1_begin_28 ?_
  refine lv_iload_n hx hb dX1_begin_31 rfl (lv_at hl 2 rfl) ?_
  refine g_al C hG (gk_X3_strong (gk_X2_moment k_i1)) (gl_X3_strong (gk_X2_moment k_i1)) hi_19 rfl dX1_begin_32 ?_
  refine gp_X1_strong C hG gk_102 wf_X1_25 dX1_begin_33 (fun M33 e_33 H locs hG => ?_)
  have h := nm_at e_33 h
  refine lv_aload_n hx hb dX1_begin_36 rfl (lv_at hl 0 rfl) ?_
  refine lv_aload_n hx hb dX1_begin_37 rfl (lv_at hl 1 rfl) ?_
  refine gf_X2_told (j := (i1 + 1)) C hG k_i1 rfl wf_X1_31 dX1_begin_38 ?_
  refine gf_X7_leaves (j := (i1 + 5)) C hG (gk_X2_told k_i1) rfl wf_X1_50 dX1_begin_41 ?_
  refine lv_iload_n hx hb dX1_begin_44 rfl (lv_at hl 2 rfl) ?_
  refine g_al C hG (gk_X7_leaves (gk_X2_told k_i1)) (gl_X7_leaves (gk_X2_told k_i1)) hi_19 rfl dX1_begin_45 ?_
  refine gp_X1_leaves C hG gk_102 wf_X1_28 dX1_begin_46 (fun M46 e_46 H locs hG => ?_)
  have h := nm_at e_46 h
  exact hr (Option.some.inj h) hG dX1_begin_49
def f_X1_note (M : Mem) (x1 : Int32) : Option Mem :=
  if (16 : Int32) ≤ (M 102 1) then (
    some M
  ) else (
    chk (ixb (M 102 1) 16) <|
    nm (st M 103 ((M 102 1).toNatClampNeg) x1) fun M18 =>
    nm (st M18 102 1 ((M18 102 1) + (1 : Int32))) fun M26 =>
    some M26
  )
theorem e_X1_note : yX1_note.cls = RX1 ∧ yX1_note.cls ≠ "java/lang/invoke/MethodHandle" ∧ yX1_note.cls ≠ "java/lang/invoke/VarHandle" ∧ (parseMethodDescriptor yX1_note.desc).map (fun d => d.parameters.length) = some 1 := by decide +kernel
set_option maxHeartbeats 4000000 in
set_option maxRecDepth 100000 in
theorem c_X1_note (l : Launch) (D : va_G) (cs : Nat → ClassId) (ad : Nat → Nat) (M : Mem) (x1 : Int32) {z : Mem} (h : f_X1_note M x1 = some z) : CtV l yX1_note cX1_note 2 0 D cs ad [.ref (ad 102), .int x1] M z := by
  refine ct_v (own := RX1) (by decide) rfl (Nat.le_of_ble_eq_true rfl) ?_
  intro p e s m args below meth c Q C hr
  have hx := C.1
  have hb := C.2.1
  have hown := C.2.2.2.1
  have hts := C.2.2.2.2.1
  intro H locs hG ls hl
  have hl : lv_has ls 2 [(0, .ref (ad 102)), (1, .int x1)] := hl
  unfold f_X1_note at h
  refine lv_aload_n hx hb dX1_note_0 rfl (lv_at hl 0 rfl) ?_
  refine gf_X1_length C hG gk_102 wf_X1_15 dX1_note_1 ?_
  refine lv_bipush (v := 16) hx hb dX1_note_4 (by decide) ?_
  refine lv_icmp_ge (tgt := 29) hx hb dX1_note_6 (by decide) (fun c_6 => ?_) (fun c_6 => ?_)
  · have h := if_t c_6 h
    exact hr (Option.some.inj h) hG dX1_note_29
  · have h := if_f c_6 h
    refine lv_aload_n hx hb dX1_note_9 rfl (lv_at hl 0 rfl) ?_
    refine gf_X1_bodies (j := 103) C hG gk_102 rfl wf_X1_9 dX1_note_10 ?_
    refine lv_aload_n hx hb dX1_note_13 rfl (lv_at hl 0 rfl) ?_
    refine gf_X1_length C hG gk_102 wf_X1_15 dX1_note_14 ?_
    refine lv_iload_n hx hb dX1_note_17 rfl (lv_at hl 1 rfl) ?_
    obtain ⟨hi_18, h⟩ := ix_e h
    refine g_as C hG gk_103 gl_103 hi_18 rfl dX1_note_18 (fun M18 e_18 H locs hG => ?_)
    have h := nm_at e_18 h
    refine lv_aload_n hx hb dX1_note_19 rfl (lv_at hl 0 rfl) ?_
    refine lv_dup hx hb dX1_note_20 rfl ?_
    refine gf_X1_length C hG gk_102 wf_X1_15 dX1_note_21 ?_
    refine lv_iconst (v := 1) hx hb dX1_note_24 (by decide) ?_
    refine lv_iadd hx hb dX1_note_25 ?_
    refine gp_X1_length C hG gk_102 wf_X1_15 dX1_note_26 (fun M26 e_26 H locs hG => ?_)
    have h := nm_at e_26 h
    exact hr (Option.some.inj h) hG dX1_note_29
def f_X8_bitOf (x0 : Int32) (x1 : Int32) : Int32 :=
  ((x0 >>> (x1 &&& 31)) &&& (1 : Int32))
theorem e_X8_bitOf : yX8_bitOf.cls ≠ "java/lang/invoke/MethodHandle" ∧ yX8_bitOf.cls ≠ "java/lang/invoke/VarHandle" ∧ (parseMethodDescriptor yX8_bitOf.desc).map (fun d => d.parameters.length) = some 2 := by decide +kernel
set_option maxHeartbeats 4000000 in
set_option maxRecDepth 100000 in
theorem c_X8_bitOf (l : Launch) (D : va_G) (cs : Nat → ClassId) (ad : Nat → Nat) (M : Mem) (x0 : Int32) (x1 : Int32) {z : Int32} (h : f_X8_bitOf x0 x1 = z) : CtI l yX8_bitOf cX8_bitOf 2 .int 0 D cs ad [.int x0, .int x1] M z M := by
  refine ct_i (own := RX8) (by decide) rfl (Nat.le_of_ble_eq_true rfl) ?_
  intro p e s m args below meth c Q C hr
  have hx := C.1
  have hb := C.2.1
  have hown := C.2.2.2.1
  have hts := C.2.2.2.2.1
  intro H locs hG ls hl
  have hl : lv_has ls 2 [(0, .int x0), (1, .int x1)] := hl
  unfold f_X8_bitOf at h
  refine lv_iload_n hx hb dX8_bitOf_0 rfl (lv_at hl 0 rfl) ?_
  refine lv_iload_n hx hb dX8_bitOf_1 rfl (lv_at hl 1 rfl) ?_
  refine lv_ishr hx hb dX8_bitOf_2 ?_
  refine lv_iconst (v := 1) hx hb dX8_bitOf_3 (by decide) ?_
  refine lv_iand hx hb dX8_bitOf_4 ?_
  exact hr h rfl hG dX8_bitOf_5
def f_X8_exchange (M : Mem) (i0 : Nat) (x1 : Int32) (x2 : Int32) : Option Mem :=
  chk (ixb x1 5) <|
  nm ((M i0 x1.toNatClampNeg)) fun x3_3 =>
  chk (ixb x2 5) <|
  nm (st M i0 x1.toNatClampNeg (M i0 x2.toNatClampNeg)) fun M9 =>
  nm (st M9 i0 x2.toNatClampNeg x3_3) fun M13 =>
  some M13
theorem e_X8_exchange : yX8_exchange.cls ≠ "java/lang/invoke/MethodHandle" ∧ yX8_exchange.cls ≠ "java/lang/invoke/VarHandle" ∧ (parseMethodDescriptor yX8_exchange.desc).map (fun d => d.parameters.length) = some 3 := by decide +kernel
set_option maxHeartbeats 4000000 in
set_option maxRecDepth 100000 in
theorem c_X8_exchange (l : Launch) (D : va_G) (cs : Nat → ClassId) (ad : Nat → Nat) (M : Mem) {i0 : Nat} (k_i0 : gK i0 = 10) (l_i0 : gL i0 = 5) (x1 : Int32) (x2 : Int32) {z : Mem} (h : f_X8_exchange M i0 x1 x2 = some z) : CtV l yX8_exchange cX8_exchange 4 0 D cs ad [.ref (ad i0), .int x1, .int x2] M z := by
  refine ct_v (own := RX8) (by decide) rfl (Nat.le_of_ble_eq_true rfl) ?_
  intro p e s m args below meth c Q C hr
  have hx := C.1
  have hb := C.2.1
  have hown := C.2.2.2.1
  have hts := C.2.2.2.2.1
  intro H locs hG ls hl
  have hl : lv_has ls 4 [(0, .ref (ad i0)), (1, .int x1), (2, .int x2)] := hl
  unfold f_X8_exchange at h
  refine lv_aload_n hx hb dX8_exchange_0 rfl (lv_at hl 0 rfl) ?_
  refine lv_iload_n hx hb dX8_exchange_1 rfl (lv_at hl 1 rfl) ?_
  obtain ⟨hi_2, h⟩ := ix_e h
  refine g_al C hG k_i0 l_i0 hi_2 rfl dX8_exchange_2 ?_
  refine lv_topi (fun x3_3 e3_3 => ?_)
  have h := nm_at e3_3 h
  refine lv_istore_n (lv' := [(3, .int x3_3), (0, .ref (ad i0)), (1, .int x1), (2, .int x2)]) hx hb dX8_exchange_3 rfl hl (by decide) rfl (fun ls hl => ?_)
  refine lv_aload_n hx hb dX8_exchange_4 rfl (lv_at hl 1 rfl) ?_
  refine lv_iload_n hx hb dX8_exchange_5 rfl (lv_at hl 2 rfl) ?_
  refine lv_aload_n hx hb dX8_exchange_6 rfl (lv_at hl 1 rfl) ?_
  refine lv_iload_n hx hb dX8_exchange_7 rfl (lv_at hl 3 rfl) ?_
  obtain ⟨hi_8, h⟩ := ix_e h
  refine g_al C hG k_i0 l_i0 hi_8 rfl dX8_exchange_8 ?_
  refine g_as C hG k_i0 l_i0 hi_2 rfl dX8_exchange_9 (fun M9 e_9 H locs hG => ?_)
  have h := nm_at e_9 h
  refine lv_aload_n hx hb dX8_exchange_10 rfl (lv_at hl 1 rfl) ?_
  refine lv_iload_n hx hb dX8_exchange_11 rfl (lv_at hl 3 rfl) ?_
  refine lv_iload_n hx hb dX8_exchange_12 rfl (lv_at hl 0 rfl) ?_
  refine g_as C hG k_i0 l_i0 hi_8 rfl dX8_exchange_13 (fun M13 e_13 H locs hG => ?_)
  have h := nm_at e_13 h
  exact hr (Option.some.inj h) hG dX8_exchange_14
