def f_X9_in (x0 : Int32) (x1 : Int32) (x2 : Int32) : Bool :=
  if x0 < x1 then (
    false
  ) else (
    if x2 < x0 then (
      false
    ) else (
      true
    )
  )
theorem e_X9_in : yX9_in.cls ≠ "java/lang/invoke/MethodHandle" ∧ yX9_in.cls ≠ "java/lang/invoke/VarHandle" ∧ (parseMethodDescriptor yX9_in.desc).map (fun d => d.parameters.length) = some 3 := by decide +kernel
set_option maxHeartbeats 4000000 in
set_option maxRecDepth 100000 in
theorem c_X9_in (l : Launch) (D : va_G) (cs : Nat → ClassId) (ad : Nat → Nat) (M : Mem) (x0 : Int32) (x1 : Int32) (x2 : Int32) {z : Bool} (h : f_X9_in x0 x1 x2 = z) : CtI l yX9_in cX9_in 3 .boolean 0 D cs ad [.int x0, .int x1, .int x2] M (bi z) M := by
  refine ct_z (own := RX9) (by decide) rfl (Nat.le_of_ble_eq_true rfl) ?_
  intro p e s m args below meth c Q C hr
  have hx := C.1
  have hb := C.2.1
  have hown := C.2.2.2.1
  have hts := C.2.2.2.2.1
  intro H locs hG ls hl
  have hl : lv_has ls 3 [(0, .int x0), (1, .int x1), (2, .int x2)] := hl
  unfold f_X9_in at h
  refine lv_iload_n hx hb dX9_in_0 rfl (lv_at hl 0 rfl) ?_
  refine lv_iload_n hx hb dX9_in_1 rfl (lv_at hl 1 rfl) ?_
  refine lv_icmp_lt (tgt := 14) hx hb dX9_in_2 (by decide) (fun c_2 => ?_) (fun c_2 => ?_)
  · have h := if_t c_2 h
    refine lv_iconst (v := 0) hx hb dX9_in_14 (by decide) ?_
    exact hr (congrArg bi h) rfl hG dX9_in_15
  · have h := if_f c_2 h
    refine lv_iload_n hx hb dX9_in_5 rfl (lv_at hl 0 rfl) ?_
    refine lv_iload_n hx hb dX9_in_6 rfl (lv_at hl 2 rfl) ?_
    refine lv_icmp_gt (tgt := 14) hx hb dX9_in_7 (by decide) (fun c_7 => ?_) (fun c_7 => ?_)
    · have h := if_t c_7 h
      refine lv_iconst (v := 0) hx hb dX9_in_14 (by decide) ?_
      exact hr (congrArg bi h) rfl hG dX9_in_15
    · have h := if_f c_7 h
      refine lv_iconst (v := 1) hx hb dX9_in_10 (by decide) ?_
      refine lv_goto (tgt := 15) hx hb dX9_in_11 (by decide) ?_
      exact hr (congrArg bi h) rfl hG dX9_in_15
def f_X9_isRow (x0 : Int32) : Bool :=
  (f_X9_in x0 (0 : Int32) (7 : Int32))
theorem e_X9_isRow : yX9_isRow.cls ≠ "java/lang/invoke/MethodHandle" ∧ yX9_isRow.cls ≠ "java/lang/invoke/VarHandle" ∧ (parseMethodDescriptor yX9_isRow.desc).map (fun d => d.parameters.length) = some 1 := by decide +kernel
set_option maxHeartbeats 4000000 in
set_option maxRecDepth 100000 in
theorem c_X9_isRow (l : Launch) (D : va_G) (cs : Nat → ClassId) (ad : Nat → Nat) (M : Mem) (x0 : Int32) {z : Bool} (h : f_X9_isRow x0 = z) : CtI l yX9_isRow cX9_isRow 1 .boolean 1 D cs ad [.int x0] M (bi z) M := by
  refine ct_z (own := RX9) (by decide) rfl (Nat.le_of_ble_eq_true rfl) ?_
  intro p e s m args below meth c Q C hr
  have hx := C.1
  have hb := C.2.1
  have hown := C.2.2.2.1
  have hts := C.2.2.2.2.1
  intro H locs hG ls hl
  have hl : lv_has ls 1 [(0, .int x0)] := hl
  unfold f_X9_isRow at h
  refine lv_iload_n hx hb dX9_isRow_0 rfl (lv_at hl 0 rfl) ?_
  refine lv_iconst (v := 0) hx hb dX9_isRow_1 (by decide) ?_
  refine lv_bipush (v := 7) hx hb dX9_isRow_2 (by decide) ?_
  refine g_ci hG (g_runS C hG (c_X9_in l D cs ad M x0 (0 : Int32) (7 : Int32) rfl) wm_X9_59 wt_X9_in wz_X9 wc_X9_in e_X9_in (by decide) hl.1 (Nat.le_of_ble_eq_true rfl) dX9_isRow_4) (fun H locs hG => ?_)
  exact hr (congrArg bi h) rfl hG dX9_isRow_7
def f_X9_found (M : Mem) (x1 : Int32) : Int32 × Mem :=
  nm (st M 140 4 x1) fun M2 =>
  (((-1000010 : Int32) - x1), M2)
theorem e_X9_found : yX9_found.cls = RX9 ∧ yX9_found.cls ≠ "java/lang/invoke/MethodHandle" ∧ yX9_found.cls ≠ "java/lang/invoke/VarHandle" ∧ (parseMethodDescriptor yX9_found.desc).map (fun d => d.parameters.length) = some 1 := by decide +kernel
set_option maxHeartbeats 4000000 in
set_option maxRecDepth 100000 in
theorem c_X9_found (l : Launch) (D : va_G) (cs : Nat → ClassId) (ad : Nat → Nat) (M : Mem) (x1 : Int32) {z : Int32 × Mem} (h : f_X9_found M x1 = z) : CtI l yX9_found cX9_found 2 .int 0 D cs ad [.ref (ad 140), .int x1] M z.1 z.2 := by
  refine ct_i (own := RX9) (by decide) rfl (Nat.le_of_ble_eq_true rfl) ?_
  intro p e s m args below meth c Q C hr
  have hx := C.1
  have hb := C.2.1
  have hown := C.2.2.2.1
  have hts := C.2.2.2.2.1
  intro H locs hG ls hl
  have hl : lv_has ls 2 [(0, .ref (ad 140)), (1, .int x1)] := hl
  unfold f_X9_found at h
  refine lv_aload_n hx hb dX9_found_0 rfl (lv_at hl 0 rfl) ?_
  refine lv_iload_n hx hb dX9_found_1 rfl (lv_at hl 1 rfl) ?_
  refine gp_X9_status C hG gk_140 wf_X9_54 dX9_found_2 (fun M2 e_2 H locs hG => ?_)
  have h := nm_at e_2 h
  refine lv_ldc (v := -1000010) hx hb hown (hts _ wk_X9_58) dX9_found_5 ?_
  refine lv_iload_n hx hb dX9_found_7 rfl (lv_at hl 1 rfl) ?_
  refine lv_isub hx hb dX9_found_8 ?_
  exact hr (pf1 h) (pf2 h) hG dX9_found_9
def f_X9_well (M : Mem) (x1 : Int32) : Int32 × Mem :=
  nm (st M 140 4 (0 : Int32)) fun M2 =>
  (x1, M2)
theorem e_X9_well : yX9_well.cls = RX9 ∧ yX9_well.cls ≠ "java/lang/invoke/MethodHandle" ∧ yX9_well.cls ≠ "java/lang/invoke/VarHandle" ∧ (parseMethodDescriptor yX9_well.desc).map (fun d => d.parameters.length) = some 1 := by decide +kernel
set_option maxHeartbeats 4000000 in
set_option maxRecDepth 100000 in
theorem c_X9_well (l : Launch) (D : va_G) (cs : Nat → ClassId) (ad : Nat → Nat) (M : Mem) (x1 : Int32) {z : Int32 × Mem} (h : f_X9_well M x1 = z) : CtI l yX9_well cX9_well 2 .int 0 D cs ad [.ref (ad 140), .int x1] M z.1 z.2 := by
  refine ct_i (own := RX9) (by decide) rfl (Nat.le_of_ble_eq_true rfl) ?_
  intro p e s m args below meth c Q C hr
  have hx := C.1
  have hb := C.2.1
  have hown := C.2.2.2.1
  have hts := C.2.2.2.2.1
  intro H locs hG ls hl
  have hl : lv_has ls 2 [(0, .ref (ad 140)), (1, .int x1)] := hl
  unfold f_X9_well at h
  refine lv_aload_n hx hb dX9_well_0 rfl (lv_at hl 0 rfl) ?_
  refine lv_iconst (v := 0) hx hb dX9_well_1 (by decide) ?_
  refine gp_X9_status C hG gk_140 wf_X9_54 dX9_well_2 (fun M2 e_2 H locs hG => ?_)
  have h := nm_at e_2 h
  refine lv_iload_n hx hb dX9_well_5 rfl (lv_at hl 1 rfl) ?_
  exact hr (pf1 h) (pf2 h) hG dX9_well_6
def f_X9_row_52 (x1 : Int32) (x3 : Int32) (r52 : (Mem × Int32) → Option (Int32 × Mem)) (M : Mem) (x4 : Int32) : Option (Int32 × Mem) :=
  if (40 : Int32) ≤ x4 then (
    nm (f_X9_well M x3) fun q80 =>
    some (q80.1, q80.2)
  ) else (
    chk (ixb (((40 : Int32) * x1) + x4) 320) <|
    nm (st M 143 ((((40 : Int32) * x1) + x4).toNatClampNeg) (0 : Int32)) fun M71 =>
    nm (x4 + (1 : Int32)) fun x4_72 =>
    r52 (M71, x4_72)
  )
def f_X9_row (M : Mem) (x1 : Int32) (x2 : Int32) (x3 : Int32) : Option (Int32 × Mem) :=
  if (f_X9_isRow x1) = true then (
    if (f_X9_in x2 (0 : Int32) (2 : Int32)) = true then (
      if x3 ≤ (40 : Int32) then (
        if (0 : Int32) ≤ x3 then (
          chk (ixb x1 8) <|
          nm (st M 141 x1.toNatClampNeg x2) fun M41 =>
          nm (st M41 142 x1.toNatClampNeg x3) fun M48 =>
          iter (fun rec a => f_X9_row_52 x1 x3 rec a.1 a.2) fuel (M48, (0 : Int32))
        ) else (
          nm (f_X9_found M (4 : Int32)) fun q31 =>
          some (q31.1, q31.2)
        )
      ) else (
        some ((-1000001 : Int32), M)
      )
    ) else (
      some ((-1000001 : Int32), M)
    )
  ) else (
    some ((-1000001 : Int32), M)
  )
theorem e_X9_row : yX9_row.cls = RX9 ∧ yX9_row.cls ≠ "java/lang/invoke/MethodHandle" ∧ yX9_row.cls ≠ "java/lang/invoke/VarHandle" ∧ (parseMethodDescriptor yX9_row.desc).map (fun d => d.parameters.length) = some 3 := by decide +kernel
set_option maxHeartbeats 4000000 in
set_option maxRecDepth 100000 in
theorem c_X9_row (l : Launch) (D : va_G) (cs : Nat → ClassId) (ad : Nat → Nat) (M : Mem) (x1 : Int32) (x2 : Int32) (x3 : Int32) {z : Int32 × Mem} (h : f_X9_row M x1 x2 x3 = some z) : CtI l yX9_row cX9_row 5 .int 2 D cs ad [.ref (ad 140), .int x1, .int x2, .int x3] M z.1 z.2 := by
  refine ct_i (own := RX9) (by decide) rfl (Nat.le_of_ble_eq_true rfl) ?_
  intro p e s m args below meth c Q C hr
  have hx := C.1
  have hb := C.2.1
  have hown := C.2.2.2.1
  have hts := C.2.2.2.2.1
  have J_52 : ∀ (x1 : Int32) (x3 : Int32) (n : Nat) (a : Mem × Int32), iter (fun rec a => f_X9_row_52 x1 x3 rec a.1 a.2) n a = some z → GP p l e (rmk 2) s m args below meth c 0 0 Q D cs ad 5 52 [(0, .ref (ad 140)), (1, .int x1), (3, .int x3), (4, .int a.2)] [] a.1 := by
    intro x1 x3
    refine iter_ind (fun r52 hr52 a h => ?_)
    obtain ⟨M, x4⟩ := a
    have h : f_X9_row_52 x1 x3 r52 M x4 = some z := h
    intro H locs hG ls hl
    have hG : GH D cs ad s M H locs := hG
    have hl : lv_has ls 5 [(0, .ref (ad 140)), (1, .int x1), (3, .int x3), (4, .int x4)] := hl
    unfold f_X9_row_52 at h
    refine lv_iload hx hb dX9_row_52 (lv_at hl 3 rfl) ?_
    refine lv_bipush (v := 40) hx hb dX9_row_54 (by decide) ?_
    refine lv_icmp_ge (tgt := 78) hx hb dX9_row_56 (by decide) (fun c_56 => ?_) (fun c_56 => ?_)
    · have h := if_t c_56 h
      refine lv_aload_n hx hb dX9_row_78 rfl (lv_at hl 0 rfl) ?_
      refine lv_iload_n hx hb dX9_row_79 rfl (lv_at hl 2 rfl) ?_
      obtain ⟨q80, e_80⟩ : ∃ y, f_X9_well M x3 = y := ⟨_, rfl⟩
      have h := nm_at e_80.symm h
      refine g_ci hG (g_runV C hG (gR_9 gk_140) (c_X9_well l D cs ad M x3 e_80) wm_X9_72 wi_X9_well ws_X9_well wz_X9 wc_X9_well e_X9_well (by decide) hl.1 (Nat.le_of_ble_eq_true rfl) dX9_row_80) (fun H locs hG => ?_)
      exact hr (pf1 (Option.some.inj h)) (pf2 (Option.some.inj h)) hG dX9_row_83
    · have h := if_f c_56 h
      refine lv_aload_n hx hb dX9_row_59 rfl (lv_at hl 0 rfl) ?_
      refine gf_X9_items C hG gk_140 wf_X9_16 dX9_row_60 ?_
      refine lv_bipush (v := 40) hx hb dX9_row_63 (by decide) ?_
      refine lv_iload_n hx hb dX9_row_65 rfl (lv_at hl 1 rfl) ?_
      refine lv_imul hx hb dX9_row_66 ?_
      refine lv_iload hx hb dX9_row_67 (lv_at hl 3 rfl) ?_
      refine lv_iadd hx hb dX9_row_69 ?_
      refine lv_iconst (v := 0) hx hb dX9_row_70 (by decide) ?_
      obtain ⟨hi_71, h⟩ := ix_e h
      refine g_as C hG gk_143 gl_143 hi_71 rfl dX9_row_71 (fun M71 e_71 H locs hG => ?_)
      have h := nm_at e_71 h
      obtain ⟨x4_72, e4_72⟩ : ∃ y : Int32, y = x4 + (1 : Int32) := ⟨_, rfl⟩
      have h := nm_at e4_72 h
      refine lv_iinc (v := x4_72) (lv' := [(4, .int x4_72), (0, .ref (ad 140)), (1, .int x1), (3, .int x3)]) hx hb dX9_row_72 hl (k := 3) rfl (by rw [e4_72]; rfl) (by decide) rfl (fun ls hl => ?_)
      refine lv_goto (tgt := 52) hx hb dX9_row_75 (by decide) ?_
      exact hr52 (M71, x4_72) h H locs hG ls (lv_sub hl [1, 2, 3, 0] rfl)
  intro H locs hG ls hl
  have hl : lv_has ls 5 [(0, .ref (ad 140)), (1, .int x1), (2, .int x2), (3, .int x3)] := hl
  unfold f_X9_row at h
  refine lv_iload_n hx hb dX9_row_0 rfl (lv_at hl 1 rfl) ?_
  refine g_ci hG (g_runS C hG (c_X9_isRow l D cs ad M x1 rfl) wm_X9_63 wt_X9_isRow wz_X9 wc_X9_isRow e_X9_isRow (by decide) hl.1 (Nat.le_of_ble_eq_true rfl) dX9_row_1) (fun H locs hG => ?_)
  refine lv_if_eq (tgt := 22) hx hb dX9_row_4 (by decide) (fun c_4 => ?_) (fun c_4 => ?_)
  · have h := if_f (bi_f c_4) h
    refine lv_ldc (v := -1000001) hx hb hown (hts _ wk_X9_67) dX9_row_22 ?_
    exact hr (pf1 (Option.some.inj h)) (pf2 (Option.some.inj h)) hG dX9_row_24
  · have h := if_t (bi_t c_4) h
    refine lv_iload_n hx hb dX9_row_7 rfl (lv_at hl 2 rfl) ?_
    refine lv_iconst (v := 0) hx hb dX9_row_8 (by decide) ?_
    refine lv_iconst (v := 2) hx hb dX9_row_9 (by decide) ?_
    refine g_ci hG (g_runS C hG (c_X9_in l D cs ad M x2 (0 : Int32) (2 : Int32) rfl) wm_X9_59 wt_X9_in wz_X9 wc_X9_in e_X9_in (by decide) hl.1 (Nat.le_of_ble_eq_true rfl) dX9_row_10) (fun H locs hG => ?_)
    refine lv_if_eq (tgt := 22) hx hb dX9_row_13 (by decide) (fun c_13 => ?_) (fun c_13 => ?_)
    · have h := if_f (bi_f c_13) h
      refine lv_ldc (v := -1000001) hx hb hown (hts _ wk_X9_67) dX9_row_22 ?_
      exact hr (pf1 (Option.some.inj h)) (pf2 (Option.some.inj h)) hG dX9_row_24
    · have h := if_t (bi_t c_13) h
      refine lv_iload_n hx hb dX9_row_16 rfl (lv_at hl 3 rfl) ?_
      refine lv_bipush (v := 40) hx hb dX9_row_17 (by decide) ?_
      refine lv_icmp_le (tgt := 25) hx hb dX9_row_19 (by decide) (fun c_19 => ?_) (fun c_19 => ?_)
      · have h := if_t c_19 h
        refine lv_iload_n hx hb dX9_row_25 rfl (lv_at hl 3 rfl) ?_
        refine lv_if_ge (tgt := 35) hx hb dX9_row_26 (by decide) (fun c_26 => ?_) (fun c_26 => ?_)
        · have h := if_t c_26 h
          refine lv_aload_n hx hb dX9_row_35 rfl (lv_at hl 0 rfl) ?_
          refine gf_X9_lane C hG gk_140 wf_X9_7 dX9_row_36 ?_
          refine lv_iload_n hx hb dX9_row_39 rfl (lv_at hl 1 rfl) ?_
          refine lv_iload_n hx hb dX9_row_40 rfl (lv_at hl 2 rfl) ?_
          obtain ⟨hi_41, h⟩ := ix_e h
          refine g_as C hG gk_141 gl_141 hi_41 rfl dX9_row_41 (fun M41 e_41 H locs hG => ?_)
          have h := nm_at e_41 h
          refine lv_aload_n hx hb dX9_row_42 rfl (lv_at hl 0 rfl) ?_
          refine gf_X9_many C hG gk_140 wf_X9_13 dX9_row_43 ?_
          refine lv_iload_n hx hb dX9_row_46 rfl (lv_at hl 1 rfl) ?_
          refine lv_iload_n hx hb dX9_row_47 rfl (lv_at hl 3 rfl) ?_
          refine g_as C hG gk_142 gl_142 hi_41 rfl dX9_row_48 (fun M48 e_48 H locs hG => ?_)
          have h := nm_at e_48 h
          refine lv_iconst (v := 0) hx hb dX9_row_49 (by decide) ?_
          refine lv_istore (lv' := [(4, .int 0), (0, .ref (ad 140)), (1, .int x1), (2, .int x2), (3, .int x3)]) hx hb dX9_row_50 hl (by decide) rfl (fun ls hl => ?_)
          exact J_52 x1 x3 _ (M48, (0 : Int32)) h H locs hG ls (lv_sub hl [1, 2, 4, 0] rfl)
        · have h := if_f c_26 h
          refine lv_aload_n hx hb dX9_row_29 rfl (lv_at hl 0 rfl) ?_
          refine lv_iconst (v := 4) hx hb dX9_row_30 (by decide) ?_
          obtain ⟨q31, e_31⟩ : ∃ y, f_X9_found M (4 : Int32) = y := ⟨_, rfl⟩
          have h := nm_at e_31.symm h
          refine g_ci hG (g_runV C hG (gR_9 gk_140) (c_X9_found l D cs ad M (4 : Int32) e_31) wm_X9_68 wi_X9_found ws_X9_found wz_X9 wc_X9_found e_X9_found (by decide) hl.1 (Nat.le_of_ble_eq_true rfl) dX9_row_31) (fun H locs hG => ?_)
          exact hr (pf1 (Option.some.inj h)) (pf2 (Option.some.inj h)) hG dX9_row_34
      · have h := if_f c_19 h
        refine lv_ldc (v := -1000001) hx hb hown (hts _ wk_X9_67) dX9_row_22 ?_
        exact hr (pf1 (Option.some.inj h)) (pf2 (Option.some.inj h)) hG dX9_row_24
def f_X9_isMissing (M : Mem) (x1 : Int32) : Option Bool :=
  chk (ixb x1 8) <|
  if (M 141 x1.toNatClampNeg) = (-1000000 : Int32) then (
    some true
  ) else (
    some false
  )
theorem e_X9_isMissing : yX9_isMissing.cls = RX9 ∧ yX9_isMissing.cls ≠ "java/lang/invoke/MethodHandle" ∧ yX9_isMissing.cls ≠ "java/lang/invoke/VarHandle" ∧ (parseMethodDescriptor yX9_isMissing.desc).map (fun d => d.parameters.length) = some 1 := by decide +kernel
set_option maxHeartbeats 4000000 in
set_option maxRecDepth 100000 in
theorem c_X9_isMissing (l : Launch) (D : va_G) (cs : Nat → ClassId) (ad : Nat → Nat) (M : Mem) (x1 : Int32) {z : Bool} (h : f_X9_isMissing M x1 = some z) : CtI l yX9_isMissing cX9_isMissing 2 .boolean 0 D cs ad [.ref (ad 140), .int x1] M (bi z) M := by
  refine ct_z (own := RX9) (by decide) rfl (Nat.le_of_ble_eq_true rfl) ?_
  intro p e s m args below meth c Q C hr
  have hx := C.1
  have hb := C.2.1
  have hown := C.2.2.2.1
  have hts := C.2.2.2.2.1
  intro H locs hG ls hl
  have hl : lv_has ls 2 [(0, .ref (ad 140)), (1, .int x1)] := hl
  unfold f_X9_isMissing at h
  refine lv_aload_n hx hb dX9_isMissing_0 rfl (lv_at hl 0 rfl) ?_
  refine gf_X9_lane C hG gk_140 wf_X9_7 dX9_isMissing_1 ?_
  refine lv_iload_n hx hb dX9_isMissing_4 rfl (lv_at hl 1 rfl) ?_
  obtain ⟨hi_5, h⟩ := ix_e h
  refine g_al C hG gk_141 gl_141 hi_5 rfl dX9_isMissing_5 ?_
  refine lv_ldc (v := -1000000) hx hb hown (hts _ wk_X9_53) dX9_isMissing_6 ?_
  refine lv_icmp_ne (tgt := 15) hx hb dX9_isMissing_8 (by decide) (fun c_8 => ?_) (fun c_8 => ?_)
  · have h := if_f c_8 h
    refine lv_iconst (v := 0) hx hb dX9_isMissing_15 (by decide) ?_
    exact hr (congrArg bi (Option.some.inj h)) rfl hG dX9_isMissing_16
  · have h := if_t c_8 h
    refine lv_iconst (v := 1) hx hb dX9_isMissing_11 (by decide) ?_
    refine lv_goto (tgt := 16) hx hb dX9_isMissing_12 (by decide) ?_
    exact hr (congrArg bi (Option.some.inj h)) rfl hG dX9_isMissing_16
def f_X9_cut (x0 : Int32) (x1 : Int32) : Int32 :=
  if x0 = (0 : Int32) then (
    ((x1 <<< ((24 : Int32) &&& 31)) >>> ((24 : Int32) &&& 31))
  ) else (
    if x0 = (1 : Int32) then (
      ((x1 <<< ((16 : Int32) &&& 31)) >>> ((16 : Int32) &&& 31))
    ) else (
      x1
    )
  )
theorem e_X9_cut : yX9_cut.cls ≠ "java/lang/invoke/MethodHandle" ∧ yX9_cut.cls ≠ "java/lang/invoke/VarHandle" ∧ (parseMethodDescriptor yX9_cut.desc).map (fun d => d.parameters.length) = some 2 := by decide +kernel
set_option maxHeartbeats 4000000 in
set_option maxRecDepth 100000 in
theorem c_X9_cut (l : Launch) (D : va_G) (cs : Nat → ClassId) (ad : Nat → Nat) (M : Mem) (x0 : Int32) (x1 : Int32) {z : Int32} (h : f_X9_cut x0 x1 = z) : CtI l yX9_cut cX9_cut 2 .int 0 D cs ad [.int x0, .int x1] M z M := by
  refine ct_i (own := RX9) (by decide) rfl (Nat.le_of_ble_eq_true rfl) ?_
  intro p e s m args below meth c Q C hr
  have hx := C.1
  have hb := C.2.1
  have hown := C.2.2.2.1
  have hts := C.2.2.2.2.1
  intro H locs hG ls hl
  have hl : lv_has ls 2 [(0, .int x0), (1, .int x1)] := hl
  unfold f_X9_cut at h
  refine lv_iload_n hx hb dX9_cut_0 rfl (lv_at hl 0 rfl) ?_
  refine lv_if_ne (tgt := 14) hx hb dX9_cut_1 (by decide) (fun c_1 => ?_) (fun c_1 => ?_)
  · have h := if_f c_1 h
    refine lv_iload_n hx hb dX9_cut_14 rfl (lv_at hl 0 rfl) ?_
    refine lv_iconst (v := 1) hx hb dX9_cut_15 (by decide) ?_
    refine lv_icmp_ne (tgt := 29) hx hb dX9_cut_16 (by decide) (fun c_16 => ?_) (fun c_16 => ?_)
    · have h := if_f c_16 h
      refine lv_iload_n hx hb dX9_cut_29 rfl (lv_at hl 1 rfl) ?_
      exact hr h rfl hG dX9_cut_30
    · have h := if_t c_16 h
      refine lv_iload_n hx hb dX9_cut_19 rfl (lv_at hl 1 rfl) ?_
      refine lv_bipush (v := 16) hx hb dX9_cut_20 (by decide) ?_
      refine lv_ishl hx hb dX9_cut_22 ?_
      refine lv_bipush (v := 16) hx hb dX9_cut_23 (by decide) ?_
      refine lv_ishr hx hb dX9_cut_25 ?_
      refine lv_goto (tgt := 30) hx hb dX9_cut_26 (by decide) ?_
      exact hr h rfl hG dX9_cut_30
  · have h := if_t c_1 h
    refine lv_iload_n hx hb dX9_cut_4 rfl (lv_at hl 1 rfl) ?_
    refine lv_bipush (v := 24) hx hb dX9_cut_5 (by decide) ?_
    refine lv_ishl hx hb dX9_cut_7 ?_
    refine lv_bipush (v := 24) hx hb dX9_cut_8 (by decide) ?_
    refine lv_ishr hx hb dX9_cut_10 ?_
    refine lv_goto (tgt := 30) hx hb dX9_cut_11 (by decide) ?_
    exact hr h rfl hG dX9_cut_30
def f_X9_set (M : Mem) (x1 : Int32) (x2 : Int32) (x3 : Int32) : Option (Int32 × Mem) :=
  if (f_X9_isRow x1) = true then (
    (f_X9_isMissing M x1).bind fun q12 =>
    if q12 = true then (
      nm (f_X9_found M (1 : Int32)) fun q20 =>
      some (q20.1, q20.2)
    ) else (
      chk (ixb x1 8) <|
      if (f_X9_in x2 (0 : Int32) ((M 142 x1.toNatClampNeg) - (1 : Int32))) = true then (
        chk (ixb (((40 : Int32) * x1) + x2) 320) <|
        nm (st M 143 ((((40 : Int32) * x1) + x2).toNatClampNeg) (f_X9_cut (M 141 x1.toNatClampNeg) x3)) fun M66 =>
        nm (f_X9_well M66 (M66 143 (((40 : Int32) * x1) + x2).toNatClampNeg)) fun q79 =>
        some (q79.1, q79.2)
      ) else (
        nm (f_X9_found M (2 : Int32)) fun q42 =>
        some (q42.1, q42.2)
      )
    )
  ) else (
    some ((-1000001 : Int32), M)
  )
theorem e_X9_set : yX9_set.cls = RX9 ∧ yX9_set.cls ≠ "java/lang/invoke/MethodHandle" ∧ yX9_set.cls ≠ "java/lang/invoke/VarHandle" ∧ (parseMethodDescriptor yX9_set.desc).map (fun d => d.parameters.length) = some 3 := by decide +kernel
set_option maxHeartbeats 4000000 in
set_option maxRecDepth 100000 in
theorem c_X9_set (l : Launch) (D : va_G) (cs : Nat → ClassId) (ad : Nat → Nat) (M : Mem) (x1 : Int32) (x2 : Int32) (x3 : Int32) {z : Int32 × Mem} (h : f_X9_set M x1 x2 x3 = some z) : CtI l yX9_set cX9_set 4 .int 2 D cs ad [.ref (ad 140), .int x1, .int x2, .int x3] M z.1 z.2 := by
  refine ct_i (own := RX9) (by decide) rfl (Nat.le_of_ble_eq_true rfl) ?_
  intro p e s m args below meth c Q C hr
  have hx := C.1
  have hb := C.2.1
  have hown := C.2.2.2.1
  have hts := C.2.2.2.2.1
  intro H locs hG ls hl
  have hl : lv_has ls 4 [(0, .ref (ad 140)), (1, .int x1), (2, .int x2), (3, .int x3)] := hl
  unfold f_X9_set at h
  refine lv_iload_n hx hb dX9_set_0 rfl (lv_at hl 1 rfl) ?_
  refine g_ci hG (g_runS C hG (c_X9_isRow l D cs ad M x1 rfl) wm_X9_63 wt_X9_isRow wz_X9 wc_X9_isRow e_X9_isRow (by decide) hl.1 (Nat.le_of_ble_eq_true rfl) dX9_set_1) (fun H locs hG => ?_)
  refine lv_if_ne (tgt := 10) hx hb dX9_set_4 (by decide) (fun c_4 => ?_) (fun c_4 => ?_)
  · have h := if_t (bi_t c_4) h
    refine lv_aload_n hx hb dX9_set_10 rfl (lv_at hl 0 rfl) ?_
    refine lv_iload_n hx hb dX9_set_11 rfl (lv_at hl 1 rfl) ?_
    obtain ⟨q12, e_12, h⟩ := bd_e h
    refine g_ci hG (g_runV C hG (gR_9 gk_140) (c_X9_isMissing l D cs ad M x1 e_12) wm_X9_75 wi_X9_isMissing ws_X9_isMissing wz_X9 wc_X9_isMissing e_X9_isMissing (by decide) hl.1 (Nat.le_of_ble_eq_true rfl) dX9_set_12) (fun H locs hG => ?_)
    refine lv_if_eq (tgt := 24) hx hb dX9_set_15 (by decide) (fun c_15 => ?_) (fun c_15 => ?_)
    · have h := if_f (bi_f c_15) h
      refine lv_iload_n hx hb dX9_set_24 rfl (lv_at hl 2 rfl) ?_
      refine lv_iconst (v := 0) hx hb dX9_set_25 (by decide) ?_
      refine lv_aload_n hx hb dX9_set_26 rfl (lv_at hl 0 rfl) ?_
      refine gf_X9_many C hG gk_140 wf_X9_13 dX9_set_27 ?_
      refine lv_iload_n hx hb dX9_set_30 rfl (lv_at hl 1 rfl) ?_
      obtain ⟨hi_31, h⟩ := ix_e h
      refine g_al C hG gk_142 gl_142 hi_31 rfl dX9_set_31 ?_
      refine lv_iconst (v := 1) hx hb dX9_set_32 (by decide) ?_
      refine lv_isub hx hb dX9_set_33 ?_
      refine g_ci hG (g_runS C hG (c_X9_in l D cs ad M x2 (0 : Int32) ((M 142 x1.toNatClampNeg) - (1 : Int32)) rfl) wm_X9_59 wt_X9_in wz_X9 wc_X9_in e_X9_in (by decide) hl.1 (Nat.le_of_ble_eq_true rfl) dX9_set_34) (fun H locs hG => ?_)
      refine lv_if_ne (tgt := 46) hx hb dX9_set_37 (by decide) (fun c_37 => ?_) (fun c_37 => ?_)
      · have h := if_t (bi_t c_37) h
        refine lv_aload_n hx hb dX9_set_46 rfl (lv_at hl 0 rfl) ?_
        refine gf_X9_items C hG gk_140 wf_X9_16 dX9_set_47 ?_
        refine lv_bipush (v := 40) hx hb dX9_set_50 (by decide) ?_
        refine lv_iload_n hx hb dX9_set_52 rfl (lv_at hl 1 rfl) ?_
        refine lv_imul hx hb dX9_set_53 ?_
        refine lv_iload_n hx hb dX9_set_54 rfl (lv_at hl 2 rfl) ?_
        refine lv_iadd hx hb dX9_set_55 ?_
        refine lv_aload_n hx hb dX9_set_56 rfl (lv_at hl 0 rfl) ?_
        refine gf_X9_lane C hG gk_140 wf_X9_7 dX9_set_57 ?_
        refine lv_iload_n hx hb dX9_set_60 rfl (lv_at hl 1 rfl) ?_
        refine g_al C hG gk_141 gl_141 hi_31 rfl dX9_set_61 ?_
        refine lv_iload_n hx hb dX9_set_62 rfl (lv_at hl 3 rfl) ?_
        refine g_ci hG (g_runS C hG (c_X9_cut l D cs ad M (M 141 x1.toNatClampNeg) x3 rfl) wm_X9_78 wt_X9_cut wz_X9 wc_X9_cut e_X9_cut (by decide) hl.1 (Nat.le_of_ble_eq_true rfl) dX9_set_63) (fun H locs hG => ?_)
        obtain ⟨hi_66, h⟩ := ix_e h
        refine g_as C hG gk_143 gl_143 hi_66 rfl dX9_set_66 (fun M66 e_66 H locs hG => ?_)
        have h := nm_at e_66 h
        refine lv_aload_n hx hb dX9_set_67 rfl (lv_at hl 0 rfl) ?_
        refine lv_aload_n hx hb dX9_set_68 rfl (lv_at hl 0 rfl) ?_
        refine gf_X9_items C hG gk_140 wf_X9_16 dX9_set_69 ?_
        refine lv_bipush (v := 40) hx hb dX9_set_72 (by decide) ?_
        refine lv_iload_n hx hb dX9_set_74 rfl (lv_at hl 1 rfl) ?_
        refine lv_imul hx hb dX9_set_75 ?_
        refine lv_iload_n hx hb dX9_set_76 rfl (lv_at hl 2 rfl) ?_
        refine lv_iadd hx hb dX9_set_77 ?_
        refine g_al C hG gk_143 gl_143 hi_66 rfl dX9_set_78 ?_
        obtain ⟨q79, e_79⟩ : ∃ y, f_X9_well M66 (M66 143 (((40 : Int32) * x1) + x2).toNatClampNeg) = y := ⟨_, rfl⟩
        have h := nm_at e_79.symm h
        refine g_ci hG (g_runV C hG (gR_9 gk_140) (c_X9_well l D cs ad M66 (M66 143 (((40 : Int32) * x1) + x2).toNatClampNeg) e_79) wm_X9_72 wi_X9_well ws_X9_well wz_X9 wc_X9_well e_X9_well (by decide) hl.1 (Nat.le_of_ble_eq_true rfl) dX9_set_79) (fun H locs hG => ?_)
        exact hr (pf1 (Option.some.inj h)) (pf2 (Option.some.inj h)) hG dX9_set_82
      · have h := if_f (bi_f c_37) h
        refine lv_aload_n hx hb dX9_set_40 rfl (lv_at hl 0 rfl) ?_
        refine lv_iconst (v := 2) hx hb dX9_set_41 (by decide) ?_
        obtain ⟨q42, e_42⟩ : ∃ y, f_X9_found M (2 : Int32) = y := ⟨_, rfl⟩
        have h := nm_at e_42.symm h
        refine g_ci hG (g_runV C hG (gR_9 gk_140) (c_X9_found l D cs ad M (2 : Int32) e_42) wm_X9_68 wi_X9_found ws_X9_found wz_X9 wc_X9_found e_X9_found (by decide) hl.1 (Nat.le_of_ble_eq_true rfl) dX9_set_42) (fun H locs hG => ?_)
        exact hr (pf1 (Option.some.inj h)) (pf2 (Option.some.inj h)) hG dX9_set_45
    · have h := if_t (bi_t c_15) h
      refine lv_aload_n hx hb dX9_set_18 rfl (lv_at hl 0 rfl) ?_
      refine lv_iconst (v := 1) hx hb dX9_set_19 (by decide) ?_
      obtain ⟨q20, e_20⟩ : ∃ y, f_X9_found M (1 : Int32) = y := ⟨_, rfl⟩
      have h := nm_at e_20.symm h
      refine g_ci hG (g_runV C hG (gR_9 gk_140) (c_X9_found l D cs ad M (1 : Int32) e_20) wm_X9_68 wi_X9_found ws_X9_found wz_X9 wc_X9_found e_X9_found (by decide) hl.1 (Nat.le_of_ble_eq_true rfl) dX9_set_20) (fun H locs hG => ?_)
      exact hr (pf1 (Option.some.inj h)) (pf2 (Option.some.inj h)) hG dX9_set_23
  · have h := if_f (bi_f c_4) h
    refine lv_ldc (v := -1000001) hx hb hown (hts _ wk_X9_67) dX9_set_7 ?_
    exact hr (pf1 (Option.some.inj h)) (pf2 (Option.some.inj h)) hG dX9_set_9
def f_X9_isPart (M : Mem) (x1 : Int32) (x2 : Int32) (x3 : Int32) : Option Bool :=
  if x2 < (0 : Int32) then (
    some false
  ) else (
    if x3 < (0 : Int32) then (
      some false
    ) else (
      chk (ixb x1 8) <|
      if (M 142 x1.toNatClampNeg) < x2 then (
        some false
      ) else (
        if ((M 142 x1.toNatClampNeg) - x2) < x3 then (
          some false
        ) else (
          some true
        )
      )
    )
  )
theorem e_X9_isPart : yX9_isPart.cls = RX9 ∧ yX9_isPart.cls ≠ "java/lang/invoke/MethodHandle" ∧ yX9_isPart.cls ≠ "java/lang/invoke/VarHandle" ∧ (parseMethodDescriptor yX9_isPart.desc).map (fun d => d.parameters.length) = some 3 := by decide +kernel
set_option maxHeartbeats 4000000 in
set_option maxRecDepth 100000 in
theorem c_X9_isPart (l : Launch) (D : va_G) (cs : Nat → ClassId) (ad : Nat → Nat) (M : Mem) (x1 : Int32) (x2 : Int32) (x3 : Int32) {z : Bool} (h : f_X9_isPart M x1 x2 x3 = some z) : CtI l yX9_isPart cX9_isPart 4 .boolean 0 D cs ad [.ref (ad 140), .int x1, .int x2, .int x3] M (bi z) M := by
  refine ct_z (own := RX9) (by decide) rfl (Nat.le_of_ble_eq_true rfl) ?_
  intro p e s m args below meth c Q C hr
  have hx := C.1
  have hb := C.2.1
  have hown := C.2.2.2.1
  have hts := C.2.2.2.2.1
  intro H locs hG ls hl
  have hl : lv_has ls 4 [(0, .ref (ad 140)), (1, .int x1), (2, .int x2), (3, .int x3)] := hl
  unfold f_X9_isPart at h
  refine lv_iload_n hx hb dX9_isPart_0 rfl (lv_at hl 2 rfl) ?_
  refine lv_if_lt (tgt := 34) hx hb dX9_isPart_1 (by decide) (fun c_1 => ?_) (fun c_1 => ?_)
  · have h := if_t c_1 h
    refine lv_iconst (v := 0) hx hb dX9_isPart_34 (by decide) ?_
    exact hr (congrArg bi (Option.some.inj h)) rfl hG dX9_isPart_35
  · have h := if_f c_1 h
    refine lv_iload_n hx hb dX9_isPart_4 rfl (lv_at hl 3 rfl) ?_
    refine lv_if_lt (tgt := 34) hx hb dX9_isPart_5 (by decide) (fun c_5 => ?_) (fun c_5 => ?_)
    · have h := if_t c_5 h
      refine lv_iconst (v := 0) hx hb dX9_isPart_34 (by decide) ?_
      exact hr (congrArg bi (Option.some.inj h)) rfl hG dX9_isPart_35
    · have h := if_f c_5 h
      refine lv_iload_n hx hb dX9_isPart_8 rfl (lv_at hl 2 rfl) ?_
      refine lv_aload_n hx hb dX9_isPart_9 rfl (lv_at hl 0 rfl) ?_
      refine gf_X9_many C hG gk_140 wf_X9_13 dX9_isPart_10 ?_
      refine lv_iload_n hx hb dX9_isPart_13 rfl (lv_at hl 1 rfl) ?_
      obtain ⟨hi_14, h⟩ := ix_e h
      refine g_al C hG gk_142 gl_142 hi_14 rfl dX9_isPart_14 ?_
      refine lv_icmp_gt (tgt := 34) hx hb dX9_isPart_15 (by decide) (fun c_15 => ?_) (fun c_15 => ?_)
      · have h := if_t c_15 h
        refine lv_iconst (v := 0) hx hb dX9_isPart_34 (by decide) ?_
        exact hr (congrArg bi (Option.some.inj h)) rfl hG dX9_isPart_35
      · have h := if_f c_15 h
        refine lv_iload_n hx hb dX9_isPart_18 rfl (lv_at hl 3 rfl) ?_
        refine lv_aload_n hx hb dX9_isPart_19 rfl (lv_at hl 0 rfl) ?_
        refine gf_X9_many C hG gk_140 wf_X9_13 dX9_isPart_20 ?_
        refine lv_iload_n hx hb dX9_isPart_23 rfl (lv_at hl 1 rfl) ?_
        refine g_al C hG gk_142 gl_142 hi_14 rfl dX9_isPart_24 ?_
        refine lv_iload_n hx hb dX9_isPart_25 rfl (lv_at hl 2 rfl) ?_
        refine lv_isub hx hb dX9_isPart_26 ?_
        refine lv_icmp_gt (tgt := 34) hx hb dX9_isPart_27 (by decide) (fun c_27 => ?_) (fun c_27 => ?_)
        · have h := if_t c_27 h
          refine lv_iconst (v := 0) hx hb dX9_isPart_34 (by decide) ?_
          exact hr (congrArg bi (Option.some.inj h)) rfl hG dX9_isPart_35
        · have h := if_f c_27 h
          refine lv_iconst (v := 1) hx hb dX9_isPart_30 (by decide) ?_
          refine lv_goto (tgt := 35) hx hb dX9_isPart_31 (by decide) ?_
          exact hr (congrArg bi (Option.some.inj h)) rfl hG dX9_isPart_35
def f_X9_copy_129 (x3 : Int32) (x4 : Int32) (x5 : Int32) (r129 : (Mem × Int32) → Option (Int32 × Mem)) (M : Mem) (x6 : Int32) : Option (Int32 × Mem) :=
  if x5 ≤ x6 then (
    nm (f_X9_well M x5) fun q167 =>
    some (q167.1, q167.2)
  ) else (
    chk (ixb x6 40) <|
    chk (ixb ((((40 : Int32) * x3) + x4) + x6) 320) <|
    nm (st M 143 (((((40 : Int32) * x3) + x4) + x6).toNatClampNeg) (M 144 x6.toNatClampNeg)) fun M157 =>
    nm (x6 + (1 : Int32)) fun x6_158 =>
    r129 (M157, x6_158)
  )
def f_X9_copy_92 (x1 : Int32) (x2 : Int32) (x3 : Int32) (x4 : Int32) (x5 : Int32) (r92 : (Mem × Int32) → Option (Int32 × Mem)) (M : Mem) (x6 : Int32) : Option (Int32 × Mem) :=
  if x5 ≤ x6 then (
    iter (fun rec a => f_X9_copy_129 x3 x4 x5 rec a.1 a.2) fuel (M, (0 : Int32))
  ) else (
    chk (ixb ((((40 : Int32) * x1) + x2) + x6) 320) <|
    chk (ixb x6 40) <|
    nm (st M 144 x6.toNatClampNeg (M 143 ((((40 : Int32) * x1) + x2) + x6).toNatClampNeg)) fun M119 =>
    nm (x6 + (1 : Int32)) fun x6_120 =>
    r92 (M119, x6_120)
  )
def f_X9_copy (M : Mem) (x1 : Int32) (x2 : Int32) (x3 : Int32) (x4 : Int32) (x5 : Int32) : Option (Int32 × Mem) :=
  if (f_X9_isRow x1) = true then (
    if (f_X9_isRow x3) = true then (
      (f_X9_isMissing M x1).bind fun q19 =>
      if q19 = true then (
        nm (f_X9_found M (1 : Int32)) fun q35 =>
        some (q35.1, q35.2)
      ) else (
        (f_X9_isMissing M x3).bind fun q27 =>
        if q27 = true then (
          nm (f_X9_found M (1 : Int32)) fun q35 =>
          some (q35.1, q35.2)
        ) else (
          chk (ixb x1 8) <|
          chk (ixb x3 8) <|
          if (M 141 x1.toNatClampNeg) = (M 141 x3.toNatClampNeg) then (
            (f_X9_isPart M x1 x2 x5).bind fun q65 =>
            if q65 = true then (
              (f_X9_isPart M x3 x4 x5).bind fun q77 =>
              if q77 = true then (
                iter (fun rec a => f_X9_copy_92 x1 x2 x3 x4 x5 rec a.1 a.2) fuel (M, (0 : Int32))
              ) else (
                nm (f_X9_found M (2 : Int32)) fun q85 =>
                some (q85.1, q85.2)
              )
            ) else (
              nm (f_X9_found M (2 : Int32)) fun q85 =>
              some (q85.1, q85.2)
            )
          ) else (
            nm (f_X9_found M (5 : Int32)) fun q56 =>
            some (q56.1, q56.2)
          )
        )
      )
    ) else (
      some ((-1000001 : Int32), M)
    )
  ) else (
    some ((-1000001 : Int32), M)
  )
theorem e_X9_copy : yX9_copy.cls = RX9 ∧ yX9_copy.cls ≠ "java/lang/invoke/MethodHandle" ∧ yX9_copy.cls ≠ "java/lang/invoke/VarHandle" ∧ (parseMethodDescriptor yX9_copy.desc).map (fun d => d.parameters.length) = some 5 := by decide +kernel
set_option maxHeartbeats 4000000 in
set_option maxRecDepth 100000 in
theorem c_X9_copy (l : Launch) (D : va_G) (cs : Nat → ClassId) (ad : Nat → Nat) (M : Mem) (x1 : Int32) (x2 : Int32) (x3 : Int32) (x4 : Int32) (x5 : Int32) {z : Int32 × Mem} (h : f_X9_copy M x1 x2 x3 x4 x5 = some z) : CtI l yX9_copy cX9_copy 7 .int 2 D cs ad [.ref (ad 140), .int x1, .int x2, .int x3, .int x4, .int x5] M z.1 z.2 := by
  refine ct_i (own := RX9) (by decide) rfl (Nat.le_of_ble_eq_true rfl) ?_
  intro p e s m args below meth c Q C hr
  have hx := C.1
  have hb := C.2.1
  have hown := C.2.2.2.1
  have hts := C.2.2.2.2.1
  have J_129 : ∀ (x3 : Int32) (x4 : Int32) (x5 : Int32) (n : Nat) (a : Mem × Int32), iter (fun rec a => f_X9_copy_129 x3 x4 x5 rec a.1 a.2) n a = some z → GP p l e (rmk 2) s m args below meth c 0 0 Q D cs ad 7 129 [(0, .ref (ad 140)), (3, .int x3), (4, .int x4), (5, .int x5), (6, .int a.2)] [] a.1 := by
    intro x3 x4 x5
    refine iter_ind (fun r129 hr129 a h => ?_)
    obtain ⟨M, x6⟩ := a
    have h : f_X9_copy_129 x3 x4 x5 r129 M x6 = some z := h
    intro H locs hG ls hl
    have hG : GH D cs ad s M H locs := hG
    have hl : lv_has ls 7 [(0, .ref (ad 140)), (3, .int x3), (4, .int x4), (5, .int x5), (6, .int x6)] := hl
    unfold f_X9_copy_129 at h
    refine lv_iload hx hb dX9_copy_129 (lv_at hl 4 rfl) ?_
    refine lv_iload hx hb dX9_copy_131 (lv_at hl 3 rfl) ?_
    refine lv_icmp_ge (tgt := 164) hx hb dX9_copy_133 (by decide) (fun c_133 => ?_) (fun c_133 => ?_)
    · have h := if_t c_133 h
      refine lv_aload_n hx hb dX9_copy_164 rfl (lv_at hl 0 rfl) ?_
      refine lv_iload hx hb dX9_copy_165 (lv_at hl 3 rfl) ?_
      obtain ⟨q167, e_167⟩ : ∃ y, f_X9_well M x5 = y := ⟨_, rfl⟩
      have h := nm_at e_167.symm h
      refine g_ci hG (g_runV C hG (gR_9 gk_140) (c_X9_well l D cs ad M x5 e_167) wm_X9_72 wi_X9_well ws_X9_well wz_X9 wc_X9_well e_X9_well (by decide) hl.1 (Nat.le_of_ble_eq_true rfl) dX9_copy_167) (fun H locs hG => ?_)
      exact hr (pf1 (Option.some.inj h)) (pf2 (Option.some.inj h)) hG dX9_copy_170
    · have h := if_f c_133 h
      refine lv_aload_n hx hb dX9_copy_136 rfl (lv_at hl 0 rfl) ?_
      refine gf_X9_items C hG gk_140 wf_X9_16 dX9_copy_137 ?_
      refine lv_bipush (v := 40) hx hb dX9_copy_140 (by decide) ?_
      refine lv_iload_n hx hb dX9_copy_142 rfl (lv_at hl 1 rfl) ?_
      refine lv_imul hx hb dX9_copy_143 ?_
      refine lv_iload hx hb dX9_copy_144 (lv_at hl 2 rfl) ?_
      refine lv_iadd hx hb dX9_copy_146 ?_
      refine lv_iload hx hb dX9_copy_147 (lv_at hl 4 rfl) ?_
      refine lv_iadd hx hb dX9_copy_149 ?_
      refine lv_aload_n hx hb dX9_copy_150 rfl (lv_at hl 0 rfl) ?_
      refine gf_X9_spare C hG gk_140 wf_X9_19 dX9_copy_151 ?_
      refine lv_iload hx hb dX9_copy_154 (lv_at hl 4 rfl) ?_
      obtain ⟨hi_156, h⟩ := ix_e h
      refine g_al C hG gk_144 gl_144 hi_156 rfl dX9_copy_156 ?_
      obtain ⟨hi_157, h⟩ := ix_e h
      refine g_as C hG gk_143 gl_143 hi_157 rfl dX9_copy_157 (fun M157 e_157 H locs hG => ?_)
      have h := nm_at e_157 h
      obtain ⟨x6_158, e6_158⟩ : ∃ y : Int32, y = x6 + (1 : Int32) := ⟨_, rfl⟩
      have h := nm_at e6_158 h
      refine lv_iinc (v := x6_158) (lv' := [(6, .int x6_158), (0, .ref (ad 140)), (3, .int x3), (4, .int x4), (5, .int x5)]) hx hb dX9_copy_158 hl (k := 4) rfl (by rw [e6_158]; rfl) (by decide) rfl (fun ls hl => ?_)
      refine lv_goto (tgt := 129) hx hb dX9_copy_161 (by decide) ?_
      exact hr129 (M157, x6_158) h H locs hG ls (lv_sub hl [1, 2, 3, 4, 0] rfl)
  have J_92 : ∀ (x1 : Int32) (x2 : Int32) (x3 : Int32) (x4 : Int32) (x5 : Int32) (n : Nat) (a : Mem × Int32), iter (fun rec a => f_X9_copy_92 x1 x2 x3 x4 x5 rec a.1 a.2) n a = some z → GP p l e (rmk 2) s m args below meth c 0 0 Q D cs ad 7 92 [(0, .ref (ad 140)), (1, .int x1), (2, .int x2), (3, .int x3), (4, .int x4), (5, .int x5), (6, .int a.2)] [] a.1 := by
    intro x1 x2 x3 x4 x5
    refine iter_ind (fun r92 hr92 a h => ?_)
    obtain ⟨M, x6⟩ := a
    have h : f_X9_copy_92 x1 x2 x3 x4 x5 r92 M x6 = some z := h
    intro H locs hG ls hl
    have hG : GH D cs ad s M H locs := hG
    have hl : lv_has ls 7 [(0, .ref (ad 140)), (1, .int x1), (2, .int x2), (3, .int x3), (4, .int x4), (5, .int x5), (6, .int x6)] := hl
    unfold f_X9_copy_92 at h
    refine lv_iload hx hb dX9_copy_92 (lv_at hl 6 rfl) ?_
    refine lv_iload hx hb dX9_copy_94 (lv_at hl 5 rfl) ?_
    refine lv_icmp_ge (tgt := 126) hx hb dX9_copy_96 (by decide) (fun c_96 => ?_) (fun c_96 => ?_)
    · have h := if_t c_96 h
      refine lv_iconst (v := 0) hx hb dX9_copy_126 (by decide) ?_
      refine lv_istore (lv' := [(6, .int 0), (0, .ref (ad 140)), (1, .int x1), (2, .int x2), (3, .int x3), (4, .int x4), (5, .int x5)]) hx hb dX9_copy_127 hl (by decide) rfl (fun ls hl => ?_)
      exact J_129 x3 x4 x5 _ (M, (0 : Int32)) h H locs hG ls (lv_sub hl [1, 4, 5, 6, 0] rfl)
    · have h := if_f c_96 h
      refine lv_aload_n hx hb dX9_copy_99 rfl (lv_at hl 0 rfl) ?_
      refine gf_X9_spare C hG gk_140 wf_X9_19 dX9_copy_100 ?_
      refine lv_iload hx hb dX9_copy_103 (lv_at hl 6 rfl) ?_
      refine lv_aload_n hx hb dX9_copy_105 rfl (lv_at hl 0 rfl) ?_
      refine gf_X9_items C hG gk_140 wf_X9_16 dX9_copy_106 ?_
      refine lv_bipush (v := 40) hx hb dX9_copy_109 (by decide) ?_
      refine lv_iload_n hx hb dX9_copy_111 rfl (lv_at hl 1 rfl) ?_
      refine lv_imul hx hb dX9_copy_112 ?_
      refine lv_iload_n hx hb dX9_copy_113 rfl (lv_at hl 2 rfl) ?_
      refine lv_iadd hx hb dX9_copy_114 ?_
      refine lv_iload hx hb dX9_copy_115 (lv_at hl 6 rfl) ?_
      refine lv_iadd hx hb dX9_copy_117 ?_
      obtain ⟨hi_118, h⟩ := ix_e h
      refine g_al C hG gk_143 gl_143 hi_118 rfl dX9_copy_118 ?_
      obtain ⟨hi_119, h⟩ := ix_e h
      refine g_as C hG gk_144 gl_144 hi_119 rfl dX9_copy_119 (fun M119 e_119 H locs hG => ?_)
      have h := nm_at e_119 h
      obtain ⟨x6_120, e6_120⟩ : ∃ y : Int32, y = x6 + (1 : Int32) := ⟨_, rfl⟩
      have h := nm_at e6_120 h
      refine lv_iinc (v := x6_120) (lv' := [(6, .int x6_120), (0, .ref (ad 140)), (1, .int x1), (2, .int x2), (3, .int x3), (4, .int x4), (5, .int x5)]) hx hb dX9_copy_120 hl (k := 6) rfl (by rw [e6_120]; rfl) (by decide) rfl (fun ls hl => ?_)
      refine lv_goto (tgt := 92) hx hb dX9_copy_123 (by decide) ?_
      exact hr92 (M119, x6_120) h H locs hG ls (lv_sub hl [1, 2, 3, 4, 5, 6, 0] rfl)
  intro H locs hG ls hl
  have hl : lv_has ls 7 [(0, .ref (ad 140)), (1, .int x1), (2, .int x2), (3, .int x3), (4, .int x4), (5, .int x5)] := hl
  unfold f_X9_copy at h
  refine lv_iload_n hx hb dX9_copy_0 rfl (lv_at hl 1 rfl) ?_
  refine g_ci hG (g_runS C hG (c_X9_isRow l D cs ad M x1 rfl) wm_X9_63 wt_X9_isRow wz_X9 wc_X9_isRow e_X9_isRow (by decide) hl.1 (Nat.le_of_ble_eq_true rfl) dX9_copy_1) (fun H locs hG => ?_)
  refine lv_if_eq (tgt := 14) hx hb dX9_copy_4 (by decide) (fun c_4 => ?_) (fun c_4 => ?_)
  · have h := if_f (bi_f c_4) h
    refine lv_ldc (v := -1000001) hx hb hown (hts _ wk_X9_67) dX9_copy_14 ?_
    exact hr (pf1 (Option.some.inj h)) (pf2 (Option.some.inj h)) hG dX9_copy_16
  · have h := if_t (bi_t c_4) h
    refine lv_iload_n hx hb dX9_copy_7 rfl (lv_at hl 3 rfl) ?_
    refine g_ci hG (g_runS C hG (c_X9_isRow l D cs ad M x3 rfl) wm_X9_63 wt_X9_isRow wz_X9 wc_X9_isRow e_X9_isRow (by decide) hl.1 (Nat.le_of_ble_eq_true rfl) dX9_copy_8) (fun H locs hG => ?_)
    refine lv_if_ne (tgt := 17) hx hb dX9_copy_11 (by decide) (fun c_11 => ?_) (fun c_11 => ?_)
    · have h := if_t (bi_t c_11) h
      refine lv_aload_n hx hb dX9_copy_17 rfl (lv_at hl 0 rfl) ?_
      refine lv_iload_n hx hb dX9_copy_18 rfl (lv_at hl 1 rfl) ?_
      obtain ⟨q19, e_19, h⟩ := bd_e h
      refine g_ci hG (g_runV C hG (gR_9 gk_140) (c_X9_isMissing l D cs ad M x1 e_19) wm_X9_75 wi_X9_isMissing ws_X9_isMissing wz_X9 wc_X9_isMissing e_X9_isMissing (by decide) hl.1 (Nat.le_of_ble_eq_true rfl) dX9_copy_19) (fun H locs hG => ?_)
      refine lv_if_ne (tgt := 33) hx hb dX9_copy_22 (by decide) (fun c_22 => ?_) (fun c_22 => ?_)
      · have h := if_t (bi_t c_22) h
        refine lv_aload_n hx hb dX9_copy_33 rfl (lv_at hl 0 rfl) ?_
        refine lv_iconst (v := 1) hx hb dX9_copy_34 (by decide) ?_
        obtain ⟨q35, e_35⟩ : ∃ y, f_X9_found M (1 : Int32) = y := ⟨_, rfl⟩
        have h := nm_at e_35.symm h
        refine g_ci hG (g_runV C hG (gR_9 gk_140) (c_X9_found l D cs ad M (1 : Int32) e_35) wm_X9_68 wi_X9_found ws_X9_found wz_X9 wc_X9_found e_X9_found (by decide) hl.1 (Nat.le_of_ble_eq_true rfl) dX9_copy_35) (fun H locs hG => ?_)
        exact hr (pf1 (Option.some.inj h)) (pf2 (Option.some.inj h)) hG dX9_copy_38
      · have h := if_f (bi_f c_22) h
        refine lv_aload_n hx hb dX9_copy_25 rfl (lv_at hl 0 rfl) ?_
        refine lv_iload_n hx hb dX9_copy_26 rfl (lv_at hl 3 rfl) ?_
        obtain ⟨q27, e_27, h⟩ := bd_e h
        refine g_ci hG (g_runV C hG (gR_9 gk_140) (c_X9_isMissing l D cs ad M x3 e_27) wm_X9_75 wi_X9_isMissing ws_X9_isMissing wz_X9 wc_X9_isMissing e_X9_isMissing (by decide) hl.1 (Nat.le_of_ble_eq_true rfl) dX9_copy_27) (fun H locs hG => ?_)
        refine lv_if_eq (tgt := 39) hx hb dX9_copy_30 (by decide) (fun c_30 => ?_) (fun c_30 => ?_)
        · have h := if_f (bi_f c_30) h
          refine lv_aload_n hx hb dX9_copy_39 rfl (lv_at hl 0 rfl) ?_
          refine gf_X9_lane C hG gk_140 wf_X9_7 dX9_copy_40 ?_
          refine lv_iload_n hx hb dX9_copy_43 rfl (lv_at hl 1 rfl) ?_
          obtain ⟨hi_44, h⟩ := ix_e h
          refine g_al C hG gk_141 gl_141 hi_44 rfl dX9_copy_44 ?_
          refine lv_aload_n hx hb dX9_copy_45 rfl (lv_at hl 0 rfl) ?_
          refine gf_X9_lane C hG gk_140 wf_X9_7 dX9_copy_46 ?_
          refine lv_iload_n hx hb dX9_copy_49 rfl (lv_at hl 3 rfl) ?_
          obtain ⟨hi_50, h⟩ := ix_e h
          refine g_al C hG gk_141 gl_141 hi_50 rfl dX9_copy_50 ?_
          refine lv_icmp_eq (tgt := 60) hx hb dX9_copy_51 (by decide) (fun c_51 => ?_) (fun c_51 => ?_)
          · have h := if_t c_51 h
            refine lv_aload_n hx hb dX9_copy_60 rfl (lv_at hl 0 rfl) ?_
            refine lv_iload_n hx hb dX9_copy_61 rfl (lv_at hl 1 rfl) ?_
            refine lv_iload_n hx hb dX9_copy_62 rfl (lv_at hl 2 rfl) ?_
            refine lv_iload hx hb dX9_copy_63 (lv_at hl 5 rfl) ?_
            obtain ⟨q65, e_65, h⟩ := bd_e h
            refine g_ci hG (g_runV C hG (gR_9 gk_140) (c_X9_isPart l D cs ad M x1 x2 x5 e_65) wm_X9_82 wi_X9_isPart ws_X9_isPart wz_X9 wc_X9_isPart e_X9_isPart (by decide) hl.1 (Nat.le_of_ble_eq_true rfl) dX9_copy_65) (fun H locs hG => ?_)
            refine lv_if_eq (tgt := 83) hx hb dX9_copy_68 (by decide) (fun c_68 => ?_) (fun c_68 => ?_)
            · have h := if_f (bi_f c_68) h
              refine lv_aload_n hx hb dX9_copy_83 rfl (lv_at hl 0 rfl) ?_
              refine lv_iconst (v := 2) hx hb dX9_copy_84 (by decide) ?_
              obtain ⟨q85, e_85⟩ : ∃ y, f_X9_found M (2 : Int32) = y := ⟨_, rfl⟩
              have h := nm_at e_85.symm h
              refine g_ci hG (g_runV C hG (gR_9 gk_140) (c_X9_found l D cs ad M (2 : Int32) e_85) wm_X9_68 wi_X9_found ws_X9_found wz_X9 wc_X9_found e_X9_found (by decide) hl.1 (Nat.le_of_ble_eq_true rfl) dX9_copy_85) (fun H locs hG => ?_)
              exact hr (pf1 (Option.some.inj h)) (pf2 (Option.some.inj h)) hG dX9_copy_88
            · have h := if_t (bi_t c_68) h
              refine lv_aload_n hx hb dX9_copy_71 rfl (lv_at hl 0 rfl) ?_
              refine lv_iload_n hx hb dX9_copy_72 rfl (lv_at hl 3 rfl) ?_
              refine lv_iload hx hb dX9_copy_73 (lv_at hl 4 rfl) ?_
              refine lv_iload hx hb dX9_copy_75 (lv_at hl 5 rfl) ?_
              obtain ⟨q77, e_77, h⟩ := bd_e h
              refine g_ci hG (g_runV C hG (gR_9 gk_140) (c_X9_isPart l D cs ad M x3 x4 x5 e_77) wm_X9_82 wi_X9_isPart ws_X9_isPart wz_X9 wc_X9_isPart e_X9_isPart (by decide) hl.1 (Nat.le_of_ble_eq_true rfl) dX9_copy_77) (fun H locs hG => ?_)
              refine lv_if_ne (tgt := 89) hx hb dX9_copy_80 (by decide) (fun c_80 => ?_) (fun c_80 => ?_)
              · have h := if_t (bi_t c_80) h
                refine lv_iconst (v := 0) hx hb dX9_copy_89 (by decide) ?_
                refine lv_istore (lv' := [(6, .int 0), (0, .ref (ad 140)), (1, .int x1), (2, .int x2), (3, .int x3), (4, .int x4), (5, .int x5)]) hx hb dX9_copy_90 hl (by decide) rfl (fun ls hl => ?_)
                exact J_92 x1 x2 x3 x4 x5 _ (M, (0 : Int32)) h H locs hG ls (lv_sub hl [1, 2, 3, 4, 5, 6, 0] rfl)
              · have h := if_f (bi_f c_80) h
                refine lv_aload_n hx hb dX9_copy_83 rfl (lv_at hl 0 rfl) ?_
                refine lv_iconst (v := 2) hx hb dX9_copy_84 (by decide) ?_
                obtain ⟨q85, e_85⟩ : ∃ y, f_X9_found M (2 : Int32) = y := ⟨_, rfl⟩
                have h := nm_at e_85.symm h
                refine g_ci hG (g_runV C hG (gR_9 gk_140) (c_X9_found l D cs ad M (2 : Int32) e_85) wm_X9_68 wi_X9_found ws_X9_found wz_X9 wc_X9_found e_X9_found (by decide) hl.1 (Nat.le_of_ble_eq_true rfl) dX9_copy_85) (fun H locs hG => ?_)
                exact hr (pf1 (Option.some.inj h)) (pf2 (Option.some.inj h)) hG dX9_copy_88
          · have h := if_f c_51 h
            refine lv_aload_n hx hb dX9_copy_54 rfl (lv_at hl 0 rfl) ?_
            refine lv_iconst (v := 5) hx hb dX9_copy_55 (by decide) ?_
            obtain ⟨q56, e_56⟩ : ∃ y, f_X9_found M (5 : Int32) = y := ⟨_, rfl⟩
            have h := nm_at e_56.symm h
            refine g_ci hG (g_runV C hG (gR_9 gk_140) (c_X9_found l D cs ad M (5 : Int32) e_56) wm_X9_68 wi_X9_found ws_X9_found wz_X9 wc_X9_found e_X9_found (by decide) hl.1 (Nat.le_of_ble_eq_true rfl) dX9_copy_56) (fun H locs hG => ?_)
            exact hr (pf1 (Option.some.inj h)) (pf2 (Option.some.inj h)) hG dX9_copy_59
        · have h := if_t (bi_t c_30) h
          refine lv_aload_n hx hb dX9_copy_33 rfl (lv_at hl 0 rfl) ?_
          refine lv_iconst (v := 1) hx hb dX9_copy_34 (by decide) ?_
          obtain ⟨q35, e_35⟩ : ∃ y, f_X9_found M (1 : Int32) = y := ⟨_, rfl⟩
          have h := nm_at e_35.symm h
          refine g_ci hG (g_runV C hG (gR_9 gk_140) (c_X9_found l D cs ad M (1 : Int32) e_35) wm_X9_68 wi_X9_found ws_X9_found wz_X9 wc_X9_found e_X9_found (by decide) hl.1 (Nat.le_of_ble_eq_true rfl) dX9_copy_35) (fun H locs hG => ?_)
          exact hr (pf1 (Option.some.inj h)) (pf2 (Option.some.inj h)) hG dX9_copy_38
    · have h := if_f (bi_f c_11) h
      refine lv_ldc (v := -1000001) hx hb hown (hts _ wk_X9_67) dX9_copy_14 ?_
      exact hr (pf1 (Option.some.inj h)) (pf2 (Option.some.inj h)) hG dX9_copy_16
def f_X9_drop (M : Mem) (x1 : Int32) : Option (Int32 × Mem) :=
  if (f_X9_isRow x1) = true then (
    (f_X9_isMissing M x1).bind fun q12 =>
    if q12 = true then (
      nm (f_X9_found M (1 : Int32)) fun q20 =>
      some (q20.1, q20.2)
    ) else (
      chk (ixb x1 8) <|
      nm (st M 141 x1.toNatClampNeg (-1000000 : Int32)) fun M31 =>
      nm (f_X9_well M31 (M31 142 x1.toNatClampNeg)) fun q39 =>
      some (q39.1, q39.2)
    )
  ) else (
    some ((-1000001 : Int32), M)
  )
theorem e_X9_drop : yX9_drop.cls = RX9 ∧ yX9_drop.cls ≠ "java/lang/invoke/MethodHandle" ∧ yX9_drop.cls ≠ "java/lang/invoke/VarHandle" ∧ (parseMethodDescriptor yX9_drop.desc).map (fun d => d.parameters.length) = some 1 := by decide +kernel
set_option maxHeartbeats 4000000 in
set_option maxRecDepth 100000 in
theorem c_X9_drop (l : Launch) (D : va_G) (cs : Nat → ClassId) (ad : Nat → Nat) (M : Mem) (x1 : Int32) {z : Int32 × Mem} (h : f_X9_drop M x1 = some z) : CtI l yX9_drop cX9_drop 2 .int 2 D cs ad [.ref (ad 140), .int x1] M z.1 z.2 := by
  refine ct_i (own := RX9) (by decide) rfl (Nat.le_of_ble_eq_true rfl) ?_
  intro p e s m args below meth c Q C hr
  have hx := C.1
  have hb := C.2.1
  have hown := C.2.2.2.1
  have hts := C.2.2.2.2.1
  intro H locs hG ls hl
  have hl : lv_has ls 2 [(0, .ref (ad 140)), (1, .int x1)] := hl
  unfold f_X9_drop at h
  refine lv_iload_n hx hb dX9_drop_0 rfl (lv_at hl 1 rfl) ?_
  refine g_ci hG (g_runS C hG (c_X9_isRow l D cs ad M x1 rfl) wm_X9_63 wt_X9_isRow wz_X9 wc_X9_isRow e_X9_isRow (by decide) hl.1 (Nat.le_of_ble_eq_true rfl) dX9_drop_1) (fun H locs hG => ?_)
  refine lv_if_ne (tgt := 10) hx hb dX9_drop_4 (by decide) (fun c_4 => ?_) (fun c_4 => ?_)
  · have h := if_t (bi_t c_4) h
    refine lv_aload_n hx hb dX9_drop_10 rfl (lv_at hl 0 rfl) ?_
    refine lv_iload_n hx hb dX9_drop_11 rfl (lv_at hl 1 rfl) ?_
    obtain ⟨q12, e_12, h⟩ := bd_e h
    refine g_ci hG (g_runV C hG (gR_9 gk_140) (c_X9_isMissing l D cs ad M x1 e_12) wm_X9_75 wi_X9_isMissing ws_X9_isMissing wz_X9 wc_X9_isMissing e_X9_isMissing (by decide) hl.1 (Nat.le_of_ble_eq_true rfl) dX9_drop_12) (fun H locs hG => ?_)
    refine lv_if_eq (tgt := 24) hx hb dX9_drop_15 (by decide) (fun c_15 => ?_) (fun c_15 => ?_)
    · have h := if_f (bi_f c_15) h
      refine lv_aload_n hx hb dX9_drop_24 rfl (lv_at hl 0 rfl) ?_
      refine gf_X9_lane C hG gk_140 wf_X9_7 dX9_drop_25 ?_
      refine lv_iload_n hx hb dX9_drop_28 rfl (lv_at hl 1 rfl) ?_
      refine lv_ldc (v := -1000000) hx hb hown (hts _ wk_X9_53) dX9_drop_29 ?_
      obtain ⟨hi_31, h⟩ := ix_e h
      refine g_as C hG gk_141 gl_141 hi_31 rfl dX9_drop_31 (fun M31 e_31 H locs hG => ?_)
      have h := nm_at e_31 h
      refine lv_aload_n hx hb dX9_drop_32 rfl (lv_at hl 0 rfl) ?_
      refine lv_aload_n hx hb dX9_drop_33 rfl (lv_at hl 0 rfl) ?_
      refine gf_X9_many C hG gk_140 wf_X9_13 dX9_drop_34 ?_
      refine lv_iload_n hx hb dX9_drop_37 rfl (lv_at hl 1 rfl) ?_
      refine g_al C hG gk_142 gl_142 hi_31 rfl dX9_drop_38 ?_
      obtain ⟨q39, e_39⟩ : ∃ y, f_X9_well M31 (M31 142 x1.toNatClampNeg) = y := ⟨_, rfl⟩
      have h := nm_at e_39.symm h
      refine g_ci hG (g_runV C hG (gR_9 gk_140) (c_X9_well l D cs ad M31 (M31 142 x1.toNatClampNeg) e_39) wm_X9_72 wi_X9_well ws_X9_well wz_X9 wc_X9_well e_X9_well (by decide) hl.1 (Nat.le_of_ble_eq_true rfl) dX9_drop_39) (fun H locs hG => ?_)
      exact hr (pf1 (Option.some.inj h)) (pf2 (Option.some.inj h)) hG dX9_drop_42
    · have h := if_t (bi_t c_15) h
      refine lv_aload_n hx hb dX9_drop_18 rfl (lv_at hl 0 rfl) ?_
      refine lv_iconst (v := 1) hx hb dX9_drop_19 (by decide) ?_
      obtain ⟨q20, e_20⟩ : ∃ y, f_X9_found M (1 : Int32) = y := ⟨_, rfl⟩
      have h := nm_at e_20.symm h
      refine g_ci hG (g_runV C hG (gR_9 gk_140) (c_X9_found l D cs ad M (1 : Int32) e_20) wm_X9_68 wi_X9_found ws_X9_found wz_X9 wc_X9_found e_X9_found (by decide) hl.1 (Nat.le_of_ble_eq_true rfl) dX9_drop_20) (fun H locs hG => ?_)
      exact hr (pf1 (Option.some.inj h)) (pf2 (Option.some.inj h)) hG dX9_drop_23
  · have h := if_f (bi_f c_4) h
    refine lv_ldc (v := -1000001) hx hb hown (hts _ wk_X9_67) dX9_drop_7 ?_
    exact hr (pf1 (Option.some.inj h)) (pf2 (Option.some.inj h)) hG dX9_drop_9
def f_X9_feed (M : Mem) (x1 : Int32) : Option (Int32 × Mem) :=
  if (f_X9_in x1 (0 : Int32) (255 : Int32)) = true then (
    if (M 140 6) = (120 : Int32) then (
      some ((-1000003 : Int32), M)
    ) else (
      chk (ixb (M 140 6) 120) <|
      nm (st M 145 ((M 140 6).toNatClampNeg) x1) fun M35 =>
      nm (st M35 140 6 ((M35 140 6) + (1 : Int32))) fun M43 =>
      some ((M43 140 6), M43)
    )
  ) else (
    some ((-1000001 : Int32), M)
  )
theorem e_X9_feed : yX9_feed.cls = RX9 ∧ yX9_feed.cls ≠ "java/lang/invoke/MethodHandle" ∧ yX9_feed.cls ≠ "java/lang/invoke/VarHandle" ∧ (parseMethodDescriptor yX9_feed.desc).map (fun d => d.parameters.length) = some 1 := by decide +kernel
set_option maxHeartbeats 4000000 in
set_option maxRecDepth 100000 in
theorem c_X9_feed (l : Launch) (D : va_G) (cs : Nat → ClassId) (ad : Nat → Nat) (M : Mem) (x1 : Int32) {z : Int32 × Mem} (h : f_X9_feed M x1 = some z) : CtI l yX9_feed cX9_feed 2 .int 1 D cs ad [.ref (ad 140), .int x1] M z.1 z.2 := by
  refine ct_i (own := RX9) (by decide) rfl (Nat.le_of_ble_eq_true rfl) ?_
  intro p e s m args below meth c Q C hr
  have hx := C.1
  have hb := C.2.1
  have hown := C.2.2.2.1
  have hts := C.2.2.2.2.1
  intro H locs hG ls hl
  have hl : lv_has ls 2 [(0, .ref (ad 140)), (1, .int x1)] := hl
  unfold f_X9_feed at h
  refine lv_iload_n hx hb dX9_feed_0 rfl (lv_at hl 1 rfl) ?_
  refine lv_iconst (v := 0) hx hb dX9_feed_1 (by decide) ?_
  refine lv_sipush (v := 255) hx hb dX9_feed_2 (by decide) ?_
  refine g_ci hG (g_runS C hG (c_X9_in l D cs ad M x1 (0 : Int32) (255 : Int32) rfl) wm_X9_59 wt_X9_in wz_X9 wc_X9_in e_X9_in (by decide) hl.1 (Nat.le_of_ble_eq_true rfl) dX9_feed_5) (fun H locs hG => ?_)
  refine lv_if_ne (tgt := 14) hx hb dX9_feed_8 (by decide) (fun c_8 => ?_) (fun c_8 => ?_)
  · have h := if_t (bi_t c_8) h
    refine lv_aload_n hx hb dX9_feed_14 rfl (lv_at hl 0 rfl) ?_
    refine gf_X9_taped C hG gk_140 wf_X9_85 dX9_feed_15 ?_
    refine lv_bipush (v := 120) hx hb dX9_feed_18 (by decide) ?_
    refine lv_icmp_ne (tgt := 26) hx hb dX9_feed_20 (by decide) (fun c_20 => ?_) (fun c_20 => ?_)
    · have h := if_f c_20 h
      refine lv_aload_n hx hb dX9_feed_26 rfl (lv_at hl 0 rfl) ?_
      refine gf_X9_tape C hG gk_140 wf_X9_22 dX9_feed_27 ?_
      refine lv_aload_n hx hb dX9_feed_30 rfl (lv_at hl 0 rfl) ?_
      refine gf_X9_taped C hG gk_140 wf_X9_85 dX9_feed_31 ?_
      refine lv_iload_n hx hb dX9_feed_34 rfl (lv_at hl 1 rfl) ?_
      obtain ⟨hi_35, h⟩ := ix_e h
      refine g_as C hG gk_145 gl_145 hi_35 rfl dX9_feed_35 (fun M35 e_35 H locs hG => ?_)
      have h := nm_at e_35 h
      refine lv_aload_n hx hb dX9_feed_36 rfl (lv_at hl 0 rfl) ?_
      refine lv_dup hx hb dX9_feed_37 rfl ?_
      refine gf_X9_taped C hG gk_140 wf_X9_85 dX9_feed_38 ?_
      refine lv_iconst (v := 1) hx hb dX9_feed_41 (by decide) ?_
      refine lv_iadd hx hb dX9_feed_42 ?_
      refine gp_X9_taped C hG gk_140 wf_X9_85 dX9_feed_43 (fun M43 e_43 H locs hG => ?_)
      have h := nm_at e_43 h
      refine lv_aload_n hx hb dX9_feed_46 rfl (lv_at hl 0 rfl) ?_
      refine gf_X9_taped C hG gk_140 wf_X9_85 dX9_feed_47 ?_
      exact hr (pf1 (Option.some.inj h)) (pf2 (Option.some.inj h)) hG dX9_feed_50
    · have h := if_t c_20 h
      refine lv_ldc (v := -1000003) hx hb hown (hts _ wk_X9_88) dX9_feed_23 ?_
      exact hr (pf1 (Option.some.inj h)) (pf2 (Option.some.inj h)) hG dX9_feed_25
  · have h := if_f (bi_f c_8) h
    refine lv_ldc (v := -1000001) hx hb hown (hts _ wk_X9_67) dX9_feed_11 ?_
    exact hr (pf1 (Option.some.inj h)) (pf2 (Option.some.inj h)) hG dX9_feed_13
def f_X9_byteAt (M : Mem) (x1 : Int32) : Option Int32 :=
  if (M 140 6) ≤ x1 then (
    some (-1 : Int32)
  ) else (
    chk (ixb x1 120) <|
    some (M 145 x1.toNatClampNeg)
  )
theorem e_X9_byteAt : yX9_byteAt.cls = RX9 ∧ yX9_byteAt.cls ≠ "java/lang/invoke/MethodHandle" ∧ yX9_byteAt.cls ≠ "java/lang/invoke/VarHandle" ∧ (parseMethodDescriptor yX9_byteAt.desc).map (fun d => d.parameters.length) = some 1 := by decide +kernel
set_option maxHeartbeats 4000000 in
set_option maxRecDepth 100000 in
theorem c_X9_byteAt (l : Launch) (D : va_G) (cs : Nat → ClassId) (ad : Nat → Nat) (M : Mem) (x1 : Int32) {z : Int32} (h : f_X9_byteAt M x1 = some z) : CtI l yX9_byteAt cX9_byteAt 2 .int 0 D cs ad [.ref (ad 140), .int x1] M z M := by
  refine ct_i (own := RX9) (by decide) rfl (Nat.le_of_ble_eq_true rfl) ?_
  intro p e s m args below meth c Q C hr
  have hx := C.1
  have hb := C.2.1
  have hown := C.2.2.2.1
  have hts := C.2.2.2.2.1
  intro H locs hG ls hl
  have hl : lv_has ls 2 [(0, .ref (ad 140)), (1, .int x1)] := hl
  unfold f_X9_byteAt at h
  refine lv_iload_n hx hb dX9_byteAt_0 rfl (lv_at hl 1 rfl) ?_
  refine lv_aload_n hx hb dX9_byteAt_1 rfl (lv_at hl 0 rfl) ?_
  refine gf_X9_taped C hG gk_140 wf_X9_85 dX9_byteAt_2 ?_
  refine lv_icmp_ge (tgt := 17) hx hb dX9_byteAt_5 (by decide) (fun c_5 => ?_) (fun c_5 => ?_)
  · have h := if_t c_5 h
    refine lv_iconst (v := -1) hx hb dX9_byteAt_17 (by decide) ?_
    exact hr (Option.some.inj h) rfl hG dX9_byteAt_18
  · have h := if_f c_5 h
    refine lv_aload_n hx hb dX9_byteAt_8 rfl (lv_at hl 0 rfl) ?_
    refine gf_X9_tape C hG gk_140 wf_X9_22 dX9_byteAt_9 ?_
    refine lv_iload_n hx hb dX9_byteAt_12 rfl (lv_at hl 1 rfl) ?_
    obtain ⟨hi_13, h⟩ := ix_e h
    refine g_al C hG gk_145 gl_145 hi_13 rfl dX9_byteAt_13 ?_
    refine lv_goto (tgt := 18) hx hb dX9_byteAt_14 (by decide) ?_
    exact hr (Option.some.inj h) rfl hG dX9_byteAt_18
def f_X9_advances_96 (r38 : Mem → Option Mem) (M : Mem) (s1 : Int32) : Option Mem :=
  nm (st M 140 12 s1) fun M96 =>
  nm (st M96 140 9 ((M96 140 9) + (1 : Int32))) fun M106 =>
  r38 M106
def f_X9_advances_38 (r38 : Mem → Option Mem) (M : Mem) : Option Mem :=
  (f_X9_byteAt M (M 140 9)).bind fun q43 =>
  if (f_X9_in q43 (48 : Int32) (57 : Int32)) = true then (
    if (2 : Int32) ≤ ((M 140 9) - (M 140 10)) then (
      f_X9_advances_96 r38 M (M 140 12)
    ) else (
      (f_X9_byteAt M (M 140 9)).bind fun q82 =>
      f_X9_advances_96 r38 M ((((10 : Int32) * (M 140 12)) + q82) - (48 : Int32))
    )
  ) else (
    if (3 : Int32) ≤ ((M 140 9) - (M 140 10)) then (
      nm (st M 140 11 (5 : Int32)) fun M131 =>
      some M131
    ) else (
      nm (st M 140 11 (2 : Int32)) fun M131 =>
      some M131
    )
  )
def f_X9_advances_180 (M : Mem) (s1 : Int32) : Option Mem :=
  nm (st M 140 11 s1) fun M180 =>
  if (M180 140 11) = (0 : Int32) then (
    nm (st M180 140 9 ((M180 140 9) + (0 : Int32))) fun M201 =>
    some M201
  ) else (
    nm (st M180 140 9 ((M180 140 9) + (1 : Int32))) fun M201 =>
    some M201
  )
def f_X9_advances (M : Mem) : Option Mem :=
  nm (st M 140 10 (M 140 9)) fun M5 =>
  (f_X9_byteAt M5 (M5 140 9)).bind fun q13 =>
  nm (st M5 140 12 q13) fun M19 =>
  if (f_X9_in q13 (48 : Int32) (57 : Int32)) = true then (
    nm (st M19 140 12 (0 : Int32)) fun M35 =>
    iter (fun rec a => f_X9_advances_38 rec a) fuel M35
  ) else (
    if (0 : Int32) ≤ q13 then (
      if (f_X9_in q13 (97 : Int32) (122 : Int32)) = true then (
        f_X9_advances_180 M19 (1 : Int32)
      ) else (
        if q13 = (44 : Int32) then (
          f_X9_advances_180 M19 (3 : Int32)
        ) else (
          if q13 = (59 : Int32) then (
            f_X9_advances_180 M19 (4 : Int32)
          ) else (
            f_X9_advances_180 M19 (5 : Int32)
          )
        )
      )
    ) else (
      f_X9_advances_180 M19 (0 : Int32)
    )
  )
theorem e_X9_advances : yX9_advances.cls = RX9 ∧ yX9_advances.cls ≠ "java/lang/invoke/MethodHandle" ∧ yX9_advances.cls ≠ "java/lang/invoke/VarHandle" ∧ (parseMethodDescriptor yX9_advances.desc).map (fun d => d.parameters.length) = some 0 := by decide +kernel
set_option maxHeartbeats 4000000 in
set_option maxRecDepth 100000 in
theorem c_X9_advances (l : Launch) (D : va_G) (cs : Nat → ClassId) (ad : Nat → Nat) (M : Mem) {z : Mem} (h : f_X9_advances M = some z) : CtV l yX9_advances cX9_advances 2 1 D cs ad [.ref (ad 140)] M z := by
  refine ct_v (own := RX9) (by decide) rfl (Nat.le_of_ble_eq_true rfl) ?_
  intro p e s m args below meth c Q C hr
  have hx := C.1
  have hb := C.2.1
  have hown := C.2.2.2.1
  have hts := C.2.2.2.2.1
  have J_96 : ∀ (M : Mem) (s1 : Int32) (r38 : Mem → Option Mem) (hr38 : ∀ a, r38 a = some z → GP p l e (rmk 1) s m args below meth c 0 0 Q D cs ad 2 38 [(0, .ref (ad 140))] [] a), f_X9_advances_96 r38 M s1 = some z → GP p l e (rmk 1) s m args below meth c 0 0 Q D cs ad 2 96 [(0, .ref (ad 140))] [.int s1, .ref (ad 140)] M := by
    intro M s1 r38 hr38 h H locs hG ls hl
    unfold f_X9_advances_96 at h
    refine gp_X9_value C hG gk_140 wf_X9_98 dX9_advances_96 (fun M96 e_96 H locs hG => ?_)
    have h := nm_at e_96 h
    refine lv_aload_n hx hb dX9_advances_99 rfl (lv_at hl 0 rfl) ?_
    refine lv_dup hx hb dX9_advances_100 rfl ?_
    refine gf_X9_at C hG gk_140 wf_X9_89 dX9_advances_101 ?_
    refine lv_iconst (v := 1) hx hb dX9_advances_104 (by decide) ?_
    refine lv_iadd hx hb dX9_advances_105 ?_
    refine gp_X9_at C hG gk_140 wf_X9_89 dX9_advances_106 (fun M106 e_106 H locs hG => ?_)
    have h := nm_at e_106 h
    refine lv_goto (tgt := 38) hx hb dX9_advances_109 (by decide) ?_
    exact hr38 M106 h H locs hG ls (lv_sub hl [0] rfl)
  have J_38 : ∀ (n : Nat) (a : Mem), iter (fun rec a => f_X9_advances_38 rec a) n a = some z → GP p l e (rmk 1) s m args below meth c 0 0 Q D cs ad 2 38 [(0, .ref (ad 140))] [] a := by
    refine iter_ind (fun r38 hr38 a h => ?_)
    obtain ⟨M, rfl⟩ : ∃ y, y = a := ⟨_, rfl⟩
    have h : f_X9_advances_38 r38 M = some z := h
    intro H locs hG ls hl
    have hG : GH D cs ad s M H locs := hG
    have hl : lv_has ls 2 [(0, .ref (ad 140))] := hl
    unfold f_X9_advances_38 at h
    refine lv_aload_n hx hb dX9_advances_38 rfl (lv_at hl 0 rfl) ?_
    refine lv_aload_n hx hb dX9_advances_39 rfl (lv_at hl 0 rfl) ?_
    refine gf_X9_at C hG gk_140 wf_X9_89 dX9_advances_40 ?_
    obtain ⟨q43, e_43, h⟩ := bd_e h
    refine g_ci hG (g_runV C hG (gR_9 gk_140) (c_X9_byteAt l D cs ad M (M 140 9) e_43) wm_X9_95 wi_X9_byteAt ws_X9_byteAt wz_X9 wc_X9_byteAt e_X9_byteAt (by decide) hl.1 (Nat.le_of_ble_eq_true rfl) dX9_advances_43) (fun H locs hG => ?_)
    refine lv_bipush (v := 48) hx hb dX9_advances_46 (by decide) ?_
    refine lv_bipush (v := 57) hx hb dX9_advances_48 (by decide) ?_
    refine g_ci hG (g_runS C hG (c_X9_in l D cs ad M q43 (48 : Int32) (57 : Int32) rfl) wm_X9_59 wt_X9_in wz_X9 wc_X9_in e_X9_in (by decide) hl.1 (Nat.le_of_ble_eq_true rfl) dX9_advances_50) (fun H locs hG => ?_)
    refine lv_if_eq (tgt := 112) hx hb dX9_advances_53 (by decide) (fun c_53 => ?_) (fun c_53 => ?_)
    · have h := if_f (bi_f c_53) h
      refine lv_aload_n hx hb dX9_advances_112 rfl (lv_at hl 0 rfl) ?_
      refine lv_aload_n hx hb dX9_advances_113 rfl (lv_at hl 0 rfl) ?_
      refine gf_X9_at C hG gk_140 wf_X9_89 dX9_advances_114 ?_
      refine lv_aload_n hx hb dX9_advances_117 rfl (lv_at hl 0 rfl) ?_
      refine gf_X9_start C hG gk_140 wf_X9_92 dX9_advances_118 ?_
      refine lv_isub hx hb dX9_advances_121 ?_
      refine lv_iconst (v := 3) hx hb dX9_advances_122 (by decide) ?_
      refine lv_icmp_ge (tgt := 130) hx hb dX9_advances_123 (by decide) (fun c_123 => ?_) (fun c_123 => ?_)
      · have h := if_t c_123 h
        refine lv_iconst (v := 5) hx hb dX9_advances_130 (by decide) ?_
        refine gp_X9_token C hG gk_140 wf_X9_101 dX9_advances_131 (fun M131 e_131 H locs hG => ?_)
        have h := nm_at e_131 h
        exact hr (Option.some.inj h) hG dX9_advances_134
      · have h := if_f c_123 h
        refine lv_iconst (v := 2) hx hb dX9_advances_126 (by decide) ?_
        refine lv_goto (tgt := 131) hx hb dX9_advances_127 (by decide) ?_
        refine gp_X9_token C hG gk_140 wf_X9_101 dX9_advances_131 (fun M131 e_131 H locs hG => ?_)
        have h := nm_at e_131 h
        exact hr (Option.some.inj h) hG dX9_advances_134
    · have h := if_t (bi_t c_53) h
      refine lv_aload_n hx hb dX9_advances_56 rfl (lv_at hl 0 rfl) ?_
      refine lv_aload_n hx hb dX9_advances_57 rfl (lv_at hl 0 rfl) ?_
      refine gf_X9_at C hG gk_140 wf_X9_89 dX9_advances_58 ?_
      refine lv_aload_n hx hb dX9_advances_61 rfl (lv_at hl 0 rfl) ?_
      refine gf_X9_start C hG gk_140 wf_X9_92 dX9_advances_62 ?_
      refine lv_isub hx hb dX9_advances_65 ?_
      refine lv_iconst (v := 2) hx hb dX9_advances_66 (by decide) ?_
      refine lv_icmp_ge (tgt := 92) hx hb dX9_advances_67 (by decide) (fun c_67 => ?_) (fun c_67 => ?_)
      · have h := if_t c_67 h
        refine lv_aload_n hx hb dX9_advances_92 rfl (lv_at hl 0 rfl) ?_
        refine gf_X9_value C hG gk_140 wf_X9_98 dX9_advances_93 ?_
        exact J_96 M (M 140 12) r38 hr38 h H locs hG ls (lv_sub hl [0] rfl)
      · have h := if_f c_67 h
        refine lv_bipush (v := 10) hx hb dX9_advances_70 (by decide) ?_
        refine lv_aload_n hx hb dX9_advances_72 rfl (lv_at hl 0 rfl) ?_
        refine gf_X9_value C hG gk_140 wf_X9_98 dX9_advances_73 ?_
        refine lv_imul hx hb dX9_advances_76 ?_
        refine lv_aload_n hx hb dX9_advances_77 rfl (lv_at hl 0 rfl) ?_
        refine lv_aload_n hx hb dX9_advances_78 rfl (lv_at hl 0 rfl) ?_
        refine gf_X9_at C hG gk_140 wf_X9_89 dX9_advances_79 ?_
        obtain ⟨q82, e_82, h⟩ := bd_e h
        refine g_ci hG (g_runV C hG (gR_9 gk_140) (c_X9_byteAt l D cs ad M (M 140 9) e_82) wm_X9_95 wi_X9_byteAt ws_X9_byteAt wz_X9 wc_X9_byteAt e_X9_byteAt (by decide) hl.1 (Nat.le_of_ble_eq_true rfl) dX9_advances_82) (fun H locs hG => ?_)
        refine lv_iadd hx hb dX9_advances_85 ?_
        refine lv_bipush (v := 48) hx hb dX9_advances_86 (by decide) ?_
        refine lv_isub hx hb dX9_advances_88 ?_
        refine lv_goto (tgt := 96) hx hb dX9_advances_89 (by decide) ?_
        exact J_96 M ((((10 : Int32) * (M 140 12)) + q82) - (48 : Int32)) r38 hr38 h H locs hG ls (lv_sub hl [0] rfl)
  have J_180 : ∀ (M : Mem) (s1 : Int32), f_X9_advances_180 M s1 = some z → GP p l e (rmk 1) s m args below meth c 0 0 Q D cs ad 2 180 [(0, .ref (ad 140))] [.int s1, .ref (ad 140)] M := by
    intro M s1 h H locs hG ls hl
    unfold f_X9_advances_180 at h
    refine gp_X9_token C hG gk_140 wf_X9_101 dX9_advances_180 (fun M180 e_180 H locs hG => ?_)
    have h := nm_at e_180 h
    refine lv_aload_n hx hb dX9_advances_183 rfl (lv_at hl 0 rfl) ?_
    refine lv_dup hx hb dX9_advances_184 rfl ?_
    refine gf_X9_at C hG gk_140 wf_X9_89 dX9_advances_185 ?_
    refine lv_aload_n hx hb dX9_advances_188 rfl (lv_at hl 0 rfl) ?_
    refine gf_X9_token C hG gk_140 wf_X9_101 dX9_advances_189 ?_
    refine lv_if_ne (tgt := 199) hx hb dX9_advances_192 (by decide) (fun c_192 => ?_) (fun c_192 => ?_)
    · have h := if_f c_192 h
      refine lv_iconst (v := 1) hx hb dX9_advances_199 (by decide) ?_
      refine lv_iadd hx hb dX9_advances_200 ?_
      refine gp_X9_at C hG gk_140 wf_X9_89 dX9_advances_201 (fun M201 e_201 H locs hG => ?_)
      have h := nm_at e_201 h
      exact hr (Option.some.inj h) hG dX9_advances_204
    · have h := if_t c_192 h
      refine lv_iconst (v := 0) hx hb dX9_advances_195 (by decide) ?_
      refine lv_goto (tgt := 200) hx hb dX9_advances_196 (by decide) ?_
      refine lv_iadd hx hb dX9_advances_200 ?_
      refine gp_X9_at C hG gk_140 wf_X9_89 dX9_advances_201 (fun M201 e_201 H locs hG => ?_)
      have h := nm_at e_201 h
      exact hr (Option.some.inj h) hG dX9_advances_204
  intro H locs hG ls hl
  have hl : lv_has ls 2 [(0, .ref (ad 140))] := hl
  unfold f_X9_advances at h
  refine lv_aload_n hx hb dX9_advances_0 rfl (lv_at hl 0 rfl) ?_
  refine lv_aload_n hx hb dX9_advances_1 rfl (lv_at hl 0 rfl) ?_
  refine gf_X9_at C hG gk_140 wf_X9_89 dX9_advances_2 ?_
  refine gp_X9_start C hG gk_140 wf_X9_92 dX9_advances_5 (fun M5 e_5 H locs hG => ?_)
  have h := nm_at e_5 h
  refine lv_aload_n hx hb dX9_advances_8 rfl (lv_at hl 0 rfl) ?_
  refine lv_aload_n hx hb dX9_advances_9 rfl (lv_at hl 0 rfl) ?_
  refine gf_X9_at C hG gk_140 wf_X9_89 dX9_advances_10 ?_
  obtain ⟨q13, e_13, h⟩ := bd_e h
  refine g_ci hG (g_runV C hG (gR_9 gk_140) (c_X9_byteAt l D cs ad M5 (M5 140 9) e_13) wm_X9_95 wi_X9_byteAt ws_X9_byteAt wz_X9 wc_X9_byteAt e_X9_byteAt (by decide) hl.1 (Nat.le_of_ble_eq_true rfl) dX9_advances_13) (fun H locs hG => ?_)
  refine lv_istore_n (lv' := [(1, .int q13), (0, .ref (ad 140))]) hx hb dX9_advances_16 rfl hl (by decide) rfl (fun ls hl => ?_)
  refine lv_aload_n hx hb dX9_advances_17 rfl (lv_at hl 1 rfl) ?_
  refine lv_iload_n hx hb dX9_advances_18 rfl (lv_at hl 0 rfl) ?_
  refine gp_X9_value C hG gk_140 wf_X9_98 dX9_advances_19 (fun M19 e_19 H locs hG => ?_)
  have h := nm_at e_19 h
  refine lv_iload_n hx hb dX9_advances_22 rfl (lv_at hl 0 rfl) ?_
  refine lv_bipush (v := 48) hx hb dX9_advances_23 (by decide) ?_
  refine lv_bipush (v := 57) hx hb dX9_advances_25 (by decide) ?_
  refine g_ci hG (g_runS C hG (c_X9_in l D cs ad M19 q13 (48 : Int32) (57 : Int32) rfl) wm_X9_59 wt_X9_in wz_X9 wc_X9_in e_X9_in (by decide) hl.1 (Nat.le_of_ble_eq_true rfl) dX9_advances_27) (fun H locs hG => ?_)
  refine lv_if_eq (tgt := 135) hx hb dX9_advances_30 (by decide) (fun c_30 => ?_) (fun c_30 => ?_)
  · have h := if_f (bi_f c_30) h
    refine lv_aload_n hx hb dX9_advances_135 rfl (lv_at hl 1 rfl) ?_
    refine lv_iload_n hx hb dX9_advances_136 rfl (lv_at hl 0 rfl) ?_
    refine lv_if_ge (tgt := 144) hx hb dX9_advances_137 (by decide) (fun c_137 => ?_) (fun c_137 => ?_)
    · have h := if_t c_137 h
      refine lv_iload_n hx hb dX9_advances_144 rfl (lv_at hl 0 rfl) ?_
      refine lv_bipush (v := 97) hx hb dX9_advances_145 (by decide) ?_
      refine lv_bipush (v := 122) hx hb dX9_advances_147 (by decide) ?_
      refine g_ci hG (g_runS C hG (c_X9_in l D cs ad M19 q13 (97 : Int32) (122 : Int32) rfl) wm_X9_59 wt_X9_in wz_X9 wc_X9_in e_X9_in (by decide) hl.1 (Nat.le_of_ble_eq_true rfl) dX9_advances_149) (fun H locs hG => ?_)
      refine lv_if_eq (tgt := 159) hx hb dX9_advances_152 (by decide) (fun c_152 => ?_) (fun c_152 => ?_)
      · have h := if_f (bi_f c_152) h
        refine lv_iload_n hx hb dX9_advances_159 rfl (lv_at hl 0 rfl) ?_
        refine lv_bipush (v := 44) hx hb dX9_advances_160 (by decide) ?_
        refine lv_icmp_ne (tgt := 169) hx hb dX9_advances_162 (by decide) (fun c_162 => ?_) (fun c_162 => ?_)
        · have h := if_f c_162 h
          refine lv_iload_n hx hb dX9_advances_169 rfl (lv_at hl 0 rfl) ?_
          refine lv_bipush (v := 59) hx hb dX9_advances_170 (by decide) ?_
          refine lv_icmp_ne (tgt := 179) hx hb dX9_advances_172 (by decide) (fun c_172 => ?_) (fun c_172 => ?_)
          · have h := if_f c_172 h
            refine lv_iconst (v := 5) hx hb dX9_advances_179 (by decide) ?_
            exact J_180 M19 (5 : Int32) h H locs hG ls (lv_sub hl [1] rfl)
          · have h := if_t c_172 h
            refine lv_iconst (v := 4) hx hb dX9_advances_175 (by decide) ?_
            refine lv_goto (tgt := 180) hx hb dX9_advances_176 (by decide) ?_
            exact J_180 M19 (4 : Int32) h H locs hG ls (lv_sub hl [1] rfl)
        · have h := if_t c_162 h
          refine lv_iconst (v := 3) hx hb dX9_advances_165 (by decide) ?_
          refine lv_goto (tgt := 180) hx hb dX9_advances_166 (by decide) ?_
          exact J_180 M19 (3 : Int32) h H locs hG ls (lv_sub hl [1] rfl)
      · have h := if_t (bi_t c_152) h
        refine lv_iconst (v := 1) hx hb dX9_advances_155 (by decide) ?_
        refine lv_goto (tgt := 180) hx hb dX9_advances_156 (by decide) ?_
        exact J_180 M19 (1 : Int32) h H locs hG ls (lv_sub hl [1] rfl)
    · have h := if_f c_137 h
      refine lv_iconst (v := 0) hx hb dX9_advances_140 (by decide) ?_
      refine lv_goto (tgt := 180) hx hb dX9_advances_141 (by decide) ?_
      exact J_180 M19 (0 : Int32) h H locs hG ls (lv_sub hl [1] rfl)
  · have h := if_t (bi_t c_30) h
    refine lv_aload_n hx hb dX9_advances_33 rfl (lv_at hl 1 rfl) ?_
    refine lv_iconst (v := 0) hx hb dX9_advances_34 (by decide) ?_
    refine gp_X9_value C hG gk_140 wf_X9_98 dX9_advances_35 (fun M35 e_35 H locs hG => ?_)
    have h := nm_at e_35 h
    exact J_38 _ M35 h H locs hG ls (lv_sub hl [1] rfl)
def f_X9_isWell (M : Mem) : Bool :=
  if (0 : Int32) ≤ (M 140 8) then (
    false
  ) else (
    true
  )
theorem e_X9_isWell : yX9_isWell.cls = RX9 ∧ yX9_isWell.cls ≠ "java/lang/invoke/MethodHandle" ∧ yX9_isWell.cls ≠ "java/lang/invoke/VarHandle" ∧ (parseMethodDescriptor yX9_isWell.desc).map (fun d => d.parameters.length) = some 0 := by decide +kernel
set_option maxHeartbeats 4000000 in
set_option maxRecDepth 100000 in
theorem c_X9_isWell (l : Launch) (D : va_G) (cs : Nat → ClassId) (ad : Nat → Nat) (M : Mem) {z : Bool} (h : f_X9_isWell M = z) : CtI l yX9_isWell cX9_isWell 1 .boolean 0 D cs ad [.ref (ad 140)] M (bi z) M := by
  refine ct_z (own := RX9) (by decide) rfl (Nat.le_of_ble_eq_true rfl) ?_
  intro p e s m args below meth c Q C hr
  have hx := C.1
  have hb := C.2.1
  have hown := C.2.2.2.1
  have hts := C.2.2.2.2.1
  intro H locs hG ls hl
  have hl : lv_has ls 1 [(0, .ref (ad 140))] := hl
  unfold f_X9_isWell at h
  refine lv_aload_n hx hb dX9_isWell_0 rfl (lv_at hl 0 rfl) ?_
  refine gf_X9_faultPlace C hG gk_140 wf_X9_104 dX9_isWell_1 ?_
  refine lv_if_ge (tgt := 11) hx hb dX9_isWell_4 (by decide) (fun c_4 => ?_) (fun c_4 => ?_)
  · have h := if_t c_4 h
    refine lv_iconst (v := 0) hx hb dX9_isWell_11 (by decide) ?_
    exact hr (congrArg bi h) rfl hG dX9_isWell_12
  · have h := if_f c_4 h
    refine lv_iconst (v := 1) hx hb dX9_isWell_7 (by decide) ?_
    refine lv_goto (tgt := 12) hx hb dX9_isWell_8 (by decide) ?_
    exact hr (congrArg bi h) rfl hG dX9_isWell_12
def f_X9_takes (M : Mem) (x1 : Bool) (x2 : Int32) : Option (Int32 × Mem) :=
  if (f_X9_isWell M) = true then (
    if x1 = true then (
      nm ((M 140 12)) fun x3_32 =>
      (f_X9_advances M).bind fun q34 =>
      some (x3_32, q34)
    ) else (
      nm (st M 140 8 (M 140 10)) fun M18 =>
      nm (st M18 140 7 x2) fun M23 =>
      some ((0 : Int32), M23)
    )
  ) else (
    some ((0 : Int32), M)
  )
theorem e_X9_takes : yX9_takes.cls = RX9 ∧ yX9_takes.cls ≠ "java/lang/invoke/MethodHandle" ∧ yX9_takes.cls ≠ "java/lang/invoke/VarHandle" ∧ (parseMethodDescriptor yX9_takes.desc).map (fun d => d.parameters.length) = some 2 := by decide +kernel
set_option maxHeartbeats 4000000 in
set_option maxRecDepth 100000 in
theorem c_X9_takes (l : Launch) (D : va_G) (cs : Nat → ClassId) (ad : Nat → Nat) (M : Mem) (x1 : Bool) (x2 : Int32) {z : Int32 × Mem} (h : f_X9_takes M x1 x2 = some z) : CtI l yX9_takes cX9_takes 4 .int 2 D cs ad [.ref (ad 140), .int (bi x1), .int x2] M z.1 z.2 := by
  refine ct_i (own := RX9) (by decide) rfl (Nat.le_of_ble_eq_true rfl) ?_
  intro p e s m args below meth c Q C hr
  have hx := C.1
  have hb := C.2.1
  have hown := C.2.2.2.1
  have hts := C.2.2.2.2.1
  intro H locs hG ls hl
  have hl : lv_has ls 4 [(0, .ref (ad 140)), (1, .int (bi x1)), (2, .int x2)] := hl
  unfold f_X9_takes at h
  refine lv_aload_n hx hb dX9_takes_0 rfl (lv_at hl 0 rfl) ?_
  refine g_ci hG (g_runV C hG (gR_9 gk_140) (c_X9_isWell l D cs ad M rfl) wm_X9_107 wi_X9_isWell ws_X9_isWell wz_X9 wc_X9_isWell e_X9_isWell (by decide) hl.1 (Nat.le_of_ble_eq_true rfl) dX9_takes_1) (fun H locs hG => ?_)
  refine lv_if_ne (tgt := 9) hx hb dX9_takes_4 (by decide) (fun c_4 => ?_) (fun c_4 => ?_)
  · have h := if_t (bi_t c_4) h
    refine lv_iload_n hx hb dX9_takes_9 rfl (lv_at hl 1 rfl) ?_
    refine lv_if_ne (tgt := 28) hx hb dX9_takes_10 (by decide) (fun c_10 => ?_) (fun c_10 => ?_)
    · have h := if_t (bi_t c_10) h
      refine lv_aload_n hx hb dX9_takes_28 rfl (lv_at hl 0 rfl) ?_
      refine gf_X9_value C hG gk_140 wf_X9_98 dX9_takes_29 ?_
      refine lv_topi (fun x3_32 e3_32 => ?_)
      have h := nm_at e3_32 h
      refine lv_istore_n (lv' := [(3, .int x3_32), (0, .ref (ad 140)), (1, .int (bi x1)), (2, .int x2)]) hx hb dX9_takes_32 rfl hl (by decide) rfl (fun ls hl => ?_)
      refine lv_aload_n hx hb dX9_takes_33 rfl (lv_at hl 1 rfl) ?_
      obtain ⟨q34, e_34, h⟩ := bd_e h
      refine g_cv hG (g_runV C hG (gR_9 gk_140) (c_X9_advances l D cs ad M e_34) wm_X9_114 wi_X9_advances ws_X9_advances wz_X9 wc_X9_advances e_X9_advances (by decide) hl.1 (Nat.le_of_ble_eq_true rfl) dX9_takes_34) (fun H locs hG => ?_)
      refine lv_iload_n hx hb dX9_takes_37 rfl (lv_at hl 0 rfl) ?_
      exact hr (pf1 (Option.some.inj h)) (pf2 (Option.some.inj h)) hG dX9_takes_38
    · have h := if_f (bi_f c_10) h
      refine lv_aload_n hx hb dX9_takes_13 rfl (lv_at hl 0 rfl) ?_
      refine lv_aload_n hx hb dX9_takes_14 rfl (lv_at hl 0 rfl) ?_
      refine gf_X9_start C hG gk_140 wf_X9_92 dX9_takes_15 ?_
      refine gp_X9_faultPlace C hG gk_140 wf_X9_104 dX9_takes_18 (fun M18 e_18 H locs hG => ?_)
      have h := nm_at e_18 h
      refine lv_aload_n hx hb dX9_takes_21 rfl (lv_at hl 0 rfl) ?_
      refine lv_iload_n hx hb dX9_takes_22 rfl (lv_at hl 2 rfl) ?_
      refine gp_X9_faultKind C hG gk_140 wf_X9_111 dX9_takes_23 (fun M23 e_23 H locs hG => ?_)
      have h := nm_at e_23 h
      refine lv_iconst (v := 0) hx hb dX9_takes_26 (by decide) ?_
      exact hr (pf1 (Option.some.inj h)) (pf2 (Option.some.inj h)) hG dX9_takes_27
  · have h := if_f (bi_f c_4) h
    refine lv_iconst (v := 0) hx hb dX9_takes_7 (by decide) ?_
    exact hr (pf1 (Option.some.inj h)) (pf2 (Option.some.inj h)) hG dX9_takes_8
def f_X9_figure_22 (M : Mem) (x1 : Int32) (x2 : Int32) : Option (Int32 × Mem) :=
  (f_X9_takes M (f_X9_in (M 140 12) x1 x2) (2 : Int32)).bind fun q33 =>
  some (q33.1, q33.2)
def f_X9_figure (M : Mem) (x1 : Int32) (x2 : Int32) : Option (Int32 × Mem) :=
  if (f_X9_isWell M) = true then (
    if (M 140 11) = (2 : Int32) then (
      f_X9_figure_22 M x1 x2
    ) else (
      (f_X9_takes M false (1 : Int32)).bind fun q18 =>
      some (q18.1, q18.2)
    )
  ) else (
    f_X9_figure_22 M x1 x2
  )
theorem e_X9_figure : yX9_figure.cls = RX9 ∧ yX9_figure.cls ≠ "java/lang/invoke/MethodHandle" ∧ yX9_figure.cls ≠ "java/lang/invoke/VarHandle" ∧ (parseMethodDescriptor yX9_figure.desc).map (fun d => d.parameters.length) = some 2 := by decide +kernel
set_option maxHeartbeats 4000000 in
set_option maxRecDepth 100000 in
theorem c_X9_figure (l : Launch) (D : va_G) (cs : Nat → ClassId) (ad : Nat → Nat) (M : Mem) (x1 : Int32) (x2 : Int32) {z : Int32 × Mem} (h : f_X9_figure M x1 x2 = some z) : CtI l yX9_figure cX9_figure 3 .int 3 D cs ad [.ref (ad 140), .int x1, .int x2] M z.1 z.2 := by
  refine ct_i (own := RX9) (by decide) rfl (Nat.le_of_ble_eq_true rfl) ?_
  intro p e s m args below meth c Q C hr
  have hx := C.1
  have hb := C.2.1
  have hown := C.2.2.2.1
  have hts := C.2.2.2.2.1
  have J_22 : ∀ (M : Mem) (x1 : Int32) (x2 : Int32), f_X9_figure_22 M x1 x2 = some z → GP p l e (rmk 3) s m args below meth c 0 0 Q D cs ad 3 22 [(0, .ref (ad 140)), (1, .int x1), (2, .int x2)] [] M := by
    intro M x1 x2 h H locs hG ls hl
    unfold f_X9_figure_22 at h
    refine lv_aload_n hx hb dX9_figure_22 rfl (lv_at hl 0 rfl) ?_
    refine lv_aload_n hx hb dX9_figure_23 rfl (lv_at hl 0 rfl) ?_
    refine gf_X9_value C hG gk_140 wf_X9_98 dX9_figure_24 ?_
    refine lv_iload_n hx hb dX9_figure_27 rfl (lv_at hl 1 rfl) ?_
    refine lv_iload_n hx hb dX9_figure_28 rfl (lv_at hl 2 rfl) ?_
    refine g_ci hG (g_runS C hG (c_X9_in l D cs ad M (M 140 12) x1 x2 rfl) wm_X9_59 wt_X9_in wz_X9 wc_X9_in e_X9_in (by decide) hl.1 (Nat.le_of_ble_eq_true rfl) dX9_figure_29) (fun H locs hG => ?_)
    refine lv_iconst (v := 2) hx hb dX9_figure_32 (by decide) ?_
    obtain ⟨q33, e_33, h⟩ := bd_e h
    refine g_ci hG (g_runV C hG (gR_9 gk_140) (c_X9_takes l D cs ad M (f_X9_in (M 140 12) x1 x2) (2 : Int32) e_33) wm_X9_117 wi_X9_takes ws_X9_takes wz_X9 wc_X9_takes e_X9_takes (by decide) hl.1 (Nat.le_of_ble_eq_true rfl) dX9_figure_33) (fun H locs hG => ?_)
    exact hr (pf1 (Option.some.inj h)) (pf2 (Option.some.inj h)) hG dX9_figure_36
  intro H locs hG ls hl
  have hl : lv_has ls 3 [(0, .ref (ad 140)), (1, .int x1), (2, .int x2)] := hl
  unfold f_X9_figure at h
  refine lv_aload_n hx hb dX9_figure_0 rfl (lv_at hl 0 rfl) ?_
  refine g_ci hG (g_runV C hG (gR_9 gk_140) (c_X9_isWell l D cs ad M rfl) wm_X9_107 wi_X9_isWell ws_X9_isWell wz_X9 wc_X9_isWell e_X9_isWell (by decide) hl.1 (Nat.le_of_ble_eq_true rfl) dX9_figure_1) (fun H locs hG => ?_)
  refine lv_if_eq (tgt := 22) hx hb dX9_figure_4 (by decide) (fun c_4 => ?_) (fun c_4 => ?_)
  · have h := if_f (bi_f c_4) h
    exact J_22 M x1 x2 h H locs hG ls (lv_sub hl [0, 1, 2] rfl)
  · have h := if_t (bi_t c_4) h
    refine lv_aload_n hx hb dX9_figure_7 rfl (lv_at hl 0 rfl) ?_
    refine gf_X9_token C hG gk_140 wf_X9_101 dX9_figure_8 ?_
    refine lv_iconst (v := 2) hx hb dX9_figure_11 (by decide) ?_
    refine lv_icmp_eq (tgt := 22) hx hb dX9_figure_12 (by decide) (fun c_12 => ?_) (fun c_12 => ?_)
    · have h := if_t c_12 h
      exact J_22 M x1 x2 h H locs hG ls (lv_sub hl [0, 1, 2] rfl)
    · have h := if_f c_12 h
      refine lv_aload_n hx hb dX9_figure_15 rfl (lv_at hl 0 rfl) ?_
      refine lv_iconst (v := 0) hx hb dX9_figure_16 (by decide) ?_
      refine lv_iconst (v := 1) hx hb dX9_figure_17 (by decide) ?_
      obtain ⟨q18, e_18, h⟩ := bd_e h
      refine g_ci hG (g_runV C hG (gR_9 gk_140) (c_X9_takes l D cs ad M false (1 : Int32) e_18) wm_X9_117 wi_X9_takes ws_X9_takes wz_X9 wc_X9_takes e_X9_takes (by decide) hl.1 (Nat.le_of_ble_eq_true rfl) dX9_figure_18) (fun H locs hG => ?_)
      exact hr (pf1 (Option.some.inj h)) (pf2 (Option.some.inj h)) hG dX9_figure_21
def f_X9_next (M : Mem) (x1 : Int32) (x2 : Int32) : Option (Int32 × Mem) :=
  if (M 140 11) = (3 : Int32) then (
    (f_X9_takes M true (1 : Int32)).bind fun q15 =>
    (f_X9_figure q15.2 x1 x2).bind fun q22 =>
    some (q22.1, q22.2)
  ) else (
    (f_X9_takes M false (1 : Int32)).bind fun q15 =>
    (f_X9_figure q15.2 x1 x2).bind fun q22 =>
    some (q22.1, q22.2)
  )
theorem e_X9_next : yX9_next.cls = RX9 ∧ yX9_next.cls ≠ "java/lang/invoke/MethodHandle" ∧ yX9_next.cls ≠ "java/lang/invoke/VarHandle" ∧ (parseMethodDescriptor yX9_next.desc).map (fun d => d.parameters.length) = some 2 := by decide +kernel
set_option maxHeartbeats 4000000 in
set_option maxRecDepth 100000 in
theorem c_X9_next (l : Launch) (D : va_G) (cs : Nat → ClassId) (ad : Nat → Nat) (M : Mem) (x1 : Int32) (x2 : Int32) {z : Int32 × Mem} (h : f_X9_next M x1 x2 = some z) : CtI l yX9_next cX9_next 3 .int 4 D cs ad [.ref (ad 140), .int x1, .int x2] M z.1 z.2 := by
  refine ct_i (own := RX9) (by decide) rfl (Nat.le_of_ble_eq_true rfl) ?_
  intro p e s m args below meth c Q C hr
  have hx := C.1
  have hb := C.2.1
  have hown := C.2.2.2.1
  have hts := C.2.2.2.2.1
  intro H locs hG ls hl
  have hl : lv_has ls 3 [(0, .ref (ad 140)), (1, .int x1), (2, .int x2)] := hl
  unfold f_X9_next at h
  refine lv_aload_n hx hb dX9_next_0 rfl (lv_at hl 0 rfl) ?_
  refine lv_aload_n hx hb dX9_next_1 rfl (lv_at hl 0 rfl) ?_
  refine gf_X9_token C hG gk_140 wf_X9_101 dX9_next_2 ?_
  refine lv_iconst (v := 3) hx hb dX9_next_5 (by decide) ?_
  refine lv_icmp_ne (tgt := 13) hx hb dX9_next_6 (by decide) (fun c_6 => ?_) (fun c_6 => ?_)
  · have h := if_f c_6 h
    refine lv_iconst (v := 0) hx hb dX9_next_13 (by decide) ?_
    refine lv_iconst (v := 1) hx hb dX9_next_14 (by decide) ?_
    obtain ⟨q15, e_15, h⟩ := bd_e h
    refine g_ci hG (g_runV C hG (gR_9 gk_140) (c_X9_takes l D cs ad M false (1 : Int32) e_15) wm_X9_117 wi_X9_takes ws_X9_takes wz_X9 wc_X9_takes e_X9_takes (by decide) hl.1 (Nat.le_of_ble_eq_true rfl) dX9_next_15) (fun H locs hG => ?_)
    refine lv_pop hx hb dX9_next_18 rfl ?_
    refine lv_aload_n hx hb dX9_next_19 rfl (lv_at hl 0 rfl) ?_
    refine lv_iload_n hx hb dX9_next_20 rfl (lv_at hl 1 rfl) ?_
    refine lv_iload_n hx hb dX9_next_21 rfl (lv_at hl 2 rfl) ?_
    obtain ⟨q22, e_22, h⟩ := bd_e h
    refine g_ci hG (g_runV C hG (gR_9 gk_140) (c_X9_figure l D cs ad q15.2 x1 x2 e_22) wm_X9_121 wi_X9_figure ws_X9_figure wz_X9 wc_X9_figure e_X9_figure (by decide) hl.1 (Nat.le_of_ble_eq_true rfl) dX9_next_22) (fun H locs hG => ?_)
    exact hr (pf1 (Option.some.inj h)) (pf2 (Option.some.inj h)) hG dX9_next_25
  · have h := if_t c_6 h
    refine lv_iconst (v := 1) hx hb dX9_next_9 (by decide) ?_
    refine lv_goto (tgt := 14) hx hb dX9_next_10 (by decide) ?_
    refine lv_iconst (v := 1) hx hb dX9_next_14 (by decide) ?_
    obtain ⟨q15, e_15, h⟩ := bd_e h
    refine g_ci hG (g_runV C hG (gR_9 gk_140) (c_X9_takes l D cs ad M true (1 : Int32) e_15) wm_X9_117 wi_X9_takes ws_X9_takes wz_X9 wc_X9_takes e_X9_takes (by decide) hl.1 (Nat.le_of_ble_eq_true rfl) dX9_next_15) (fun H locs hG => ?_)
    refine lv_pop hx hb dX9_next_18 rfl ?_
    refine lv_aload_n hx hb dX9_next_19 rfl (lv_at hl 0 rfl) ?_
    refine lv_iload_n hx hb dX9_next_20 rfl (lv_at hl 1 rfl) ?_
    refine lv_iload_n hx hb dX9_next_21 rfl (lv_at hl 2 rfl) ?_
    obtain ⟨q22, e_22, h⟩ := bd_e h
    refine g_ci hG (g_runV C hG (gR_9 gk_140) (c_X9_figure l D cs ad q15.2 x1 x2 e_22) wm_X9_121 wi_X9_figure ws_X9_figure wz_X9 wc_X9_figure e_X9_figure (by decide) hl.1 (Nat.le_of_ble_eq_true rfl) dX9_next_22) (fun H locs hG => ?_)
    exact hr (pf1 (Option.some.inj h)) (pf2 (Option.some.inj h)) hG dX9_next_25
def f_X9_readsValley_72 (M : Mem) (x1 : Int32) (x2 : Int32) (x3 : Int32) (s1 : Bool) : Option Mem :=
  (f_X9_takes M s1 (1 : Int32)).bind fun q73 =>
  if (f_X9_isWell q73.2) = true then (
    chk (ixb ((6 : Int32) + x1) 57) <|
    nm (st q73.2 147 (((6 : Int32) + x1).toNatClampNeg) x1) fun M93 =>
    chk (ixb ((11 : Int32) + x1) 57) <|
    nm (st M93 147 (((11 : Int32) + x1).toNatClampNeg) x2) fun M103 =>
    chk (ixb ((16 : Int32) + x1) 57) <|
    nm (st M103 147 (((16 : Int32) + x1).toNatClampNeg) x3) fun M113 =>
    nm (st M113 147 2 ((M113 147 2) + (1 : Int32))) fun M123 =>
    some M123
  ) else (
    some q73.2
  )
def f_X9_readsValley_41 (M : Mem) (s0 : Int32) : Option Mem :=
  (f_X9_figure M (0 : Int32) (20 : Int32)).bind fun q46 =>
  (f_X9_next q46.2 (0 : Int32) (9 : Int32)).bind fun q54 =>
  if (q54.2 140 11) = (4 : Int32) then (
    f_X9_readsValley_72 q54.2 s0 q46.1 q54.1 true
  ) else (
    f_X9_readsValley_72 q54.2 s0 q46.1 q54.1 false
  )
def f_X9_readsValley_16 (M : Mem) (s1 : Bool) : Option Mem :=
  (f_X9_takes M s1 (3 : Int32)).bind fun q17 =>
  if (5 : Int32) ≤ (q17.2 147 2) then (
    f_X9_readsValley_41 q17.2 (0 : Int32)
  ) else (
    f_X9_readsValley_41 q17.2 (q17.2 147 2)
  )
def f_X9_readsValley (M : Mem) : Option Mem :=
  if (5 : Int32) ≤ (M 147 2) then (
    f_X9_readsValley_16 M false
  ) else (
    f_X9_readsValley_16 M true
  )
theorem e_X9_readsValley : yX9_readsValley.cls = RX9 ∧ yX9_readsValley.cls ≠ "java/lang/invoke/MethodHandle" ∧ yX9_readsValley.cls ≠ "java/lang/invoke/VarHandle" ∧ (parseMethodDescriptor yX9_readsValley.desc).map (fun d => d.parameters.length) = some 0 := by decide +kernel
set_option maxHeartbeats 4000000 in
set_option maxRecDepth 100000 in
theorem c_X9_readsValley (l : Launch) (D : va_G) (cs : Nat → ClassId) (ad : Nat → Nat) (M : Mem) {z : Mem} (h : f_X9_readsValley M = some z) : CtV l yX9_readsValley cX9_readsValley 4 5 D cs ad [.ref (ad 140)] M z := by
  refine ct_v (own := RX9) (by decide) rfl (Nat.le_of_ble_eq_true rfl) ?_
  intro p e s m args below meth c Q C hr
  have hx := C.1
  have hb := C.2.1
  have hown := C.2.2.2.1
  have hts := C.2.2.2.2.1
  have J_72 : ∀ (M : Mem) (x1 : Int32) (x2 : Int32) (x3 : Int32) (s1 : Bool), f_X9_readsValley_72 M x1 x2 x3 s1 = some z → GP p l e (rmk 5) s m args below meth c 0 0 Q D cs ad 4 72 [(0, .ref (ad 140)), (1, .int x1), (2, .int x2), (3, .int x3)] [.int (bi s1), .ref (ad 140)] M := by
    intro M x1 x2 x3 s1 h H locs hG ls hl
    unfold f_X9_readsValley_72 at h
    refine lv_iconst (v := 1) hx hb dX9_readsValley_72 (by decide) ?_
    obtain ⟨q73, e_73, h⟩ := bd_e h
    refine g_ci hG (g_runV C hG (gR_9 gk_140) (c_X9_takes l D cs ad M s1 (1 : Int32) e_73) wm_X9_117 wi_X9_takes ws_X9_takes wz_X9 wc_X9_takes e_X9_takes (by decide) hl.1 (Nat.le_of_ble_eq_true rfl) dX9_readsValley_73) (fun H locs hG => ?_)
    refine lv_pop hx hb dX9_readsValley_76 rfl ?_
    refine lv_aload_n hx hb dX9_readsValley_77 rfl (lv_at hl 0 rfl) ?_
    refine g_ci hG (g_runV C hG (gR_9 gk_140) (c_X9_isWell l D cs ad q73.2 rfl) wm_X9_107 wi_X9_isWell ws_X9_isWell wz_X9 wc_X9_isWell e_X9_isWell (by decide) hl.1 (Nat.le_of_ble_eq_true rfl) dX9_readsValley_78) (fun H locs hG => ?_)
    refine lv_if_eq (tgt := 124) hx hb dX9_readsValley_81 (by decide) (fun c_81 => ?_) (fun c_81 => ?_)
    · have h := if_f (bi_f c_81) h
      exact hr (Option.some.inj h) hG dX9_readsValley_124
    · have h := if_t (bi_t c_81) h
      refine lv_aload_n hx hb dX9_readsValley_84 rfl (lv_at hl 0 rfl) ?_
      refine gf_X9_draft C hG gk_140 wf_X9_28 dX9_readsValley_85 ?_
      refine lv_bipush (v := 6) hx hb dX9_readsValley_88 (by decide) ?_
      refine lv_iload_n hx hb dX9_readsValley_90 rfl (lv_at hl 1 rfl) ?_
      refine lv_iadd hx hb dX9_readsValley_91 ?_
      refine lv_iload_n hx hb dX9_readsValley_92 rfl (lv_at hl 1 rfl) ?_
      obtain ⟨hi_93, h⟩ := ix_e h
      refine g_as C hG gk_147 gl_147 hi_93 rfl dX9_readsValley_93 (fun M93 e_93 H locs hG => ?_)
      have h := nm_at e_93 h
      refine lv_aload_n hx hb dX9_readsValley_94 rfl (lv_at hl 0 rfl) ?_
      refine gf_X9_draft C hG gk_140 wf_X9_28 dX9_readsValley_95 ?_
      refine lv_bipush (v := 11) hx hb dX9_readsValley_98 (by decide) ?_
      refine lv_iload_n hx hb dX9_readsValley_100 rfl (lv_at hl 1 rfl) ?_
      refine lv_iadd hx hb dX9_readsValley_101 ?_
      refine lv_iload_n hx hb dX9_readsValley_102 rfl (lv_at hl 2 rfl) ?_
      obtain ⟨hi_103, h⟩ := ix_e h
      refine g_as C hG gk_147 gl_147 hi_103 rfl dX9_readsValley_103 (fun M103 e_103 H locs hG => ?_)
      have h := nm_at e_103 h
      refine lv_aload_n hx hb dX9_readsValley_104 rfl (lv_at hl 0 rfl) ?_
      refine gf_X9_draft C hG gk_140 wf_X9_28 dX9_readsValley_105 ?_
      refine lv_bipush (v := 16) hx hb dX9_readsValley_108 (by decide) ?_
      refine lv_iload_n hx hb dX9_readsValley_110 rfl (lv_at hl 1 rfl) ?_
      refine lv_iadd hx hb dX9_readsValley_111 ?_
      refine lv_iload_n hx hb dX9_readsValley_112 rfl (lv_at hl 3 rfl) ?_
      obtain ⟨hi_113, h⟩ := ix_e h
      refine g_as C hG gk_147 gl_147 hi_113 rfl dX9_readsValley_113 (fun M113 e_113 H locs hG => ?_)
      have h := nm_at e_113 h
      refine lv_aload_n hx hb dX9_readsValley_114 rfl (lv_at hl 0 rfl) ?_
      refine gf_X9_draft C hG gk_140 wf_X9_28 dX9_readsValley_115 ?_
      refine lv_iconst (v := 2) hx hb dX9_readsValley_118 (by decide) ?_
      refine lv_dup2_11 hx hb dX9_readsValley_119 rfl rfl ?_
      refine g_al (j := 2) C hG gk_147 gl_147 (ixl rfl) (by decide) dX9_readsValley_120 ?_
      refine lv_iconst (v := 1) hx hb dX9_readsValley_121 (by decide) ?_
      refine lv_iadd hx hb dX9_readsValley_122 ?_
      refine g_as (j := 2) C hG gk_147 gl_147 (ixl rfl) (by decide) dX9_readsValley_123 (fun M123 e_123 H locs hG => ?_)
      have h := nm_at e_123 h
      exact hr (Option.some.inj h) hG dX9_readsValley_124
  have J_41 : ∀ (M : Mem) (s0 : Int32), f_X9_readsValley_41 M s0 = some z → GP p l e (rmk 5) s m args below meth c 0 0 Q D cs ad 4 41 [(0, .ref (ad 140))] [.int s0] M := by
    intro M s0 h H locs hG ls hl
    unfold f_X9_readsValley_41 at h
    refine lv_istore_n (lv' := [(1, .int s0), (0, .ref (ad 140))]) hx hb dX9_readsValley_41 rfl hl (by decide) rfl (fun ls hl => ?_)
    refine lv_aload_n hx hb dX9_readsValley_42 rfl (lv_at hl 1 rfl) ?_
    refine lv_iconst (v := 0) hx hb dX9_readsValley_43 (by decide) ?_
    refine lv_bipush (v := 20) hx hb dX9_readsValley_44 (by decide) ?_
    obtain ⟨q46, e_46, h⟩ := bd_e h
    refine g_ci hG (g_runV C hG (gR_9 gk_140) (c_X9_figure l D cs ad M (0 : Int32) (20 : Int32) e_46) wm_X9_121 wi_X9_figure ws_X9_figure wz_X9 wc_X9_figure e_X9_figure (by decide) hl.1 (Nat.le_of_ble_eq_true rfl) dX9_readsValley_46) (fun H locs hG => ?_)
    refine lv_istore_n (lv' := [(2, .int q46.1), (1, .int s0), (0, .ref (ad 140))]) hx hb dX9_readsValley_49 rfl hl (by decide) rfl (fun ls hl => ?_)
    refine lv_aload_n hx hb dX9_readsValley_50 rfl (lv_at hl 2 rfl) ?_
    refine lv_iconst (v := 0) hx hb dX9_readsValley_51 (by decide) ?_
    refine lv_bipush (v := 9) hx hb dX9_readsValley_52 (by decide) ?_
    obtain ⟨q54, e_54, h⟩ := bd_e h
    refine g_ci hG (g_runV C hG (gR_9 gk_140) (c_X9_next l D cs ad q46.2 (0 : Int32) (9 : Int32) e_54) wm_X9_124 wi_X9_next ws_X9_next wz_X9 wc_X9_next e_X9_next (by decide) hl.1 (Nat.le_of_ble_eq_true rfl) dX9_readsValley_54) (fun H locs hG => ?_)
    refine lv_istore_n (lv' := [(3, .int q54.1), (2, .int q46.1), (1, .int s0), (0, .ref (ad 140))]) hx hb dX9_readsValley_57 rfl hl (by decide) rfl (fun ls hl => ?_)
    refine lv_aload_n hx hb dX9_readsValley_58 rfl (lv_at hl 3 rfl) ?_
    refine lv_aload_n hx hb dX9_readsValley_59 rfl (lv_at hl 3 rfl) ?_
    refine gf_X9_token C hG gk_140 wf_X9_101 dX9_readsValley_60 ?_
    refine lv_iconst (v := 4) hx hb dX9_readsValley_63 (by decide) ?_
    refine lv_icmp_ne (tgt := 71) hx hb dX9_readsValley_64 (by decide) (fun c_64 => ?_) (fun c_64 => ?_)
    · have h := if_f c_64 h
      refine lv_iconst (v := 0) hx hb dX9_readsValley_71 (by decide) ?_
      exact J_72 q54.2 s0 q46.1 q54.1 false h H locs hG ls (lv_sub hl [3, 2, 1, 0] rfl)
    · have h := if_t c_64 h
      refine lv_iconst (v := 1) hx hb dX9_readsValley_67 (by decide) ?_
      refine lv_goto (tgt := 72) hx hb dX9_readsValley_68 (by decide) ?_
      exact J_72 q54.2 s0 q46.1 q54.1 true h H locs hG ls (lv_sub hl [3, 2, 1, 0] rfl)
  have J_16 : ∀ (M : Mem) (s1 : Bool), f_X9_readsValley_16 M s1 = some z → GP p l e (rmk 5) s m args below meth c 0 0 Q D cs ad 4 16 [(0, .ref (ad 140))] [.int (bi s1), .ref (ad 140)] M := by
    intro M s1 h H locs hG ls hl
    unfold f_X9_readsValley_16 at h
    refine lv_iconst (v := 3) hx hb dX9_readsValley_16 (by decide) ?_
    obtain ⟨q17, e_17, h⟩ := bd_e h
    refine g_ci hG (g_runV C hG (gR_9 gk_140) (c_X9_takes l D cs ad M s1 (3 : Int32) e_17) wm_X9_117 wi_X9_takes ws_X9_takes wz_X9 wc_X9_takes e_X9_takes (by decide) hl.1 (Nat.le_of_ble_eq_true rfl) dX9_readsValley_17) (fun H locs hG => ?_)
    refine lv_pop hx hb dX9_readsValley_20 rfl ?_
    refine lv_aload_n hx hb dX9_readsValley_21 rfl (lv_at hl 0 rfl) ?_
    refine gf_X9_draft C hG gk_140 wf_X9_28 dX9_readsValley_22 ?_
    refine lv_iconst (v := 2) hx hb dX9_readsValley_25 (by decide) ?_
    refine g_al (j := 2) C hG gk_147 gl_147 (ixl rfl) (by decide) dX9_readsValley_26 ?_
    refine lv_iconst (v := 5) hx hb dX9_readsValley_27 (by decide) ?_
    refine lv_icmp_ge (tgt := 40) hx hb dX9_readsValley_28 (by decide) (fun c_28 => ?_) (fun c_28 => ?_)
    · have h := if_t c_28 h
      refine lv_iconst (v := 0) hx hb dX9_readsValley_40 (by decide) ?_
      exact J_41 q17.2 (0 : Int32) h H locs hG ls (lv_sub hl [0] rfl)
    · have h := if_f c_28 h
      refine lv_aload_n hx hb dX9_readsValley_31 rfl (lv_at hl 0 rfl) ?_
      refine gf_X9_draft C hG gk_140 wf_X9_28 dX9_readsValley_32 ?_
      refine lv_iconst (v := 2) hx hb dX9_readsValley_35 (by decide) ?_
      refine g_al (j := 2) C hG gk_147 gl_147 (ixl rfl) (by decide) dX9_readsValley_36 ?_
      refine lv_goto (tgt := 41) hx hb dX9_readsValley_37 (by decide) ?_
      exact J_41 q17.2 (q17.2 147 2) h H locs hG ls (lv_sub hl [0] rfl)
  intro H locs hG ls hl
  have hl : lv_has ls 4 [(0, .ref (ad 140))] := hl
  unfold f_X9_readsValley at h
  refine lv_aload_n hx hb dX9_readsValley_0 rfl (lv_at hl 0 rfl) ?_
  refine lv_aload_n hx hb dX9_readsValley_1 rfl (lv_at hl 0 rfl) ?_
  refine gf_X9_draft C hG gk_140 wf_X9_28 dX9_readsValley_2 ?_
  refine lv_iconst (v := 2) hx hb dX9_readsValley_5 (by decide) ?_
  refine g_al (j := 2) C hG gk_147 gl_147 (ixl rfl) (by decide) dX9_readsValley_6 ?_
  refine lv_iconst (v := 5) hx hb dX9_readsValley_7 (by decide) ?_
  refine lv_icmp_ge (tgt := 15) hx hb dX9_readsValley_8 (by decide) (fun c_8 => ?_) (fun c_8 => ?_)
  · have h := if_t c_8 h
    refine lv_iconst (v := 0) hx hb dX9_readsValley_15 (by decide) ?_
    exact J_16 M false h H locs hG ls (lv_sub hl [0] rfl)
  · have h := if_f c_8 h
    refine lv_iconst (v := 1) hx hb dX9_readsValley_11 (by decide) ?_
    refine lv_goto (tgt := 16) hx hb dX9_readsValley_12 (by decide) ?_
    exact J_16 M true h H locs hG ls (lv_sub hl [0] rfl)
def f_X9_kindOf (x0 : Int32) : Int32 :=
  if x0 = (104 : Int32) then (
    (1 : Int32)
  ) else (
    if x0 = (100 : Int32) then (
      (2 : Int32)
    ) else (
      if x0 = (111 : Int32) then (
        (3 : Int32)
      ) else (
        if x0 = (110 : Int32) then (
          (4 : Int32)
        ) else (
          if x0 = (112 : Int32) then (
            (5 : Int32)
          ) else (
            (0 : Int32)
          )
        )
      )
    )
  )
theorem e_X9_kindOf : yX9_kindOf.cls ≠ "java/lang/invoke/MethodHandle" ∧ yX9_kindOf.cls ≠ "java/lang/invoke/VarHandle" ∧ (parseMethodDescriptor yX9_kindOf.desc).map (fun d => d.parameters.length) = some 1 := by decide +kernel
set_option maxHeartbeats 4000000 in
set_option maxRecDepth 100000 in
theorem c_X9_kindOf (l : Launch) (D : va_G) (cs : Nat → ClassId) (ad : Nat → Nat) (M : Mem) (x0 : Int32) {z : Int32} (h : f_X9_kindOf x0 = z) : CtI l yX9_kindOf cX9_kindOf 1 .int 0 D cs ad [.int x0] M z M := by
  refine ct_i (own := RX9) (by decide) rfl (Nat.le_of_ble_eq_true rfl) ?_
  intro p e s m args below meth c Q C hr
  have hx := C.1
  have hb := C.2.1
  have hown := C.2.2.2.1
  have hts := C.2.2.2.2.1
  intro H locs hG ls hl
  have hl : lv_has ls 1 [(0, .int x0)] := hl
  unfold f_X9_kindOf at h
  refine lv_iload_n hx hb dX9_kindOf_0 rfl (lv_at hl 0 rfl) ?_
  refine lv_bipush (v := 104) hx hb dX9_kindOf_1 (by decide) ?_
  refine lv_icmp_ne (tgt := 10) hx hb dX9_kindOf_3 (by decide) (fun c_3 => ?_) (fun c_3 => ?_)
  · have h := if_f c_3 h
    refine lv_iload_n hx hb dX9_kindOf_10 rfl (lv_at hl 0 rfl) ?_
    refine lv_bipush (v := 100) hx hb dX9_kindOf_11 (by decide) ?_
    refine lv_icmp_ne (tgt := 20) hx hb dX9_kindOf_13 (by decide) (fun c_13 => ?_) (fun c_13 => ?_)
    · have h := if_f c_13 h
      refine lv_iload_n hx hb dX9_kindOf_20 rfl (lv_at hl 0 rfl) ?_
      refine lv_bipush (v := 111) hx hb dX9_kindOf_21 (by decide) ?_
      refine lv_icmp_ne (tgt := 30) hx hb dX9_kindOf_23 (by decide) (fun c_23 => ?_) (fun c_23 => ?_)
      · have h := if_f c_23 h
        refine lv_iload_n hx hb dX9_kindOf_30 rfl (lv_at hl 0 rfl) ?_
        refine lv_bipush (v := 110) hx hb dX9_kindOf_31 (by decide) ?_
        refine lv_icmp_ne (tgt := 40) hx hb dX9_kindOf_33 (by decide) (fun c_33 => ?_) (fun c_33 => ?_)
        · have h := if_f c_33 h
          refine lv_iload_n hx hb dX9_kindOf_40 rfl (lv_at hl 0 rfl) ?_
          refine lv_bipush (v := 112) hx hb dX9_kindOf_41 (by decide) ?_
          refine lv_icmp_ne (tgt := 50) hx hb dX9_kindOf_43 (by decide) (fun c_43 => ?_) (fun c_43 => ?_)
          · have h := if_f c_43 h
            refine lv_iconst (v := 0) hx hb dX9_kindOf_50 (by decide) ?_
            exact hr h rfl hG dX9_kindOf_51
          · have h := if_t c_43 h
            refine lv_iconst (v := 5) hx hb dX9_kindOf_46 (by decide) ?_
            refine lv_goto (tgt := 51) hx hb dX9_kindOf_47 (by decide) ?_
            exact hr h rfl hG dX9_kindOf_51
        · have h := if_t c_33 h
          refine lv_iconst (v := 4) hx hb dX9_kindOf_36 (by decide) ?_
          refine lv_goto (tgt := 51) hx hb dX9_kindOf_37 (by decide) ?_
          exact hr h rfl hG dX9_kindOf_51
      · have h := if_t c_23 h
        refine lv_iconst (v := 3) hx hb dX9_kindOf_26 (by decide) ?_
        refine lv_goto (tgt := 51) hx hb dX9_kindOf_27 (by decide) ?_
        exact hr h rfl hG dX9_kindOf_51
    · have h := if_t c_13 h
      refine lv_iconst (v := 2) hx hb dX9_kindOf_16 (by decide) ?_
      refine lv_goto (tgt := 51) hx hb dX9_kindOf_17 (by decide) ?_
      exact hr h rfl hG dX9_kindOf_51
  · have h := if_t c_3 h
    refine lv_iconst (v := 1) hx hb dX9_kindOf_6 (by decide) ?_
    refine lv_goto (tgt := 51) hx hb dX9_kindOf_7 (by decide) ?_
    exact hr h rfl hG dX9_kindOf_51
def f_X9_readsBird_97 (M : Mem) (x1 : Int32) (x2 : Int32) (x3 : Int32) (x4 : Int32) (x5 : Int32) (s1 : Bool) : Option Mem :=
  (f_X9_takes M s1 (1 : Int32)).bind fun q98 =>
  if (f_X9_isWell q98.2) = true then (
    chk (ixb x2 57) <|
    nm (st q98.2 147 x2.toNatClampNeg x1) fun M115 =>
    chk (ixb (x2 + (1 : Int32)) 57) <|
    nm (st M115 147 ((x2 + (1 : Int32)).toNatClampNeg) x3) fun M124 =>
    chk (ixb (x2 + (2 : Int32)) 57) <|
    nm (st M124 147 ((x2 + (2 : Int32)).toNatClampNeg) x4) fun M134 =>
    chk (ixb (x2 + (3 : Int32)) 57) <|
    nm (st M134 147 ((x2 + (3 : Int32)).toNatClampNeg) x5) fun M144 =>
    chk (ixb (x2 + (4 : Int32)) 57) <|
    nm (st M144 147 ((x2 + (4 : Int32)).toNatClampNeg) (1 : Int32)) fun M153 =>
    nm (st M153 147 5 ((M153 147 5) + (1 : Int32))) fun M163 =>
    some M163
  ) else (
    some q98.2
  )
def f_X9_readsBird_55 (M : Mem) (x1 : Int32) (s0 : Int32) (s1 : Int32) (s2 : Int32) : Option Mem :=
  nm ((s0 + (s1 * s2))) fun x2_57 =>
  (f_X9_figure M (0 : Int32) (30 : Int32)).bind fun q62 =>
  (f_X9_next q62.2 (0 : Int32) (6 : Int32)).bind fun q70 =>
  (f_X9_next q70.2 (0 : Int32) (5 : Int32)).bind fun q78 =>
  if (q78.2 140 11) = (4 : Int32) then (
    f_X9_readsBird_97 q78.2 x1 x2_57 q62.1 q70.1 q78.1 true
  ) else (
    f_X9_readsBird_97 q78.2 x1 x2_57 q62.1 q70.1 q78.1 false
  )
def f_X9_readsBird_25 (M : Mem) (x1 : Int32) (s1 : Bool) : Option Mem :=
  (f_X9_takes M s1 (3 : Int32)).bind fun q26 =>
  if (6 : Int32) ≤ (q26.2 147 5) then (
    f_X9_readsBird_55 q26.2 x1 (21 : Int32) (6 : Int32) (0 : Int32)
  ) else (
    f_X9_readsBird_55 q26.2 x1 (21 : Int32) (6 : Int32) (q26.2 147 5)
  )
def f_X9_readsBird (M : Mem) : Option Mem :=
  nm ((f_X9_kindOf (M 140 12))) fun x1_7 =>
  if (6 : Int32) ≤ (M 147 5) then (
    f_X9_readsBird_25 M x1_7 false
  ) else (
    f_X9_readsBird_25 M x1_7 true
  )
theorem e_X9_readsBird : yX9_readsBird.cls = RX9 ∧ yX9_readsBird.cls ≠ "java/lang/invoke/MethodHandle" ∧ yX9_readsBird.cls ≠ "java/lang/invoke/VarHandle" ∧ (parseMethodDescriptor yX9_readsBird.desc).map (fun d => d.parameters.length) = some 0 := by decide +kernel
set_option maxHeartbeats 4000000 in
set_option maxRecDepth 100000 in
theorem c_X9_readsBird (l : Launch) (D : va_G) (cs : Nat → ClassId) (ad : Nat → Nat) (M : Mem) {z : Mem} (h : f_X9_readsBird M = some z) : CtV l yX9_readsBird cX9_readsBird 6 5 D cs ad [.ref (ad 140)] M z := by
  refine ct_v (own := RX9) (by decide) rfl (Nat.le_of_ble_eq_true rfl) ?_
  intro p e s m args below meth c Q C hr
  have hx := C.1
  have hb := C.2.1
  have hown := C.2.2.2.1
  have hts := C.2.2.2.2.1
  have J_97 : ∀ (M : Mem) (x1 : Int32) (x2 : Int32) (x3 : Int32) (x4 : Int32) (x5 : Int32) (s1 : Bool), f_X9_readsBird_97 M x1 x2 x3 x4 x5 s1 = some z → GP p l e (rmk 5) s m args below meth c 0 0 Q D cs ad 6 97 [(0, .ref (ad 140)), (1, .int x1), (2, .int x2), (3, .int x3), (4, .int x4), (5, .int x5)] [.int (bi s1), .ref (ad 140)] M := by
    intro M x1 x2 x3 x4 x5 s1 h H locs hG ls hl
    unfold f_X9_readsBird_97 at h
    refine lv_iconst (v := 1) hx hb dX9_readsBird_97 (by decide) ?_
    obtain ⟨q98, e_98, h⟩ := bd_e h
    refine g_ci hG (g_runV C hG (gR_9 gk_140) (c_X9_takes l D cs ad M s1 (1 : Int32) e_98) wm_X9_117 wi_X9_takes ws_X9_takes wz_X9 wc_X9_takes e_X9_takes (by decide) hl.1 (Nat.le_of_ble_eq_true rfl) dX9_readsBird_98) (fun H locs hG => ?_)
    refine lv_pop hx hb dX9_readsBird_101 rfl ?_
    refine lv_aload_n hx hb dX9_readsBird_102 rfl (lv_at hl 0 rfl) ?_
    refine g_ci hG (g_runV C hG (gR_9 gk_140) (c_X9_isWell l D cs ad q98.2 rfl) wm_X9_107 wi_X9_isWell ws_X9_isWell wz_X9 wc_X9_isWell e_X9_isWell (by decide) hl.1 (Nat.le_of_ble_eq_true rfl) dX9_readsBird_103) (fun H locs hG => ?_)
    refine lv_if_eq (tgt := 164) hx hb dX9_readsBird_106 (by decide) (fun c_106 => ?_) (fun c_106 => ?_)
    · have h := if_f (bi_f c_106) h
      exact hr (Option.some.inj h) hG dX9_readsBird_164
    · have h := if_t (bi_t c_106) h
      refine lv_aload_n hx hb dX9_readsBird_109 rfl (lv_at hl 0 rfl) ?_
      refine gf_X9_draft C hG gk_140 wf_X9_28 dX9_readsBird_110 ?_
      refine lv_iload_n hx hb dX9_readsBird_113 rfl (lv_at hl 2 rfl) ?_
      refine lv_iload_n hx hb dX9_readsBird_114 rfl (lv_at hl 1 rfl) ?_
      obtain ⟨hi_115, h⟩ := ix_e h
      refine g_as C hG gk_147 gl_147 hi_115 rfl dX9_readsBird_115 (fun M115 e_115 H locs hG => ?_)
      have h := nm_at e_115 h
      refine lv_aload_n hx hb dX9_readsBird_116 rfl (lv_at hl 0 rfl) ?_
      refine gf_X9_draft C hG gk_140 wf_X9_28 dX9_readsBird_117 ?_
      refine lv_iload_n hx hb dX9_readsBird_120 rfl (lv_at hl 2 rfl) ?_
      refine lv_iconst (v := 1) hx hb dX9_readsBird_121 (by decide) ?_
      refine lv_iadd hx hb dX9_readsBird_122 ?_
      refine lv_iload_n hx hb dX9_readsBird_123 rfl (lv_at hl 3 rfl) ?_
      obtain ⟨hi_124, h⟩ := ix_e h
      refine g_as C hG gk_147 gl_147 hi_124 rfl dX9_readsBird_124 (fun M124 e_124 H locs hG => ?_)
      have h := nm_at e_124 h
      refine lv_aload_n hx hb dX9_readsBird_125 rfl (lv_at hl 0 rfl) ?_
      refine gf_X9_draft C hG gk_140 wf_X9_28 dX9_readsBird_126 ?_
      refine lv_iload_n hx hb dX9_readsBird_129 rfl (lv_at hl 2 rfl) ?_
      refine lv_iconst (v := 2) hx hb dX9_readsBird_130 (by decide) ?_
      refine lv_iadd hx hb dX9_readsBird_131 ?_
      refine lv_iload hx hb dX9_readsBird_132 (lv_at hl 4 rfl) ?_
      obtain ⟨hi_134, h⟩ := ix_e h
      refine g_as C hG gk_147 gl_147 hi_134 rfl dX9_readsBird_134 (fun M134 e_134 H locs hG => ?_)
      have h := nm_at e_134 h
      refine lv_aload_n hx hb dX9_readsBird_135 rfl (lv_at hl 0 rfl) ?_
      refine gf_X9_draft C hG gk_140 wf_X9_28 dX9_readsBird_136 ?_
      refine lv_iload_n hx hb dX9_readsBird_139 rfl (lv_at hl 2 rfl) ?_
      refine lv_iconst (v := 3) hx hb dX9_readsBird_140 (by decide) ?_
      refine lv_iadd hx hb dX9_readsBird_141 ?_
      refine lv_iload hx hb dX9_readsBird_142 (lv_at hl 5 rfl) ?_
      obtain ⟨hi_144, h⟩ := ix_e h
      refine g_as C hG gk_147 gl_147 hi_144 rfl dX9_readsBird_144 (fun M144 e_144 H locs hG => ?_)
      have h := nm_at e_144 h
      refine lv_aload_n hx hb dX9_readsBird_145 rfl (lv_at hl 0 rfl) ?_
      refine gf_X9_draft C hG gk_140 wf_X9_28 dX9_readsBird_146 ?_
      refine lv_iload_n hx hb dX9_readsBird_149 rfl (lv_at hl 2 rfl) ?_
      refine lv_iconst (v := 4) hx hb dX9_readsBird_150 (by decide) ?_
      refine lv_iadd hx hb dX9_readsBird_151 ?_
      refine lv_iconst (v := 1) hx hb dX9_readsBird_152 (by decide) ?_
      obtain ⟨hi_153, h⟩ := ix_e h
      refine g_as C hG gk_147 gl_147 hi_153 rfl dX9_readsBird_153 (fun M153 e_153 H locs hG => ?_)
      have h := nm_at e_153 h
      refine lv_aload_n hx hb dX9_readsBird_154 rfl (lv_at hl 0 rfl) ?_
      refine gf_X9_draft C hG gk_140 wf_X9_28 dX9_readsBird_155 ?_
      refine lv_iconst (v := 5) hx hb dX9_readsBird_158 (by decide) ?_
      refine lv_dup2_11 hx hb dX9_readsBird_159 rfl rfl ?_
      refine g_al (j := 5) C hG gk_147 gl_147 (ixl rfl) (by decide) dX9_readsBird_160 ?_
      refine lv_iconst (v := 1) hx hb dX9_readsBird_161 (by decide) ?_
      refine lv_iadd hx hb dX9_readsBird_162 ?_
      refine g_as (j := 5) C hG gk_147 gl_147 (ixl rfl) (by decide) dX9_readsBird_163 (fun M163 e_163 H locs hG => ?_)
      have h := nm_at e_163 h
      exact hr (Option.some.inj h) hG dX9_readsBird_164
  have J_55 : ∀ (M : Mem) (x1 : Int32) (s0 : Int32) (s1 : Int32) (s2 : Int32), f_X9_readsBird_55 M x1 s0 s1 s2 = some z → GP p l e (rmk 5) s m args below meth c 0 0 Q D cs ad 6 55 [(0, .ref (ad 140)), (1, .int x1)] [.int s2, .int s1, .int s0] M := by
    intro M x1 s0 s1 s2 h H locs hG ls hl
    unfold f_X9_readsBird_55 at h
    refine lv_imul hx hb dX9_readsBird_55 ?_
    refine lv_iadd hx hb dX9_readsBird_56 ?_
    refine lv_topi (fun x2_57 e2_57 => ?_)
    have h := nm_at e2_57 h
    refine lv_istore_n (lv' := [(2, .int x2_57), (0, .ref (ad 140)), (1, .int x1)]) hx hb dX9_readsBird_57 rfl hl (by decide) rfl (fun ls hl => ?_)
    refine lv_aload_n hx hb dX9_readsBird_58 rfl (lv_at hl 1 rfl) ?_
    refine lv_iconst (v := 0) hx hb dX9_readsBird_59 (by decide) ?_
    refine lv_bipush (v := 30) hx hb dX9_readsBird_60 (by decide) ?_
    obtain ⟨q62, e_62, h⟩ := bd_e h
    refine g_ci hG (g_runV C hG (gR_9 gk_140) (c_X9_figure l D cs ad M (0 : Int32) (30 : Int32) e_62) wm_X9_121 wi_X9_figure ws_X9_figure wz_X9 wc_X9_figure e_X9_figure (by decide) hl.1 (Nat.le_of_ble_eq_true rfl) dX9_readsBird_62) (fun H locs hG => ?_)
    refine lv_istore_n (lv' := [(3, .int q62.1), (2, .int x2_57), (0, .ref (ad 140)), (1, .int x1)]) hx hb dX9_readsBird_65 rfl hl (by decide) rfl (fun ls hl => ?_)
    refine lv_aload_n hx hb dX9_readsBird_66 rfl (lv_at hl 2 rfl) ?_
    refine lv_iconst (v := 0) hx hb dX9_readsBird_67 (by decide) ?_
    refine lv_bipush (v := 6) hx hb dX9_readsBird_68 (by decide) ?_
    obtain ⟨q70, e_70, h⟩ := bd_e h
    refine g_ci hG (g_runV C hG (gR_9 gk_140) (c_X9_next l D cs ad q62.2 (0 : Int32) (6 : Int32) e_70) wm_X9_124 wi_X9_next ws_X9_next wz_X9 wc_X9_next e_X9_next (by decide) hl.1 (Nat.le_of_ble_eq_true rfl) dX9_readsBird_70) (fun H locs hG => ?_)
    refine lv_istore (lv' := [(4, .int q70.1), (3, .int q62.1), (2, .int x2_57), (0, .ref (ad 140)), (1, .int x1)]) hx hb dX9_readsBird_73 hl (by decide) rfl (fun ls hl => ?_)
    refine lv_aload_n hx hb dX9_readsBird_75 rfl (lv_at hl 3 rfl) ?_
    refine lv_iconst (v := 0) hx hb dX9_readsBird_76 (by decide) ?_
    refine lv_iconst (v := 5) hx hb dX9_readsBird_77 (by decide) ?_
    obtain ⟨q78, e_78, h⟩ := bd_e h
    refine g_ci hG (g_runV C hG (gR_9 gk_140) (c_X9_next l D cs ad q70.2 (0 : Int32) (5 : Int32) e_78) wm_X9_124 wi_X9_next ws_X9_next wz_X9 wc_X9_next e_X9_next (by decide) hl.1 (Nat.le_of_ble_eq_true rfl) dX9_readsBird_78) (fun H locs hG => ?_)
    refine lv_istore (lv' := [(5, .int q78.1), (4, .int q70.1), (3, .int q62.1), (2, .int x2_57), (0, .ref (ad 140)), (1, .int x1)]) hx hb dX9_readsBird_81 hl (by decide) rfl (fun ls hl => ?_)
    refine lv_aload_n hx hb dX9_readsBird_83 rfl (lv_at hl 4 rfl) ?_
    refine lv_aload_n hx hb dX9_readsBird_84 rfl (lv_at hl 4 rfl) ?_
    refine gf_X9_token C hG gk_140 wf_X9_101 dX9_readsBird_85 ?_
    refine lv_iconst (v := 4) hx hb dX9_readsBird_88 (by decide) ?_
    refine lv_icmp_ne (tgt := 96) hx hb dX9_readsBird_89 (by decide) (fun c_89 => ?_) (fun c_89 => ?_)
    · have h := if_f c_89 h
      refine lv_iconst (v := 0) hx hb dX9_readsBird_96 (by decide) ?_
      exact J_97 q78.2 x1 x2_57 q62.1 q70.1 q78.1 false h H locs hG ls (lv_sub hl [4, 5, 3, 2, 1, 0] rfl)
    · have h := if_t c_89 h
      refine lv_iconst (v := 1) hx hb dX9_readsBird_92 (by decide) ?_
      refine lv_goto (tgt := 97) hx hb dX9_readsBird_93 (by decide) ?_
      exact J_97 q78.2 x1 x2_57 q62.1 q70.1 q78.1 true h H locs hG ls (lv_sub hl [4, 5, 3, 2, 1, 0] rfl)
  have J_25 : ∀ (M : Mem) (x1 : Int32) (s1 : Bool), f_X9_readsBird_25 M x1 s1 = some z → GP p l e (rmk 5) s m args below meth c 0 0 Q D cs ad 6 25 [(0, .ref (ad 140)), (1, .int x1)] [.int (bi s1), .ref (ad 140)] M := by
    intro M x1 s1 h H locs hG ls hl
    unfold f_X9_readsBird_25 at h
    refine lv_iconst (v := 3) hx hb dX9_readsBird_25 (by decide) ?_
    obtain ⟨q26, e_26, h⟩ := bd_e h
    refine g_ci hG (g_runV C hG (gR_9 gk_140) (c_X9_takes l D cs ad M s1 (3 : Int32) e_26) wm_X9_117 wi_X9_takes ws_X9_takes wz_X9 wc_X9_takes e_X9_takes (by decide) hl.1 (Nat.le_of_ble_eq_true rfl) dX9_readsBird_26) (fun H locs hG => ?_)
    refine lv_pop hx hb dX9_readsBird_29 rfl ?_
    refine lv_bipush (v := 21) hx hb dX9_readsBird_30 (by decide) ?_
    refine lv_bipush (v := 6) hx hb dX9_readsBird_32 (by decide) ?_
    refine lv_aload_n hx hb dX9_readsBird_34 rfl (lv_at hl 0 rfl) ?_
    refine gf_X9_draft C hG gk_140 wf_X9_28 dX9_readsBird_35 ?_
    refine lv_iconst (v := 5) hx hb dX9_readsBird_38 (by decide) ?_
    refine g_al (j := 5) C hG gk_147 gl_147 (ixl rfl) (by decide) dX9_readsBird_39 ?_
    refine lv_bipush (v := 6) hx hb dX9_readsBird_40 (by decide) ?_
    refine lv_icmp_ge (tgt := 54) hx hb dX9_readsBird_42 (by decide) (fun c_42 => ?_) (fun c_42 => ?_)
    · have h := if_t c_42 h
      refine lv_iconst (v := 0) hx hb dX9_readsBird_54 (by decide) ?_
      exact J_55 q26.2 x1 (21 : Int32) (6 : Int32) (0 : Int32) h H locs hG ls (lv_sub hl [0, 1] rfl)
    · have h := if_f c_42 h
      refine lv_aload_n hx hb dX9_readsBird_45 rfl (lv_at hl 0 rfl) ?_
      refine gf_X9_draft C hG gk_140 wf_X9_28 dX9_readsBird_46 ?_
      refine lv_iconst (v := 5) hx hb dX9_readsBird_49 (by decide) ?_
      refine g_al (j := 5) C hG gk_147 gl_147 (ixl rfl) (by decide) dX9_readsBird_50 ?_
      refine lv_goto (tgt := 55) hx hb dX9_readsBird_51 (by decide) ?_
      exact J_55 q26.2 x1 (21 : Int32) (6 : Int32) (q26.2 147 5) h H locs hG ls (lv_sub hl [0, 1] rfl)
  intro H locs hG ls hl
  have hl : lv_has ls 6 [(0, .ref (ad 140))] := hl
  unfold f_X9_readsBird at h
  refine lv_aload_n hx hb dX9_readsBird_0 rfl (lv_at hl 0 rfl) ?_
  refine gf_X9_value C hG gk_140 wf_X9_98 dX9_readsBird_1 ?_
  refine g_ci hG (g_runS C hG (c_X9_kindOf l D cs ad M (M 140 12) rfl) wm_X9_127 wt_X9_kindOf wz_X9 wc_X9_kindOf e_X9_kindOf (by decide) hl.1 (Nat.le_of_ble_eq_true rfl) dX9_readsBird_4) (fun H locs hG => ?_)
  refine lv_topi (fun x1_7 e1_7 => ?_)
  have h := nm_at e1_7 h
  refine lv_istore_n (lv' := [(1, .int x1_7), (0, .ref (ad 140))]) hx hb dX9_readsBird_7 rfl hl (by decide) rfl (fun ls hl => ?_)
  refine lv_aload_n hx hb dX9_readsBird_8 rfl (lv_at hl 1 rfl) ?_
  refine lv_aload_n hx hb dX9_readsBird_9 rfl (lv_at hl 1 rfl) ?_
  refine gf_X9_draft C hG gk_140 wf_X9_28 dX9_readsBird_10 ?_
  refine lv_iconst (v := 5) hx hb dX9_readsBird_13 (by decide) ?_
  refine g_al (j := 5) C hG gk_147 gl_147 (ixl rfl) (by decide) dX9_readsBird_14 ?_
  refine lv_bipush (v := 6) hx hb dX9_readsBird_15 (by decide) ?_
  refine lv_icmp_ge (tgt := 24) hx hb dX9_readsBird_17 (by decide) (fun c_17 => ?_) (fun c_17 => ?_)
  · have h := if_t c_17 h
    refine lv_iconst (v := 0) hx hb dX9_readsBird_24 (by decide) ?_
    exact J_25 M x1_7 false h H locs hG ls (lv_sub hl [1, 0] rfl)
  · have h := if_f c_17 h
    refine lv_iconst (v := 1) hx hb dX9_readsBird_20 (by decide) ?_
    refine lv_goto (tgt := 25) hx hb dX9_readsBird_21 (by decide) ?_
    exact J_25 M x1_7 true h H locs hG ls (lv_sub hl [1, 0] rfl)
