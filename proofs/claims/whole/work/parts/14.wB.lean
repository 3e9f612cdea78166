def f_X2_clear (M : Mem) (i0 : Nat) : Mem :=
  nm (st M (i0 + 1) 1 (0 : Int32)) fun M5 =>
  nm (st M5 (i0 + 1) 2 (0 : Int32)) fun M13 =>
  nm (st M13 (i0 + 7) 0 (0 : Int32)) fun M21 =>
  nm (st M21 (i0 + 7) 1 (0 : Int32)) fun M29 =>
  nm (st M29 (i0 + 7) 2 (0 : Int32)) fun M37 =>
  nm (st M37 (i0 + 7) 3 (0 : Int32)) fun M45 =>
  M45
theorem e_X2_clear : yX2_clear.cls = RX2 ∧ yX2_clear.cls ≠ "java/lang/invoke/MethodHandle" ∧ yX2_clear.cls ≠ "java/lang/invoke/VarHandle" ∧ (parseMethodDescriptor yX2_clear.desc).map (fun d => d.parameters.length) = some 0 := by decide +kernel
set_option maxHeartbeats 4000000 in
set_option maxRecDepth 100000 in
theorem c_X2_clear (l : Launch) (D : va_G) (cs : Nat → ClassId) (ad : Nat → Nat) (M : Mem) {i0 : Nat} (k_i0 : gK i0 = 2) {z : Mem} (h : f_X2_clear M i0 = z) : CtV l yX2_clear cX2_clear 1 0 D cs ad [.ref (ad i0)] M z := by
  refine ct_v (own := RX2) (by decide) rfl (Nat.le_of_ble_eq_true rfl) ?_
  intro p e s m args below meth c Q C hr
  have hx := C.1
  have hb := C.2.1
  have hown := C.2.2.2.1
  have hts := C.2.2.2.2.1
  intro H locs hG ls hl
  have hl : lv_has ls 1 [(0, .ref (ad i0))] := hl
  unfold f_X2_clear at h
  refine lv_aload_n hx hb dX2_clear_0 rfl (lv_at hl 0 rfl) ?_
  refine gf_X2_told (j := (i0 + 1)) C hG k_i0 rfl wf_X2_12 dX2_clear_1 ?_
  refine lv_iconst (v := 0) hx hb dX2_clear_4 (by decide) ?_
  refine gp_X7_valleys C hG (gk_X2_told k_i0) wf_X2_32 dX2_clear_5 (fun M5 e_5 H locs hG => ?_)
  have h := nm_at e_5 h
  refine lv_aload_n hx hb dX2_clear_8 rfl (lv_at hl 0 rfl) ?_
  refine gf_X2_told (j := (i0 + 1)) C hG k_i0 rfl wf_X2_12 dX2_clear_9 ?_
  refine lv_iconst (v := 0) hx hb dX2_clear_12 (by decide) ?_
  refine gp_X7_birds C hG (gk_X2_told k_i0) wf_X2_36 dX2_clear_13 (fun M13 e_13 H locs hG => ?_)
  have h := nm_at e_13 h
  refine lv_aload_n hx hb dX2_clear_16 rfl (lv_at hl 0 rfl) ?_
  refine gf_X2_moment (j := (i0 + 7)) C hG k_i0 rfl wf_X2_21 dX2_clear_17 ?_
  refine lv_iconst (v := 0) hx hb dX2_clear_20 (by decide) ?_
  refine gp_X3_flying C hG (gk_X2_moment k_i0) wf_X2_39 dX2_clear_21 (fun M21 e_21 H locs hG => ?_)
  have h := nm_at e_21 h
  refine lv_aload_n hx hb dX2_clear_24 rfl (lv_at hl 0 rfl) ?_
  refine gf_X2_moment (j := (i0 + 7)) C hG k_i0 rfl wf_X2_21 dX2_clear_25 ?_
  refine lv_iconst (v := 0) hx hb dX2_clear_28 (by decide) ?_
  refine gp_X3_kept C hG (gk_X2_moment k_i0) wf_X2_42 dX2_clear_29 (fun M29 e_29 H locs hG => ?_)
  have h := nm_at e_29 h
  refine lv_aload_n hx hb dX2_clear_32 rfl (lv_at hl 0 rfl) ?_
  refine gf_X2_moment (j := (i0 + 7)) C hG k_i0 rfl wf_X2_21 dX2_clear_33 ?_
  refine lv_iconst (v := 0) hx hb dX2_clear_36 (by decide) ?_
  refine gp_X3_turned C hG (gk_X2_moment k_i0) wf_X2_45 dX2_clear_37 (fun M37 e_37 H locs hG => ?_)
  have h := nm_at e_37 h
  refine lv_aload_n hx hb dX2_clear_40 rfl (lv_at hl 0 rfl) ?_
  refine gf_X2_moment (j := (i0 + 7)) C hG k_i0 rfl wf_X2_21 dX2_clear_41 ?_
  refine lv_iconst (v := 0) hx hb dX2_clear_44 (by decide) ?_
  refine gp_X3_through C hG (gk_X2_moment k_i0) wf_X2_48 dX2_clear_45 (fun M45 e_45 H locs hG => ?_)
  have h := nm_at e_45 h
  exact hr h hG dX2_clear_48
def f_X2_addValley (M : Mem) (i0 : Nat) (x1 : Int32) (x2 : Int32) : Option Mem :=
  nm ((M (i0 + 1) 1)) fun x3_7 =>
  if (5 : Int32) ≤ x3_7 then (
    some M
  ) else (
    chk (ixb x3_7 5) <|
    nm (st M (i0 + 2) x3_7.toNatClampNeg x1) fun M22 =>
    nm (st M22 (i0 + 3) x3_7.toNatClampNeg x2) fun M32 =>
    nm (st M32 (i0 + 9) x3_7.toNatClampNeg x3_7) fun M42 =>
    nm (st M42 (i0 + 1) 1 (x3_7 + (1 : Int32))) fun M50 =>
    some M50
  )
theorem e_X2_addValley : yX2_addValley.cls = RX2 ∧ yX2_addValley.cls ≠ "java/lang/invoke/MethodHandle" ∧ yX2_addValley.cls ≠ "java/lang/invoke/VarHandle" ∧ (parseMethodDescriptor yX2_addValley.desc).map (fun d => d.parameters.length) = some 2 := by decide +kernel
set_option maxHeartbeats 4000000 in
set_option maxRecDepth 100000 in
theorem c_X2_addValley (l : Launch) (D : va_G) (cs : Nat → ClassId) (ad : Nat → Nat) (M : Mem) {i0 : Nat} (k_i0 : gK i0 = 2) (x1 : Int32) (x2 : Int32) {z : Mem} (h : f_X2_addValley M i0 x1 x2 = some z) : CtV l yX2_addValley cX2_addValley 4 0 D cs ad [.ref (ad i0), .int x1, .int x2] M z := by
  refine ct_v (own := RX2) (by decide) rfl (Nat.le_of_ble_eq_true rfl) ?_
  intro p e s m args below meth c Q C hr
  have hx := C.1
  have hb := C.2.1
  have hown := C.2.2.2.1
  have hts := C.2.2.2.2.1
  intro H locs hG ls hl
  have hl : lv_has ls 4 [(0, .ref (ad i0)), (1, .int x1), (2, .int x2)] := hl
  unfold f_X2_addValley at h
  refine lv_aload_n hx hb dX2_addValley_0 rfl (lv_at hl 0 rfl) ?_
  refine gf_X2_told (j := (i0 + 1)) C hG k_i0 rfl wf_X2_12 dX2_addValley_1 ?_
  refine gf_X7_valleys C hG (gk_X2_told k_i0) wf_X2_32 dX2_addValley_4 ?_
  refine lv_topi (fun x3_7 e3_7 => ?_)
  have h := nm_at e3_7 h
  refine lv_istore_n (lv' := [(3, .int x3_7), (0, .ref (ad i0)), (1, .int x1), (2, .int x2)]) hx hb dX2_addValley_7 rfl hl (by decide) rfl (fun ls hl => ?_)
  refine lv_iload_n hx hb dX2_addValley_8 rfl (lv_at hl 0 rfl) ?_
  refine lv_iconst (v := 5) hx hb dX2_addValley_9 (by decide) ?_
  refine lv_icmp_ge (tgt := 53) hx hb dX2_addValley_10 (by decide) (fun c_10 => ?_) (fun c_10 => ?_)
  · have h := if_t c_10 h
    exact hr (Option.some.inj h) hG dX2_addValley_53
  · have h := if_f c_10 h
    refine lv_aload_n hx hb dX2_addValley_13 rfl (lv_at hl 1 rfl) ?_
    refine gf_X2_told (j := (i0 + 1)) C hG k_i0 rfl wf_X2_12 dX2_addValley_14 ?_
    refine gf_X7_asks (j := (i0 + 2)) C hG (gk_X2_told k_i0) rfl wf_X2_51 dX2_addValley_17 ?_
    refine lv_iload_n hx hb dX2_addValley_20 rfl (lv_at hl 0 rfl) ?_
    refine lv_iload_n hx hb dX2_addValley_21 rfl (lv_at hl 2 rfl) ?_
    obtain ⟨hi_22, h⟩ := ix_e h
    refine g_as C hG (gk_X7_asks (gk_X2_told k_i0)) (gl_X7_asks (gk_X2_told k_i0)) hi_22 rfl dX2_addValley_22 (fun M22 e_22 H locs hG => ?_)
    have h := nm_at e_22 h
    refine lv_aload_n hx hb dX2_addValley_23 rfl (lv_at hl 1 rfl) ?_
    refine gf_X2_told (j := (i0 + 1)) C hG k_i0 rfl wf_X2_12 dX2_addValley_24 ?_
    refine gf_X7_losses (j := (i0 + 3)) C hG (gk_X2_told k_i0) rfl wf_X2_55 dX2_addValley_27 ?_
    refine lv_iload_n hx hb dX2_addValley_30 rfl (lv_at hl 0 rfl) ?_
    refine lv_iload_n hx hb dX2_addValley_31 rfl (lv_at hl 3 rfl) ?_
    refine g_as C hG (gk_X7_losses (gk_X2_told k_i0)) (gl_X7_losses (gk_X2_told k_i0)) hi_22 rfl dX2_addValley_32 (fun M32 e_32 H locs hG => ?_)
    have h := nm_at e_32 h
    refine lv_aload_n hx hb dX2_addValley_33 rfl (lv_at hl 1 rfl) ?_
    refine gf_X2_moment (j := (i0 + 7)) C hG k_i0 rfl wf_X2_21 dX2_addValley_34 ?_
    refine gf_X3_line (j := (i0 + 9)) C hG (gk_X2_moment k_i0) rfl wf_X2_58 dX2_addValley_37 ?_
    refine lv_iload_n hx hb dX2_addValley_40 rfl (lv_at hl 0 rfl) ?_
    refine lv_iload_n hx hb dX2_addValley_41 rfl (lv_at hl 0 rfl) ?_
    refine g_as C hG (gk_X3_line (gk_X2_moment k_i0)) (gl_X3_line (gk_X2_moment k_i0)) hi_22 rfl dX2_addValley_42 (fun M42 e_42 H locs hG => ?_)
    have h := nm_at e_42 h
    refine lv_aload_n hx hb dX2_addValley_43 rfl (lv_at hl 1 rfl) ?_
    refine gf_X2_told (j := (i0 + 1)) C hG k_i0 rfl wf_X2_12 dX2_addValley_44 ?_
    refine lv_iload_n hx hb dX2_addValley_47 rfl (lv_at hl 0 rfl) ?_
    refine lv_iconst (v := 1) hx hb dX2_addValley_48 (by decide) ?_
    refine lv_iadd hx hb dX2_addValley_49 ?_
    refine gp_X7_valleys C hG (gk_X2_told k_i0) wf_X2_32 dX2_addValley_50 (fun M50 e_50 H locs hG => ?_)
    have h := nm_at e_50 h
    exact hr (Option.some.inj h) hG dX2_addValley_53
def f_X2_addBird (M : Mem) (i0 : Nat) (x1 : Int32) (x2 : Int32) (x3 : Int32) (x4 : Int32) : Option Mem :=
  nm ((M (i0 + 1) 2)) fun x5_7 =>
  if (6 : Int32) ≤ x5_7 then (
    some M
  ) else (
    chk (ixb x5_7 6) <|
    nm (st M (i0 + 4) x5_7.toNatClampNeg x1) fun M26 =>
    nm (st M26 (i0 + 5) x5_7.toNatClampNeg x3) fun M37 =>
    nm (st M37 (i0 + 6) x5_7.toNatClampNeg x4) fun M49 =>
    nm (st M49 (i0 + 8) x5_7.toNatClampNeg x2) fun M60 =>
    nm (st M60 (i0 + 7) 0 ((M60 (i0 + 7) 0) ||| ((1 : Int32) <<< (x5_7 &&& 31)))) fun M74 =>
    nm (st M74 (i0 + 1) 2 (x5_7 + (1 : Int32))) fun M85 =>
    some M85
  )
theorem e_X2_addBird : yX2_addBird.cls = RX2 ∧ yX2_addBird.cls ≠ "java/lang/invoke/MethodHandle" ∧ yX2_addBird.cls ≠ "java/lang/invoke/VarHandle" ∧ (parseMethodDescriptor yX2_addBird.desc).map (fun d => d.parameters.length) = some 4 := by decide +kernel
set_option maxHeartbeats 4000000 in
set_option maxRecDepth 100000 in
theorem c_X2_addBird (l : Launch) (D : va_G) (cs : Nat → ClassId) (ad : Nat → Nat) (M : Mem) {i0 : Nat} (k_i0 : gK i0 = 2) (x1 : Int32) (x2 : Int32) (x3 : Int32) (x4 : Int32) {z : Mem} (h : f_X2_addBird M i0 x1 x2 x3 x4 = some z) : CtV l yX2_addBird cX2_addBird 6 0 D cs ad [.ref (ad i0), .int x1, .int x2, .int x3, .int x4] M z := by
  refine ct_v (own := RX2) (by decide) rfl (Nat.le_of_ble_eq_true rfl) ?_
  intro p e s m args below meth c Q C hr
  have hx := C.1
  have hb := C.2.1
  have hown := C.2.2.2.1
  have hts := C.2.2.2.2.1
  intro H locs hG ls hl
  have hl : lv_has ls 6 [(0, .ref (ad i0)), (1, .int x1), (2, .int x2), (3, .int x3), (4, .int x4)] := hl
  unfold f_X2_addBird at h
  refine lv_aload_n hx hb dX2_addBird_0 rfl (lv_at hl 0 rfl) ?_
  refine gf_X2_told (j := (i0 + 1)) C hG k_i0 rfl wf_X2_12 dX2_addBird_1 ?_
  refine gf_X7_birds C hG (gk_X2_told k_i0) wf_X2_36 dX2_addBird_4 ?_
  refine lv_topi (fun x5_7 e5_7 => ?_)
  have h := nm_at e5_7 h
  refine lv_istore (lv' := [(5, .int x5_7), (0, .ref (ad i0)), (1, .int x1), (2, .int x2), (3, .int x3), (4, .int x4)]) hx hb dX2_addBird_7 hl (by decide) rfl (fun ls hl => ?_)
  refine lv_iload hx hb dX2_addBird_9 (lv_at hl 0 rfl) ?_
  refine lv_bipush (v := 6) hx hb dX2_addBird_11 (by decide) ?_
  refine lv_icmp_ge (tgt := 88) hx hb dX2_addBird_13 (by decide) (fun c_13 => ?_) (fun c_13 => ?_)
  · have h := if_t c_13 h
    exact hr (Option.some.inj h) hG dX2_addBird_88
  · have h := if_f c_13 h
    refine lv_aload_n hx hb dX2_addBird_16 rfl (lv_at hl 1 rfl) ?_
    refine gf_X2_told (j := (i0 + 1)) C hG k_i0 rfl wf_X2_12 dX2_addBird_17 ?_
    refine gf_X7_kinds (j := (i0 + 4)) C hG (gk_X2_told k_i0) rfl wf_X2_61 dX2_addBird_20 ?_
    refine lv_iload hx hb dX2_addBird_23 (lv_at hl 0 rfl) ?_
    refine lv_iload_n hx hb dX2_addBird_25 rfl (lv_at hl 2 rfl) ?_
    obtain ⟨hi_26, h⟩ := ix_e h
    refine g_as C hG (gk_X7_kinds (gk_X2_told k_i0)) (gl_X7_kinds (gk_X2_told k_i0)) hi_26 rfl dX2_addBird_26 (fun M26 e_26 H locs hG => ?_)
    have h := nm_at e_26 h
    refine lv_aload_n hx hb dX2_addBird_27 rfl (lv_at hl 1 rfl) ?_
    refine gf_X2_told (j := (i0 + 1)) C hG k_i0 rfl wf_X2_12 dX2_addBird_28 ?_
    refine gf_X7_leaves (j := (i0 + 5)) C hG (gk_X2_told k_i0) rfl wf_X2_64 dX2_addBird_31 ?_
    refine lv_iload hx hb dX2_addBird_34 (lv_at hl 0 rfl) ?_
    refine lv_iload_n hx hb dX2_addBird_36 rfl (lv_at hl 4 rfl) ?_
    refine g_as C hG (gk_X7_leaves (gk_X2_told k_i0)) (gl_X7_leaves (gk_X2_told k_i0)) hi_26 rfl dX2_addBird_37 (fun M37 e_37 H locs hG => ?_)
    have h := nm_at e_37 h
    refine lv_aload_n hx hb dX2_addBird_38 rfl (lv_at hl 1 rfl) ?_
    refine gf_X2_told (j := (i0 + 1)) C hG k_i0 rfl wf_X2_12 dX2_addBird_39 ?_
    refine gf_X7_loves (j := (i0 + 6)) C hG (gk_X2_told k_i0) rfl wf_X2_67 dX2_addBird_42 ?_
    refine lv_iload hx hb dX2_addBird_45 (lv_at hl 0 rfl) ?_
    refine lv_iload hx hb dX2_addBird_47 (lv_at hl 5 rfl) ?_
    refine g_as C hG (gk_X7_loves (gk_X2_told k_i0)) (gl_X7_loves (gk_X2_told k_i0)) hi_26 rfl dX2_addBird_49 (fun M49 e_49 H locs hG => ?_)
    have h := nm_at e_49 h
    refine lv_aload_n hx hb dX2_addBird_50 rfl (lv_at hl 1 rfl) ?_
    refine gf_X2_moment (j := (i0 + 7)) C hG k_i0 rfl wf_X2_21 dX2_addBird_51 ?_
    refine gf_X3_strong (j := (i0 + 8)) C hG (gk_X2_moment k_i0) rfl wf_X2_70 dX2_addBird_54 ?_
    refine lv_iload hx hb dX2_addBird_57 (lv_at hl 0 rfl) ?_
    refine lv_iload_n hx hb dX2_addBird_59 rfl (lv_at hl 3 rfl) ?_
    refine g_as C hG (gk_X3_strong (gk_X2_moment k_i0)) (gl_X3_strong (gk_X2_moment k_i0)) hi_26 rfl dX2_addBird_60 (fun M60 e_60 H locs hG => ?_)
    have h := nm_at e_60 h
    refine lv_aload_n hx hb dX2_addBird_61 rfl (lv_at hl 1 rfl) ?_
    refine gf_X2_moment (j := (i0 + 7)) C hG k_i0 rfl wf_X2_21 dX2_addBird_62 ?_
    refine lv_dup hx hb dX2_addBird_65 rfl ?_
    refine gf_X3_flying C hG (gk_X2_moment k_i0) wf_X2_39 dX2_addBird_66 ?_
    refine lv_iconst (v := 1) hx hb dX2_addBird_69 (by decide) ?_
    refine lv_iload hx hb dX2_addBird_70 (lv_at hl 0 rfl) ?_
    refine lv_ishl hx hb dX2_addBird_72 ?_
    refine lv_ior hx hb dX2_addBird_73 ?_
    refine gp_X3_flying C hG (gk_X2_moment k_i0) wf_X2_39 dX2_addBird_74 (fun M74 e_74 H locs hG => ?_)
    have h := nm_at e_74 h
    refine lv_aload_n hx hb dX2_addBird_77 rfl (lv_at hl 1 rfl) ?_
    refine gf_X2_told (j := (i0 + 1)) C hG k_i0 rfl wf_X2_12 dX2_addBird_78 ?_
    refine lv_iload hx hb dX2_addBird_81 (lv_at hl 0 rfl) ?_
    refine lv_iconst (v := 1) hx hb dX2_addBird_83 (by decide) ?_
    refine lv_iadd hx hb dX2_addBird_84 ?_
    refine gp_X7_birds C hG (gk_X2_told k_i0) wf_X2_36 dX2_addBird_85 (fun M85 e_85 H locs hG => ?_)
    have h := nm_at e_85 h
    exact hr (Option.some.inj h) hG dX2_addBird_88
def f_X2_become (M : Mem) (i0 : Nat) (i1 : Nat) : Mem :=
  nm (f_X7_become M (i0 + 1) (i1 + 1)) fun q8 =>
  nm (f_X3_become q8 (i0 + 7) (i1 + 7)) fun q19 =>
  q19
theorem e_X2_become : yX2_become.cls = RX2 ∧ yX2_become.cls ≠ "java/lang/invoke/MethodHandle" ∧ yX2_become.cls ≠ "java/lang/invoke/VarHandle" ∧ (parseMethodDescriptor yX2_become.desc).map (fun d => d.parameters.length) = some 1 := by decide +kernel
set_option maxHeartbeats 4000000 in
set_option maxRecDepth 100000 in
theorem c_X2_become (l : Launch) (D : va_G) (cs : Nat → ClassId) (ad : Nat → Nat) (M : Mem) {i0 : Nat} (k_i0 : gK i0 = 2) {i1 : Nat} (k_i1 : gK i1 = 2) {z : Mem} (h : f_X2_become M i0 i1 = z) : CtV l yX2_become cX2_become 2 2 D cs ad [.ref (ad i0), .ref (ad i1)] M z := by
  refine ct_v (own := RX2) (by decide) rfl (Nat.le_of_ble_eq_true rfl) ?_
  intro p e s m args below meth c Q C hr
  have hx := C.1
  have hb := C.2.1
  have hown := C.2.2.2.1
  have hts := C.2.2.2.2.1
  intro H locs hG ls hl
  have hl : lv_has ls 2 [(0, .ref (ad i0)), (1, .ref (ad i1))] := hl
  unfold f_X2_become at h
  refine lv_aload_n hx hb dX2_become_0 rfl (lv_at hl 0 rfl) ?_
  refine gf_X2_told (j := (i0 + 1)) C hG k_i0 rfl wf_X2_12 dX2_become_1 ?_
  refine lv_aload_n hx hb dX2_become_4 rfl (lv_at hl 1 rfl) ?_
  refine gf_X2_told (j := (i1 + 1)) C hG k_i1 rfl wf_X2_12 dX2_become_5 ?_
  obtain ⟨q8, e_8⟩ : ∃ y, f_X7_become M (i0 + 1) (i1 + 1) = y := ⟨_, rfl⟩
  have h := nm_at e_8.symm h
  refine g_cv hG (g_runV C hG (gR_7 (gk_X2_told k_i0)) (c_X7_become l D cs ad M (gk_X2_told k_i0) (gk_X2_told k_i1) e_8) wm_X2_25 wi_X7_become ws_X7_become wz_X7 wc_X7_become e_X7_become (by decide) hl.1 (Nat.le_of_ble_eq_true rfl) dX2_become_8) (fun H locs hG => ?_)
  refine lv_aload_n hx hb dX2_become_11 rfl (lv_at hl 0 rfl) ?_
  refine gf_X2_moment (j := (i0 + 7)) C hG k_i0 rfl wf_X2_21 dX2_become_12 ?_
  refine lv_aload_n hx hb dX2_become_15 rfl (lv_at hl 1 rfl) ?_
  refine gf_X2_moment (j := (i1 + 7)) C hG k_i1 rfl wf_X2_21 dX2_become_16 ?_
  obtain ⟨q19, e_19⟩ : ∃ y, f_X3_become q8 (i0 + 7) (i1 + 7) = y := ⟨_, rfl⟩
  have h := nm_at e_19.symm h
  refine g_cv hG (g_runV C hG (gR_3 (gk_X2_moment k_i0)) (c_X3_become l D cs ad q8 (gk_X2_moment k_i0) (gk_X2_moment k_i1) e_19) wm_X2_29 wi_X3_become ws_X3_become wz_X3 wc_X3_become e_X3_become (by decide) hl.1 (Nat.le_of_ble_eq_true rfl) dX2_become_19) (fun H locs hG => ?_)
  exact hr h hG dX2_become_22
def f_X2_coming (M : Mem) (i0 : Nat) : Int32 :=
  ((M (i0 + 1) 1) - (M (i0 + 7) 3))
theorem e_X2_coming : yX2_coming.cls = RX2 ∧ yX2_coming.cls ≠ "java/lang/invoke/MethodHandle" ∧ yX2_coming.cls ≠ "java/lang/invoke/VarHandle" ∧ (parseMethodDescriptor yX2_coming.desc).map (fun d => d.parameters.length) = some 0 := by decide +kernel
set_option maxHeartbeats 4000000 in
set_option maxRecDepth 100000 in
theorem c_X2_coming (l : Launch) (D : va_G) (cs : Nat → ClassId) (ad : Nat → Nat) (M : Mem) {i0 : Nat} (k_i0 : gK i0 = 2) {z : Int32} (h : f_X2_coming M i0 = z) : CtI l yX2_coming cX2_coming 1 .int 0 D cs ad [.ref (ad i0)] M z M := by
  refine ct_i (own := RX2) (by decide) rfl (Nat.le_of_ble_eq_true rfl) ?_
  intro p e s m args below meth c Q C hr
  have hx := C.1
  have hb := C.2.1
  have hown := C.2.2.2.1
  have hts := C.2.2.2.2.1
  intro H locs hG ls hl
  have hl : lv_has ls 1 [(0, .ref (ad i0))] := hl
  unfold f_X2_coming at h
  refine lv_aload_n hx hb dX2_coming_0 rfl (lv_at hl 0 rfl) ?_
  refine gf_X2_told (j := (i0 + 1)) C hG k_i0 rfl wf_X2_12 dX2_coming_1 ?_
  refine gf_X7_valleys C hG (gk_X2_told k_i0) wf_X2_32 dX2_coming_4 ?_
  refine lv_aload_n hx hb dX2_coming_7 rfl (lv_at hl 0 rfl) ?_
  refine gf_X2_moment (j := (i0 + 7)) C hG k_i0 rfl wf_X2_21 dX2_coming_8 ?_
  refine gf_X3_through C hG (gk_X2_moment k_i0) wf_X2_48 dX2_coming_11 ?_
  refine lv_isub hx hb dX2_coming_14 ?_
  exact hr h rfl hG dX2_coming_15
def f_X2_nextValley (M : Mem) (i0 : Nat) : Option Int32 :=
  chk (ixb (M (i0 + 7) 3) 5) <|
  some (M (i0 + 9) (M (i0 + 7) 3).toNatClampNeg)
theorem e_X2_nextValley : yX2_nextValley.cls = RX2 ∧ yX2_nextValley.cls ≠ "java/lang/invoke/MethodHandle" ∧ yX2_nextValley.cls ≠ "java/lang/invoke/VarHandle" ∧ (parseMethodDescriptor yX2_nextValley.desc).map (fun d => d.parameters.length) = some 0 := by decide +kernel
set_option maxHeartbeats 4000000 in
set_option maxRecDepth 100000 in
theorem c_X2_nextValley (l : Launch) (D : va_G) (cs : Nat → ClassId) (ad : Nat → Nat) (M : Mem) {i0 : Nat} (k_i0 : gK i0 = 2) {z : Int32} (h : f_X2_nextValley M i0 = some z) : CtI l yX2_nextValley cX2_nextValley 1 .int 0 D cs ad [.ref (ad i0)] M z M := by
  refine ct_i (own := RX2) (by decide) rfl (Nat.le_of_ble_eq_true rfl) ?_
  intro p e s m args below meth c Q C hr
  have hx := C.1
  have hb := C.2.1
  have hown := C.2.2.2.1
  have hts := C.2.2.2.2.1
  intro H locs hG ls hl
  have hl : lv_has ls 1 [(0, .ref (ad i0))] := hl
  unfold f_X2_nextValley at h
  refine lv_aload_n hx hb dX2_nextValley_0 rfl (lv_at hl 0 rfl) ?_
  refine gf_X2_moment (j := (i0 + 7)) C hG k_i0 rfl wf_X2_21 dX2_nextValley_1 ?_
  refine gf_X3_line (j := (i0 + 9)) C hG (gk_X2_moment k_i0) rfl wf_X2_58 dX2_nextValley_4 ?_
  refine lv_aload_n hx hb dX2_nextValley_7 rfl (lv_at hl 0 rfl) ?_
  refine gf_X2_moment (j := (i0 + 7)) C hG k_i0 rfl wf_X2_21 dX2_nextValley_8 ?_
  refine gf_X3_through C hG (gk_X2_moment k_i0) wf_X2_48 dX2_nextValley_11 ?_
  obtain ⟨hi_14, h⟩ := ix_e h
  refine g_al C hG (gk_X3_line (gk_X2_moment k_i0)) (gl_X3_line (gk_X2_moment k_i0)) hi_14 rfl dX2_nextValley_14 ?_
  exact hr (Option.some.inj h) rfl hG dX2_nextValley_15
def f_X2_lossOf (M : Mem) (i0 : Nat) (x1 : Int32) : Option Int32 :=
  (f_X2_nextValley M i0).bind fun q8 =>
  chk (ixb q8 5) <|
  nm ((M (i0 + 3) q8.toNatClampNeg)) fun x2_12 =>
  chk (ixb x1 6) <|
  nm ((f_X3_flies M (i0 + 7) (M (i0 + 6) x1.toNatClampNeg))) fun x3_29 =>
  if (M (i0 + 4) x1.toNatClampNeg) = (2 : Int32) then (
    some (x2_12 + (M (i0 + 7) 2))
  ) else (
  if (M (i0 + 4) x1.toNatClampNeg) = (3 : Int32) then (
    some ((2 : Int32) * x2_12)
  ) else (
  if (M (i0 + 4) x1.toNatClampNeg) = (4 : Int32) then (
    if x3_29 = true then (
      some (0 : Int32)
    ) else (
      some x2_12
    )
  ) else (
  if (M (i0 + 4) x1.toNatClampNeg) = (5 : Int32) then (
    if x3_29 = true then (
      some (0 : Int32)
    ) else (
      some (3 : Int32)
    )
  ) else (
    some x2_12
  ))))
theorem e_X2_lossOf : yX2_lossOf.cls = RX2 ∧ yX2_lossOf.cls ≠ "java/lang/invoke/MethodHandle" ∧ yX2_lossOf.cls ≠ "java/lang/invoke/VarHandle" ∧ (parseMethodDescriptor yX2_lossOf.desc).map (fun d => d.parameters.length) = some 1 := by decide +kernel
set_option maxHeartbeats 4000000 in
set_option maxRecDepth 100000 in
theorem c_X2_lossOf (l : Launch) (D : va_G) (cs : Nat → ClassId) (ad : Nat → Nat) (M : Mem) {i0 : Nat} (k_i0 : gK i0 = 2) (x1 : Int32) {z : Int32} (h : f_X2_lossOf M i0 x1 = some z) : CtI l yX2_lossOf cX2_lossOf 4 .int 1 D cs ad [.ref (ad i0), .int x1] M z M := by
  refine ct_i (own := RX2) (by decide) rfl (Nat.le_of_ble_eq_true rfl) ?_
  intro p e s m args below meth c Q C hr
  have hx := C.1
  have hb := C.2.1
  have hown := C.2.2.2.1
  have hts := C.2.2.2.2.1
  intro H locs hG ls hl
  have hl : lv_has ls 4 [(0, .ref (ad i0)), (1, .int x1)] := hl
  unfold f_X2_lossOf at h
  refine lv_aload_n hx hb dX2_lossOf_0 rfl (lv_at hl 0 rfl) ?_
  refine gf_X2_told (j := (i0 + 1)) C hG k_i0 rfl wf_X2_12 dX2_lossOf_1 ?_
  refine gf_X7_losses (j := (i0 + 3)) C hG (gk_X2_told k_i0) rfl wf_X2_55 dX2_lossOf_4 ?_
  refine lv_aload_n hx hb dX2_lossOf_7 rfl (lv_at hl 0 rfl) ?_
  obtain ⟨q8, e_8, h⟩ := bd_e h
  refine g_ci hG (g_runV C hG (gR_2 k_i0) (c_X2_nextValley l D cs ad M k_i0 e_8) wm_X2_102 wi_X2_nextValley ws_X2_nextValley wz_X2 wc_X2_nextValley e_X2_nextValley (by decide) hl.1 (Nat.le_of_ble_eq_true rfl) dX2_lossOf_8) (fun H locs hG => ?_)
  obtain ⟨hi_11, h⟩ := ix_e h
  refine g_al C hG (gk_X7_losses (gk_X2_told k_i0)) (gl_X7_losses (gk_X2_told k_i0)) hi_11 rfl dX2_lossOf_11 ?_
  refine lv_topi (fun x2_12 e2_12 => ?_)
  have h := nm_at e2_12 h
  refine lv_istore_n (lv' := [(2, .int x2_12), (0, .ref (ad i0)), (1, .int x1)]) hx hb dX2_lossOf_12 rfl hl (by decide) rfl (fun ls hl => ?_)
  refine lv_aload_n hx hb dX2_lossOf_13 rfl (lv_at hl 1 rfl) ?_
  refine gf_X2_moment (j := (i0 + 7)) C hG k_i0 rfl wf_X2_21 dX2_lossOf_14 ?_
  refine lv_aload_n hx hb dX2_lossOf_17 rfl (lv_at hl 1 rfl) ?_
  refine gf_X2_told (j := (i0 + 1)) C hG k_i0 rfl wf_X2_12 dX2_lossOf_18 ?_
  refine gf_X7_loves (j := (i0 + 6)) C hG (gk_X2_told k_i0) rfl wf_X2_67 dX2_lossOf_21 ?_
  refine lv_iload_n hx hb dX2_lossOf_24 rfl (lv_at hl 2 rfl) ?_
  obtain ⟨hi_25, h⟩ := ix_e h
  refine g_al C hG (gk_X7_loves (gk_X2_told k_i0)) (gl_X7_loves (gk_X2_told k_i0)) hi_25 rfl dX2_lossOf_25 ?_
  refine g_ci hG (g_runV C hG (gR_3 (gk_X2_moment k_i0)) (c_X3_flies l D cs ad M (gk_X2_moment k_i0) (M (i0 + 6) x1.toNatClampNeg) rfl) wm_X2_91 wi_X3_flies ws_X3_flies wz_X3 wc_X3_flies e_X3_flies (by decide) hl.1 (Nat.le_of_ble_eq_true rfl) dX2_lossOf_26) (fun H locs hG => ?_)
  refine lv_topz (fun x3_29 e3_29 => ?_)
  have h := nm_at e3_29 h
  refine lv_istore_n (lv' := [(3, .int (bi x3_29)), (2, .int x2_12), (0, .ref (ad i0)), (1, .int x1)]) hx hb dX2_lossOf_29 rfl hl (by decide) rfl (fun ls hl => ?_)
  refine lv_aload_n hx hb dX2_lossOf_30 rfl (lv_at hl 2 rfl) ?_
  refine gf_X2_told (j := (i0 + 1)) C hG k_i0 rfl wf_X2_12 dX2_lossOf_31 ?_
  refine gf_X7_kinds (j := (i0 + 4)) C hG (gk_X2_told k_i0) rfl wf_X2_61 dX2_lossOf_34 ?_
  refine lv_iload_n hx hb dX2_lossOf_37 rfl (lv_at hl 3 rfl) ?_
  refine g_al C hG (gk_X7_kinds (gk_X2_told k_i0)) (gl_X7_kinds (gk_X2_told k_i0)) hi_25 rfl dX2_lossOf_38 ?_
  by_cases c_39_2 : (M (i0 + 4) x1.toNatClampNeg) = (2 : Int32)
  · have h := if_t c_39_2 h
    refine g_tsw (tgt := 68) (off := 29) hx hb dX2_lossOf_39 (by rw [c_39_2]; rfl) (by decide) ?_
    refine lv_iload_n hx hb dX2_lossOf_68 rfl (lv_at hl 1 rfl) ?_
    refine lv_aload_n hx hb dX2_lossOf_69 rfl (lv_at hl 2 rfl) ?_
    refine gf_X2_moment (j := (i0 + 7)) C hG k_i0 rfl wf_X2_21 dX2_lossOf_70 ?_
    refine gf_X3_turned C hG (gk_X2_moment k_i0) wf_X2_45 dX2_lossOf_73 ?_
    refine lv_iadd hx hb dX2_lossOf_76 ?_
    exact hr (Option.some.inj h) rfl hG dX2_lossOf_77
  have h := if_f c_39_2 h
  by_cases c_39_3 : (M (i0 + 4) x1.toNatClampNeg) = (3 : Int32)
  · have h := if_t c_39_3 h
    refine g_tsw (tgt := 78) (off := 39) hx hb dX2_lossOf_39 (by rw [c_39_3]; rfl) (by decide) ?_
    refine lv_iconst (v := 2) hx hb dX2_lossOf_78 (by decide) ?_
    refine lv_iload_n hx hb dX2_lossOf_79 rfl (lv_at hl 1 rfl) ?_
    refine lv_imul hx hb dX2_lossOf_80 ?_
    exact hr (Option.some.inj h) rfl hG dX2_lossOf_81
  have h := if_f c_39_3 h
  by_cases c_39_4 : (M (i0 + 4) x1.toNatClampNeg) = (4 : Int32)
  · have h := if_t c_39_4 h
    refine g_tsw (tgt := 82) (off := 43) hx hb dX2_lossOf_39 (by rw [c_39_4]; rfl) (by decide) ?_
    refine lv_iload_n hx hb dX2_lossOf_82 rfl (lv_at hl 0 rfl) ?_
    refine lv_if_eq (tgt := 90) hx hb dX2_lossOf_83 (by decide) (fun c_83 => ?_) (fun c_83 => ?_)
    · have h := if_f (bi_f c_83) h
      refine lv_iload_n hx hb dX2_lossOf_90 rfl (lv_at hl 1 rfl) ?_
      exact hr (Option.some.inj h) rfl hG dX2_lossOf_91
    · have h := if_t (bi_t c_83) h
      refine lv_iconst (v := 0) hx hb dX2_lossOf_86 (by decide) ?_
      refine lv_goto (tgt := 91) hx hb dX2_lossOf_87 (by decide) ?_
      exact hr (Option.some.inj h) rfl hG dX2_lossOf_91
  have h := if_f c_39_4 h
  by_cases c_39_5 : (M (i0 + 4) x1.toNatClampNeg) = (5 : Int32)
  · have h := if_t c_39_5 h
    refine g_tsw (tgt := 92) (off := 53) hx hb dX2_lossOf_39 (by rw [c_39_5]; rfl) (by decide) ?_
    refine lv_iload_n hx hb dX2_lossOf_92 rfl (lv_at hl 0 rfl) ?_
    refine lv_if_eq (tgt := 100) hx hb dX2_lossOf_93 (by decide) (fun c_93 => ?_) (fun c_93 => ?_)
    · have h := if_f (bi_f c_93) h
      refine lv_iconst (v := 3) hx hb dX2_lossOf_100 (by decide) ?_
      exact hr (Option.some.inj h) rfl hG dX2_lossOf_101
    · have h := if_t (bi_t c_93) h
      refine lv_iconst (v := 0) hx hb dX2_lossOf_96 (by decide) ?_
      refine lv_goto (tgt := 101) hx hb dX2_lossOf_97 (by decide) ?_
      exact hr (Option.some.inj h) rfl hG dX2_lossOf_101
  have h := if_f c_39_5 h
  refine g_tsw (tgt := 102) (off := 63) hx hb dX2_lossOf_39 ?_ (by decide) ?_
  · have n_2 := i32_ne c_39_2 (j := 2) rfl
    have n_3 := i32_ne c_39_3 (j := 3) rfl
    have n_4 := i32_ne c_39_4 (j := 4) rfl
    have n_5 := i32_ne c_39_5 (j := 5) rfl
    rcases (show ((M (i0 + 4) x1.toNatClampNeg)).toInt < 2 ∨ 5 < ((M (i0 + 4) x1.toNatClampNeg)).toInt by omega) with q | q
    · exact if_pos (Or.inl q)
    · exact if_pos (Or.inr q)
  · refine lv_iload_n hx hb dX2_lossOf_102 rfl (lv_at hl 1 rfl) ?_
    exact hr (Option.some.inj h) rfl hG dX2_lossOf_103
def f_X2_takeStrength_2 (i0 : Nat) (r2 : (Mem × Int32) → Option Mem) (M : Mem) (x1 : Int32) : Option Mem :=
  if (M (i0 + 1) 2) ≤ x1 then (
    some M
  ) else (
    if (f_X3_flies M (i0 + 7) x1) = true then (
      chk (ixb x1 6) <|
      (f_X2_lossOf M i0 x1).bind fun q44 =>
      nm (st M (i0 + 8) x1.toNatClampNeg (if (0 : Int32) < ((M (i0 + 8) x1.toNatClampNeg) - q44) then ((M (i0 + 8) x1.toNatClampNeg) - q44) else (0 : Int32))) fun M51 =>
      nm (x1 + (1 : Int32)) fun x1_52 =>
      r2 (M51, x1_52)
    ) else (
      nm (x1 + (1 : Int32)) fun x1_52 =>
      r2 (M, x1_52)
    )
  )
def f_X2_takeStrength (M : Mem) (i0 : Nat) : Option Mem :=
  iter (fun rec a => f_X2_takeStrength_2 i0 rec a.1 a.2) fuel (M, (0 : Int32))
theorem e_X2_takeStrength : yX2_takeStrength.cls = RX2 ∧ yX2_takeStrength.cls ≠ "java/lang/invoke/MethodHandle" ∧ yX2_takeStrength.cls ≠ "java/lang/invoke/VarHandle" ∧ (parseMethodDescriptor yX2_takeStrength.desc).map (fun d => d.parameters.length) = some 0 := by decide +kernel
set_option maxHeartbeats 4000000 in
set_option maxRecDepth 100000 in
theorem c_X2_takeStrength (l : Launch) (D : va_G) (cs : Nat → ClassId) (ad : Nat → Nat) (M : Mem) {i0 : Nat} (k_i0 : gK i0 = 2) {z : Mem} (h : f_X2_takeStrength M i0 = some z) : CtV l yX2_takeStrength cX2_takeStrength 2 2 D cs ad [.ref (ad i0)] M z := by
  refine ct_v (own := RX2) (by decide) rfl (Nat.le_of_ble_eq_true rfl) ?_
  intro p e s m args below meth c Q C hr
  have hx := C.1
  have hb := C.2.1
  have hown := C.2.2.2.1
  have hts := C.2.2.2.2.1
  have J_2 : ∀ (n : Nat) (a : Mem × Int32), iter (fun rec a => f_X2_takeStrength_2 i0 rec a.1 a.2) n a = some z → GP p l e (rmk 2) s m args below meth c 0 0 Q D cs ad 2 2 [(0, .ref (ad i0)), (1, .int a.2)] [] a.1 := by
    refine iter_ind (fun r2 hr2 a h => ?_)
    obtain ⟨M, x1⟩ := a
    have h : f_X2_takeStrength_2 i0 r2 M x1 = some z := h
    intro H locs hG ls hl
    have hG : GH D cs ad s M H locs := hG
    have hl : lv_has ls 2 [(0, .ref (ad i0)), (1, .int x1)] := hl
    unfold f_X2_takeStrength_2 at h
    refine lv_iload_n hx hb dX2_takeStrength_2 rfl (lv_at hl 1 rfl) ?_
    refine lv_aload_n hx hb dX2_takeStrength_3 rfl (lv_at hl 0 rfl) ?_
    refine gf_X2_told (j := (i0 + 1)) C hG k_i0 rfl wf_X2_12 dX2_takeStrength_4 ?_
    refine gf_X7_birds C hG (gk_X2_told k_i0) wf_X2_36 dX2_takeStrength_7 ?_
    refine lv_icmp_ge (tgt := 58) hx hb dX2_takeStrength_10 (by decide) (fun c_10 => ?_) (fun c_10 => ?_)
    · have h := if_t c_10 h
      exact hr (Option.some.inj h) hG dX2_takeStrength_58
    · have h := if_f c_10 h
      refine lv_aload_n hx hb dX2_takeStrength_13 rfl (lv_at hl 0 rfl) ?_
      refine gf_X2_moment (j := (i0 + 7)) C hG k_i0 rfl wf_X2_21 dX2_takeStrength_14 ?_
      refine lv_iload_n hx hb dX2_takeStrength_17 rfl (lv_at hl 1 rfl) ?_
      refine g_ci hG (g_runV C hG (gR_3 (gk_X2_moment k_i0)) (c_X3_flies l D cs ad M (gk_X2_moment k_i0) x1 rfl) wm_X2_91 wi_X3_flies ws_X3_flies wz_X3 wc_X3_flies e_X3_flies (by decide) hl.1 (Nat.le_of_ble_eq_true rfl) dX2_takeStrength_18) (fun H locs hG => ?_)
      refine lv_if_eq (tgt := 52) hx hb dX2_takeStrength_21 (by decide) (fun c_21 => ?_) (fun c_21 => ?_)
      · have h := if_f (bi_f c_21) h
        obtain ⟨x1_52, e1_52⟩ : ∃ y : Int32, y = x1 + (1 : Int32) := ⟨_, rfl⟩
        have h := nm_at e1_52 h
        refine lv_iinc (v := x1_52) (lv' := [(1, .int x1_52), (0, .ref (ad i0))]) hx hb dX2_takeStrength_52 hl (k := 1) rfl (by rw [e1_52]; rfl) (by decide) rfl (fun ls hl => ?_)
        refine lv_goto (tgt := 2) hx hb dX2_takeStrength_55 (by decide) ?_
        exact hr2 (M, x1_52) h H locs hG ls (lv_sub hl [1, 0] rfl)
      · have h := if_t (bi_t c_21) h
        refine lv_aload_n hx hb dX2_takeStrength_24 rfl (lv_at hl 0 rfl) ?_
        refine gf_X2_moment (j := (i0 + 7)) C hG k_i0 rfl wf_X2_21 dX2_takeStrength_25 ?_
        refine gf_X3_strong (j := (i0 + 8)) C hG (gk_X2_moment k_i0) rfl wf_X2_70 dX2_takeStrength_28 ?_
        refine lv_iload_n hx hb dX2_takeStrength_31 rfl (lv_at hl 1 rfl) ?_
        refine lv_iconst (v := 0) hx hb dX2_takeStrength_32 (by decide) ?_
        refine lv_aload_n hx hb dX2_takeStrength_33 rfl (lv_at hl 0 rfl) ?_
        refine gf_X2_moment (j := (i0 + 7)) C hG k_i0 rfl wf_X2_21 dX2_takeStrength_34 ?_
        refine gf_X3_strong (j := (i0 + 8)) C hG (gk_X2_moment k_i0) rfl wf_X2_70 dX2_takeStrength_37 ?_
        refine lv_iload_n hx hb dX2_takeStrength_40 rfl (lv_at hl 1 rfl) ?_
        obtain ⟨hi_41, h⟩ := ix_e h
        refine g_al C hG (gk_X3_strong (gk_X2_moment k_i0)) (gl_X3_strong (gk_X2_moment k_i0)) hi_41 rfl dX2_takeStrength_41 ?_
        refine lv_aload_n hx hb dX2_takeStrength_42 rfl (lv_at hl 0 rfl) ?_
        refine lv_iload_n hx hb dX2_takeStrength_43 rfl (lv_at hl 1 rfl) ?_
        obtain ⟨q44, e_44, h⟩ := bd_e h
        refine g_ci hG (g_runV C hG (gR_2 k_i0) (c_X2_lossOf l D cs ad M k_i0 x1 e_44) wm_X2_119 wi_X2_lossOf ws_X2_lossOf wz_X2 wc_X2_lossOf e_X2_lossOf (by decide) hl.1 (Nat.le_of_ble_eq_true rfl) dX2_takeStrength_44) (fun H locs hG => ?_)
        refine lv_isub hx hb dX2_takeStrength_47 ?_
        refine g_max C hl.1 wm_X2_86 (by decide) (Nat.le_of_ble_eq_true rfl) dX2_takeStrength_48 ?_
        refine g_as C hG (gk_X3_strong (gk_X2_moment k_i0)) (gl_X3_strong (gk_X2_moment k_i0)) hi_41 rfl dX2_takeStrength_51 (fun M51 e_51 H locs hG => ?_)
        have h := nm_at e_51 h
        obtain ⟨x1_52, e1_52⟩ : ∃ y : Int32, y = x1 + (1 : Int32) := ⟨_, rfl⟩
        have h := nm_at e1_52 h
        refine lv_iinc (v := x1_52) (lv' := [(1, .int x1_52), (0, .ref (ad i0))]) hx hb dX2_takeStrength_52 hl (k := 1) rfl (by rw [e1_52]; rfl) (by decide) rfl (fun ls hl => ?_)
        refine lv_goto (tgt := 2) hx hb dX2_takeStrength_55 (by decide) ?_
        exact hr2 (M51, x1_52) h H locs hG ls (lv_sub hl [1, 0] rfl)
  intro H locs hG ls hl
  have hl : lv_has ls 2 [(0, .ref (ad i0))] := hl
  unfold f_X2_takeStrength at h
  refine lv_iconst (v := 0) hx hb dX2_takeStrength_0 (by decide) ?_
  refine lv_istore_n (lv' := [(1, .int 0), (0, .ref (ad i0))]) hx hb dX2_takeStrength_1 rfl hl (by decide) rfl (fun ls hl => ?_)
  exact J_2 _ (M, (0 : Int32)) h H locs hG ls (lv_sub hl [1, 0] rfl)
def f_X2_tooWeak_4 (i0 : Nat) (M : Mem) (x1 : Int32) (r4 : (Int32 × Int32) → Option Int32) (x2 : Int32) (x3 : Int32) : Option Int32 :=
  if (M (i0 + 1) 2) ≤ x3 then (
    some ((x2 &&& (M (i0 + 7) 0)) &&& ((M (i0 + 7) 1) ^^^ (-1 : Int32)))
  ) else (
    chk (ixb x3 6) <|
    if x1 ≤ (M (i0 + 8) x3.toNatClampNeg) then (
      nm ((x2 ||| (0 : Int32))) fun x2_37 =>
      nm (x3 + (1 : Int32)) fun x3_38 =>
      r4 (x2_37, x3_38)
    ) else (
      nm ((x2 ||| ((1 : Int32) <<< (x3 &&& 31)))) fun x2_37 =>
      nm (x3 + (1 : Int32)) fun x3_38 =>
      r4 (x2_37, x3_38)
    )
  )
def f_X2_tooWeak (M : Mem) (i0 : Nat) (x1 : Int32) : Option Int32 :=
  iter (fun rec a => f_X2_tooWeak_4 i0 M x1 rec a.1 a.2) fuel ((0 : Int32), (0 : Int32))
theorem e_X2_tooWeak : yX2_tooWeak.cls = RX2 ∧ yX2_tooWeak.cls ≠ "java/lang/invoke/MethodHandle" ∧ yX2_tooWeak.cls ≠ "java/lang/invoke/VarHandle" ∧ (parseMethodDescriptor yX2_tooWeak.desc).map (fun d => d.parameters.length) = some 1 := by decide +kernel
set_option maxHeartbeats 4000000 in
set_option maxRecDepth 100000 in
theorem c_X2_tooWeak (l : Launch) (D : va_G) (cs : Nat → ClassId) (ad : Nat → Nat) (M : Mem) {i0 : Nat} (k_i0 : gK i0 = 2) (x1 : Int32) {z : Int32} (h : f_X2_tooWeak M i0 x1 = some z) : CtI l yX2_tooWeak cX2_tooWeak 4 .int 0 D cs ad [.ref (ad i0), .int x1] M z M := by
  refine ct_i (own := RX2) (by decide) rfl (Nat.le_of_ble_eq_true rfl) ?_
  intro p e s m args below meth c Q C hr
  have hx := C.1
  have hb := C.2.1
  have hown := C.2.2.2.1
  have hts := C.2.2.2.2.1
  have J_4 : ∀ (x1 : Int32) (n : Nat) (a : Int32 × Int32), iter (fun rec a => f_X2_tooWeak_4 i0 M x1 rec a.1 a.2) n a = some z → GP p l e (rmk 0) s m args below meth c 0 0 Q D cs ad 4 4 [(0, .ref (ad i0)), (1, .int x1), (2, .int a.1), (3, .int a.2)] [] M := by
    intro x1
    refine iter_ind (fun r4 hr4 a h => ?_)
    obtain ⟨x2, x3⟩ := a
    have h : f_X2_tooWeak_4 i0 M x1 r4 x2 x3 = some z := h
    intro H locs hG ls hl
    have hG : GH D cs ad s M H locs := hG
    have hl : lv_has ls 4 [(0, .ref (ad i0)), (1, .int x1), (2, .int x2), (3, .int x3)] := hl
    unfold f_X2_tooWeak_4 at h
    refine lv_iload_n hx hb dX2_tooWeak_4 rfl (lv_at hl 3 rfl) ?_
    refine lv_aload_n hx hb dX2_tooWeak_5 rfl (lv_at hl 0 rfl) ?_
    refine gf_X2_told (j := (i0 + 1)) C hG k_i0 rfl wf_X2_12 dX2_tooWeak_6 ?_
    refine gf_X7_birds C hG (gk_X2_told k_i0) wf_X2_36 dX2_tooWeak_9 ?_
    refine lv_icmp_ge (tgt := 44) hx hb dX2_tooWeak_12 (by decide) (fun c_12 => ?_) (fun c_12 => ?_)
    · have h := if_t c_12 h
      refine lv_iload_n hx hb dX2_tooWeak_44 rfl (lv_at hl 2 rfl) ?_
      refine lv_aload_n hx hb dX2_tooWeak_45 rfl (lv_at hl 0 rfl) ?_
      refine gf_X2_moment (j := (i0 + 7)) C hG k_i0 rfl wf_X2_21 dX2_tooWeak_46 ?_
      refine gf_X3_flying C hG (gk_X2_moment k_i0) wf_X2_39 dX2_tooWeak_49 ?_
      refine lv_iand hx hb dX2_tooWeak_52 ?_
      refine lv_aload_n hx hb dX2_tooWeak_53 rfl (lv_at hl 0 rfl) ?_
      refine gf_X2_moment (j := (i0 + 7)) C hG k_i0 rfl wf_X2_21 dX2_tooWeak_54 ?_
      refine gf_X3_kept C hG (gk_X2_moment k_i0) wf_X2_42 dX2_tooWeak_57 ?_
      refine lv_iconst (v := -1) hx hb dX2_tooWeak_60 (by decide) ?_
      refine lv_ixor hx hb dX2_tooWeak_61 ?_
      refine lv_iand hx hb dX2_tooWeak_62 ?_
      exact hr (Option.some.inj h) rfl hG dX2_tooWeak_63
    · have h := if_f c_12 h
      refine lv_iload_n hx hb dX2_tooWeak_15 rfl (lv_at hl 2 rfl) ?_
      refine lv_aload_n hx hb dX2_tooWeak_16 rfl (lv_at hl 0 rfl) ?_
      refine gf_X2_moment (j := (i0 + 7)) C hG k_i0 rfl wf_X2_21 dX2_tooWeak_17 ?_
      refine gf_X3_strong (j := (i0 + 8)) C hG (gk_X2_moment k_i0) rfl wf_X2_70 dX2_tooWeak_20 ?_
      refine lv_iload_n hx hb dX2_tooWeak_23 rfl (lv_at hl 3 rfl) ?_
      obtain ⟨hi_24, h⟩ := ix_e h
      refine g_al C hG (gk_X3_strong (gk_X2_moment k_i0)) (gl_X3_strong (gk_X2_moment k_i0)) hi_24 rfl dX2_tooWeak_24 ?_
      refine lv_iload_n hx hb dX2_tooWeak_25 rfl (lv_at hl 1 rfl) ?_
      refine lv_icmp_ge (tgt := 35) hx hb dX2_tooWeak_26 (by decide) (fun c_26 => ?_) (fun c_26 => ?_)
      · have h := if_t c_26 h
        refine lv_iconst (v := 0) hx hb dX2_tooWeak_35 (by decide) ?_
        refine lv_ior hx hb dX2_tooWeak_36 ?_
        refine lv_topi (fun x2_37 e2_37 => ?_)
        have h := nm_at e2_37 h
        refine lv_istore_n (lv' := [(2, .int x2_37), (0, .ref (ad i0)), (1, .int x1), (3, .int x3)]) hx hb dX2_tooWeak_37 rfl hl (by decide) rfl (fun ls hl => ?_)
        obtain ⟨x3_38, e3_38⟩ : ∃ y : Int32, y = x3 + (1 : Int32) := ⟨_, rfl⟩
        have h := nm_at e3_38 h
        refine lv_iinc (v := x3_38) (lv' := [(3, .int x3_38), (2, .int x2_37), (0, .ref (ad i0)), (1, .int x1)]) hx hb dX2_tooWeak_38 hl (k := 3) rfl (by rw [e3_38]; rfl) (by decide) rfl (fun ls hl => ?_)
        refine lv_goto (tgt := 4) hx hb dX2_tooWeak_41 (by decide) ?_
        exact hr4 (x2_37, x3_38) h H locs hG ls (lv_sub hl [2, 3, 1, 0] rfl)
      · have h := if_f c_26 h
        refine lv_iconst (v := 1) hx hb dX2_tooWeak_29 (by decide) ?_
        refine lv_iload_n hx hb dX2_tooWeak_30 rfl (lv_at hl 3 rfl) ?_
        refine lv_ishl hx hb dX2_tooWeak_31 ?_
        refine lv_goto (tgt := 36) hx hb dX2_tooWeak_32 (by decide) ?_
        refine lv_ior hx hb dX2_tooWeak_36 ?_
        refine lv_topi (fun x2_37 e2_37 => ?_)
        have h := nm_at e2_37 h
        refine lv_istore_n (lv' := [(2, .int x2_37), (0, .ref (ad i0)), (1, .int x1), (3, .int x3)]) hx hb dX2_tooWeak_37 rfl hl (by decide) rfl (fun ls hl => ?_)
        obtain ⟨x3_38, e3_38⟩ : ∃ y : Int32, y = x3 + (1 : Int32) := ⟨_, rfl⟩
        have h := nm_at e3_38 h
        refine lv_iinc (v := x3_38) (lv' := [(3, .int x3_38), (2, .int x2_37), (0, .ref (ad i0)), (1, .int x1)]) hx hb dX2_tooWeak_38 hl (k := 3) rfl (by rw [e3_38]; rfl) (by decide) rfl (fun ls hl => ?_)
        refine lv_goto (tgt := 4) hx hb dX2_tooWeak_41 (by decide) ?_
        exact hr4 (x2_37, x3_38) h H locs hG ls (lv_sub hl [2, 3, 1, 0] rfl)
  intro H locs hG ls hl
  have hl : lv_has ls 4 [(0, .ref (ad i0)), (1, .int x1)] := hl
  unfold f_X2_tooWeak at h
  refine lv_iconst (v := 0) hx hb dX2_tooWeak_0 (by decide) ?_
  refine lv_istore_n (lv' := [(2, .int 0), (0, .ref (ad i0)), (1, .int x1)]) hx hb dX2_tooWeak_1 rfl hl (by decide) rfl (fun ls hl => ?_)
  refine lv_iconst (v := 0) hx hb dX2_tooWeak_2 (by decide) ?_
  refine lv_istore_n (lv' := [(3, .int 0), (2, .int 0), (0, .ref (ad i0)), (1, .int x1)]) hx hb dX2_tooWeak_3 rfl hl (by decide) rfl (fun ls hl => ?_)
  exact J_4 x1 _ ((0 : Int32), (0 : Int32)) h H locs hG ls (lv_sub hl [2, 3, 1, 0] rfl)
def f_X2_leavingByOthers_4 (i0 : Nat) (M : Mem) (r4 : (Int32 × Int32) → Option Int32) (x1 : Int32) (x2 : Int32) : Option Int32 :=
  if (M (i0 + 1) 2) ≤ x2 then (
    some ((x1 &&& (M (i0 + 7) 0)) &&& ((M (i0 + 7) 1) ^^^ (-1 : Int32)))
  ) else (
    chk (ixb x2 6) <|
    nm ((M (i0 + 5) x2.toNatClampNeg)) fun x3_24 =>
    if x3_24 ≤ (0 : Int32) then (
      nm ((x1 ||| (0 : Int32))) fun x1_49 =>
      nm (x2 + (1 : Int32)) fun x2_50 =>
      r4 (x1_49, x2_50)
    ) else (
      if (M (i0 + 7) 2) < x3_24 then (
        nm ((x1 ||| (0 : Int32))) fun x1_49 =>
        nm (x2 + (1 : Int32)) fun x2_50 =>
        r4 (x1_49, x2_50)
      ) else (
        nm ((x1 ||| ((1 : Int32) <<< (x2 &&& 31)))) fun x1_49 =>
        nm (x2 + (1 : Int32)) fun x2_50 =>
        r4 (x1_49, x2_50)
      )
    )
  )
def f_X2_leavingByOthers (M : Mem) (i0 : Nat) : Option Int32 :=
  iter (fun rec a => f_X2_leavingByOthers_4 i0 M rec a.1 a.2) fuel ((0 : Int32), (0 : Int32))
theorem e_X2_leavingByOthers : yX2_leavingByOthers.cls = RX2 ∧ yX2_leavingByOthers.cls ≠ "java/lang/invoke/MethodHandle" ∧ yX2_leavingByOthers.cls ≠ "java/lang/invoke/VarHandle" ∧ (parseMethodDescriptor yX2_leavingByOthers.desc).map (fun d => d.parameters.length) = some 0 := by decide +kernel
set_option maxHeartbeats 4000000 in
set_option maxRecDepth 100000 in
theorem c_X2_leavingByOthers (l : Launch) (D : va_G) (cs : Nat → ClassId) (ad : Nat → Nat) (M : Mem) {i0 : Nat} (k_i0 : gK i0 = 2) {z : Int32} (h : f_X2_leavingByOthers M i0 = some z) : CtI l yX2_leavingByOthers cX2_leavingByOthers 4 .int 0 D cs ad [.ref (ad i0)] M z M := by
  refine ct_i (own := RX2) (by decide) rfl (Nat.le_of_ble_eq_true rfl) ?_
  intro p e s m args below meth c Q C hr
  have hx := C.1
  have hb := C.2.1
  have hown := C.2.2.2.1
  have hts := C.2.2.2.2.1
  have J_4 : ∀ (n : Nat) (a : Int32 × Int32), iter (fun rec a => f_X2_leavingByOthers_4 i0 M rec a.1 a.2) n a = some z → GP p l e (rmk 0) s m args below meth c 0 0 Q D cs ad 4 4 [(0, .ref (ad i0)), (1, .int a.1), (2, .int a.2)] [] M := by
    refine iter_ind (fun r4 hr4 a h => ?_)
    obtain ⟨x1, x2⟩ := a
    have h : f_X2_leavingByOthers_4 i0 M r4 x1 x2 = some z := h
    intro H locs hG ls hl
    have hG : GH D cs ad s M H locs := hG
    have hl : lv_has ls 4 [(0, .ref (ad i0)), (1, .int x1), (2, .int x2)] := hl
    unfold f_X2_leavingByOthers_4 at h
    refine lv_iload_n hx hb dX2_leavingByOthers_4 rfl (lv_at hl 2 rfl) ?_
    refine lv_aload_n hx hb dX2_leavingByOthers_5 rfl (lv_at hl 0 rfl) ?_
    refine gf_X2_told (j := (i0 + 1)) C hG k_i0 rfl wf_X2_12 dX2_leavingByOthers_6 ?_
    refine gf_X7_birds C hG (gk_X2_told k_i0) wf_X2_36 dX2_leavingByOthers_9 ?_
    refine lv_icmp_ge (tgt := 56) hx hb dX2_leavingByOthers_12 (by decide) (fun c_12 => ?_) (fun c_12 => ?_)
    · have h := if_t c_12 h
      refine lv_iload_n hx hb dX2_leavingByOthers_56 rfl (lv_at hl 1 rfl) ?_
      refine lv_aload_n hx hb dX2_leavingByOthers_57 rfl (lv_at hl 0 rfl) ?_
      refine gf_X2_moment (j := (i0 + 7)) C hG k_i0 rfl wf_X2_21 dX2_leavingByOthers_58 ?_
      refine gf_X3_flying C hG (gk_X2_moment k_i0) wf_X2_39 dX2_leavingByOthers_61 ?_
      refine lv_iand hx hb dX2_leavingByOthers_64 ?_
      refine lv_aload_n hx hb dX2_leavingByOthers_65 rfl (lv_at hl 0 rfl) ?_
      refine gf_X2_moment (j := (i0 + 7)) C hG k_i0 rfl wf_X2_21 dX2_leavingByOthers_66 ?_
      refine gf_X3_kept C hG (gk_X2_moment k_i0) wf_X2_42 dX2_leavingByOthers_69 ?_
      refine lv_iconst (v := -1) hx hb dX2_leavingByOthers_72 (by decide) ?_
      refine lv_ixor hx hb dX2_leavingByOthers_73 ?_
      refine lv_iand hx hb dX2_leavingByOthers_74 ?_
      exact hr (Option.some.inj h) rfl hG dX2_leavingByOthers_75
    · have h := if_f c_12 h
      refine lv_aload_n hx hb dX2_leavingByOthers_15 rfl (lv_at hl 0 rfl) ?_
      refine gf_X2_told (j := (i0 + 1)) C hG k_i0 rfl wf_X2_12 dX2_leavingByOthers_16 ?_
      refine gf_X7_leaves (j := (i0 + 5)) C hG (gk_X2_told k_i0) rfl wf_X2_64 dX2_leavingByOthers_19 ?_
      refine lv_iload_n hx hb dX2_leavingByOthers_22 rfl (lv_at hl 2 rfl) ?_
      obtain ⟨hi_23, h⟩ := ix_e h
      refine g_al C hG (gk_X7_leaves (gk_X2_told k_i0)) (gl_X7_leaves (gk_X2_told k_i0)) hi_23 rfl dX2_leavingByOthers_23 ?_
      refine lv_topi (fun x3_24 e3_24 => ?_)
      have h := nm_at e3_24 h
      refine lv_istore_n (lv' := [(3, .int x3_24), (0, .ref (ad i0)), (1, .int x1), (2, .int x2)]) hx hb dX2_leavingByOthers_24 rfl hl (by decide) rfl (fun ls hl => ?_)
      refine lv_iload_n hx hb dX2_leavingByOthers_25 rfl (lv_at hl 2 rfl) ?_
      refine lv_iload_n hx hb dX2_leavingByOthers_26 rfl (lv_at hl 0 rfl) ?_
      refine lv_if_le (tgt := 47) hx hb dX2_leavingByOthers_27 (by decide) (fun c_27 => ?_) (fun c_27 => ?_)
      · have h := if_t c_27 h
        refine lv_iconst (v := 0) hx hb dX2_leavingByOthers_47 (by decide) ?_
        refine lv_ior hx hb dX2_leavingByOthers_48 ?_
        refine lv_topi (fun x1_49 e1_49 => ?_)
        have h := nm_at e1_49 h
        refine lv_istore_n (lv' := [(1, .int x1_49), (3, .int x3_24), (0, .ref (ad i0)), (2, .int x2)]) hx hb dX2_leavingByOthers_49 rfl hl (by decide) rfl (fun ls hl => ?_)
        obtain ⟨x2_50, e2_50⟩ : ∃ y : Int32, y = x2 + (1 : Int32) := ⟨_, rfl⟩
        have h := nm_at e2_50 h
        refine lv_iinc (v := x2_50) (lv' := [(2, .int x2_50), (1, .int x1_49), (3, .int x3_24), (0, .ref (ad i0))]) hx hb dX2_leavingByOthers_50 hl (k := 3) rfl (by rw [e2_50]; rfl) (by decide) rfl (fun ls hl => ?_)
        refine lv_goto (tgt := 4) hx hb dX2_leavingByOthers_53 (by decide) ?_
        exact hr4 (x1_49, x2_50) h H locs hG ls (lv_sub hl [3, 1, 0] rfl)
      · have h := if_f c_27 h
        refine lv_iload_n hx hb dX2_leavingByOthers_30 rfl (lv_at hl 0 rfl) ?_
        refine lv_aload_n hx hb dX2_leavingByOthers_31 rfl (lv_at hl 1 rfl) ?_
        refine gf_X2_moment (j := (i0 + 7)) C hG k_i0 rfl wf_X2_21 dX2_leavingByOthers_32 ?_
        refine gf_X3_turned C hG (gk_X2_moment k_i0) wf_X2_45 dX2_leavingByOthers_35 ?_
        refine lv_icmp_gt (tgt := 47) hx hb dX2_leavingByOthers_38 (by decide) (fun c_38 => ?_) (fun c_38 => ?_)
        · have h := if_t c_38 h
          refine lv_iconst (v := 0) hx hb dX2_leavingByOthers_47 (by decide) ?_
          refine lv_ior hx hb dX2_leavingByOthers_48 ?_
          refine lv_topi (fun x1_49 e1_49 => ?_)
          have h := nm_at e1_49 h
          refine lv_istore_n (lv' := [(1, .int x1_49), (3, .int x3_24), (0, .ref (ad i0)), (2, .int x2)]) hx hb dX2_leavingByOthers_49 rfl hl (by decide) rfl (fun ls hl => ?_)
          obtain ⟨x2_50, e2_50⟩ : ∃ y : Int32, y = x2 + (1 : Int32) := ⟨_, rfl⟩
          have h := nm_at e2_50 h
          refine lv_iinc (v := x2_50) (lv' := [(2, .int x2_50), (1, .int x1_49), (3, .int x3_24), (0, .ref (ad i0))]) hx hb dX2_leavingByOthers_50 hl (k := 3) rfl (by rw [e2_50]; rfl) (by decide) rfl (fun ls hl => ?_)
          refine lv_goto (tgt := 4) hx hb dX2_leavingByOthers_53 (by decide) ?_
          exact hr4 (x1_49, x2_50) h H locs hG ls (lv_sub hl [3, 1, 0] rfl)
        · have h := if_f c_38 h
          refine lv_iconst (v := 1) hx hb dX2_leavingByOthers_41 (by decide) ?_
          refine lv_iload_n hx hb dX2_leavingByOthers_42 rfl (lv_at hl 3 rfl) ?_
          refine lv_ishl hx hb dX2_leavingByOthers_43 ?_
          refine lv_goto (tgt := 48) hx hb dX2_leavingByOthers_44 (by decide) ?_
          refine lv_ior hx hb dX2_leavingByOthers_48 ?_
          refine lv_topi (fun x1_49 e1_49 => ?_)
          have h := nm_at e1_49 h
          refine lv_istore_n (lv' := [(1, .int x1_49), (3, .int x3_24), (0, .ref (ad i0)), (2, .int x2)]) hx hb dX2_leavingByOthers_49 rfl hl (by decide) rfl (fun ls hl => ?_)
          obtain ⟨x2_50, e2_50⟩ : ∃ y : Int32, y = x2 + (1 : Int32) := ⟨_, rfl⟩
          have h := nm_at e2_50 h
          refine lv_iinc (v := x2_50) (lv' := [(2, .int x2_50), (1, .int x1_49), (3, .int x3_24), (0, .ref (ad i0))]) hx hb dX2_leavingByOthers_50 hl (k := 3) rfl (by rw [e2_50]; rfl) (by decide) rfl (fun ls hl => ?_)
          refine lv_goto (tgt := 4) hx hb dX2_leavingByOthers_53 (by decide) ?_
          exact hr4 (x1_49, x2_50) h H locs hG ls (lv_sub hl [3, 1, 0] rfl)
  intro H locs hG ls hl
  have hl : lv_has ls 4 [(0, .ref (ad i0))] := hl
  unfold f_X2_leavingByOthers at h
  refine lv_iconst (v := 0) hx hb dX2_leavingByOthers_0 (by decide) ?_
  refine lv_istore_n (lv' := [(1, .int 0), (0, .ref (ad i0))]) hx hb dX2_leavingByOthers_1 rfl hl (by decide) rfl (fun ls hl => ?_)
  refine lv_iconst (v := 0) hx hb dX2_leavingByOthers_2 (by decide) ?_
  refine lv_istore_n (lv' := [(2, .int 0), (1, .int 0), (0, .ref (ad i0))]) hx hb dX2_leavingByOthers_3 rfl hl (by decide) rfl (fun ls hl => ?_)
  exact J_4 _ ((0 : Int32), (0 : Int32)) h H locs hG ls (lv_sub hl [2, 1, 0] rfl)
def f_X2_flyNext_38 (i0 : Nat) (r38 : (Mem × Int32) → Option Mem) (M : Mem) (x1 : Int32) : Option Mem :=
  if (6 : Int32) ≤ x1 then (
    nm (st M (i0 + 7) 3 ((M (i0 + 7) 3) + (1 : Int32))) fun M71 =>
    some M71
  ) else (
    (f_X2_leavingByOthers M i0).bind fun q49 =>
    nm (f_X3_turnBack M (i0 + 7) q49) fun q52 =>
    nm (x1 + (1 : Int32)) fun x1_55 =>
    r38 (q52, x1_55)
  )
def f_X2_flyNext (M : Mem) (i0 : Nat) : Option Mem :=
  if (1 : Int32) ≤ (f_X2_coming M i0) then (
    (f_X2_takeStrength M i0).bind fun q10 =>
    (f_X2_nextValley q10 i0).bind fun q26 =>
    chk (ixb q26 5) <|
    (f_X2_tooWeak q10 i0 (q10 (i0 + 2) q26.toNatClampNeg)).bind fun q30 =>
    nm (f_X3_turnBack q10 (i0 + 7) q30) fun q33 =>
    iter (fun rec a => f_X2_flyNext_38 i0 rec a.1 a.2) fuel (q33, (0 : Int32))
  ) else (
    some M
  )
theorem e_X2_flyNext : yX2_flyNext.cls = RX2 ∧ yX2_flyNext.cls ≠ "java/lang/invoke/MethodHandle" ∧ yX2_flyNext.cls ≠ "java/lang/invoke/VarHandle" ∧ (parseMethodDescriptor yX2_flyNext.desc).map (fun d => d.parameters.length) = some 0 := by decide +kernel
set_option maxHeartbeats 4000000 in
set_option maxRecDepth 100000 in
theorem c_X2_flyNext (l : Launch) (D : va_G) (cs : Nat → ClassId) (ad : Nat → Nat) (M : Mem) {i0 : Nat} (k_i0 : gK i0 = 2) {z : Mem} (h : f_X2_flyNext M i0 = some z) : CtV l yX2_flyNext cX2_flyNext 2 3 D cs ad [.ref (ad i0)] M z := by
  refine ct_v (own := RX2) (by decide) rfl (Nat.le_of_ble_eq_true rfl) ?_
  intro p e s m args below meth c Q C hr
  have hx := C.1
  have hb := C.2.1
  have hown := C.2.2.2.1
  have hts := C.2.2.2.2.1
  have J_38 : ∀ (n : Nat) (a : Mem × Int32), iter (fun rec a => f_X2_flyNext_38 i0 rec a.1 a.2) n a = some z → GP p l e (rmk 3) s m args below meth c 0 0 Q D cs ad 2 38 [(0, .ref (ad i0)), (1, .int a.2)] [] a.1 := by
    refine iter_ind (fun r38 hr38 a h => ?_)
    obtain ⟨M, x1⟩ := a
    have h : f_X2_flyNext_38 i0 r38 M x1 = some z := h
    intro H locs hG ls hl
    have hG : GH D cs ad s M H locs := hG
    have hl : lv_has ls 2 [(0, .ref (ad i0)), (1, .int x1)] := hl
    unfold f_X2_flyNext_38 at h
    refine lv_iload_n hx hb dX2_flyNext_38 rfl (lv_at hl 1 rfl) ?_
    refine lv_bipush (v := 6) hx hb dX2_flyNext_39 (by decide) ?_
    refine lv_icmp_ge (tgt := 61) hx hb dX2_flyNext_41 (by decide) (fun c_41 => ?_) (fun c_41 => ?_)
    · have h := if_t c_41 h
      refine lv_aload_n hx hb dX2_flyNext_61 rfl (lv_at hl 0 rfl) ?_
      refine gf_X2_moment (j := (i0 + 7)) C hG k_i0 rfl wf_X2_21 dX2_flyNext_62 ?_
      refine lv_dup hx hb dX2_flyNext_65 rfl ?_
      refine gf_X3_through C hG (gk_X2_moment k_i0) wf_X2_48 dX2_flyNext_66 ?_
      refine lv_iconst (v := 1) hx hb dX2_flyNext_69 (by decide) ?_
      refine lv_iadd hx hb dX2_flyNext_70 ?_
      refine gp_X3_through C hG (gk_X2_moment k_i0) wf_X2_48 dX2_flyNext_71 (fun M71 e_71 H locs hG => ?_)
      have h := nm_at e_71 h
      exact hr (Option.some.inj h) hG dX2_flyNext_74
    · have h := if_f c_41 h
      refine lv_aload_n hx hb dX2_flyNext_44 rfl (lv_at hl 0 rfl) ?_
      refine gf_X2_moment (j := (i0 + 7)) C hG k_i0 rfl wf_X2_21 dX2_flyNext_45 ?_
      refine lv_aload_n hx hb dX2_flyNext_48 rfl (lv_at hl 0 rfl) ?_
      obtain ⟨q49, e_49, h⟩ := bd_e h
      refine g_ci hG (g_runV C hG (gR_2 k_i0) (c_X2_leavingByOthers l D cs ad M k_i0 e_49) wm_X2_116 wi_X2_leavingByOthers ws_X2_leavingByOthers wz_X2 wc_X2_leavingByOthers e_X2_leavingByOthers (by decide) hl.1 (Nat.le_of_ble_eq_true rfl) dX2_flyNext_49) (fun H locs hG => ?_)
      obtain ⟨q52, e_52⟩ : ∃ y, f_X3_turnBack M (i0 + 7) q49 = y := ⟨_, rfl⟩
      have h := nm_at e_52.symm h
      refine g_cv hG (g_runV C hG (gR_3 (gk_X2_moment k_i0)) (c_X3_turnBack l D cs ad M (gk_X2_moment k_i0) q49 e_52) wm_X2_95 wi_X3_turnBack ws_X3_turnBack wz_X3 wc_X3_turnBack e_X3_turnBack (by decide) hl.1 (Nat.le_of_ble_eq_true rfl) dX2_flyNext_52) (fun H locs hG => ?_)
      obtain ⟨x1_55, e1_55⟩ : ∃ y : Int32, y = x1 + (1 : Int32) := ⟨_, rfl⟩
      have h := nm_at e1_55 h
      refine lv_iinc (v := x1_55) (lv' := [(1, .int x1_55), (0, .ref (ad i0))]) hx hb dX2_flyNext_55 hl (k := 1) rfl (by rw [e1_55]; rfl) (by decide) rfl (fun ls hl => ?_)
      refine lv_goto (tgt := 38) hx hb dX2_flyNext_58 (by decide) ?_
      exact hr38 (q52, x1_55) h H locs hG ls (lv_sub hl [1, 0] rfl)
  intro H locs hG ls hl
  have hl : lv_has ls 2 [(0, .ref (ad i0))] := hl
  unfold f_X2_flyNext at h
  refine lv_aload_n hx hb dX2_flyNext_0 rfl (lv_at hl 0 rfl) ?_
  refine g_ci hG (g_runV C hG (gR_2 k_i0) (c_X2_coming l D cs ad M k_i0 rfl) wm_X2_106 wi_X2_coming ws_X2_coming wz_X2 wc_X2_coming e_X2_coming (by decide) hl.1 (Nat.le_of_ble_eq_true rfl) dX2_flyNext_1) (fun H locs hG => ?_)
  refine lv_iconst (v := 1) hx hb dX2_flyNext_4 (by decide) ?_
  refine lv_icmp_ge (tgt := 9) hx hb dX2_flyNext_5 (by decide) (fun c_5 => ?_) (fun c_5 => ?_)
  · have h := if_t c_5 h
    refine lv_aload_n hx hb dX2_flyNext_9 rfl (lv_at hl 0 rfl) ?_
    obtain ⟨q10, e_10, h⟩ := bd_e h
    refine g_cv hG (g_runV C hG (gR_2 k_i0) (c_X2_takeStrength l D cs ad M k_i0 e_10) wm_X2_109 wi_X2_takeStrength ws_X2_takeStrength wz_X2 wc_X2_takeStrength e_X2_takeStrength (by decide) hl.1 (Nat.le_of_ble_eq_true rfl) dX2_flyNext_10) (fun H locs hG => ?_)
    refine lv_aload_n hx hb dX2_flyNext_13 rfl (lv_at hl 0 rfl) ?_
    refine gf_X2_moment (j := (i0 + 7)) C hG k_i0 rfl wf_X2_21 dX2_flyNext_14 ?_
    refine lv_aload_n hx hb dX2_flyNext_17 rfl (lv_at hl 0 rfl) ?_
    refine lv_aload_n hx hb dX2_flyNext_18 rfl (lv_at hl 0 rfl) ?_
    refine gf_X2_told (j := (i0 + 1)) C hG k_i0 rfl wf_X2_12 dX2_flyNext_19 ?_
    refine gf_X7_asks (j := (i0 + 2)) C hG (gk_X2_told k_i0) rfl wf_X2_51 dX2_flyNext_22 ?_
    refine lv_aload_n hx hb dX2_flyNext_25 rfl (lv_at hl 0 rfl) ?_
    obtain ⟨q26, e_26, h⟩ := bd_e h
    refine g_ci hG (g_runV C hG (gR_2 k_i0) (c_X2_nextValley l D cs ad q10 k_i0 e_26) wm_X2_102 wi_X2_nextValley ws_X2_nextValley wz_X2 wc_X2_nextValley e_X2_nextValley (by decide) hl.1 (Nat.le_of_ble_eq_true rfl) dX2_flyNext_26) (fun H locs hG => ?_)
    obtain ⟨hi_29, h⟩ := ix_e h
    refine g_al C hG (gk_X7_asks (gk_X2_told k_i0)) (gl_X7_asks (gk_X2_told k_i0)) hi_29 rfl dX2_flyNext_29 ?_
    obtain ⟨q30, e_30, h⟩ := bd_e h
    refine g_ci hG (g_runV C hG (gR_2 k_i0) (c_X2_tooWeak l D cs ad q10 k_i0 (q10 (i0 + 2) q26.toNatClampNeg) e_30) wm_X2_112 wi_X2_tooWeak ws_X2_tooWeak wz_X2 wc_X2_tooWeak e_X2_tooWeak (by decide) hl.1 (Nat.le_of_ble_eq_true rfl) dX2_flyNext_30) (fun H locs hG => ?_)
    obtain ⟨q33, e_33⟩ : ∃ y, f_X3_turnBack q10 (i0 + 7) q30 = y := ⟨_, rfl⟩
    have h := nm_at e_33.symm h
    refine g_cv hG (g_runV C hG (gR_3 (gk_X2_moment k_i0)) (c_X3_turnBack l D cs ad q10 (gk_X2_moment k_i0) q30 e_33) wm_X2_95 wi_X3_turnBack ws_X3_turnBack wz_X3 wc_X3_turnBack e_X3_turnBack (by decide) hl.1 (Nat.le_of_ble_eq_true rfl) dX2_flyNext_33) (fun H locs hG => ?_)
    refine lv_iconst (v := 0) hx hb dX2_flyNext_36 (by decide) ?_
    refine lv_istore_n (lv' := [(1, .int 0), (0, .ref (ad i0))]) hx hb dX2_flyNext_37 rfl hl (by decide) rfl (fun ls hl => ?_)
    exact J_38 _ (q33, (0 : Int32)) h H locs hG ls (lv_sub hl [1, 0] rfl)
  · have h := if_f c_5 h
    exact hr (Option.some.inj h) hG dX2_flyNext_8
def f_X2_strengthen (M : Mem) (i0 : Nat) (x1 : Int32) : Option Mem :=
  chk (ixb x1 6) <|
  nm (st M (i0 + 8) x1.toNatClampNeg (if ((M (i0 + 8) x1.toNatClampNeg) + (M (i0 + 1) 0)) < (30 : Int32) then ((M (i0 + 8) x1.toNatClampNeg) + (M (i0 + 1) 0)) else (30 : Int32))) fun M30 =>
  some M30
theorem e_X2_strengthen : yX2_strengthen.cls = RX2 ∧ yX2_strengthen.cls ≠ "java/lang/invoke/MethodHandle" ∧ yX2_strengthen.cls ≠ "java/lang/invoke/VarHandle" ∧ (parseMethodDescriptor yX2_strengthen.desc).map (fun d => d.parameters.length) = some 1 := by decide +kernel
set_option maxHeartbeats 4000000 in
set_option maxRecDepth 100000 in
theorem c_X2_strengthen (l : Launch) (D : va_G) (cs : Nat → ClassId) (ad : Nat → Nat) (M : Mem) {i0 : Nat} (k_i0 : gK i0 = 2) (x1 : Int32) {z : Mem} (h : f_X2_strengthen M i0 x1 = some z) : CtV l yX2_strengthen cX2_strengthen 2 1 D cs ad [.ref (ad i0), .int x1] M z := by
  refine ct_v (own := RX2) (by decide) rfl (Nat.le_of_ble_eq_true rfl) ?_
  intro p e s m args below meth c Q C hr
  have hx := C.1
  have hb := C.2.1
  have hown := C.2.2.2.1
  have hts := C.2.2.2.2.1
  intro H locs hG ls hl
  have hl : lv_has ls 2 [(0, .ref (ad i0)), (1, .int x1)] := hl
  unfold f_X2_strengthen at h
  refine lv_aload_n hx hb dX2_strengthen_0 rfl (lv_at hl 0 rfl) ?_
  refine gf_X2_moment (j := (i0 + 7)) C hG k_i0 rfl wf_X2_21 dX2_strengthen_1 ?_
  refine gf_X3_strong (j := (i0 + 8)) C hG (gk_X2_moment k_i0) rfl wf_X2_70 dX2_strengthen_4 ?_
  refine lv_iload_n hx hb dX2_strengthen_7 rfl (lv_at hl 1 rfl) ?_
  refine lv_bipush (v := 30) hx hb dX2_strengthen_8 (by decide) ?_
  refine lv_aload_n hx hb dX2_strengthen_10 rfl (lv_at hl 0 rfl) ?_
  refine gf_X2_moment (j := (i0 + 7)) C hG k_i0 rfl wf_X2_21 dX2_strengthen_11 ?_
  refine gf_X3_strong (j := (i0 + 8)) C hG (gk_X2_moment k_i0) rfl wf_X2_70 dX2_strengthen_14 ?_
  refine lv_iload_n hx hb dX2_strengthen_17 rfl (lv_at hl 1 rfl) ?_
  obtain ⟨hi_18, h⟩ := ix_e h
  refine g_al C hG (gk_X3_strong (gk_X2_moment k_i0)) (gl_X3_strong (gk_X2_moment k_i0)) hi_18 rfl dX2_strengthen_18 ?_
  refine lv_aload_n hx hb dX2_strengthen_19 rfl (lv_at hl 0 rfl) ?_
  refine gf_X2_told (j := (i0 + 1)) C hG k_i0 rfl wf_X2_12 dX2_strengthen_20 ?_
  refine gf_X7_lawOfFeed C hG (gk_X2_told k_i0) wf_X2_74 dX2_strengthen_23 ?_
  refine lv_iadd hx hb dX2_strengthen_26 ?_
  refine g_min C hl.1 wm_X2_77 (by decide) (Nat.le_of_ble_eq_true rfl) dX2_strengthen_27 ?_
  refine g_as C hG (gk_X3_strong (gk_X2_moment k_i0)) (gl_X3_strong (gk_X2_moment k_i0)) hi_18 rfl dX2_strengthen_30 (fun M30 e_30 H locs hG => ?_)
  have h := nm_at e_30 h
  exact hr (Option.some.inj h) hG dX2_strengthen_31
def f_X2_placeOf_2 (i0 : Nat) (M : Mem) (x1 : Int32) (r2 : Int32 → Option Int32) (x2 : Int32) : Option Int32 :=
  if (M (i0 + 1) 1) ≤ x2 then (
    some (-1000000 : Int32)
  ) else (
    chk (ixb x2 5) <|
    if (M (i0 + 9) x2.toNatClampNeg) = x1 then (
      some x2
    ) else (
      nm (x2 + (1 : Int32)) fun x2_28 =>
      r2 x2_28
    )
  )
def f_X2_placeOf (M : Mem) (i0 : Nat) (x1 : Int32) : Option Int32 :=
  iter (fun rec a => f_X2_placeOf_2 i0 M x1 rec a) fuel (0 : Int32)
theorem e_X2_placeOf : yX2_placeOf.cls = RX2 ∧ yX2_placeOf.cls ≠ "java/lang/invoke/MethodHandle" ∧ yX2_placeOf.cls ≠ "java/lang/invoke/VarHandle" ∧ (parseMethodDescriptor yX2_placeOf.desc).map (fun d => d.parameters.length) = some 1 := by decide +kernel
set_option maxHeartbeats 4000000 in
set_option maxRecDepth 100000 in
theorem c_X2_placeOf (l : Launch) (D : va_G) (cs : Nat → ClassId) (ad : Nat → Nat) (M : Mem) {i0 : Nat} (k_i0 : gK i0 = 2) (x1 : Int32) {z : Int32} (h : f_X2_placeOf M i0 x1 = some z) : CtI l yX2_placeOf cX2_placeOf 3 .int 0 D cs ad [.ref (ad i0), .int x1] M z M := by
  refine ct_i (own := RX2) (by decide) rfl (Nat.le_of_ble_eq_true rfl) ?_
  intro p e s m args below meth c Q C hr
  have hx := C.1
  have hb := C.2.1
  have hown := C.2.2.2.1
  have hts := C.2.2.2.2.1
  have J_2 : ∀ (x1 : Int32) (n : Nat) (a : Int32), iter (fun rec a => f_X2_placeOf_2 i0 M x1 rec a) n a = some z → GP p l e (rmk 0) s m args below meth c 0 0 Q D cs ad 3 2 [(0, .ref (ad i0)), (1, .int x1), (2, .int a)] [] M := by
    intro x1
    refine iter_ind (fun r2 hr2 a h => ?_)
    obtain ⟨x2, rfl⟩ : ∃ y, y = a := ⟨_, rfl⟩
    have h : f_X2_placeOf_2 i0 M x1 r2 x2 = some z := h
    intro H locs hG ls hl
    have hG : GH D cs ad s M H locs := hG
    have hl : lv_has ls 3 [(0, .ref (ad i0)), (1, .int x1), (2, .int x2)] := hl
    unfold f_X2_placeOf_2 at h
    refine lv_iload_n hx hb dX2_placeOf_2 rfl (lv_at hl 2 rfl) ?_
    refine lv_aload_n hx hb dX2_placeOf_3 rfl (lv_at hl 0 rfl) ?_
    refine gf_X2_told (j := (i0 + 1)) C hG k_i0 rfl wf_X2_12 dX2_placeOf_4 ?_
    refine gf_X7_valleys C hG (gk_X2_told k_i0) wf_X2_32 dX2_placeOf_7 ?_
    refine lv_icmp_ge (tgt := 34) hx hb dX2_placeOf_10 (by decide) (fun c_10 => ?_) (fun c_10 => ?_)
    · have h := if_t c_10 h
      refine lv_ldc (v := -1000000) hx hb hown (hts _ wk_X2_73) dX2_placeOf_34 ?_
      exact hr (Option.some.inj h) rfl hG dX2_placeOf_36
    · have h := if_f c_10 h
      refine lv_aload_n hx hb dX2_placeOf_13 rfl (lv_at hl 0 rfl) ?_
      refine gf_X2_moment (j := (i0 + 7)) C hG k_i0 rfl wf_X2_21 dX2_placeOf_14 ?_
      refine gf_X3_line (j := (i0 + 9)) C hG (gk_X2_moment k_i0) rfl wf_X2_58 dX2_placeOf_17 ?_
      refine lv_iload_n hx hb dX2_placeOf_20 rfl (lv_at hl 2 rfl) ?_
      obtain ⟨hi_21, h⟩ := ix_e h
      refine g_al C hG (gk_X3_line (gk_X2_moment k_i0)) (gl_X3_line (gk_X2_moment k_i0)) hi_21 rfl dX2_placeOf_21 ?_
      refine lv_iload_n hx hb dX2_placeOf_22 rfl (lv_at hl 1 rfl) ?_
      refine lv_icmp_ne (tgt := 28) hx hb dX2_placeOf_23 (by decide) (fun c_23 => ?_) (fun c_23 => ?_)
      · have h := if_f c_23 h
        obtain ⟨x2_28, e2_28⟩ : ∃ y : Int32, y = x2 + (1 : Int32) := ⟨_, rfl⟩
        have h := nm_at e2_28 h
        refine lv_iinc (v := x2_28) (lv' := [(2, .int x2_28), (0, .ref (ad i0)), (1, .int x1)]) hx hb dX2_placeOf_28 hl (k := 2) rfl (by rw [e2_28]; rfl) (by decide) rfl (fun ls hl => ?_)
        refine lv_goto (tgt := 2) hx hb dX2_placeOf_31 (by decide) ?_
        exact hr2 x2_28 h H locs hG ls (lv_sub hl [1, 2, 0] rfl)
      · have h := if_t c_23 h
        refine lv_iload_n hx hb dX2_placeOf_26 rfl (lv_at hl 2 rfl) ?_
        exact hr (Option.some.inj h) rfl hG dX2_placeOf_27
  intro H locs hG ls hl
  have hl : lv_has ls 3 [(0, .ref (ad i0)), (1, .int x1)] := hl
  unfold f_X2_placeOf at h
  refine lv_iconst (v := 0) hx hb dX2_placeOf_0 (by decide) ?_
  refine lv_istore_n (lv' := [(2, .int 0), (0, .ref (ad i0)), (1, .int x1)]) hx hb dX2_placeOf_1 rfl hl (by decide) rfl (fun ls hl => ?_)
  exact J_2 x1 _ (0 : Int32) h H locs hG ls (lv_sub hl [1, 2, 0] rfl)
def f_X2_isThere (M : Mem) (i0 : Nat) : Bool :=
  if (M (i0 + 1) 1) ≤ (0 : Int32) then (
    false
  ) else (
    true
  )
theorem e_X2_isThere : yX2_isThere.cls = RX2 ∧ yX2_isThere.cls ≠ "java/lang/invoke/MethodHandle" ∧ yX2_isThere.cls ≠ "java/lang/invoke/VarHandle" ∧ (parseMethodDescriptor yX2_isThere.desc).map (fun d => d.parameters.length) = some 0 := by decide +kernel
set_option maxHeartbeats 4000000 in
set_option maxRecDepth 100000 in
theorem c_X2_isThere (l : Launch) (D : va_G) (cs : Nat → ClassId) (ad : Nat → Nat) (M : Mem) {i0 : Nat} (k_i0 : gK i0 = 2) {z : Bool} (h : f_X2_isThere M i0 = z) : CtI l yX2_isThere cX2_isThere 1 .boolean 0 D cs ad [.ref (ad i0)] M (bi z) M := by
  refine ct_z (own := RX2) (by decide) rfl (Nat.le_of_ble_eq_true rfl) ?_
  intro p e s m args below meth c Q C hr
  have hx := C.1
  have hb := C.2.1
  have hown := C.2.2.2.1
  have hts := C.2.2.2.2.1
  intro H locs hG ls hl
  have hl : lv_has ls 1 [(0, .ref (ad i0))] := hl
  unfold f_X2_isThere at h
  refine lv_aload_n hx hb dX2_isThere_0 rfl (lv_at hl 0 rfl) ?_
  refine gf_X2_told (j := (i0 + 1)) C hG k_i0 rfl wf_X2_12 dX2_isThere_1 ?_
  refine gf_X7_valleys C hG (gk_X2_told k_i0) wf_X2_32 dX2_isThere_4 ?_
  refine lv_if_le (tgt := 14) hx hb dX2_isThere_7 (by decide) (fun c_7 => ?_) (fun c_7 => ?_)
  · have h := if_t c_7 h
    refine lv_iconst (v := 0) hx hb dX2_isThere_14 (by decide) ?_
    exact hr (congrArg bi h) rfl hG dX2_isThere_15
  · have h := if_f c_7 h
    refine lv_iconst (v := 1) hx hb dX2_isThere_10 (by decide) ?_
    refine lv_goto (tgt := 15) hx hb dX2_isThere_11 (by decide) ?_
    exact hr (congrArg bi h) rfl hG dX2_isThere_15
def f_X2_arriving_2 (i0 : Nat) (r2 : (Mem × Int32) → Option (Int32 × Mem)) (M : Mem) (x1 : Int32) : Option (Int32 × Mem) :=
  if (5 : Int32) ≤ x1 then (
    some ((M (i0 + 7) 0), M)
  ) else (
    (f_X2_flyNext M i0).bind fun q8 =>
    nm (x1 + (1 : Int32)) fun x1_11 =>
    r2 (q8, x1_11)
  )
def f_X2_arriving (M : Mem) (i0 : Nat) : Option (Int32 × Mem) :=
  iter (fun rec a => f_X2_arriving_2 i0 rec a.1 a.2) fuel (M, (0 : Int32))
theorem e_X2_arriving : yX2_arriving.cls = RX2 ∧ yX2_arriving.cls ≠ "java/lang/invoke/MethodHandle" ∧ yX2_arriving.cls ≠ "java/lang/invoke/VarHandle" ∧ (parseMethodDescriptor yX2_arriving.desc).map (fun d => d.parameters.length) = some 0 := by decide +kernel
set_option maxHeartbeats 4000000 in
set_option maxRecDepth 100000 in
theorem c_X2_arriving (l : Launch) (D : va_G) (cs : Nat → ClassId) (ad : Nat → Nat) (M : Mem) {i0 : Nat} (k_i0 : gK i0 = 2) {z : Int32 × Mem} (h : f_X2_arriving M i0 = some z) : CtI l yX2_arriving cX2_arriving 2 .int 4 D cs ad [.ref (ad i0)] M z.1 z.2 := by
  refine ct_i (own := RX2) (by decide) rfl (Nat.le_of_ble_eq_true rfl) ?_
  intro p e s m args below meth c Q C hr
  have hx := C.1
  have hb := C.2.1
  have hown := C.2.2.2.1
  have hts := C.2.2.2.2.1
  have J_2 : ∀ (n : Nat) (a : Mem × Int32), iter (fun rec a => f_X2_arriving_2 i0 rec a.1 a.2) n a = some z → GP p l e (rmk 4) s m args below meth c 0 0 Q D cs ad 2 2 [(0, .ref (ad i0)), (1, .int a.2)] [] a.1 := by
    refine iter_ind (fun r2 hr2 a h => ?_)
    obtain ⟨M, x1⟩ := a
    have h : f_X2_arriving_2 i0 r2 M x1 = some z := h
    intro H locs hG ls hl
    have hG : GH D cs ad s M H locs := hG
    have hl : lv_has ls 2 [(0, .ref (ad i0)), (1, .int x1)] := hl
    unfold f_X2_arriving_2 at h
    refine lv_iload_n hx hb dX2_arriving_2 rfl (lv_at hl 1 rfl) ?_
    refine lv_iconst (v := 5) hx hb dX2_arriving_3 (by decide) ?_
    refine lv_icmp_ge (tgt := 17) hx hb dX2_arriving_4 (by decide) (fun c_4 => ?_) (fun c_4 => ?_)
    · have h := if_t c_4 h
      refine lv_aload_n hx hb dX2_arriving_17 rfl (lv_at hl 0 rfl) ?_
      refine gf_X2_moment (j := (i0 + 7)) C hG k_i0 rfl wf_X2_21 dX2_arriving_18 ?_
      refine gf_X3_flying C hG (gk_X2_moment k_i0) wf_X2_39 dX2_arriving_21 ?_
      exact hr (pf1 (Option.some.inj h)) (pf2 (Option.some.inj h)) hG dX2_arriving_24
    · have h := if_f c_4 h
      refine lv_aload_n hx hb dX2_arriving_7 rfl (lv_at hl 0 rfl) ?_
      obtain ⟨q8, e_8, h⟩ := bd_e h
      refine g_cv hG (g_runV C hG (gR_2 k_i0) (c_X2_flyNext l D cs ad M k_i0 e_8) wm_X2_122 wi_X2_flyNext ws_X2_flyNext wz_X2 wc_X2_flyNext e_X2_flyNext (by decide) hl.1 (Nat.le_of_ble_eq_true rfl) dX2_arriving_8) (fun H locs hG => ?_)
      obtain ⟨x1_11, e1_11⟩ : ∃ y : Int32, y = x1 + (1 : Int32) := ⟨_, rfl⟩
      have h := nm_at e1_11 h
      refine lv_iinc (v := x1_11) (lv' := [(1, .int x1_11), (0, .ref (ad i0))]) hx hb dX2_arriving_11 hl (k := 1) rfl (by rw [e1_11]; rfl) (by decide) rfl (fun ls hl => ?_)
      refine lv_goto (tgt := 2) hx hb dX2_arriving_14 (by decide) ?_
      exact hr2 (q8, x1_11) h H locs hG ls (lv_sub hl [1, 0] rfl)
  intro H locs hG ls hl
  have hl : lv_has ls 2 [(0, .ref (ad i0))] := hl
  unfold f_X2_arriving at h
  refine lv_iconst (v := 0) hx hb dX2_arriving_0 (by decide) ?_
  refine lv_istore_n (lv' := [(1, .int 0), (0, .ref (ad i0))]) hx hb dX2_arriving_1 rfl hl (by decide) rfl (fun ls hl => ?_)
  exact J_2 _ (M, (0 : Int32)) h H locs hG ls (lv_sub hl [1, 0] rfl)
def f_X4_putInOrder_14 (r2 : (Mem × Int32) → Option Mem) (x2 : Int32) (r14 : (Mem × Int32) → Option Mem) (M : Mem) (x3 : Int32) : Option Mem :=
  if (M 99 2) ≤ x3 then (
    nm (x2 + (1 : Int32)) fun x2_52 =>
    r2 (M, x2_52)
  ) else (
    chk (ixb x3 5) <|
    chk (ixb x2 5) <|
    if (M 100 x2.toNatClampNeg) ≤ (M 100 x3.toNatClampNeg) then (
      nm (x3 + (1 : Int32)) fun x3_46 =>
      r14 (M, x3_46)
    ) else (
      (f_X8_exchange M 100 x2 x3).bind fun q43 =>
      nm (x3 + (1 : Int32)) fun x3_46 =>
      r14 (q43, x3_46)
    )
  )
def f_X4_putInOrder_2 (r2 : (Mem × Int32) → Option Mem) (M : Mem) (x2 : Int32) : Option Mem :=
  if (M 99 2) ≤ x2 then (
    some M
  ) else (
    nm ((x2 + (1 : Int32))) fun x3_13 =>
    iter (fun rec a => f_X4_putInOrder_14 r2 x2 rec a.1 a.2) fuel (M, x3_13)
  )
def f_X4_putInOrder (M : Mem) (x1 : Int32) : Option Mem :=
  iter (fun rec a => f_X4_putInOrder_2 rec a.1 a.2) fuel (M, x1)
theorem e_X4_putInOrder : yX4_putInOrder.cls = RX4 ∧ yX4_putInOrder.cls ≠ "java/lang/invoke/MethodHandle" ∧ yX4_putInOrder.cls ≠ "java/lang/invoke/VarHandle" ∧ (parseMethodDescriptor yX4_putInOrder.desc).map (fun d => d.parameters.length) = some 1 := by decide +kernel
set_option maxHeartbeats 4000000 in
set_option maxRecDepth 100000 in
theorem c_X4_putInOrder (l : Launch) (D : va_G) (cs : Nat → ClassId) (ad : Nat → Nat) (M : Mem) (x1 : Int32) {z : Mem} (h : f_X4_putInOrder M x1 = some z) : CtV l yX4_putInOrder cX4_putInOrder 4 1 D cs ad [.ref (ad 99), .int x1] M z := by
  refine ct_v (own := RX4) (by decide) rfl (Nat.le_of_ble_eq_true rfl) ?_
  intro p e s m args below meth c Q C hr
  have hx := C.1
  have hb := C.2.1
  have hown := C.2.2.2.1
  have hts := C.2.2.2.2.1
  have J_14 : ∀ (x2 : Int32) (r2 : (Mem × Int32) → Option Mem) (hr2 : ∀ a, r2 a = some z → GP p l e (rmk 1) s m args below meth c 0 0 Q D cs ad 4 2 [(0, .ref (ad 99)), (2, .int a.2)] [] a.1) (n : Nat) (a : Mem × Int32), iter (fun rec a => f_X4_putInOrder_14 r2 x2 rec a.1 a.2) n a = some z → GP p l e (rmk 1) s m args below meth c 0 0 Q D cs ad 4 14 [(0, .ref (ad 99)), (2, .int x2), (3, .int a.2)] [] a.1 := by
    intro x2 r2 hr2
    refine iter_ind (fun r14 hr14 a h => ?_)
    obtain ⟨M, x3⟩ := a
    have h : f_X4_putInOrder_14 r2 x2 r14 M x3 = some z := h
    intro H locs hG ls hl
    have hG : GH D cs ad s M H locs := hG
    have hl : lv_has ls 4 [(0, .ref (ad 99)), (2, .int x2), (3, .int x3)] := hl
    unfold f_X4_putInOrder_14 at h
    refine lv_iload_n hx hb dX4_putInOrder_14 rfl (lv_at hl 2 rfl) ?_
    refine lv_aload_n hx hb dX4_putInOrder_15 rfl (lv_at hl 0 rfl) ?_
    refine gf_X4_length C hG gk_99 wf_X4_18 dX4_putInOrder_16 ?_
    refine lv_icmp_ge (tgt := 52) hx hb dX4_putInOrder_19 (by decide) (fun c_19 => ?_) (fun c_19 => ?_)
    · have h := if_t c_19 h
      obtain ⟨x2_52, e2_52⟩ : ∃ y : Int32, y = x2 + (1 : Int32) := ⟨_, rfl⟩
      have h := nm_at e2_52 h
      refine lv_iinc (v := x2_52) (lv' := [(2, .int x2_52), (0, .ref (ad 99)), (3, .int x3)]) hx hb dX4_putInOrder_52 hl (k := 1) rfl (by rw [e2_52]; rfl) (by decide) rfl (fun ls hl => ?_)
      refine lv_goto (tgt := 2) hx hb dX4_putInOrder_55 (by decide) ?_
      exact hr2 (M, x2_52) h H locs hG ls (lv_sub hl [1, 0] rfl)
    · have h := if_f c_19 h
      refine lv_aload_n hx hb dX4_putInOrder_22 rfl (lv_at hl 0 rfl) ?_
      refine gf_X4_tried (j := 100) C hG gk_99 rfl wf_X4_9 dX4_putInOrder_23 ?_
      refine lv_iload_n hx hb dX4_putInOrder_26 rfl (lv_at hl 2 rfl) ?_
      obtain ⟨hi_27, h⟩ := ix_e h
      refine g_al C hG gk_100 gl_100 hi_27 rfl dX4_putInOrder_27 ?_
      refine lv_aload_n hx hb dX4_putInOrder_28 rfl (lv_at hl 0 rfl) ?_
      refine gf_X4_tried (j := 100) C hG gk_99 rfl wf_X4_9 dX4_putInOrder_29 ?_
      refine lv_iload_n hx hb dX4_putInOrder_32 rfl (lv_at hl 1 rfl) ?_
      obtain ⟨hi_33, h⟩ := ix_e h
      refine g_al C hG gk_100 gl_100 hi_33 rfl dX4_putInOrder_33 ?_
      refine lv_icmp_ge (tgt := 46) hx hb dX4_putInOrder_34 (by decide) (fun c_34 => ?_) (fun c_34 => ?_)
      · have h := if_t c_34 h
        obtain ⟨x3_46, e3_46⟩ : ∃ y : Int32, y = x3 + (1 : Int32) := ⟨_, rfl⟩
        have h := nm_at e3_46 h
        refine lv_iinc (v := x3_46) (lv' := [(3, .int x3_46), (0, .ref (ad 99)), (2, .int x2)]) hx hb dX4_putInOrder_46 hl (k := 2) rfl (by rw [e3_46]; rfl) (by decide) rfl (fun ls hl => ?_)
        refine lv_goto (tgt := 14) hx hb dX4_putInOrder_49 (by decide) ?_
        exact hr14 (M, x3_46) h H locs hG ls (lv_sub hl [1, 2, 0] rfl)
      · have h := if_f c_34 h
        refine lv_aload_n hx hb dX4_putInOrder_37 rfl (lv_at hl 0 rfl) ?_
        refine gf_X4_tried (j := 100) C hG gk_99 rfl wf_X4_9 dX4_putInOrder_38 ?_
        refine lv_iload_n hx hb dX4_putInOrder_41 rfl (lv_at hl 1 rfl) ?_
        refine lv_iload_n hx hb dX4_putInOrder_42 rfl (lv_at hl 2 rfl) ?_
        obtain ⟨q43, e_43, h⟩ := bd_e h
        refine g_cv hG (g_runSN C hG (c_X8_exchange l D cs ad M gk_100 gl_100 x2 x3 e_43) wn_X4_35 wt_X8_exchange wz_X8 wc_X8_exchange e_X8_exchange (by decide) hl.1 (Nat.le_of_ble_eq_true rfl) dX4_putInOrder_43) (fun H locs hG => ?_)
        obtain ⟨x3_46, e3_46⟩ : ∃ y : Int32, y = x3 + (1 : Int32) := ⟨_, rfl⟩
        have h := nm_at e3_46 h
        refine lv_iinc (v := x3_46) (lv' := [(3, .int x3_46), (0, .ref (ad 99)), (2, .int x2)]) hx hb dX4_putInOrder_46 hl (k := 2) rfl (by rw [e3_46]; rfl) (by decide) rfl (fun ls hl => ?_)
        refine lv_goto (tgt := 14) hx hb dX4_putInOrder_49 (by decide) ?_
        exact hr14 (q43, x3_46) h H locs hG ls (lv_sub hl [1, 2, 0] rfl)
  have J_2 : ∀ (n : Nat) (a : Mem × Int32), iter (fun rec a => f_X4_putInOrder_2 rec a.1 a.2) n a = some z → GP p l e (rmk 1) s m args below meth c 0 0 Q D cs ad 4 2 [(0, .ref (ad 99)), (2, .int a.2)] [] a.1 := by
    refine iter_ind (fun r2 hr2 a h => ?_)
    obtain ⟨M, x2⟩ := a
    have h : f_X4_putInOrder_2 r2 M x2 = some z := h
    intro H locs hG ls hl
    have hG : GH D cs ad s M H locs := hG
    have hl : lv_has ls 4 [(0, .ref (ad 99)), (2, .int x2)] := hl
    unfold f_X4_putInOrder_2 at h
    refine lv_iload_n hx hb dX4_putInOrder_2 rfl (lv_at hl 1 rfl) ?_
    refine lv_aload_n hx hb dX4_putInOrder_3 rfl (lv_at hl 0 rfl) ?_
    refine gf_X4_length C hG gk_99 wf_X4_18 dX4_putInOrder_4 ?_
    refine lv_icmp_ge (tgt := 58) hx hb dX4_putInOrder_7 (by decide) (fun c_7 => ?_) (fun c_7 => ?_)
    · have h := if_t c_7 h
      exact hr (Option.some.inj h) hG dX4_putInOrder_58
    · have h := if_f c_7 h
      refine lv_iload_n hx hb dX4_putInOrder_10 rfl (lv_at hl 1 rfl) ?_
      refine lv_iconst (v := 1) hx hb dX4_putInOrder_11 (by decide) ?_
      refine lv_iadd hx hb dX4_putInOrder_12 ?_
      refine lv_topi (fun x3_13 e3_13 => ?_)
      have h := nm_at e3_13 h
      refine lv_istore_n (lv' := [(3, .int x3_13), (0, .ref (ad 99)), (2, .int x2)]) hx hb dX4_putInOrder_13 rfl hl (by decide) rfl (fun ls hl => ?_)
      exact J_14 x2 r2 hr2 _ (M, x3_13) h H locs hG ls (lv_sub hl [1, 2, 0] rfl)
  intro H locs hG ls hl
  have hl : lv_has ls 4 [(0, .ref (ad 99)), (1, .int x1)] := hl
  unfold f_X4_putInOrder at h
  refine lv_iload_n hx hb dX4_putInOrder_0 rfl (lv_at hl 1 rfl) ?_
  refine lv_istore_n (lv' := [(2, .int x1), (0, .ref (ad 99)), (1, .int x1)]) hx hb dX4_putInOrder_1 rfl hl (by decide) rfl (fun ls hl => ?_)
  exact J_2 _ (M, x1) h H locs hG ls (lv_sub hl [1, 0] rfl)
def f_X4_begin (M : Mem) (i1 : Nat) (x2 : Int32) (x3 : Int32) : Option Mem :=
  nm (st M 99 2 x3) fun M2 =>
  nm (st M2 99 3 (-1 : Int32)) fun M7 =>
  chk (cpo x2 x3 5) <|
  chk (cpo (0 : Int32) x3 5) <|
  nm (stA M7 100 (va_cpy (M7 i1) (M7 100) x2.toNatClampNeg (0) (x3.toNatClampNeg))) fun M18 =>
  (f_X4_putInOrder M18 (0 : Int32)).bind fun q23 =>
  some q23
theorem e_X4_begin : yX4_begin.cls = RX4 ∧ yX4_begin.cls ≠ "java/lang/invoke/MethodHandle" ∧ yX4_begin.cls ≠ "java/lang/invoke/VarHandle" ∧ (parseMethodDescriptor yX4_begin.desc).map (fun d => d.parameters.length) = some 3 := by decide +kernel
set_option maxHeartbeats 4000000 in
set_option maxRecDepth 100000 in
theorem c_X4_begin (l : Launch) (D : va_G) (cs : Nat → ClassId) (ad : Nat → Nat) (M : Mem) {i1 : Nat} (k_i1 : gK i1 = 10) (l_i1 : gL i1 = 5) (x2 : Int32) (x3 : Int32) {z : Mem} (h : f_X4_begin M i1 x2 x3 = some z) : CtV l yX4_begin cX4_begin 4 2 D cs ad [.ref (ad 99), .ref (ad i1), .int x2, .int x3] M z := by
  refine ct_v (own := RX4) (by decide) rfl (Nat.le_of_ble_eq_true rfl) ?_
  intro p e s m args below meth c Q C hr
  have hx := C.1
  have hb := C.2.1
  have hown := C.2.2.2.1
  have hts := C.2.2.2.2.1
  intro H locs hG ls hl
  have hl : lv_has ls 4 [(0, .ref (ad 99)), (1, .ref (ad i1)), (2, .int x2), (3, .int x3)] := hl
  unfold f_X4_begin at h
  refine lv_aload_n hx hb dX4_begin_0 rfl (lv_at hl 0 rfl) ?_
  refine lv_iload_n hx hb dX4_begin_1 rfl (lv_at hl 3 rfl) ?_
  refine gp_X4_length C hG gk_99 wf_X4_18 dX4_begin_2 (fun M2 e_2 H locs hG => ?_)
  have h := nm_at e_2 h
  refine lv_aload_n hx hb dX4_begin_5 rfl (lv_at hl 0 rfl) ?_
  refine lv_iconst (v := -1) hx hb dX4_begin_6 (by decide) ?_
  refine gp_X4_most C hG gk_99 wf_X4_22 dX4_begin_7 (fun M7 e_7 H locs hG => ?_)
  have h := nm_at e_7 h
  refine lv_aload_n hx hb dX4_begin_10 rfl (lv_at hl 1 rfl) ?_
  refine lv_iload_n hx hb dX4_begin_11 rfl (lv_at hl 2 rfl) ?_
  refine lv_aload_n hx hb dX4_begin_12 rfl (lv_at hl 0 rfl) ?_
  refine gf_X4_tried (j := 100) C hG gk_99 rfl wf_X4_9 dX4_begin_13 ?_
  refine lv_iconst (v := 0) hx hb dX4_begin_16 (by decide) ?_
  refine lv_iload_n hx hb dX4_begin_17 rfl (lv_at hl 3 rfl) ?_
  obtain ⟨hcs_18, h⟩ := cp_e h
  obtain ⟨hcd_18, h⟩ := cp_e h
  refine g_copy C hG hl.1 k_i1 l_i1 gk_100 gl_100 hcs_18 hcd_18 wm_X4_25 (by decide) (Nat.le_of_ble_eq_true rfl) dX4_begin_18 (fun M18 e_18 H locs hG => ?_)
  have h := nm_at e_18 h
  refine lv_aload_n hx hb dX4_begin_21 rfl (lv_at hl 0 rfl) ?_
  refine lv_iconst (v := 0) hx hb dX4_begin_22 (by decide) ?_
  obtain ⟨q23, e_23, h⟩ := bd_e h
  refine g_cv hG (g_runV C hG (gR_4 gk_99) (c_X4_putInOrder l D cs ad M18 (0 : Int32) e_23) wm_X4_31 wi_X4_putInOrder ws_X4_putInOrder wz_X4 wc_X4_putInOrder e_X4_putInOrder (by decide) hl.1 (Nat.le_of_ble_eq_true rfl) dX4_begin_23) (fun H locs hG => ?_)
  exact hr (Option.some.inj h) hG dX4_begin_26
def f_X4_layInto (M : Mem) (i1 : Nat) (x2 : Int32) : Option Mem :=
  chk (cpo (0 : Int32) (M 99 2) 5) <|
  chk (cpo x2 (M 99 2) 5) <|
  nm (stA M i1 (va_cpy (M 100) (M i1) 0 (x2.toNatClampNeg) ((M 99 2).toNatClampNeg))) fun M11 =>
  some M11
theorem e_X4_layInto : yX4_layInto.cls = RX4 ∧ yX4_layInto.cls ≠ "java/lang/invoke/MethodHandle" ∧ yX4_layInto.cls ≠ "java/lang/invoke/VarHandle" ∧ (parseMethodDescriptor yX4_layInto.desc).map (fun d => d.parameters.length) = some 2 := by decide +kernel
set_option maxHeartbeats 4000000 in
set_option maxRecDepth 100000 in
theorem c_X4_layInto (l : Launch) (D : va_G) (cs : Nat → ClassId) (ad : Nat → Nat) (M : Mem) {i1 : Nat} (k_i1 : gK i1 = 10) (l_i1 : gL i1 = 5) (x2 : Int32) {z : Mem} (h : f_X4_layInto M i1 x2 = some z) : CtV l yX4_layInto cX4_layInto 3 1 D cs ad [.ref (ad 99), .ref (ad i1), .int x2] M z := by
  refine ct_v (own := RX4) (by decide) rfl (Nat.le_of_ble_eq_true rfl) ?_
  intro p e s m args below meth c Q C hr
  have hx := C.1
  have hb := C.2.1
  have hown := C.2.2.2.1
  have hts := C.2.2.2.2.1
  intro H locs hG ls hl
  have hl : lv_has ls 3 [(0, .ref (ad 99)), (1, .ref (ad i1)), (2, .int x2)] := hl
  unfold f_X4_layInto at h
  refine lv_aload_n hx hb dX4_layInto_0 rfl (lv_at hl 0 rfl) ?_
  refine gf_X4_tried (j := 100) C hG gk_99 rfl wf_X4_9 dX4_layInto_1 ?_
  refine lv_iconst (v := 0) hx hb dX4_layInto_4 (by decide) ?_
  refine lv_aload_n hx hb dX4_layInto_5 rfl (lv_at hl 1 rfl) ?_
  refine lv_iload_n hx hb dX4_layInto_6 rfl (lv_at hl 2 rfl) ?_
  refine lv_aload_n hx hb dX4_layInto_7 rfl (lv_at hl 0 rfl) ?_
  refine gf_X4_length C hG gk_99 wf_X4_18 dX4_layInto_8 ?_
  obtain ⟨hcs_11, h⟩ := cp_e h
  obtain ⟨hcd_11, h⟩ := cp_e h
  refine g_copy C hG hl.1 gk_100 gl_100 k_i1 l_i1 hcs_11 hcd_11 wm_X4_25 (by decide) (Nat.le_of_ble_eq_true rfl) dX4_layInto_11 (fun M11 e_11 H locs hG => ?_)
  have h := nm_at e_11 h
  exact hr (Option.some.inj h) hG dX4_layInto_14
def f_X4_weigh (M : Mem) (x1 : Int32) : Option Mem :=
  if x1 ≤ (M 99 3) then (
    some M
  ) else (
    nm (st M 99 3 x1) fun M10 =>
    chk (cpo (0 : Int32) (M10 99 2) 5) <|
    chk (cpo (0 : Int32) (M10 99 2) 5) <|
    nm (stA M10 101 (va_cpy (M10 100) (M10 101) 0 (0) ((M10 99 2).toNatClampNeg))) fun M27 =>
    some M27
  )
theorem e_X4_weigh : yX4_weigh.cls = RX4 ∧ yX4_weigh.cls ≠ "java/lang/invoke/MethodHandle" ∧ yX4_weigh.cls ≠ "java/lang/invoke/VarHandle" ∧ (parseMethodDescriptor yX4_weigh.desc).map (fun d => d.parameters.length) = some 1 := by decide +kernel
set_option maxHeartbeats 4000000 in
set_option maxRecDepth 100000 in
theorem c_X4_weigh (l : Launch) (D : va_G) (cs : Nat → ClassId) (ad : Nat → Nat) (M : Mem) (x1 : Int32) {z : Mem} (h : f_X4_weigh M x1 = some z) : CtV l yX4_weigh cX4_weigh 2 1 D cs ad [.ref (ad 99), .int x1] M z := by
  refine ct_v (own := RX4) (by decide) rfl (Nat.le_of_ble_eq_true rfl) ?_
  intro p e s m args below meth c Q C hr
  have hx := C.1
  have hb := C.2.1
  have hown := C.2.2.2.1
  have hts := C.2.2.2.2.1
  intro H locs hG ls hl
  have hl : lv_has ls 2 [(0, .ref (ad 99)), (1, .int x1)] := hl
  unfold f_X4_weigh at h
  refine lv_iload_n hx hb dX4_weigh_0 rfl (lv_at hl 1 rfl) ?_
  refine lv_aload_n hx hb dX4_weigh_1 rfl (lv_at hl 0 rfl) ?_
  refine gf_X4_most C hG gk_99 wf_X4_22 dX4_weigh_2 ?_
  refine lv_icmp_le (tgt := 30) hx hb dX4_weigh_5 (by decide) (fun c_5 => ?_) (fun c_5 => ?_)
  · have h := if_t c_5 h
    exact hr (Option.some.inj h) hG dX4_weigh_30
  · have h := if_f c_5 h
    refine lv_aload_n hx hb dX4_weigh_8 rfl (lv_at hl 0 rfl) ?_
    refine lv_iload_n hx hb dX4_weigh_9 rfl (lv_at hl 1 rfl) ?_
    refine gp_X4_most C hG gk_99 wf_X4_22 dX4_weigh_10 (fun M10 e_10 H locs hG => ?_)
    have h := nm_at e_10 h
    refine lv_aload_n hx hb dX4_weigh_13 rfl (lv_at hl 0 rfl) ?_
    refine gf_X4_tried (j := 100) C hG gk_99 rfl wf_X4_9 dX4_weigh_14 ?_
    refine lv_iconst (v := 0) hx hb dX4_weigh_17 (by decide) ?_
    refine lv_aload_n hx hb dX4_weigh_18 rfl (lv_at hl 0 rfl) ?_
    refine gf_X4_best (j := 101) C hG gk_99 rfl wf_X4_15 dX4_weigh_19 ?_
    refine lv_iconst (v := 0) hx hb dX4_weigh_22 (by decide) ?_
    refine lv_aload_n hx hb dX4_weigh_23 rfl (lv_at hl 0 rfl) ?_
    refine gf_X4_length C hG gk_99 wf_X4_18 dX4_weigh_24 ?_
    obtain ⟨hcs_27, h⟩ := cp_e h
    obtain ⟨hcd_27, h⟩ := cp_e h
    refine g_copy C hG hl.1 gk_100 gl_100 gk_101 gl_101 hcs_27 hcd_27 wm_X4_25 (by decide) (Nat.le_of_ble_eq_true rfl) dX4_weigh_27 (fun M27 e_27 H locs hG => ?_)
    have h := nm_at e_27 h
    exact hr (Option.some.inj h) hG dX4_weigh_30
def f_X4_stepOn_75 (M : Mem) (x1 : Int32) (x2 : Int32) : Option (Bool × Mem) :=
  (f_X8_exchange M 100 x1 x2).bind fun q81 =>
  (f_X4_putInOrder q81 (x1 + (1 : Int32))).bind fun q88 =>
  some (true, q88)
def f_X4_stepOn_47 (M : Mem) (x1 : Int32) (r47 : Int32 → Option (Bool × Mem)) (x2 : Int32) : Option (Bool × Mem) :=
  if x2 ≤ (x1 + (1 : Int32)) then (
    f_X4_stepOn_75 M x1 x2
  ) else (
    chk (ixb x2 5) <|
    chk (ixb x1 5) <|
    if (M 100 x1.toNatClampNeg) ≤ (M 100 x2.toNatClampNeg) then (
      f_X4_stepOn_75 M x1 x2
    ) else (
      nm (x2 + (-1 : Int32)) fun x2_69 =>
      r47 x2_69
    )
  )
def f_X4_stepOn_34 (M : Mem) (x1 : Int32) : Option (Bool × Mem) :=
  if (0 : Int32) ≤ x1 then (
    nm (((M 99 2) - (1 : Int32))) fun x2_46 =>
    iter (fun rec a => f_X4_stepOn_47 M x1 rec a) fuel x2_46
  ) else (
    some (false, M)
  )
def f_X4_stepOn_7 (M : Mem) (r7 : Int32 → Option (Bool × Mem)) (x1 : Int32) : Option (Bool × Mem) :=
  if x1 < (0 : Int32) then (
    f_X4_stepOn_34 M x1
  ) else (
    chk (ixb x1 5) <|
    chk (ixb (x1 + (1 : Int32)) 5) <|
    if (M 100 x1.toNatClampNeg) ≤ (M 100 (x1 + (1 : Int32)).toNatClampNeg) then (
      f_X4_stepOn_34 M x1
    ) else (
      nm (x1 + (-1 : Int32)) fun x1_28 =>
      r7 x1_28
    )
  )
def f_X4_stepOn (M : Mem) : Option (Bool × Mem) :=
  nm (((M 99 2) - (2 : Int32))) fun x1_6 =>
  iter (fun rec a => f_X4_stepOn_7 M rec a) fuel x1_6
theorem e_X4_stepOn : yX4_stepOn.cls = RX4 ∧ yX4_stepOn.cls ≠ "java/lang/invoke/MethodHandle" ∧ yX4_stepOn.cls ≠ "java/lang/invoke/VarHandle" ∧ (parseMethodDescriptor yX4_stepOn.desc).map (fun d => d.parameters.length) = some 0 := by decide +kernel
set_option maxHeartbeats 4000000 in
set_option maxRecDepth 100000 in
theorem c_X4_stepOn (l : Launch) (D : va_G) (cs : Nat → ClassId) (ad : Nat → Nat) (M : Mem) {z : Bool × Mem} (h : f_X4_stepOn M = some z) : CtI l yX4_stepOn cX4_stepOn 3 .boolean 2 D cs ad [.ref (ad 99)] M (bi z.1) z.2 := by
  refine ct_z (own := RX4) (by decide) rfl (Nat.le_of_ble_eq_true rfl) ?_
  intro p e s m args below meth c Q C hr
  have hx := C.1
  have hb := C.2.1
  have hown := C.2.2.2.1
  have hts := C.2.2.2.2.1
  have J_75 : ∀ (M : Mem) (x1 : Int32) (x2 : Int32), f_X4_stepOn_75 M x1 x2 = some z → GP p l e (rmk 2) s m args below meth c 0 0 Q D cs ad 3 75 [(0, .ref (ad 99)), (1, .int x1), (2, .int x2)] [] M := by
    intro M x1 x2 h H locs hG ls hl
    unfold f_X4_stepOn_75 at h
    refine lv_aload_n hx hb dX4_stepOn_75 rfl (lv_at hl 0 rfl) ?_
    refine gf_X4_tried (j := 100) C hG gk_99 rfl wf_X4_9 dX4_stepOn_76 ?_
    refine lv_iload_n hx hb dX4_stepOn_79 rfl (lv_at hl 1 rfl) ?_
    refine lv_iload_n hx hb dX4_stepOn_80 rfl (lv_at hl 2 rfl) ?_
    obtain ⟨q81, e_81, h⟩ := bd_e h
    refine g_cv hG (g_runSN C hG (c_X8_exchange l D cs ad M gk_100 gl_100 x1 x2 e_81) wn_X4_35 wt_X8_exchange wz_X8 wc_X8_exchange e_X8_exchange (by decide) hl.1 (Nat.le_of_ble_eq_true rfl) dX4_stepOn_81) (fun H locs hG => ?_)
    refine lv_aload_n hx hb dX4_stepOn_84 rfl (lv_at hl 0 rfl) ?_
    refine lv_iload_n hx hb dX4_stepOn_85 rfl (lv_at hl 1 rfl) ?_
    refine lv_iconst (v := 1) hx hb dX4_stepOn_86 (by decide) ?_
    refine lv_iadd hx hb dX4_stepOn_87 ?_
    obtain ⟨q88, e_88, h⟩ := bd_e h
    refine g_cv hG (g_runV C hG (gR_4 gk_99) (c_X4_putInOrder l D cs ad q81 (x1 + (1 : Int32)) e_88) wm_X4_31 wi_X4_putInOrder ws_X4_putInOrder wz_X4 wc_X4_putInOrder e_X4_putInOrder (by decide) hl.1 (Nat.le_of_ble_eq_true rfl) dX4_stepOn_88) (fun H locs hG => ?_)
    refine lv_iconst (v := 1) hx hb dX4_stepOn_91 (by decide) ?_
    exact hr (congrArg bi (pf1 (Option.some.inj h))) (pf2 (Option.some.inj h)) hG dX4_stepOn_92
  have J_47 : ∀ (M : Mem) (x1 : Int32) (n : Nat) (a : Int32), iter (fun rec a => f_X4_stepOn_47 M x1 rec a) n a = some z → GP p l e (rmk 2) s m args below meth c 0 0 Q D cs ad 3 47 [(0, .ref (ad 99)), (1, .int x1), (2, .int a)] [] M := by
    intro M x1
    refine iter_ind (fun r47 hr47 a h => ?_)
    obtain ⟨x2, rfl⟩ : ∃ y, y = a := ⟨_, rfl⟩
    have h : f_X4_stepOn_47 M x1 r47 x2 = some z := h
    intro H locs hG ls hl
    have hG : GH D cs ad s M H locs := hG
    have hl : lv_has ls 3 [(0, .ref (ad 99)), (1, .int x1), (2, .int x2)] := hl
    unfold f_X4_stepOn_47 at h
    refine lv_iload_n hx hb dX4_stepOn_47 rfl (lv_at hl 2 rfl) ?_
    refine lv_iload_n hx hb dX4_stepOn_48 rfl (lv_at hl 1 rfl) ?_
    refine lv_iconst (v := 1) hx hb dX4_stepOn_49 (by decide) ?_
    refine lv_iadd hx hb dX4_stepOn_50 ?_
    refine lv_icmp_le (tgt := 75) hx hb dX4_stepOn_51 (by decide) (fun c_51 => ?_) (fun c_51 => ?_)
    · have h := if_t c_51 h
      exact J_75 M x1 x2 h H locs hG ls (lv_sub hl [0, 1, 2] rfl)
    · have h := if_f c_51 h
      refine lv_aload_n hx hb dX4_stepOn_54 rfl (lv_at hl 0 rfl) ?_
      refine gf_X4_tried (j := 100) C hG gk_99 rfl wf_X4_9 dX4_stepOn_55 ?_
      refine lv_iload_n hx hb dX4_stepOn_58 rfl (lv_at hl 2 rfl) ?_
      obtain ⟨hi_59, h⟩ := ix_e h
      refine g_al C hG gk_100 gl_100 hi_59 rfl dX4_stepOn_59 ?_
      refine lv_aload_n hx hb dX4_stepOn_60 rfl (lv_at hl 0 rfl) ?_
      refine gf_X4_tried (j := 100) C hG gk_99 rfl wf_X4_9 dX4_stepOn_61 ?_
      refine lv_iload_n hx hb dX4_stepOn_64 rfl (lv_at hl 1 rfl) ?_
      obtain ⟨hi_65, h⟩ := ix_e h
      refine g_al C hG gk_100 gl_100 hi_65 rfl dX4_stepOn_65 ?_
      refine lv_icmp_ge (tgt := 75) hx hb dX4_stepOn_66 (by decide) (fun c_66 => ?_) (fun c_66 => ?_)
      · have h := if_t c_66 h
        exact J_75 M x1 x2 h H locs hG ls (lv_sub hl [0, 1, 2] rfl)
      · have h := if_f c_66 h
        obtain ⟨x2_69, e2_69⟩ : ∃ y : Int32, y = x2 + (-1 : Int32) := ⟨_, rfl⟩
        have h := nm_at e2_69 h
        refine lv_iinc (v := x2_69) (lv' := [(2, .int x2_69), (0, .ref (ad 99)), (1, .int x1)]) hx hb dX4_stepOn_69 hl (k := 2) rfl (by rw [e2_69]; rfl) (by decide) rfl (fun ls hl => ?_)
        refine lv_goto (tgt := 47) hx hb dX4_stepOn_72 (by decide) ?_
        exact hr47 x2_69 h H locs hG ls (lv_sub hl [1, 2, 0] rfl)
  have J_34 : ∀ (M : Mem) (x1 : Int32), f_X4_stepOn_34 M x1 = some z → GP p l e (rmk 2) s m args below meth c 0 0 Q D cs ad 3 34 [(0, .ref (ad 99)), (1, .int x1)] [] M := by
    intro M x1 h H locs hG ls hl
    unfold f_X4_stepOn_34 at h
    refine lv_iload_n hx hb dX4_stepOn_34 rfl (lv_at hl 1 rfl) ?_
    refine lv_if_ge (tgt := 40) hx hb dX4_stepOn_35 (by decide) (fun c_35 => ?_) (fun c_35 => ?_)
    · have h := if_t c_35 h
      refine lv_aload_n hx hb dX4_stepOn_40 rfl (lv_at hl 0 rfl) ?_
      refine gf_X4_length C hG gk_99 wf_X4_18 dX4_stepOn_41 ?_
      refine lv_iconst (v := 1) hx hb dX4_stepOn_44 (by decide) ?_
      refine lv_isub hx hb dX4_stepOn_45 ?_
      refine lv_topi (fun x2_46 e2_46 => ?_)
      have h := nm_at e2_46 h
      refine lv_istore_n (lv' := [(2, .int x2_46), (0, .ref (ad 99)), (1, .int x1)]) hx hb dX4_stepOn_46 rfl hl (by decide) rfl (fun ls hl => ?_)
      exact J_47 M x1 _ x2_46 h H locs hG ls (lv_sub hl [1, 2, 0] rfl)
    · have h := if_f c_35 h
      refine lv_iconst (v := 0) hx hb dX4_stepOn_38 (by decide) ?_
      exact hr (congrArg bi (pf1 (Option.some.inj h))) (pf2 (Option.some.inj h)) hG dX4_stepOn_39
  have J_7 : ∀ (M : Mem) (n : Nat) (a : Int32), iter (fun rec a => f_X4_stepOn_7 M rec a) n a = some z → GP p l e (rmk 2) s m args below meth c 0 0 Q D cs ad 3 7 [(0, .ref (ad 99)), (1, .int a)] [] M := by
    intro M
    refine iter_ind (fun r7 hr7 a h => ?_)
    obtain ⟨x1, rfl⟩ : ∃ y, y = a := ⟨_, rfl⟩
    have h : f_X4_stepOn_7 M r7 x1 = some z := h
    intro H locs hG ls hl
    have hG : GH D cs ad s M H locs := hG
    have hl : lv_has ls 3 [(0, .ref (ad 99)), (1, .int x1)] := hl
    unfold f_X4_stepOn_7 at h
    refine lv_iload_n hx hb dX4_stepOn_7 rfl (lv_at hl 1 rfl) ?_
    refine lv_if_lt (tgt := 34) hx hb dX4_stepOn_8 (by decide) (fun c_8 => ?_) (fun c_8 => ?_)
    · have h := if_t c_8 h
      exact J_34 M x1 h H locs hG ls (lv_sub hl [0, 1] rfl)
    · have h := if_f c_8 h
      refine lv_aload_n hx hb dX4_stepOn_11 rfl (lv_at hl 0 rfl) ?_
      refine gf_X4_tried (j := 100) C hG gk_99 rfl wf_X4_9 dX4_stepOn_12 ?_
      refine lv_iload_n hx hb dX4_stepOn_15 rfl (lv_at hl 1 rfl) ?_
      obtain ⟨hi_16, h⟩ := ix_e h
      refine g_al C hG gk_100 gl_100 hi_16 rfl dX4_stepOn_16 ?_
      refine lv_aload_n hx hb dX4_stepOn_17 rfl (lv_at hl 0 rfl) ?_
      refine gf_X4_tried (j := 100) C hG gk_99 rfl wf_X4_9 dX4_stepOn_18 ?_
      refine lv_iload_n hx hb dX4_stepOn_21 rfl (lv_at hl 1 rfl) ?_
      refine lv_iconst (v := 1) hx hb dX4_stepOn_22 (by decide) ?_
      refine lv_iadd hx hb dX4_stepOn_23 ?_
      obtain ⟨hi_24, h⟩ := ix_e h
      refine g_al C hG gk_100 gl_100 hi_24 rfl dX4_stepOn_24 ?_
      refine lv_icmp_le (tgt := 34) hx hb dX4_stepOn_25 (by decide) (fun c_25 => ?_) (fun c_25 => ?_)
      · have h := if_t c_25 h
        exact J_34 M x1 h H locs hG ls (lv_sub hl [0, 1] rfl)
      · have h := if_f c_25 h
        obtain ⟨x1_28, e1_28⟩ : ∃ y : Int32, y = x1 + (-1 : Int32) := ⟨_, rfl⟩
        have h := nm_at e1_28 h
        refine lv_iinc (v := x1_28) (lv' := [(1, .int x1_28), (0, .ref (ad 99))]) hx hb dX4_stepOn_28 hl (k := 1) rfl (by rw [e1_28]; rfl) (by decide) rfl (fun ls hl => ?_)
        refine lv_goto (tgt := 7) hx hb dX4_stepOn_31 (by decide) ?_
        exact hr7 x1_28 h H locs hG ls (lv_sub hl [1, 0] rfl)
  intro H locs hG ls hl
  have hl : lv_has ls 3 [(0, .ref (ad 99))] := hl
  unfold f_X4_stepOn at h
  refine lv_aload_n hx hb dX4_stepOn_0 rfl (lv_at hl 0 rfl) ?_
  refine gf_X4_length C hG gk_99 wf_X4_18 dX4_stepOn_1 ?_
  refine lv_iconst (v := 2) hx hb dX4_stepOn_4 (by decide) ?_
  refine lv_isub hx hb dX4_stepOn_5 ?_
  refine lv_topi (fun x1_6 e1_6 => ?_)
  have h := nm_at e1_6 h
  refine lv_istore_n (lv' := [(1, .int x1_6), (0, .ref (ad 99))]) hx hb dX4_stepOn_6 rfl hl (by decide) rfl (fun ls hl => ?_)
  exact J_7 M _ x1_6 h H locs hG ls (lv_sub hl [1, 0] rfl)
def f_X2_loversOf_4 (i0 : Nat) (M : Mem) (x1 : Int32) (r4 : (Int32 × Int32) → Option Int32) (x2 : Int32) (x3 : Int32) : Option Int32 :=
  if (M (i0 + 1) 2) ≤ x3 then (
    some x2
  ) else (
    if x3 = x1 then (
      nm (x3 + (1 : Int32)) fun x3_47 =>
      r4 (x2, x3_47)
    ) else (
      if (f_X3_flies M (i0 + 7) x3) = true then (
        chk (ixb x3 6) <|
        if (M (i0 + 6) x3.toNatClampNeg) = x1 then (
          nm (x2 + (1 : Int32)) fun x2_44 =>
          nm (x3 + (1 : Int32)) fun x3_47 =>
          r4 (x2_44, x3_47)
        ) else (
          nm (x3 + (1 : Int32)) fun x3_47 =>
          r4 (x2, x3_47)
        )
      ) else (
        nm (x3 + (1 : Int32)) fun x3_47 =>
        r4 (x2, x3_47)
      )
    )
  )
def f_X2_loversOf (M : Mem) (i0 : Nat) (x1 : Int32) : Option Int32 :=
  iter (fun rec a => f_X2_loversOf_4 i0 M x1 rec a.1 a.2) fuel ((0 : Int32), (0 : Int32))
theorem e_X2_loversOf : yX2_loversOf.cls = RX2 ∧ yX2_loversOf.cls ≠ "java/lang/invoke/MethodHandle" ∧ yX2_loversOf.cls ≠ "java/lang/invoke/VarHandle" ∧ (parseMethodDescriptor yX2_loversOf.desc).map (fun d => d.parameters.length) = some 1 := by decide +kernel
set_option maxHeartbeats 4000000 in
set_option maxRecDepth 100000 in
theorem c_X2_loversOf (l : Launch) (D : va_G) (cs : Nat → ClassId) (ad : Nat → Nat) (M : Mem) {i0 : Nat} (k_i0 : gK i0 = 2) (x1 : Int32) {z : Int32} (h : f_X2_loversOf M i0 x1 = some z) : CtI l yX2_loversOf cX2_loversOf 4 .int 1 D cs ad [.ref (ad i0), .int x1] M z M := by
  refine ct_i (own := RX2) (by decide) rfl (Nat.le_of_ble_eq_true rfl) ?_
  intro p e s m args below meth c Q C hr
  have hx := C.1
  have hb := C.2.1
  have hown := C.2.2.2.1
  have hts := C.2.2.2.2.1
  have J_4 : ∀ (x1 : Int32) (n : Nat) (a : Int32 × Int32), iter (fun rec a => f_X2_loversOf_4 i0 M x1 rec a.1 a.2) n a = some z → GP p l e (rmk 1) s m args below meth c 0 0 Q D cs ad 4 4 [(0, .ref (ad i0)), (1, .int x1), (2, .int a.1), (3, .int a.2)] [] M := by
    intro x1
    refine iter_ind (fun r4 hr4 a h => ?_)
    obtain ⟨x2, x3⟩ := a
    have h : f_X2_loversOf_4 i0 M x1 r4 x2 x3 = some z := h
    intro H locs hG ls hl
    have hG : GH D cs ad s M H locs := hG
    have hl : lv_has ls 4 [(0, .ref (ad i0)), (1, .int x1), (2, .int x2), (3, .int x3)] := hl
    unfold f_X2_loversOf_4 at h
    refine lv_iload_n hx hb dX2_loversOf_4 rfl (lv_at hl 3 rfl) ?_
    refine lv_aload_n hx hb dX2_loversOf_5 rfl (lv_at hl 0 rfl) ?_
    refine gf_X2_told (j := (i0 + 1)) C hG k_i0 rfl wf_X2_12 dX2_loversOf_6 ?_
    refine gf_X7_birds C hG (gk_X2_told k_i0) wf_X2_36 dX2_loversOf_9 ?_
    refine lv_icmp_ge (tgt := 53) hx hb dX2_loversOf_12 (by decide) (fun c_12 => ?_) (fun c_12 => ?_)
    · have h := if_t c_12 h
      refine lv_iload_n hx hb dX2_loversOf_53 rfl (lv_at hl 2 rfl) ?_
      exact hr (Option.some.inj h) rfl hG dX2_loversOf_54
    · have h := if_f c_12 h
      refine lv_iload_n hx hb dX2_loversOf_15 rfl (lv_at hl 3 rfl) ?_
      refine lv_iload_n hx hb dX2_loversOf_16 rfl (lv_at hl 1 rfl) ?_
      refine lv_icmp_eq (tgt := 47) hx hb dX2_loversOf_17 (by decide) (fun c_17 => ?_) (fun c_17 => ?_)
      · have h := if_t c_17 h
        obtain ⟨x3_47, e3_47⟩ : ∃ y : Int32, y = x3 + (1 : Int32) := ⟨_, rfl⟩
        have h := nm_at e3_47 h
        refine lv_iinc (v := x3_47) (lv' := [(3, .int x3_47), (0, .ref (ad i0)), (1, .int x1), (2, .int x2)]) hx hb dX2_loversOf_47 hl (k := 3) rfl (by rw [e3_47]; rfl) (by decide) rfl (fun ls hl => ?_)
        refine lv_goto (tgt := 4) hx hb dX2_loversOf_50 (by decide) ?_
        exact hr4 (x2, x3_47) h H locs hG ls (lv_sub hl [1, 2, 3, 0] rfl)
      · have h := if_f c_17 h
        refine lv_aload_n hx hb dX2_loversOf_20 rfl (lv_at hl 0 rfl) ?_
        refine gf_X2_moment (j := (i0 + 7)) C hG k_i0 rfl wf_X2_21 dX2_loversOf_21 ?_
        refine lv_iload_n hx hb dX2_loversOf_24 rfl (lv_at hl 3 rfl) ?_
        refine g_ci hG (g_runV C hG (gR_3 (gk_X2_moment k_i0)) (c_X3_flies l D cs ad M (gk_X2_moment k_i0) x3 rfl) wm_X2_91 wi_X3_flies ws_X3_flies wz_X3 wc_X3_flies e_X3_flies (by decide) hl.1 (Nat.le_of_ble_eq_true rfl) dX2_loversOf_25) (fun H locs hG => ?_)
        refine lv_if_eq (tgt := 47) hx hb dX2_loversOf_28 (by decide) (fun c_28 => ?_) (fun c_28 => ?_)
        · have h := if_f (bi_f c_28) h
          obtain ⟨x3_47, e3_47⟩ : ∃ y : Int32, y = x3 + (1 : Int32) := ⟨_, rfl⟩
          have h := nm_at e3_47 h
          refine lv_iinc (v := x3_47) (lv' := [(3, .int x3_47), (0, .ref (ad i0)), (1, .int x1), (2, .int x2)]) hx hb dX2_loversOf_47 hl (k := 3) rfl (by rw [e3_47]; rfl) (by decide) rfl (fun ls hl => ?_)
          refine lv_goto (tgt := 4) hx hb dX2_loversOf_50 (by decide) ?_
          exact hr4 (x2, x3_47) h H locs hG ls (lv_sub hl [1, 2, 3, 0] rfl)
        · have h := if_t (bi_t c_28) h
          refine lv_aload_n hx hb dX2_loversOf_31 rfl (lv_at hl 0 rfl) ?_
          refine gf_X2_told (j := (i0 + 1)) C hG k_i0 rfl wf_X2_12 dX2_loversOf_32 ?_
          refine gf_X7_loves (j := (i0 + 6)) C hG (gk_X2_told k_i0) rfl wf_X2_67 dX2_loversOf_35 ?_
          refine lv_iload_n hx hb dX2_loversOf_38 rfl (lv_at hl 3 rfl) ?_
          obtain ⟨hi_39, h⟩ := ix_e h
          refine g_al C hG (gk_X7_loves (gk_X2_told k_i0)) (gl_X7_loves (gk_X2_told k_i0)) hi_39 rfl dX2_loversOf_39 ?_
          refine lv_iload_n hx hb dX2_loversOf_40 rfl (lv_at hl 1 rfl) ?_
          refine lv_icmp_ne (tgt := 47) hx hb dX2_loversOf_41 (by decide) (fun c_41 => ?_) (fun c_41 => ?_)
          · have h := if_f c_41 h
            obtain ⟨x3_47, e3_47⟩ : ∃ y : Int32, y = x3 + (1 : Int32) := ⟨_, rfl⟩
            have h := nm_at e3_47 h
            refine lv_iinc (v := x3_47) (lv' := [(3, .int x3_47), (0, .ref (ad i0)), (1, .int x1), (2, .int x2)]) hx hb dX2_loversOf_47 hl (k := 3) rfl (by rw [e3_47]; rfl) (by decide) rfl (fun ls hl => ?_)
            refine lv_goto (tgt := 4) hx hb dX2_loversOf_50 (by decide) ?_
            exact hr4 (x2, x3_47) h H locs hG ls (lv_sub hl [1, 2, 3, 0] rfl)
          · have h := if_t c_41 h
            obtain ⟨x2_44, e2_44⟩ : ∃ y : Int32, y = x2 + (1 : Int32) := ⟨_, rfl⟩
            have h := nm_at e2_44 h
            refine lv_iinc (v := x2_44) (lv' := [(2, .int x2_44), (0, .ref (ad i0)), (1, .int x1), (3, .int x3)]) hx hb dX2_loversOf_44 hl (k := 2) rfl (by rw [e2_44]; rfl) (by decide) rfl (fun ls hl => ?_)
            obtain ⟨x3_47, e3_47⟩ : ∃ y : Int32, y = x3 + (1 : Int32) := ⟨_, rfl⟩
            have h := nm_at e3_47 h
            refine lv_iinc (v := x3_47) (lv' := [(3, .int x3_47), (2, .int x2_44), (0, .ref (ad i0)), (1, .int x1)]) hx hb dX2_loversOf_47 hl (k := 3) rfl (by rw [e3_47]; rfl) (by decide) rfl (fun ls hl => ?_)
            refine lv_goto (tgt := 4) hx hb dX2_loversOf_50 (by decide) ?_
            exact hr4 (x2_44, x3_47) h H locs hG ls (lv_sub hl [2, 3, 1, 0] rfl)
  intro H locs hG ls hl
  have hl : lv_has ls 4 [(0, .ref (ad i0)), (1, .int x1)] := hl
  unfold f_X2_loversOf at h
  refine lv_iconst (v := 0) hx hb dX2_loversOf_0 (by decide) ?_
  refine lv_istore_n (lv' := [(2, .int 0), (0, .ref (ad i0)), (1, .int x1)]) hx hb dX2_loversOf_1 rfl hl (by decide) rfl (fun ls hl => ?_)
  refine lv_iconst (v := 0) hx hb dX2_loversOf_2 (by decide) ?_
  refine lv_istore_n (lv' := [(3, .int 0), (2, .int 0), (0, .ref (ad i0)), (1, .int x1)]) hx hb dX2_loversOf_3 rfl hl (by decide) rfl (fun ls hl => ?_)
  exact J_4 x1 _ ((0 : Int32), (0 : Int32)) h H locs hG ls (lv_sub hl [2, 3, 1, 0] rfl)
def f_X2_weaken_2 (i0 : Nat) (x1 : Int32) (r2 : (Mem × Int32) → Option Mem) (M : Mem) (x2 : Int32) : Option Mem :=
  if (M (i0 + 1) 2) ≤ x2 then (
    some M
  ) else (
    if (f_X8_bitOf x1 x2) = (1 : Int32) then (
      chk (ixb x2 6) <|
      nm (st M (i0 + 8) x2.toNatClampNeg (if (0 : Int32) < ((M (i0 + 8) x2.toNatClampNeg) - (5 : Int32)) then ((M (i0 + 8) x2.toNatClampNeg) - (5 : Int32)) else (0 : Int32))) fun M45 =>
      nm (x2 + (1 : Int32)) fun x2_46 =>
      r2 (M45, x2_46)
    ) else (
      nm (x2 + (1 : Int32)) fun x2_46 =>
      r2 (M, x2_46)
    )
  )
def f_X2_weaken (M : Mem) (i0 : Nat) (x1 : Int32) : Option Mem :=
  iter (fun rec a => f_X2_weaken_2 i0 x1 rec a.1 a.2) fuel (M, (0 : Int32))
theorem e_X2_weaken : yX2_weaken.cls = RX2 ∧ yX2_weaken.cls ≠ "java/lang/invoke/MethodHandle" ∧ yX2_weaken.cls ≠ "java/lang/invoke/VarHandle" ∧ (parseMethodDescriptor yX2_weaken.desc).map (fun d => d.parameters.length) = some 1 := by decide +kernel
set_option maxHeartbeats 4000000 in
set_option maxRecDepth 100000 in
theorem c_X2_weaken (l : Launch) (D : va_G) (cs : Nat → ClassId) (ad : Nat → Nat) (M : Mem) {i0 : Nat} (k_i0 : gK i0 = 2) (x1 : Int32) {z : Mem} (h : f_X2_weaken M i0 x1 = some z) : CtV l yX2_weaken cX2_weaken 3 1 D cs ad [.ref (ad i0), .int x1] M z := by
  refine ct_v (own := RX2) (by decide) rfl (Nat.le_of_ble_eq_true rfl) ?_
  intro p e s m args below meth c Q C hr
  have hx := C.1
  have hb := C.2.1
  have hown := C.2.2.2.1
  have hts := C.2.2.2.2.1
  have J_2 : ∀ (x1 : Int32) (n : Nat) (a : Mem × Int32), iter (fun rec a => f_X2_weaken_2 i0 x1 rec a.1 a.2) n a = some z → GP p l e (rmk 1) s m args below meth c 0 0 Q D cs ad 3 2 [(0, .ref (ad i0)), (1, .int x1), (2, .int a.2)] [] a.1 := by
    intro x1
    refine iter_ind (fun r2 hr2 a h => ?_)
    obtain ⟨M, x2⟩ := a
    have h : f_X2_weaken_2 i0 x1 r2 M x2 = some z := h
    intro H locs hG ls hl
    have hG : GH D cs ad s M H locs := hG
    have hl : lv_has ls 3 [(0, .ref (ad i0)), (1, .int x1), (2, .int x2)] := hl
    unfold f_X2_weaken_2 at h
    refine lv_iload_n hx hb dX2_weaken_2 rfl (lv_at hl 2 rfl) ?_
    refine lv_aload_n hx hb dX2_weaken_3 rfl (lv_at hl 0 rfl) ?_
    refine gf_X2_told (j := (i0 + 1)) C hG k_i0 rfl wf_X2_12 dX2_weaken_4 ?_
    refine gf_X7_birds C hG (gk_X2_told k_i0) wf_X2_36 dX2_weaken_7 ?_
    refine lv_icmp_ge (tgt := 52) hx hb dX2_weaken_10 (by decide) (fun c_10 => ?_) (fun c_10 => ?_)
    · have h := if_t c_10 h
      exact hr (Option.some.inj h) hG dX2_weaken_52
    · have h := if_f c_10 h
      refine lv_iload_n hx hb dX2_weaken_13 rfl (lv_at hl 1 rfl) ?_
      refine lv_iload_n hx hb dX2_weaken_14 rfl (lv_at hl 2 rfl) ?_
      refine g_ci hG (g_runSN C hG (c_X8_bitOf l D cs ad M x1 x2 rfl) wn_X2_83 wt_X8_bitOf wz_X8 wc_X8_bitOf e_X8_bitOf (by decide) hl.1 (Nat.le_of_ble_eq_true rfl) dX2_weaken_15) (fun H locs hG => ?_)
      refine lv_iconst (v := 1) hx hb dX2_weaken_18 (by decide) ?_
      refine lv_icmp_ne (tgt := 46) hx hb dX2_weaken_19 (by decide) (fun c_19 => ?_) (fun c_19 => ?_)
      · have h := if_f c_19 h
        obtain ⟨x2_46, e2_46⟩ : ∃ y : Int32, y = x2 + (1 : Int32) := ⟨_, rfl⟩
        have h := nm_at e2_46 h
        refine lv_iinc (v := x2_46) (lv' := [(2, .int x2_46), (0, .ref (ad i0)), (1, .int x1)]) hx hb dX2_weaken_46 hl (k := 2) rfl (by rw [e2_46]; rfl) (by decide) rfl (fun ls hl => ?_)
        refine lv_goto (tgt := 2) hx hb dX2_weaken_49 (by decide) ?_
        exact hr2 (M, x2_46) h H locs hG ls (lv_sub hl [1, 2, 0] rfl)
      · have h := if_t c_19 h
        refine lv_aload_n hx hb dX2_weaken_22 rfl (lv_at hl 0 rfl) ?_
        refine gf_X2_moment (j := (i0 + 7)) C hG k_i0 rfl wf_X2_21 dX2_weaken_23 ?_
        refine gf_X3_strong (j := (i0 + 8)) C hG (gk_X2_moment k_i0) rfl wf_X2_70 dX2_weaken_26 ?_
        refine lv_iload_n hx hb dX2_weaken_29 rfl (lv_at hl 2 rfl) ?_
        refine lv_iconst (v := 0) hx hb dX2_weaken_30 (by decide) ?_
        refine lv_aload_n hx hb dX2_weaken_31 rfl (lv_at hl 0 rfl) ?_
        refine gf_X2_moment (j := (i0 + 7)) C hG k_i0 rfl wf_X2_21 dX2_weaken_32 ?_
        refine gf_X3_strong (j := (i0 + 8)) C hG (gk_X2_moment k_i0) rfl wf_X2_70 dX2_weaken_35 ?_
        refine lv_iload_n hx hb dX2_weaken_38 rfl (lv_at hl 2 rfl) ?_
        obtain ⟨hi_39, h⟩ := ix_e h
        refine g_al C hG (gk_X3_strong (gk_X2_moment k_i0)) (gl_X3_strong (gk_X2_moment k_i0)) hi_39 rfl dX2_weaken_39 ?_
        refine lv_iconst (v := 5) hx hb dX2_weaken_40 (by decide) ?_
        refine lv_isub hx hb dX2_weaken_41 ?_
        refine g_max C hl.1 wm_X2_86 (by decide) (Nat.le_of_ble_eq_true rfl) dX2_weaken_42 ?_
        refine g_as C hG (gk_X3_strong (gk_X2_moment k_i0)) (gl_X3_strong (gk_X2_moment k_i0)) hi_39 rfl dX2_weaken_45 (fun M45 e_45 H locs hG => ?_)
        have h := nm_at e_45 h
        obtain ⟨x2_46, e2_46⟩ : ∃ y : Int32, y = x2 + (1 : Int32) := ⟨_, rfl⟩
        have h := nm_at e2_46 h
        refine lv_iinc (v := x2_46) (lv' := [(2, .int x2_46), (0, .ref (ad i0)), (1, .int x1)]) hx hb dX2_weaken_46 hl (k := 2) rfl (by rw [e2_46]; rfl) (by decide) rfl (fun ls hl => ?_)
        refine lv_goto (tgt := 2) hx hb dX2_weaken_49 (by decide) ?_
        exact hr2 (M45, x2_46) h H locs hG ls (lv_sub hl [1, 2, 0] rfl)
  intro H locs hG ls hl
  have hl : lv_has ls 3 [(0, .ref (ad i0)), (1, .int x1)] := hl
  unfold f_X2_weaken at h
  refine lv_iconst (v := 0) hx hb dX2_weaken_0 (by decide) ?_
  refine lv_istore_n (lv' := [(2, .int 0), (0, .ref (ad i0)), (1, .int x1)]) hx hb dX2_weaken_1 rfl hl (by decide) rfl (fun ls hl => ?_)
  exact J_2 x1 _ (M, (0 : Int32)) h H locs hG ls (lv_sub hl [1, 2, 0] rfl)
def f_X2_strike_62 (i0 : Nat) (M : Mem) (x3 : Int32) (x4 : Int64) : Option Mem :=
  if (lg_cmp x4 (1 : Int64)) = (0 : Int32) then (
    (f_X2_strengthen M i0 x3).bind fun q71 =>
    some q71
  ) else (
    some M
  )
def f_X2_strike (M : Mem) (i0 : Nat) (x1 : Int64) : Option Mem :=
  if (1 : Int32) ≤ (M (i0 + 1) 2) then (
    chk (decide (¬ ((M (i0 + 1) 2)).toInt64 = 0)) <|
    nm (((x1 - x1 / ((M (i0 + 1) 2)).toInt64 * ((M (i0 + 1) 2)).toInt64)).toInt32) fun x3_23 =>
    nm ((x1 - x1 / (3 : Int64) * (3 : Int64))) fun x4_29 =>
    if (lg_cmp x4_29 (0 : Int64)) = (0 : Int32) then (
      if (f_X3_flies M (i0 + 7) x3_23) = true then (
        nm (f_X3_turnBack M (i0 + 7) ((1 : Int32) <<< (x3_23 &&& 31))) fun q56 =>
        some q56
      ) else (
        f_X2_strike_62 i0 M x3_23 x4_29
      )
    ) else (
      f_X2_strike_62 i0 M x3_23 x4_29
    )
  ) else (
    some M
  )
theorem e_X2_strike : yX2_strike.cls = RX2 ∧ yX2_strike.cls ≠ "java/lang/invoke/MethodHandle" ∧ yX2_strike.cls ≠ "java/lang/invoke/VarHandle" ∧ (parseMethodDescriptor yX2_strike.desc).map (fun d => d.parameters.length) = some 1 := by decide +kernel
set_option maxHeartbeats 4000000 in
set_option maxRecDepth 100000 in
theorem c_X2_strike (l : Launch) (D : va_G) (cs : Nat → ClassId) (ad : Nat → Nat) (M : Mem) {i0 : Nat} (k_i0 : gK i0 = 2) (x1 : Int64) {z : Mem} (h : f_X2_strike M i0 x1 = some z) : CtV l yX2_strike cX2_strike 6 2 D cs ad [.ref (ad i0), .long x1] M z := by
  refine ct_v (own := RX2) (by decide) rfl (Nat.le_of_ble_eq_true rfl) ?_
  intro p e s m args below meth c Q C hr
  have hx := C.1
  have hb := C.2.1
  have hown := C.2.2.2.1
  have hts := C.2.2.2.2.1
  have J_62 : ∀ (M : Mem) (x3 : Int32) (x4 : Int64), f_X2_strike_62 i0 M x3 x4 = some z → GP p l e (rmk 2) s m args below meth c 0 0 Q D cs ad 6 62 [(0, .ref (ad i0)), (3, .int x3), (4, .long x4)] [] M := by
    intro M x3 x4 h H locs hG ls hl
    unfold f_X2_strike_62 at h
    refine lv_lload hx hb dX2_strike_62 (lv_at hl 2 rfl) ?_
    refine lv_lconst (v := 1) hx hb dX2_strike_64 (by decide) ?_
    refine W.lcmp hx hb dX2_strike_65 ?_
    refine lv_if_ne (tgt := 74) hx hb dX2_strike_66 (by decide) (fun c_66 => ?_) (fun c_66 => ?_)
    · have h := if_f c_66 h
      exact hr (Option.some.inj h) hG dX2_strike_74
    · have h := if_t c_66 h
      refine lv_aload_n hx hb dX2_strike_69 rfl (lv_at hl 0 rfl) ?_
      refine lv_iload_n hx hb dX2_strike_70 rfl (lv_at hl 1 rfl) ?_
      obtain ⟨q71, e_71, h⟩ := bd_e h
      refine g_cv hG (g_runV C hG (gR_2 k_i0) (c_X2_strengthen l D cs ad M k_i0 x3 e_71) wm_X2_99 wi_X2_strengthen ws_X2_strengthen wz_X2 wc_X2_strengthen e_X2_strengthen (by decide) hl.1 (Nat.le_of_ble_eq_true rfl) dX2_strike_71) (fun H locs hG => ?_)
      exact hr (Option.some.inj h) hG dX2_strike_74
  intro H locs hG ls hl
  have hl : lv_has ls 6 [(0, .ref (ad i0)), (1, .long x1)] := hl
  unfold f_X2_strike at h
  refine lv_aload_n hx hb dX2_strike_0 rfl (lv_at hl 0 rfl) ?_
  refine gf_X2_told (j := (i0 + 1)) C hG k_i0 rfl wf_X2_12 dX2_strike_1 ?_
  refine gf_X7_birds C hG (gk_X2_told k_i0) wf_X2_36 dX2_strike_4 ?_
  refine lv_iconst (v := 1) hx hb dX2_strike_7 (by decide) ?_
  refine lv_icmp_ge (tgt := 12) hx hb dX2_strike_8 (by decide) (fun c_8 => ?_) (fun c_8 => ?_)
  · have h := if_t c_8 h
    refine lv_lload_n hx hb dX2_strike_12 rfl (lv_at hl 1 rfl) ?_
    refine lv_aload_n hx hb dX2_strike_13 rfl (lv_at hl 0 rfl) ?_
    refine gf_X2_told (j := (i0 + 1)) C hG k_i0 rfl wf_X2_12 dX2_strike_14 ?_
    refine gf_X7_birds C hG (gk_X2_told k_i0) wf_X2_36 dX2_strike_17 ?_
    refine lv_i2l hx hb dX2_strike_20 rfl ?_
    obtain ⟨hd_21, h⟩ := dn_e h
    refine lv_lrem hx hb dX2_strike_21 hd_21 ?_
    refine lv_l2i hx hb dX2_strike_22 rfl ?_
    refine lv_topi (fun x3_23 e3_23 => ?_)
    have h := nm_at e3_23 h
    refine lv_istore_n (lv' := [(3, .int x3_23), (0, .ref (ad i0)), (1, .long x1)]) hx hb dX2_strike_23 rfl hl (by decide) rfl (fun ls hl => ?_)
    refine lv_lload_n hx hb dX2_strike_24 rfl (lv_at hl 2 rfl) ?_
    refine lv_ldc2 (v := 3) hx hb hown (hts _ wk_X2_89) dX2_strike_25 ?_
    refine lv_lrem hx hb dX2_strike_28 (by decide) ?_
    refine lv_topl (fun x4_29 e4_29 => ?_)
    have h := nm_at e4_29 h
    refine lv_lstore (lv' := [(4, .long x4_29), (3, .int x3_23), (0, .ref (ad i0)), (1, .long x1)]) hx hb dX2_strike_29 hl (by decide) rfl (fun ls hl => ?_)
    refine lv_lload hx hb dX2_strike_31 (lv_at hl 0 rfl) ?_
    refine lv_lconst (v := 0) hx hb dX2_strike_33 (by decide) ?_
    refine W.lcmp hx hb dX2_strike_34 ?_
    refine lv_if_ne (tgt := 62) hx hb dX2_strike_35 (by decide) (fun c_35 => ?_) (fun c_35 => ?_)
    · have h := if_f c_35 h
      exact J_62 M x3_23 x4_29 h H locs hG ls (lv_sub hl [2, 1, 0] rfl)
    · have h := if_t c_35 h
      refine lv_aload_n hx hb dX2_strike_38 rfl (lv_at hl 2 rfl) ?_
      refine gf_X2_moment (j := (i0 + 7)) C hG k_i0 rfl wf_X2_21 dX2_strike_39 ?_
      refine lv_iload_n hx hb dX2_strike_42 rfl (lv_at hl 1 rfl) ?_
      refine g_ci hG (g_runV C hG (gR_3 (gk_X2_moment k_i0)) (c_X3_flies l D cs ad M (gk_X2_moment k_i0) x3_23 rfl) wm_X2_91 wi_X3_flies ws_X3_flies wz_X3 wc_X3_flies e_X3_flies (by decide) hl.1 (Nat.le_of_ble_eq_true rfl) dX2_strike_43) (fun H locs hG => ?_)
      refine lv_if_eq (tgt := 62) hx hb dX2_strike_46 (by decide) (fun c_46 => ?_) (fun c_46 => ?_)
      · have h := if_f (bi_f c_46) h
        exact J_62 M x3_23 x4_29 h H locs hG ls (lv_sub hl [2, 1, 0] rfl)
      · have h := if_t (bi_t c_46) h
        refine lv_aload_n hx hb dX2_strike_49 rfl (lv_at hl 2 rfl) ?_
        refine gf_X2_moment (j := (i0 + 7)) C hG k_i0 rfl wf_X2_21 dX2_strike_50 ?_
        refine lv_iconst (v := 1) hx hb dX2_strike_53 (by decide) ?_
        refine lv_iload_n hx hb dX2_strike_54 rfl (lv_at hl 1 rfl) ?_
        refine lv_ishl hx hb dX2_strike_55 ?_
        obtain ⟨q56, e_56⟩ : ∃ y, f_X3_turnBack M (i0 + 7) ((1 : Int32) <<< (x3_23 &&& 31)) = y := ⟨_, rfl⟩
        have h := nm_at e_56.symm h
        refine g_cv hG (g_runV C hG (gR_3 (gk_X2_moment k_i0)) (c_X3_turnBack l D cs ad M (gk_X2_moment k_i0) ((1 : Int32) <<< (x3_23 &&& 31)) e_56) wm_X2_95 wi_X3_turnBack ws_X3_turnBack wz_X3 wc_X3_turnBack e_X3_turnBack (by decide) hl.1 (Nat.le_of_ble_eq_true rfl) dX2_strike_56) (fun H locs hG => ?_)
        refine lv_goto (tgt := 74) hx hb dX2_strike_59 (by decide) ?_
        exact hr (Option.some.inj h) hG dX2_strike_74
  · have h := if_f c_8 h
    exact hr (Option.some.inj h) hG dX2_strike_11
