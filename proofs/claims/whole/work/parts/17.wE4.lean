def f_X9_toKeep (M : Mem) (x1 : Int32) : Option (Int32 × Mem) :=
  if (f_X9_isFlight M) = true then (
    if (f_X9_in x1 (0 : Int32) (1 : Int32)) = true then (
      (f_X9_flying M 146).bind fun q27 =>
      (f_X9_ones q27).bind fun q30 =>
      (f_X9_fewest M q30).bind fun q33 =>
      if x1 = (1 : Int32) then (
        some (q33.1, q33.2)
      ) else (
        (f_X9_ones q33.1).bind fun q47 =>
        some (q47, q33.2)
      )
    ) else (
      some ((-1000001 : Int32), M)
    )
  ) else (
    some ((-1000002 : Int32), M)
  )
theorem e_X9_toKeep : yX9_toKeep.cls = RX9 ∧ yX9_toKeep.cls ≠ "java/lang/invoke/MethodHandle" ∧ yX9_toKeep.cls ≠ "java/lang/invoke/VarHandle" ∧ (parseMethodDescriptor yX9_toKeep.desc).map (fun d => d.parameters.length) = some 1 := by decide +kernel
set_option maxHeartbeats 4000000 in
set_option maxRecDepth 100000 in
theorem c_X9_toKeep (l : Launch) (D : va_G) (cs : Nat → ClassId) (ad : Nat → Nat) (M : Mem) (x1 : Int32) {z : Int32 × Mem} (h : f_X9_toKeep M x1 = some z) : CtI l yX9_toKeep cX9_toKeep 3 .int 6 D cs ad [.ref (ad 140), .int x1] M z.1 z.2 := by
  refine ct_i (own := RX9) (by decide) rfl (Nat.le_of_ble_eq_true rfl) ?_
  intro p e s m args below meth c Q C hr
  have hx := C.1
  have hb := C.2.1
  have hown := C.2.2.2.1
  have hts := C.2.2.2.2.1
  intro H locs hG ls hl
  have hl : lv_has ls 3 [(0, .ref (ad 140)), (1, .int x1)] := hl
  unfold f_X9_toKeep at h
  refine lv_aload_n hx hb dX9_toKeep_0 rfl (lv_at hl 0 rfl) ?_
  refine g_ci hG (g_runV C hG (gR_9 gk_140) (c_X9_isFlight l D cs ad M rfl) wm_X9_180 wi_X9_isFlight ws_X9_isFlight wz_X9 wc_X9_isFlight e_X9_isFlight (by decide) hl.1 (Nat.le_of_ble_eq_true rfl) dX9_toKeep_1) (fun H locs hG => ?_)
  refine lv_if_ne (tgt := 10) hx hb dX9_toKeep_4 (by decide) (fun c_4 => ?_) (fun c_4 => ?_)
  · have h := if_t (bi_t c_4) h
    refine lv_iload_n hx hb dX9_toKeep_10 rfl (lv_at hl 1 rfl) ?_
    refine lv_iconst (v := 0) hx hb dX9_toKeep_11 (by decide) ?_
    refine lv_iconst (v := 1) hx hb dX9_toKeep_12 (by decide) ?_
    refine g_ci hG (g_runS C hG (c_X9_in l D cs ad M x1 (0 : Int32) (1 : Int32) rfl) wm_X9_59 wt_X9_in wz_X9 wc_X9_in e_X9_in (by decide) hl.1 (Nat.le_of_ble_eq_true rfl) dX9_toKeep_13) (fun H locs hG => ?_)
    refine lv_if_ne (tgt := 22) hx hb dX9_toKeep_16 (by decide) (fun c_16 => ?_) (fun c_16 => ?_)
    · have h := if_t (bi_t c_16) h
      refine lv_aload_n hx hb dX9_toKeep_22 rfl (lv_at hl 0 rfl) ?_
      refine lv_aload_n hx hb dX9_toKeep_23 rfl (lv_at hl 0 rfl) ?_
      refine gf_X9_now C hG gk_140 wf_X9_25 dX9_toKeep_24 ?_
      obtain ⟨q27, e_27, h⟩ := bd_e h
      refine g_ci hG (g_runS C hG (c_X9_flying l D cs ad M gk_146 gl_146 e_27) wm_X9_177 wt_X9_flying wz_X9 wc_X9_flying e_X9_flying (by decide) hl.1 (Nat.le_of_ble_eq_true rfl) dX9_toKeep_27) (fun H locs hG => ?_)
      obtain ⟨q30, e_30, h⟩ := bd_e h
      refine g_ci hG (g_runS C hG (c_X9_ones l D cs ad M q27 e_30) wm_X9_152 wt_X9_ones wz_X9 wc_X9_ones e_X9_ones (by decide) hl.1 (Nat.le_of_ble_eq_true rfl) dX9_toKeep_30) (fun H locs hG => ?_)
      obtain ⟨q33, e_33, h⟩ := bd_e h
      refine g_ci hG (g_runV C hG (gR_9 gk_140) (c_X9_fewest l D cs ad M q30 e_33) wm_X9_206 wi_X9_fewest ws_X9_fewest wz_X9 wc_X9_fewest e_X9_fewest (by decide) hl.1 (Nat.le_of_ble_eq_true rfl) dX9_toKeep_33) (fun H locs hG => ?_)
      refine lv_istore_n (lv' := [(2, .int q33.1), (0, .ref (ad 140)), (1, .int x1)]) hx hb dX9_toKeep_36 rfl hl (by decide) rfl (fun ls hl => ?_)
      refine lv_iload_n hx hb dX9_toKeep_37 rfl (lv_at hl 2 rfl) ?_
      refine lv_iconst (v := 1) hx hb dX9_toKeep_38 (by decide) ?_
      refine lv_icmp_ne (tgt := 46) hx hb dX9_toKeep_39 (by decide) (fun c_39 => ?_) (fun c_39 => ?_)
      · have h := if_f c_39 h
        refine lv_iload_n hx hb dX9_toKeep_46 rfl (lv_at hl 0 rfl) ?_
        obtain ⟨q47, e_47, h⟩ := bd_e h
        refine g_ci hG (g_runS C hG (c_X9_ones l D cs ad q33.2 q33.1 e_47) wm_X9_152 wt_X9_ones wz_X9 wc_X9_ones e_X9_ones (by decide) hl.1 (Nat.le_of_ble_eq_true rfl) dX9_toKeep_47) (fun H locs hG => ?_)
        exact hr (pf1 (Option.some.inj h)) (pf2 (Option.some.inj h)) hG dX9_toKeep_50
      · have h := if_t c_39 h
        refine lv_iload_n hx hb dX9_toKeep_42 rfl (lv_at hl 0 rfl) ?_
        refine lv_goto (tgt := 50) hx hb dX9_toKeep_43 (by decide) ?_
        exact hr (pf1 (Option.some.inj h)) (pf2 (Option.some.inj h)) hG dX9_toKeep_50
    · have h := if_f (bi_f c_16) h
      refine lv_ldc (v := -1000001) hx hb hown (hts _ wk_X9_67) dX9_toKeep_19 ?_
      exact hr (pf1 (Option.some.inj h)) (pf2 (Option.some.inj h)) hG dX9_toKeep_21
  · have h := if_f (bi_f c_4) h
    refine lv_ldc (v := -1000002) hx hb hown (hts _ wk_X9_183) dX9_toKeep_7 ?_
    exact hr (pf1 (Option.some.inj h)) (pf2 (Option.some.inj h)) hG dX9_toKeep_9
def f_X9_whole (M : Mem) (x1 : Int32) (x2 : Int32) : Option (Int32 × Mem) :=
  if (f_X9_isFlight M) = true then (
    if (f_X9_in x1 (0 : Int32) (6 : Int32)) = true then (
      if (f_X9_in x2 (0 : Int32) (1 : Int32)) = true then (
        (f_X9_fewest M x1).bind fun q34 =>
        if q34.1 = (-1000000 : Int32) then (
          some (q34.1, q34.2)
        ) else (
          if x2 = (1 : Int32) then (
            some (q34.1, q34.2)
          ) else (
            (f_X9_ones q34.1).bind fun q54 =>
            some (q54, q34.2)
          )
        )
      ) else (
        some ((-1000001 : Int32), M)
      )
    ) else (
      some ((-1000001 : Int32), M)
    )
  ) else (
    some ((-1000002 : Int32), M)
  )
theorem e_X9_whole : yX9_whole.cls = RX9 ∧ yX9_whole.cls ≠ "java/lang/invoke/MethodHandle" ∧ yX9_whole.cls ≠ "java/lang/invoke/VarHandle" ∧ (parseMethodDescriptor yX9_whole.desc).map (fun d => d.parameters.length) = some 2 := by decide +kernel
set_option maxHeartbeats 4000000 in
set_option maxRecDepth 100000 in
theorem c_X9_whole (l : Launch) (D : va_G) (cs : Nat → ClassId) (ad : Nat → Nat) (M : Mem) (x1 : Int32) (x2 : Int32) {z : Int32 × Mem} (h : f_X9_whole M x1 x2 = some z) : CtI l yX9_whole cX9_whole 4 .int 6 D cs ad [.ref (ad 140), .int x1, .int x2] M z.1 z.2 := by
  refine ct_i (own := RX9) (by decide) rfl (Nat.le_of_ble_eq_true rfl) ?_
  intro p e s m args below meth c Q C hr
  have hx := C.1
  have hb := C.2.1
  have hown := C.2.2.2.1
  have hts := C.2.2.2.2.1
  intro H locs hG ls hl
  have hl : lv_has ls 4 [(0, .ref (ad 140)), (1, .int x1), (2, .int x2)] := hl
  unfold f_X9_whole at h
  refine lv_aload_n hx hb dX9_whole_0 rfl (lv_at hl 0 rfl) ?_
  refine g_ci hG (g_runV C hG (gR_9 gk_140) (c_X9_isFlight l D cs ad M rfl) wm_X9_180 wi_X9_isFlight ws_X9_isFlight wz_X9 wc_X9_isFlight e_X9_isFlight (by decide) hl.1 (Nat.le_of_ble_eq_true rfl) dX9_whole_1) (fun H locs hG => ?_)
  refine lv_if_ne (tgt := 10) hx hb dX9_whole_4 (by decide) (fun c_4 => ?_) (fun c_4 => ?_)
  · have h := if_t (bi_t c_4) h
    refine lv_iload_n hx hb dX9_whole_10 rfl (lv_at hl 1 rfl) ?_
    refine lv_iconst (v := 0) hx hb dX9_whole_11 (by decide) ?_
    refine lv_bipush (v := 6) hx hb dX9_whole_12 (by decide) ?_
    refine g_ci hG (g_runS C hG (c_X9_in l D cs ad M x1 (0 : Int32) (6 : Int32) rfl) wm_X9_59 wt_X9_in wz_X9 wc_X9_in e_X9_in (by decide) hl.1 (Nat.le_of_ble_eq_true rfl) dX9_whole_14) (fun H locs hG => ?_)
    refine lv_if_eq (tgt := 29) hx hb dX9_whole_17 (by decide) (fun c_17 => ?_) (fun c_17 => ?_)
    · have h := if_f (bi_f c_17) h
      refine lv_ldc (v := -1000001) hx hb hown (hts _ wk_X9_67) dX9_whole_29 ?_
      exact hr (pf1 (Option.some.inj h)) (pf2 (Option.some.inj h)) hG dX9_whole_31
    · have h := if_t (bi_t c_17) h
      refine lv_iload_n hx hb dX9_whole_20 rfl (lv_at hl 2 rfl) ?_
      refine lv_iconst (v := 0) hx hb dX9_whole_21 (by decide) ?_
      refine lv_iconst (v := 1) hx hb dX9_whole_22 (by decide) ?_
      refine g_ci hG (g_runS C hG (c_X9_in l D cs ad M x2 (0 : Int32) (1 : Int32) rfl) wm_X9_59 wt_X9_in wz_X9 wc_X9_in e_X9_in (by decide) hl.1 (Nat.le_of_ble_eq_true rfl) dX9_whole_23) (fun H locs hG => ?_)
      refine lv_if_ne (tgt := 32) hx hb dX9_whole_26 (by decide) (fun c_26 => ?_) (fun c_26 => ?_)
      · have h := if_t (bi_t c_26) h
        refine lv_aload_n hx hb dX9_whole_32 rfl (lv_at hl 0 rfl) ?_
        refine lv_iload_n hx hb dX9_whole_33 rfl (lv_at hl 1 rfl) ?_
        obtain ⟨q34, e_34, h⟩ := bd_e h
        refine g_ci hG (g_runV C hG (gR_9 gk_140) (c_X9_fewest l D cs ad M x1 e_34) wm_X9_206 wi_X9_fewest ws_X9_fewest wz_X9 wc_X9_fewest e_X9_fewest (by decide) hl.1 (Nat.le_of_ble_eq_true rfl) dX9_whole_34) (fun H locs hG => ?_)
        refine lv_istore_n (lv' := [(3, .int q34.1), (0, .ref (ad 140)), (1, .int x1), (2, .int x2)]) hx hb dX9_whole_37 rfl hl (by decide) rfl (fun ls hl => ?_)
        refine lv_iload_n hx hb dX9_whole_38 rfl (lv_at hl 0 rfl) ?_
        refine lv_ldc (v := -1000000) hx hb hown (hts _ wk_X9_53) dX9_whole_39 ?_
        refine lv_icmp_eq (tgt := 49) hx hb dX9_whole_41 (by decide) (fun c_41 => ?_) (fun c_41 => ?_)
        · have h := if_t c_41 h
          refine lv_iload_n hx hb dX9_whole_49 rfl (lv_at hl 0 rfl) ?_
          refine lv_goto (tgt := 57) hx hb dX9_whole_50 (by decide) ?_
          exact hr (pf1 (Option.some.inj h)) (pf2 (Option.some.inj h)) hG dX9_whole_57
        · have h := if_f c_41 h
          refine lv_iload_n hx hb dX9_whole_44 rfl (lv_at hl 3 rfl) ?_
          refine lv_iconst (v := 1) hx hb dX9_whole_45 (by decide) ?_
          refine lv_icmp_ne (tgt := 53) hx hb dX9_whole_46 (by decide) (fun c_46 => ?_) (fun c_46 => ?_)
          · have h := if_f c_46 h
            refine lv_iload_n hx hb dX9_whole_53 rfl (lv_at hl 0 rfl) ?_
            obtain ⟨q54, e_54, h⟩ := bd_e h
            refine g_ci hG (g_runS C hG (c_X9_ones l D cs ad q34.2 q34.1 e_54) wm_X9_152 wt_X9_ones wz_X9 wc_X9_ones e_X9_ones (by decide) hl.1 (Nat.le_of_ble_eq_true rfl) dX9_whole_54) (fun H locs hG => ?_)
            exact hr (pf1 (Option.some.inj h)) (pf2 (Option.some.inj h)) hG dX9_whole_57
          · have h := if_t c_46 h
            refine lv_iload_n hx hb dX9_whole_49 rfl (lv_at hl 0 rfl) ?_
            refine lv_goto (tgt := 57) hx hb dX9_whole_50 (by decide) ?_
            exact hr (pf1 (Option.some.inj h)) (pf2 (Option.some.inj h)) hG dX9_whole_57
      · have h := if_f (bi_f c_26) h
        refine lv_ldc (v := -1000001) hx hb hown (hts _ wk_X9_67) dX9_whole_29 ?_
        exact hr (pf1 (Option.some.inj h)) (pf2 (Option.some.inj h)) hG dX9_whole_31
  · have h := if_f (bi_f c_4) h
    refine lv_ldc (v := -1000002) hx hb hown (hts _ wk_X9_183) dX9_whole_7 ?_
    exact hr (pf1 (Option.some.inj h)) (pf2 (Option.some.inj h)) hG dX9_whole_9
def f_X9_meal_93 (r31 : (Mem × Int32 × Int32 × Int32) → Option (Int32 × Mem)) (M : Mem) (x1 : Int32) (x3 : Int32) (x4 : Int32) (x5 : Int32) (s0 : Int32) : Option (Int32 × Mem) :=
  if x5 ≤ x3 then (
    nm (x4 + (1 : Int32)) fun x4_107 =>
    r31 (M, s0, x3, x4_107)
  ) else (
    nm (x4 + (1 : Int32)) fun x4_107 =>
    r31 (M, s0, x5, x4_107)
  )
def f_X9_meal_79 (r31 : (Mem × Int32 × Int32 × Int32) → Option (Int32 × Mem)) (M : Mem) (x1 : Int32) (x2 : Int32) (x3 : Int32) (x4 : Int32) (s0 : Int32) : Option (Int32 × Mem) :=
  if s0 ≤ x3 then (
    f_X9_meal_93 r31 M x1 x3 x4 s0 x2
  ) else (
    f_X9_meal_93 r31 M x1 x3 x4 s0 x4
  )
def f_X9_meal_31 (x1 : Int32) (r31 : (Mem × Int32 × Int32 × Int32) → Option (Int32 × Mem)) (M : Mem) (x2 : Int32) (x3 : Int32) (x4 : Int32) : Option (Int32 × Mem) :=
  if (M 146 5) ≤ x4 then (
    if x1 = (0 : Int32) then (
      some (x2, M)
    ) else (
      some (x3, M)
    )
  ) else (
    (f_X9_tries M).bind fun q43 =>
    (f_X9_eats q43 148 x4).bind fun q52 =>
    (f_X9_flies q52 146 x4).bind fun q61 =>
    if q61 = true then (
      (f_X9_ends q52).bind fun q68 =>
      (f_X9_ones q68.1).bind fun q71 =>
      f_X9_meal_79 r31 q68.2 x1 x2 x3 x4 q71
    ) else (
      f_X9_meal_79 r31 q52 x1 x2 x3 x4 (-1000000 : Int32)
    )
  )
def f_X9_meal (M : Mem) (x1 : Int32) : Option (Int32 × Mem) :=
  if (f_X9_isFlight M) = true then (
    if (f_X9_in x1 (0 : Int32) (1 : Int32)) = true then (
      iter (fun rec a => f_X9_meal_31 x1 rec a.1 a.2.1 a.2.2.1 a.2.2.2) fuel (M, (-1000000 : Int32), (-1000000 : Int32), (0 : Int32))
    ) else (
      some ((-1000001 : Int32), M)
    )
  ) else (
    some ((-1000002 : Int32), M)
  )
theorem e_X9_meal : yX9_meal.cls = RX9 ∧ yX9_meal.cls ≠ "java/lang/invoke/MethodHandle" ∧ yX9_meal.cls ≠ "java/lang/invoke/VarHandle" ∧ (parseMethodDescriptor yX9_meal.desc).map (fun d => d.parameters.length) = some 1 := by decide +kernel
set_option maxHeartbeats 4000000 in
set_option maxRecDepth 100000 in
theorem c_X9_meal (l : Launch) (D : va_G) (cs : Nat → ClassId) (ad : Nat → Nat) (M : Mem) (x1 : Int32) {z : Int32 × Mem} (h : f_X9_meal M x1 = some z) : CtI l yX9_meal cX9_meal 6 .int 5 D cs ad [.ref (ad 140), .int x1] M z.1 z.2 := by
  refine ct_i (own := RX9) (by decide) rfl (Nat.le_of_ble_eq_true rfl) ?_
  intro p e s m args below meth c Q C hr
  have hx := C.1
  have hb := C.2.1
  have hown := C.2.2.2.1
  have hts := C.2.2.2.2.1
  have J_93 : ∀ (M : Mem) (x1 : Int32) (x3 : Int32) (x4 : Int32) (x5 : Int32) (s0 : Int32) (r31 : (Mem × Int32 × Int32 × Int32) → Option (Int32 × Mem)) (hr31 : ∀ a, r31 a = some z → GP p l e (rmk 5) s m args below meth c 0 0 Q D cs ad 6 31 [(0, .ref (ad 140)), (1, .int x1), (2, .int a.2.1), (3, .int a.2.2.1), (4, .int a.2.2.2)] [] a.1), f_X9_meal_93 r31 M x1 x3 x4 x5 s0 = some z → GP p l e (rmk 5) s m args below meth c 0 0 Q D cs ad 6 93 [(0, .ref (ad 140)), (1, .int x1), (3, .int x3), (4, .int x4), (5, .int x5)] [.int s0] M := by
    intro M x1 x3 x4 x5 s0 r31 hr31 h H locs hG ls hl
    unfold f_X9_meal_93 at h
    refine lv_istore_n (lv' := [(2, .int s0), (0, .ref (ad 140)), (1, .int x1), (3, .int x3), (4, .int x4), (5, .int x5)]) hx hb dX9_meal_93 rfl hl (by decide) rfl (fun ls hl => ?_)
    refine lv_iload hx hb dX9_meal_94 (lv_at hl 5 rfl) ?_
    refine lv_iload_n hx hb dX9_meal_96 rfl (lv_at hl 3 rfl) ?_
    refine lv_icmp_le (tgt := 105) hx hb dX9_meal_97 (by decide) (fun c_97 => ?_) (fun c_97 => ?_)
    · have h := if_t c_97 h
      refine lv_iload_n hx hb dX9_meal_105 rfl (lv_at hl 3 rfl) ?_
      refine lv_istore_n (lv' := [(3, .int x3), (2, .int s0), (0, .ref (ad 140)), (1, .int x1), (4, .int x4), (5, .int x5)]) hx hb dX9_meal_106 rfl hl (by decide) rfl (fun ls hl => ?_)
      obtain ⟨x4_107, e4_107⟩ : ∃ y : Int32, y = x4 + (1 : Int32) := ⟨_, rfl⟩
      have h := nm_at e4_107 h
      refine lv_iinc (v := x4_107) (lv' := [(4, .int x4_107), (3, .int x3), (2, .int s0), (0, .ref (ad 140)), (1, .int x1), (5, .int x5)]) hx hb dX9_meal_107 hl (k := 4) rfl (by rw [e4_107]; rfl) (by decide) rfl (fun ls hl => ?_)
      refine lv_goto (tgt := 31) hx hb dX9_meal_110 (by decide) ?_
      exact hr31 (M, s0, x3, x4_107) h H locs hG ls (lv_sub hl [3, 4, 2, 1, 0] rfl)
    · have h := if_f c_97 h
      refine lv_iload hx hb dX9_meal_100 (lv_at hl 5 rfl) ?_
      refine lv_goto (tgt := 106) hx hb dX9_meal_102 (by decide) ?_
      refine lv_istore_n (lv' := [(3, .int x5), (2, .int s0), (0, .ref (ad 140)), (1, .int x1), (4, .int x4), (5, .int x5)]) hx hb dX9_meal_106 rfl hl (by decide) rfl (fun ls hl => ?_)
      obtain ⟨x4_107, e4_107⟩ : ∃ y : Int32, y = x4 + (1 : Int32) := ⟨_, rfl⟩
      have h := nm_at e4_107 h
      refine lv_iinc (v := x4_107) (lv' := [(4, .int x4_107), (3, .int x5), (2, .int s0), (0, .ref (ad 140)), (1, .int x1), (5, .int x5)]) hx hb dX9_meal_107 hl (k := 4) rfl (by rw [e4_107]; rfl) (by decide) rfl (fun ls hl => ?_)
      refine lv_goto (tgt := 31) hx hb dX9_meal_110 (by decide) ?_
      exact hr31 (M, s0, x5, x4_107) h H locs hG ls (lv_sub hl [3, 4, 2, 1, 0] rfl)
  have J_79 : ∀ (M : Mem) (x1 : Int32) (x2 : Int32) (x3 : Int32) (x4 : Int32) (s0 : Int32) (r31 : (Mem × Int32 × Int32 × Int32) → Option (Int32 × Mem)) (hr31 : ∀ a, r31 a = some z → GP p l e (rmk 5) s m args below meth c 0 0 Q D cs ad 6 31 [(0, .ref (ad 140)), (1, .int x1), (2, .int a.2.1), (3, .int a.2.2.1), (4, .int a.2.2.2)] [] a.1), f_X9_meal_79 r31 M x1 x2 x3 x4 s0 = some z → GP p l e (rmk 5) s m args below meth c 0 0 Q D cs ad 6 79 [(0, .ref (ad 140)), (1, .int x1), (2, .int x2), (3, .int x3), (4, .int x4)] [.int s0] M := by
    intro M x1 x2 x3 x4 s0 r31 hr31 h H locs hG ls hl
    unfold f_X9_meal_79 at h
    refine lv_istore (lv' := [(5, .int s0), (0, .ref (ad 140)), (1, .int x1), (2, .int x2), (3, .int x3), (4, .int x4)]) hx hb dX9_meal_79 hl (by decide) rfl (fun ls hl => ?_)
    refine lv_iload hx hb dX9_meal_81 (lv_at hl 0 rfl) ?_
    refine lv_iload_n hx hb dX9_meal_83 rfl (lv_at hl 4 rfl) ?_
    refine lv_icmp_le (tgt := 92) hx hb dX9_meal_84 (by decide) (fun c_84 => ?_) (fun c_84 => ?_)
    · have h := if_t c_84 h
      refine lv_iload_n hx hb dX9_meal_92 rfl (lv_at hl 3 rfl) ?_
      exact J_93 M x1 x3 x4 s0 x2 r31 hr31 h H locs hG ls (lv_sub hl [1, 2, 4, 5, 0] rfl)
    · have h := if_f c_84 h
      refine lv_iload hx hb dX9_meal_87 (lv_at hl 5 rfl) ?_
      refine lv_goto (tgt := 93) hx hb dX9_meal_89 (by decide) ?_
      exact J_93 M x1 x3 x4 s0 x4 r31 hr31 h H locs hG ls (lv_sub hl [1, 2, 4, 5, 0] rfl)
  have J_31 : ∀ (x1 : Int32) (n : Nat) (a : Mem × Int32 × Int32 × Int32), iter (fun rec a => f_X9_meal_31 x1 rec a.1 a.2.1 a.2.2.1 a.2.2.2) n a = some z → GP p l e (rmk 5) s m args below meth c 0 0 Q D cs ad 6 31 [(0, .ref (ad 140)), (1, .int x1), (2, .int a.2.1), (3, .int a.2.2.1), (4, .int a.2.2.2)] [] a.1 := by
    intro x1
    refine iter_ind (fun r31 hr31 a h => ?_)
    obtain ⟨M, x2, x3, x4⟩ := a
    have h : f_X9_meal_31 x1 r31 M x2 x3 x4 = some z := h
    intro H locs hG ls hl
    have hG : GH D cs ad s M H locs := hG
    have hl : lv_has ls 6 [(0, .ref (ad 140)), (1, .int x1), (2, .int x2), (3, .int x3), (4, .int x4)] := hl
    unfold f_X9_meal_31 at h
    refine lv_iload hx hb dX9_meal_31 (lv_at hl 4 rfl) ?_
    refine lv_aload_n hx hb dX9_meal_33 rfl (lv_at hl 0 rfl) ?_
    refine gf_X9_now C hG gk_140 wf_X9_25 dX9_meal_34 ?_
    refine lv_iconst (v := 5) hx hb dX9_meal_37 (by decide) ?_
    refine g_al (j := 5) C hG gk_146 gl_146 (ixl rfl) (by decide) dX9_meal_38 ?_
    refine lv_icmp_ge (tgt := 113) hx hb dX9_meal_39 (by decide) (fun c_39 => ?_) (fun c_39 => ?_)
    · have h := if_t c_39 h
      refine lv_iload_n hx hb dX9_meal_113 rfl (lv_at hl 1 rfl) ?_
      refine lv_if_ne (tgt := 121) hx hb dX9_meal_114 (by decide) (fun c_114 => ?_) (fun c_114 => ?_)
      · have h := if_f c_114 h
        refine lv_iload_n hx hb dX9_meal_121 rfl (lv_at hl 3 rfl) ?_
        exact hr (pf1 (Option.some.inj h)) (pf2 (Option.some.inj h)) hG dX9_meal_122
      · have h := if_t c_114 h
        refine lv_iload_n hx hb dX9_meal_117 rfl (lv_at hl 2 rfl) ?_
        refine lv_goto (tgt := 122) hx hb dX9_meal_118 (by decide) ?_
        exact hr (pf1 (Option.some.inj h)) (pf2 (Option.some.inj h)) hG dX9_meal_122
    · have h := if_f c_39 h
      refine lv_aload_n hx hb dX9_meal_42 rfl (lv_at hl 0 rfl) ?_
      obtain ⟨q43, e_43, h⟩ := bd_e h
      refine g_cv hG (g_runV C hG (gR_9 gk_140) (c_X9_tries l D cs ad M e_43) wm_X9_196 wi_X9_tries ws_X9_tries wz_X9 wc_X9_tries e_X9_tries (by decide) hl.1 (Nat.le_of_ble_eq_true rfl) dX9_meal_43) (fun H locs hG => ?_)
      refine lv_aload_n hx hb dX9_meal_46 rfl (lv_at hl 0 rfl) ?_
      refine gf_X9_tried C hG gk_140 wf_X9_31 dX9_meal_47 ?_
      refine lv_iload hx hb dX9_meal_50 (lv_at hl 4 rfl) ?_
      obtain ⟨q52, e_52, h⟩ := bd_e h
      refine g_cv hG (g_runS C hG (c_X9_eats l D cs ad q43 gk_148 gl_148 x4 e_52) wm_X9_190 wt_X9_eats wz_X9 wc_X9_eats e_X9_eats (by decide) hl.1 (Nat.le_of_ble_eq_true rfl) dX9_meal_52) (fun H locs hG => ?_)
      refine lv_aload_n hx hb dX9_meal_55 rfl (lv_at hl 0 rfl) ?_
      refine gf_X9_now C hG gk_140 wf_X9_25 dX9_meal_56 ?_
      refine lv_iload hx hb dX9_meal_59 (lv_at hl 4 rfl) ?_
      obtain ⟨q61, e_61, h⟩ := bd_e h
      refine g_ci hG (g_runS C hG (c_X9_flies l D cs ad q52 gk_146 gl_146 x4 e_61) wm_X9_144 wt_X9_flies wz_X9 wc_X9_flies e_X9_flies (by decide) hl.1 (Nat.le_of_ble_eq_true rfl) dX9_meal_61) (fun H locs hG => ?_)
      refine lv_if_eq (tgt := 77) hx hb dX9_meal_64 (by decide) (fun c_64 => ?_) (fun c_64 => ?_)
      · have h := if_f (bi_f c_64) h
        refine lv_ldc (v := -1000000) hx hb hown (hts _ wk_X9_53) dX9_meal_77 ?_
        exact J_79 q52 x1 x2 x3 x4 (-1000000 : Int32) r31 hr31 h H locs hG ls (lv_sub hl [0, 1, 2, 3, 4] rfl)
      · have h := if_t (bi_t c_64) h
        refine lv_aload_n hx hb dX9_meal_67 rfl (lv_at hl 0 rfl) ?_
        obtain ⟨q68, e_68, h⟩ := bd_e h
        refine g_ci hG (g_runV C hG (gR_9 gk_140) (c_X9_ends l D cs ad q52 e_68) wm_X9_199 wi_X9_ends ws_X9_ends wz_X9 wc_X9_ends e_X9_ends (by decide) hl.1 (Nat.le_of_ble_eq_true rfl) dX9_meal_68) (fun H locs hG => ?_)
        obtain ⟨q71, e_71, h⟩ := bd_e h
        refine g_ci hG (g_runS C hG (c_X9_ones l D cs ad q68.2 q68.1 e_71) wm_X9_152 wt_X9_ones wz_X9 wc_X9_ones e_X9_ones (by decide) hl.1 (Nat.le_of_ble_eq_true rfl) dX9_meal_71) (fun H locs hG => ?_)
        refine lv_goto (tgt := 79) hx hb dX9_meal_74 (by decide) ?_
        exact J_79 q68.2 x1 x2 x3 x4 q71 r31 hr31 h H locs hG ls (lv_sub hl [0, 1, 2, 3, 4] rfl)
  intro H locs hG ls hl
  have hl : lv_has ls 6 [(0, .ref (ad 140)), (1, .int x1)] := hl
  unfold f_X9_meal at h
  refine lv_aload_n hx hb dX9_meal_0 rfl (lv_at hl 0 rfl) ?_
  refine g_ci hG (g_runV C hG (gR_9 gk_140) (c_X9_isFlight l D cs ad M rfl) wm_X9_180 wi_X9_isFlight ws_X9_isFlight wz_X9 wc_X9_isFlight e_X9_isFlight (by decide) hl.1 (Nat.le_of_ble_eq_true rfl) dX9_meal_1) (fun H locs hG => ?_)
  refine lv_if_ne (tgt := 10) hx hb dX9_meal_4 (by decide) (fun c_4 => ?_) (fun c_4 => ?_)
  · have h := if_t (bi_t c_4) h
    refine lv_iload_n hx hb dX9_meal_10 rfl (lv_at hl 1 rfl) ?_
    refine lv_iconst (v := 0) hx hb dX9_meal_11 (by decide) ?_
    refine lv_iconst (v := 1) hx hb dX9_meal_12 (by decide) ?_
    refine g_ci hG (g_runS C hG (c_X9_in l D cs ad M x1 (0 : Int32) (1 : Int32) rfl) wm_X9_59 wt_X9_in wz_X9 wc_X9_in e_X9_in (by decide) hl.1 (Nat.le_of_ble_eq_true rfl) dX9_meal_13) (fun H locs hG => ?_)
    refine lv_if_ne (tgt := 22) hx hb dX9_meal_16 (by decide) (fun c_16 => ?_) (fun c_16 => ?_)
    · have h := if_t (bi_t c_16) h
      refine lv_ldc (v := -1000000) hx hb hown (hts _ wk_X9_53) dX9_meal_22 ?_
      refine lv_istore_n (lv' := [(2, .int (-1000000)), (0, .ref (ad 140)), (1, .int x1)]) hx hb dX9_meal_24 rfl hl (by decide) rfl (fun ls hl => ?_)
      refine lv_ldc (v := -1000000) hx hb hown (hts _ wk_X9_53) dX9_meal_25 ?_
      refine lv_istore_n (lv' := [(3, .int (-1000000)), (2, .int (-1000000)), (0, .ref (ad 140)), (1, .int x1)]) hx hb dX9_meal_27 rfl hl (by decide) rfl (fun ls hl => ?_)
      refine lv_iconst (v := 0) hx hb dX9_meal_28 (by decide) ?_
      refine lv_istore (lv' := [(4, .int 0), (3, .int (-1000000)), (2, .int (-1000000)), (0, .ref (ad 140)), (1, .int x1)]) hx hb dX9_meal_29 hl (by decide) rfl (fun ls hl => ?_)
      exact J_31 x1 _ (M, (-1000000 : Int32), (-1000000 : Int32), (0 : Int32)) h H locs hG ls (lv_sub hl [3, 4, 2, 1, 0] rfl)
    · have h := if_f (bi_f c_16) h
      refine lv_ldc (v := -1000001) hx hb hown (hts _ wk_X9_67) dX9_meal_19 ?_
      exact hr (pf1 (Option.some.inj h)) (pf2 (Option.some.inj h)) hG dX9_meal_21
  · have h := if_f (bi_f c_4) h
    refine lv_ldc (v := -1000002) hx hb hown (hts _ wk_X9_183) dX9_meal_7 ?_
    exact hr (pf1 (Option.some.inj h)) (pf2 (Option.some.inj h)) hG dX9_meal_9
def f_X9_catches (M : Mem) (x1 : Int32) : Option (Int32 × Mem) :=
  if (f_X9_isBird M x1) = true then (
    (f_X9_flies M 146 x1).bind fun q16 =>
    if q16 = true then (
      nm ((((1 : Int32) <<< (x1 &&& 31)) ^^^ (-1 : Int32))) fun x2_30 =>
      (f_X9_tries M).bind fun q32 =>
      (f_X9_ends q32).bind fun q36 =>
      (f_X9_ones (q36.1 &&& x2_30)).bind fun q41 =>
      (f_X9_tries q36.2).bind fun q46 =>
      (f_X9_turns q46 148 ((1 : Int32) <<< (x1 &&& 31))).bind fun q56 =>
      (f_X9_ends q56).bind fun q61 =>
      (f_X9_ones (q61.1 &&& x2_30)).bind fun q66 =>
      some ((q41 - q66), q61.2)
    ) else (
      some ((-1000002 : Int32), M)
    )
  ) else (
    some ((-1000001 : Int32), M)
  )
theorem e_X9_catches : yX9_catches.cls = RX9 ∧ yX9_catches.cls ≠ "java/lang/invoke/MethodHandle" ∧ yX9_catches.cls ≠ "java/lang/invoke/VarHandle" ∧ (parseMethodDescriptor yX9_catches.desc).map (fun d => d.parameters.length) = some 1 := by decide +kernel
set_option maxHeartbeats 4000000 in
set_option maxRecDepth 100000 in
theorem c_X9_catches (l : Launch) (D : va_G) (cs : Nat → ClassId) (ad : Nat → Nat) (M : Mem) (x1 : Int32) {z : Int32 × Mem} (h : f_X9_catches M x1 = some z) : CtI l yX9_catches cX9_catches 4 .int 5 D cs ad [.ref (ad 140), .int x1] M z.1 z.2 := by
  refine ct_i (own := RX9) (by decide) rfl (Nat.le_of_ble_eq_true rfl) ?_
  intro p e s m args below meth c Q C hr
  have hx := C.1
  have hb := C.2.1
  have hown := C.2.2.2.1
  have hts := C.2.2.2.2.1
  intro H locs hG ls hl
  have hl : lv_has ls 4 [(0, .ref (ad 140)), (1, .int x1)] := hl
  unfold f_X9_catches at h
  refine lv_aload_n hx hb dX9_catches_0 rfl (lv_at hl 0 rfl) ?_
  refine lv_iload_n hx hb dX9_catches_1 rfl (lv_at hl 1 rfl) ?_
  refine g_ci hG (g_runV C hG (gR_9 gk_140) (c_X9_isBird l D cs ad M x1 rfl) wm_X9_187 wi_X9_isBird ws_X9_isBird wz_X9 wc_X9_isBird e_X9_isBird (by decide) hl.1 (Nat.le_of_ble_eq_true rfl) dX9_catches_2) (fun H locs hG => ?_)
  refine lv_if_ne (tgt := 11) hx hb dX9_catches_5 (by decide) (fun c_5 => ?_) (fun c_5 => ?_)
  · have h := if_t (bi_t c_5) h
    refine lv_aload_n hx hb dX9_catches_11 rfl (lv_at hl 0 rfl) ?_
    refine gf_X9_now C hG gk_140 wf_X9_25 dX9_catches_12 ?_
    refine lv_iload_n hx hb dX9_catches_15 rfl (lv_at hl 1 rfl) ?_
    obtain ⟨q16, e_16, h⟩ := bd_e h
    refine g_ci hG (g_runS C hG (c_X9_flies l D cs ad M gk_146 gl_146 x1 e_16) wm_X9_144 wt_X9_flies wz_X9 wc_X9_flies e_X9_flies (by decide) hl.1 (Nat.le_of_ble_eq_true rfl) dX9_catches_16) (fun H locs hG => ?_)
    refine lv_if_ne (tgt := 25) hx hb dX9_catches_19 (by decide) (fun c_19 => ?_) (fun c_19 => ?_)
    · have h := if_t (bi_t c_19) h
      refine lv_iconst (v := 1) hx hb dX9_catches_25 (by decide) ?_
      refine lv_iload_n hx hb dX9_catches_26 rfl (lv_at hl 1 rfl) ?_
      refine lv_ishl hx hb dX9_catches_27 ?_
      refine lv_iconst (v := -1) hx hb dX9_catches_28 (by decide) ?_
      refine lv_ixor hx hb dX9_catches_29 ?_
      refine lv_topi (fun x2_30 e2_30 => ?_)
      have h := nm_at e2_30 h
      refine lv_istore_n (lv' := [(2, .int x2_30), (0, .ref (ad 140)), (1, .int x1)]) hx hb dX9_catches_30 rfl hl (by decide) rfl (fun ls hl => ?_)
      refine lv_aload_n hx hb dX9_catches_31 rfl (lv_at hl 1 rfl) ?_
      obtain ⟨q32, e_32, h⟩ := bd_e h
      refine g_cv hG (g_runV C hG (gR_9 gk_140) (c_X9_tries l D cs ad M e_32) wm_X9_196 wi_X9_tries ws_X9_tries wz_X9 wc_X9_tries e_X9_tries (by decide) hl.1 (Nat.le_of_ble_eq_true rfl) dX9_catches_32) (fun H locs hG => ?_)
      refine lv_aload_n hx hb dX9_catches_35 rfl (lv_at hl 1 rfl) ?_
      obtain ⟨q36, e_36, h⟩ := bd_e h
      refine g_ci hG (g_runV C hG (gR_9 gk_140) (c_X9_ends l D cs ad q32 e_36) wm_X9_199 wi_X9_ends ws_X9_ends wz_X9 wc_X9_ends e_X9_ends (by decide) hl.1 (Nat.le_of_ble_eq_true rfl) dX9_catches_36) (fun H locs hG => ?_)
      refine lv_iload_n hx hb dX9_catches_39 rfl (lv_at hl 0 rfl) ?_
      refine lv_iand hx hb dX9_catches_40 ?_
      obtain ⟨q41, e_41, h⟩ := bd_e h
      refine g_ci hG (g_runS C hG (c_X9_ones l D cs ad q36.2 (q36.1 &&& x2_30) e_41) wm_X9_152 wt_X9_ones wz_X9 wc_X9_ones e_X9_ones (by decide) hl.1 (Nat.le_of_ble_eq_true rfl) dX9_catches_41) (fun H locs hG => ?_)
      refine lv_istore_n (lv' := [(3, .int q41), (2, .int x2_30), (0, .ref (ad 140)), (1, .int x1)]) hx hb dX9_catches_44 rfl hl (by decide) rfl (fun ls hl => ?_)
      refine lv_aload_n hx hb dX9_catches_45 rfl (lv_at hl 2 rfl) ?_
      obtain ⟨q46, e_46, h⟩ := bd_e h
      refine g_cv hG (g_runV C hG (gR_9 gk_140) (c_X9_tries l D cs ad q36.2 e_46) wm_X9_196 wi_X9_tries ws_X9_tries wz_X9 wc_X9_tries e_X9_tries (by decide) hl.1 (Nat.le_of_ble_eq_true rfl) dX9_catches_46) (fun H locs hG => ?_)
      refine lv_aload_n hx hb dX9_catches_49 rfl (lv_at hl 2 rfl) ?_
      refine gf_X9_tried C hG gk_140 wf_X9_31 dX9_catches_50 ?_
      refine lv_iconst (v := 1) hx hb dX9_catches_53 (by decide) ?_
      refine lv_iload_n hx hb dX9_catches_54 rfl (lv_at hl 3 rfl) ?_
      refine lv_ishl hx hb dX9_catches_55 ?_
      obtain ⟨q56, e_56, h⟩ := bd_e h
      refine g_cv hG (g_runS C hG (c_X9_turns l D cs ad q46 gk_148 gl_148 ((1 : Int32) <<< (x1 &&& 31)) e_56) wm_X9_162 wt_X9_turns wz_X9 wc_X9_turns e_X9_turns (by decide) hl.1 (Nat.le_of_ble_eq_true rfl) dX9_catches_56) (fun H locs hG => ?_)
      refine lv_iload_n hx hb dX9_catches_59 rfl (lv_at hl 0 rfl) ?_
      refine lv_aload_n hx hb dX9_catches_60 rfl (lv_at hl 2 rfl) ?_
      obtain ⟨q61, e_61, h⟩ := bd_e h
      refine g_ci hG (g_runV C hG (gR_9 gk_140) (c_X9_ends l D cs ad q56 e_61) wm_X9_199 wi_X9_ends ws_X9_ends wz_X9 wc_X9_ends e_X9_ends (by decide) hl.1 (Nat.le_of_ble_eq_true rfl) dX9_catches_61) (fun H locs hG => ?_)
      refine lv_iload_n hx hb dX9_catches_64 rfl (lv_at hl 1 rfl) ?_
      refine lv_iand hx hb dX9_catches_65 ?_
      obtain ⟨q66, e_66, h⟩ := bd_e h
      refine g_ci hG (g_runS C hG (c_X9_ones l D cs ad q61.2 (q61.1 &&& x2_30) e_66) wm_X9_152 wt_X9_ones wz_X9 wc_X9_ones e_X9_ones (by decide) hl.1 (Nat.le_of_ble_eq_true rfl) dX9_catches_66) (fun H locs hG => ?_)
      refine lv_isub hx hb dX9_catches_69 ?_
      exact hr (pf1 (Option.some.inj h)) (pf2 (Option.some.inj h)) hG dX9_catches_70
    · have h := if_f (bi_f c_19) h
      refine lv_ldc (v := -1000002) hx hb hown (hts _ wk_X9_183) dX9_catches_22 ?_
      exact hr (pf1 (Option.some.inj h)) (pf2 (Option.some.inj h)) hG dX9_catches_24
  · have h := if_f (bi_f c_5) h
    refine lv_ldc (v := -1000001) hx hb hown (hts _ wk_X9_67) dX9_catches_8 ?_
    exact hr (pf1 (Option.some.inj h)) (pf2 (Option.some.inj h)) hG dX9_catches_10
def f_X9_beloved_125 (r30 : (Int32 × Int32 × Int32) → Option Int32) (M : Mem) (x1 : Int32) (x3 : Int32) (x4 : Int32) (x5 : Int32) (s0 : Int32) : Option Int32 :=
  if x5 ≤ x3 then (
    nm (x4 + (1 : Int32)) fun x4_139 =>
    r30 (s0, x3, x4_139)
  ) else (
    nm (x4 + (1 : Int32)) fun x4_139 =>
    r30 (s0, x5, x4_139)
  )
def f_X9_beloved_47 (r30 : (Int32 × Int32 × Int32) → Option Int32) (M : Mem) (x1 : Int32) (x2 : Int32) (x3 : Int32) (x4 : Int32) (r47 : (Int32 × Int32) → Option Int32) (x5 : Int32) (x6 : Int32) : Option Int32 :=
  if (M 146 5) ≤ x6 then (
    if x5 ≤ x3 then (
      f_X9_beloved_125 r30 M x1 x3 x4 x5 x2
    ) else (
      f_X9_beloved_125 r30 M x1 x3 x4 x5 x4
    )
  ) else (
    if x6 = x4 then (
      nm ((x5 + (0 : Int32))) fun x5_105 =>
      nm (x6 + (1 : Int32)) fun x6_107 =>
      r47 (x5_105, x6_107)
    ) else (
      (f_X9_flies M 146 x6).bind fun q73 =>
      if q73 = true then (
        chk (ixb (((21 : Int32) + ((6 : Int32) * x6)) + (3 : Int32)) 57) <|
        if (M 146 (((21 : Int32) + ((6 : Int32) * x6)) + (3 : Int32)).toNatClampNeg) = x4 then (
          nm ((x5 + (1 : Int32))) fun x5_105 =>
          nm (x6 + (1 : Int32)) fun x6_107 =>
          r47 (x5_105, x6_107)
        ) else (
          nm ((x5 + (0 : Int32))) fun x5_105 =>
          nm (x6 + (1 : Int32)) fun x6_107 =>
          r47 (x5_105, x6_107)
        )
      ) else (
        nm ((x5 + (0 : Int32))) fun x5_105 =>
        nm (x6 + (1 : Int32)) fun x6_107 =>
        r47 (x5_105, x6_107)
      )
    )
  )
def f_X9_beloved_30 (M : Mem) (x1 : Int32) (r30 : (Int32 × Int32 × Int32) → Option Int32) (x2 : Int32) (x3 : Int32) (x4 : Int32) : Option Int32 :=
  if (M 146 5) ≤ x4 then (
    if x2 = (-1000000 : Int32) then (
      some x2
    ) else (
      if x1 = (0 : Int32) then (
        some x2
      ) else (
        some x3
      )
    )
  ) else (
    iter (fun rec a => f_X9_beloved_47 r30 M x1 x2 x3 x4 rec a.1 a.2) fuel ((0 : Int32), (0 : Int32))
  )
def f_X9_beloved (M : Mem) (x1 : Int32) : Option Int32 :=
  if (f_X9_isFlight M) = true then (
    if (f_X9_in x1 (0 : Int32) (1 : Int32)) = true then (
      iter (fun rec a => f_X9_beloved_30 M x1 rec a.1 a.2.1 a.2.2) fuel ((-1000000 : Int32), (0 : Int32), (0 : Int32))
    ) else (
      some (-1000001 : Int32)
    )
  ) else (
    some (-1000002 : Int32)
  )
theorem e_X9_beloved : yX9_beloved.cls = RX9 ∧ yX9_beloved.cls ≠ "java/lang/invoke/MethodHandle" ∧ yX9_beloved.cls ≠ "java/lang/invoke/VarHandle" ∧ (parseMethodDescriptor yX9_beloved.desc).map (fun d => d.parameters.length) = some 1 := by decide +kernel
set_option maxHeartbeats 4000000 in
set_option maxRecDepth 100000 in
theorem c_X9_beloved (l : Launch) (D : va_G) (cs : Nat → ClassId) (ad : Nat → Nat) (M : Mem) (x1 : Int32) {z : Int32} (h : f_X9_beloved M x1 = some z) : CtI l yX9_beloved cX9_beloved 7 .int 1 D cs ad [.ref (ad 140), .int x1] M z M := by
  refine ct_i (own := RX9) (by decide) rfl (Nat.le_of_ble_eq_true rfl) ?_
  intro p e s m args below meth c Q C hr
  have hx := C.1
  have hb := C.2.1
  have hown := C.2.2.2.1
  have hts := C.2.2.2.2.1
  have J_125 : ∀ (x1 : Int32) (x3 : Int32) (x4 : Int32) (x5 : Int32) (s0 : Int32) (r30 : (Int32 × Int32 × Int32) → Option Int32) (hr30 : ∀ a, r30 a = some z → GP p l e (rmk 1) s m args below meth c 0 0 Q D cs ad 7 30 [(0, .ref (ad 140)), (1, .int x1), (2, .int a.1), (3, .int a.2.1), (4, .int a.2.2)] [] M), f_X9_beloved_125 r30 M x1 x3 x4 x5 s0 = some z → GP p l e (rmk 1) s m args below meth c 0 0 Q D cs ad 7 125 [(0, .ref (ad 140)), (1, .int x1), (3, .int x3), (4, .int x4), (5, .int x5)] [.int s0] M := by
    intro x1 x3 x4 x5 s0 r30 hr30 h H locs hG ls hl
    unfold f_X9_beloved_125 at h
    refine lv_istore_n (lv' := [(2, .int s0), (0, .ref (ad 140)), (1, .int x1), (3, .int x3), (4, .int x4), (5, .int x5)]) hx hb dX9_beloved_125 rfl hl (by decide) rfl (fun ls hl => ?_)
    refine lv_iload hx hb dX9_beloved_126 (lv_at hl 5 rfl) ?_
    refine lv_iload_n hx hb dX9_beloved_128 rfl (lv_at hl 3 rfl) ?_
    refine lv_icmp_le (tgt := 137) hx hb dX9_beloved_129 (by decide) (fun c_129 => ?_) (fun c_129 => ?_)
    · have h := if_t c_129 h
      refine lv_iload_n hx hb dX9_beloved_137 rfl (lv_at hl 3 rfl) ?_
      refine lv_istore_n (lv' := [(3, .int x3), (2, .int s0), (0, .ref (ad 140)), (1, .int x1), (4, .int x4), (5, .int x5)]) hx hb dX9_beloved_138 rfl hl (by decide) rfl (fun ls hl => ?_)
      obtain ⟨x4_139, e4_139⟩ : ∃ y : Int32, y = x4 + (1 : Int32) := ⟨_, rfl⟩
      have h := nm_at e4_139 h
      refine lv_iinc (v := x4_139) (lv' := [(4, .int x4_139), (3, .int x3), (2, .int s0), (0, .ref (ad 140)), (1, .int x1), (5, .int x5)]) hx hb dX9_beloved_139 hl (k := 4) rfl (by rw [e4_139]; rfl) (by decide) rfl (fun ls hl => ?_)
      refine lv_goto (tgt := 30) hx hb dX9_beloved_142 (by decide) ?_
      exact hr30 (s0, x3, x4_139) h H locs hG ls (lv_sub hl [3, 4, 2, 1, 0] rfl)
    · have h := if_f c_129 h
      refine lv_iload hx hb dX9_beloved_132 (lv_at hl 5 rfl) ?_
      refine lv_goto (tgt := 138) hx hb dX9_beloved_134 (by decide) ?_
      refine lv_istore_n (lv' := [(3, .int x5), (2, .int s0), (0, .ref (ad 140)), (1, .int x1), (4, .int x4), (5, .int x5)]) hx hb dX9_beloved_138 rfl hl (by decide) rfl (fun ls hl => ?_)
      obtain ⟨x4_139, e4_139⟩ : ∃ y : Int32, y = x4 + (1 : Int32) := ⟨_, rfl⟩
      have h := nm_at e4_139 h
      refine lv_iinc (v := x4_139) (lv' := [(4, .int x4_139), (3, .int x5), (2, .int s0), (0, .ref (ad 140)), (1, .int x1), (5, .int x5)]) hx hb dX9_beloved_139 hl (k := 4) rfl (by rw [e4_139]; rfl) (by decide) rfl (fun ls hl => ?_)
      refine lv_goto (tgt := 30) hx hb dX9_beloved_142 (by decide) ?_
      exact hr30 (s0, x5, x4_139) h H locs hG ls (lv_sub hl [3, 4, 2, 1, 0] rfl)
  have J_47 : ∀ (x1 : Int32) (x2 : Int32) (x3 : Int32) (x4 : Int32) (r30 : (Int32 × Int32 × Int32) → Option Int32) (hr30 : ∀ a, r30 a = some z → GP p l e (rmk 1) s m args below meth c 0 0 Q D cs ad 7 30 [(0, .ref (ad 140)), (1, .int x1), (2, .int a.1), (3, .int a.2.1), (4, .int a.2.2)] [] M) (n : Nat) (a : Int32 × Int32), iter (fun rec a => f_X9_beloved_47 r30 M x1 x2 x3 x4 rec a.1 a.2) n a = some z → GP p l e (rmk 1) s m args below meth c 0 0 Q D cs ad 7 47 [(0, .ref (ad 140)), (1, .int x1), (2, .int x2), (3, .int x3), (4, .int x4), (5, .int a.1), (6, .int a.2)] [] M := by
    intro x1 x2 x3 x4 r30 hr30
    refine iter_ind (fun r47 hr47 a h => ?_)
    obtain ⟨x5, x6⟩ := a
    have h : f_X9_beloved_47 r30 M x1 x2 x3 x4 r47 x5 x6 = some z := h
    intro H locs hG ls hl
    have hG : GH D cs ad s M H locs := hG
    have hl : lv_has ls 7 [(0, .ref (ad 140)), (1, .int x1), (2, .int x2), (3, .int x3), (4, .int x4), (5, .int x5), (6, .int x6)] := hl
    unfold f_X9_beloved_47 at h
    refine lv_iload hx hb dX9_beloved_47 (lv_at hl 6 rfl) ?_
    refine lv_aload_n hx hb dX9_beloved_49 rfl (lv_at hl 0 rfl) ?_
    refine gf_X9_now C hG gk_140 wf_X9_25 dX9_beloved_50 ?_
    refine lv_iconst (v := 5) hx hb dX9_beloved_53 (by decide) ?_
    refine g_al (j := 5) C hG gk_146 gl_146 (ixl rfl) (by decide) dX9_beloved_54 ?_
    refine lv_icmp_ge (tgt := 113) hx hb dX9_beloved_55 (by decide) (fun c_55 => ?_) (fun c_55 => ?_)
    · have h := if_t c_55 h
      refine lv_iload hx hb dX9_beloved_113 (lv_at hl 5 rfl) ?_
      refine lv_iload_n hx hb dX9_beloved_115 rfl (lv_at hl 3 rfl) ?_
      refine lv_icmp_le (tgt := 124) hx hb dX9_beloved_116 (by decide) (fun c_116 => ?_) (fun c_116 => ?_)
      · have h := if_t c_116 h
        refine lv_iload_n hx hb dX9_beloved_124 rfl (lv_at hl 2 rfl) ?_
        exact J_125 x1 x3 x4 x5 x2 r30 hr30 h H locs hG ls (lv_sub hl [0, 1, 3, 4, 5] rfl)
      · have h := if_f c_116 h
        refine lv_iload hx hb dX9_beloved_119 (lv_at hl 4 rfl) ?_
        refine lv_goto (tgt := 125) hx hb dX9_beloved_121 (by decide) ?_
        exact J_125 x1 x3 x4 x5 x4 r30 hr30 h H locs hG ls (lv_sub hl [0, 1, 3, 4, 5] rfl)
    · have h := if_f c_55 h
      refine lv_iload hx hb dX9_beloved_58 (lv_at hl 5 rfl) ?_
      refine lv_iload hx hb dX9_beloved_60 (lv_at hl 6 rfl) ?_
      refine lv_iload hx hb dX9_beloved_62 (lv_at hl 4 rfl) ?_
      refine lv_icmp_eq (tgt := 103) hx hb dX9_beloved_64 (by decide) (fun c_64 => ?_) (fun c_64 => ?_)
      · have h := if_t c_64 h
        refine lv_iconst (v := 0) hx hb dX9_beloved_103 (by decide) ?_
        refine lv_iadd hx hb dX9_beloved_104 ?_
        refine lv_topi (fun x5_105 e5_105 => ?_)
        have h := nm_at e5_105 h
        refine lv_istore (lv' := [(5, .int x5_105), (0, .ref (ad 140)), (1, .int x1), (2, .int x2), (3, .int x3), (4, .int x4), (6, .int x6)]) hx hb dX9_beloved_105 hl (by decide) rfl (fun ls hl => ?_)
        obtain ⟨x6_107, e6_107⟩ : ∃ y : Int32, y = x6 + (1 : Int32) := ⟨_, rfl⟩
        have h := nm_at e6_107 h
        refine lv_iinc (v := x6_107) (lv' := [(6, .int x6_107), (5, .int x5_105), (0, .ref (ad 140)), (1, .int x1), (2, .int x2), (3, .int x3), (4, .int x4)]) hx hb dX9_beloved_107 hl (k := 6) rfl (by rw [e6_107]; rfl) (by decide) rfl (fun ls hl => ?_)
        refine lv_goto (tgt := 47) hx hb dX9_beloved_110 (by decide) ?_
        exact hr47 (x5_105, x6_107) h H locs hG ls (lv_sub hl [2, 3, 4, 5, 6, 1, 0] rfl)
      · have h := if_f c_64 h
        refine lv_aload_n hx hb dX9_beloved_67 rfl (lv_at hl 0 rfl) ?_
        refine gf_X9_now C hG gk_140 wf_X9_25 dX9_beloved_68 ?_
        refine lv_iload hx hb dX9_beloved_71 (lv_at hl 6 rfl) ?_
        obtain ⟨q73, e_73, h⟩ := bd_e h
        refine g_ci hG (g_runS C hG (c_X9_flies l D cs ad M gk_146 gl_146 x6 e_73) wm_X9_144 wt_X9_flies wz_X9 wc_X9_flies e_X9_flies (by decide) hl.1 (Nat.le_of_ble_eq_true rfl) dX9_beloved_73) (fun H locs hG => ?_)
        refine lv_if_eq (tgt := 103) hx hb dX9_beloved_76 (by decide) (fun c_76 => ?_) (fun c_76 => ?_)
        · have h := if_f (bi_f c_76) h
          refine lv_iconst (v := 0) hx hb dX9_beloved_103 (by decide) ?_
          refine lv_iadd hx hb dX9_beloved_104 ?_
          refine lv_topi (fun x5_105 e5_105 => ?_)
          have h := nm_at e5_105 h
          refine lv_istore (lv' := [(5, .int x5_105), (0, .ref (ad 140)), (1, .int x1), (2, .int x2), (3, .int x3), (4, .int x4), (6, .int x6)]) hx hb dX9_beloved_105 hl (by decide) rfl (fun ls hl => ?_)
          obtain ⟨x6_107, e6_107⟩ : ∃ y : Int32, y = x6 + (1 : Int32) := ⟨_, rfl⟩
          have h := nm_at e6_107 h
          refine lv_iinc (v := x6_107) (lv' := [(6, .int x6_107), (5, .int x5_105), (0, .ref (ad 140)), (1, .int x1), (2, .int x2), (3, .int x3), (4, .int x4)]) hx hb dX9_beloved_107 hl (k := 6) rfl (by rw [e6_107]; rfl) (by decide) rfl (fun ls hl => ?_)
          refine lv_goto (tgt := 47) hx hb dX9_beloved_110 (by decide) ?_
          exact hr47 (x5_105, x6_107) h H locs hG ls (lv_sub hl [2, 3, 4, 5, 6, 1, 0] rfl)
        · have h := if_t (bi_t c_76) h
          refine lv_aload_n hx hb dX9_beloved_79 rfl (lv_at hl 0 rfl) ?_
          refine gf_X9_now C hG gk_140 wf_X9_25 dX9_beloved_80 ?_
          refine lv_bipush (v := 21) hx hb dX9_beloved_83 (by decide) ?_
          refine lv_bipush (v := 6) hx hb dX9_beloved_85 (by decide) ?_
          refine lv_iload hx hb dX9_beloved_87 (lv_at hl 6 rfl) ?_
          refine lv_imul hx hb dX9_beloved_89 ?_
          refine lv_iadd hx hb dX9_beloved_90 ?_
          refine lv_iconst (v := 3) hx hb dX9_beloved_91 (by decide) ?_
          refine lv_iadd hx hb dX9_beloved_92 ?_
          obtain ⟨hi_93, h⟩ := ix_e h
          refine g_al C hG gk_146 gl_146 hi_93 rfl dX9_beloved_93 ?_
          refine lv_iload hx hb dX9_beloved_94 (lv_at hl 4 rfl) ?_
          refine lv_icmp_ne (tgt := 103) hx hb dX9_beloved_96 (by decide) (fun c_96 => ?_) (fun c_96 => ?_)
          · have h := if_f c_96 h
            refine lv_iconst (v := 0) hx hb dX9_beloved_103 (by decide) ?_
            refine lv_iadd hx hb dX9_beloved_104 ?_
            refine lv_topi (fun x5_105 e5_105 => ?_)
            have h := nm_at e5_105 h
            refine lv_istore (lv' := [(5, .int x5_105), (0, .ref (ad 140)), (1, .int x1), (2, .int x2), (3, .int x3), (4, .int x4), (6, .int x6)]) hx hb dX9_beloved_105 hl (by decide) rfl (fun ls hl => ?_)
            obtain ⟨x6_107, e6_107⟩ : ∃ y : Int32, y = x6 + (1 : Int32) := ⟨_, rfl⟩
            have h := nm_at e6_107 h
            refine lv_iinc (v := x6_107) (lv' := [(6, .int x6_107), (5, .int x5_105), (0, .ref (ad 140)), (1, .int x1), (2, .int x2), (3, .int x3), (4, .int x4)]) hx hb dX9_beloved_107 hl (k := 6) rfl (by rw [e6_107]; rfl) (by decide) rfl (fun ls hl => ?_)
            refine lv_goto (tgt := 47) hx hb dX9_beloved_110 (by decide) ?_
            exact hr47 (x5_105, x6_107) h H locs hG ls (lv_sub hl [2, 3, 4, 5, 6, 1, 0] rfl)
          · have h := if_t c_96 h
            refine lv_iconst (v := 1) hx hb dX9_beloved_99 (by decide) ?_
            refine lv_goto (tgt := 104) hx hb dX9_beloved_100 (by decide) ?_
            refine lv_iadd hx hb dX9_beloved_104 ?_
            refine lv_topi (fun x5_105 e5_105 => ?_)
            have h := nm_at e5_105 h
            refine lv_istore (lv' := [(5, .int x5_105), (0, .ref (ad 140)), (1, .int x1), (2, .int x2), (3, .int x3), (4, .int x4), (6, .int x6)]) hx hb dX9_beloved_105 hl (by decide) rfl (fun ls hl => ?_)
            obtain ⟨x6_107, e6_107⟩ : ∃ y : Int32, y = x6 + (1 : Int32) := ⟨_, rfl⟩
            have h := nm_at e6_107 h
            refine lv_iinc (v := x6_107) (lv' := [(6, .int x6_107), (5, .int x5_105), (0, .ref (ad 140)), (1, .int x1), (2, .int x2), (3, .int x3), (4, .int x4)]) hx hb dX9_beloved_107 hl (k := 6) rfl (by rw [e6_107]; rfl) (by decide) rfl (fun ls hl => ?_)
            refine lv_goto (tgt := 47) hx hb dX9_beloved_110 (by decide) ?_
            exact hr47 (x5_105, x6_107) h H locs hG ls (lv_sub hl [2, 3, 4, 5, 6, 1, 0] rfl)
  have J_30 : ∀ (x1 : Int32) (n : Nat) (a : Int32 × Int32 × Int32), iter (fun rec a => f_X9_beloved_30 M x1 rec a.1 a.2.1 a.2.2) n a = some z → GP p l e (rmk 1) s m args below meth c 0 0 Q D cs ad 7 30 [(0, .ref (ad 140)), (1, .int x1), (2, .int a.1), (3, .int a.2.1), (4, .int a.2.2)] [] M := by
    intro x1
    refine iter_ind (fun r30 hr30 a h => ?_)
    obtain ⟨x2, x3, x4⟩ := a
    have h : f_X9_beloved_30 M x1 r30 x2 x3 x4 = some z := h
    intro H locs hG ls hl
    have hG : GH D cs ad s M H locs := hG
    have hl : lv_has ls 7 [(0, .ref (ad 140)), (1, .int x1), (2, .int x2), (3, .int x3), (4, .int x4)] := hl
    unfold f_X9_beloved_30 at h
    refine lv_iload hx hb dX9_beloved_30 (lv_at hl 4 rfl) ?_
    refine lv_aload_n hx hb dX9_beloved_32 rfl (lv_at hl 0 rfl) ?_
    refine gf_X9_now C hG gk_140 wf_X9_25 dX9_beloved_33 ?_
    refine lv_iconst (v := 5) hx hb dX9_beloved_36 (by decide) ?_
    refine g_al (j := 5) C hG gk_146 gl_146 (ixl rfl) (by decide) dX9_beloved_37 ?_
    refine lv_icmp_ge (tgt := 145) hx hb dX9_beloved_38 (by decide) (fun c_38 => ?_) (fun c_38 => ?_)
    · have h := if_t c_38 h
      refine lv_iload_n hx hb dX9_beloved_145 rfl (lv_at hl 2 rfl) ?_
      refine lv_ldc (v := -1000000) hx hb hown (hts _ wk_X9_53) dX9_beloved_146 ?_
      refine lv_icmp_eq (tgt := 155) hx hb dX9_beloved_148 (by decide) (fun c_148 => ?_) (fun c_148 => ?_)
      · have h := if_t c_148 h
        refine lv_iload_n hx hb dX9_beloved_155 rfl (lv_at hl 2 rfl) ?_
        refine lv_goto (tgt := 160) hx hb dX9_beloved_156 (by decide) ?_
        exact hr (Option.some.inj h) rfl hG dX9_beloved_160
      · have h := if_f c_148 h
        refine lv_iload_n hx hb dX9_beloved_151 rfl (lv_at hl 1 rfl) ?_
        refine lv_if_ne (tgt := 159) hx hb dX9_beloved_152 (by decide) (fun c_152 => ?_) (fun c_152 => ?_)
        · have h := if_f c_152 h
          refine lv_iload_n hx hb dX9_beloved_159 rfl (lv_at hl 3 rfl) ?_
          exact hr (Option.some.inj h) rfl hG dX9_beloved_160
        · have h := if_t c_152 h
          refine lv_iload_n hx hb dX9_beloved_155 rfl (lv_at hl 2 rfl) ?_
          refine lv_goto (tgt := 160) hx hb dX9_beloved_156 (by decide) ?_
          exact hr (Option.some.inj h) rfl hG dX9_beloved_160
    · have h := if_f c_38 h
      refine lv_iconst (v := 0) hx hb dX9_beloved_41 (by decide) ?_
      refine lv_istore (lv' := [(5, .int 0), (0, .ref (ad 140)), (1, .int x1), (2, .int x2), (3, .int x3), (4, .int x4)]) hx hb dX9_beloved_42 hl (by decide) rfl (fun ls hl => ?_)
      refine lv_iconst (v := 0) hx hb dX9_beloved_44 (by decide) ?_
      refine lv_istore (lv' := [(6, .int 0), (5, .int 0), (0, .ref (ad 140)), (1, .int x1), (2, .int x2), (3, .int x3), (4, .int x4)]) hx hb dX9_beloved_45 hl (by decide) rfl (fun ls hl => ?_)
      exact J_47 x1 x2 x3 x4 r30 hr30 _ ((0 : Int32), (0 : Int32)) h H locs hG ls (lv_sub hl [2, 3, 4, 5, 6, 1, 0] rfl)
  intro H locs hG ls hl
  have hl : lv_has ls 7 [(0, .ref (ad 140)), (1, .int x1)] := hl
  unfold f_X9_beloved at h
  refine lv_aload_n hx hb dX9_beloved_0 rfl (lv_at hl 0 rfl) ?_
  refine g_ci hG (g_runV C hG (gR_9 gk_140) (c_X9_isFlight l D cs ad M rfl) wm_X9_180 wi_X9_isFlight ws_X9_isFlight wz_X9 wc_X9_isFlight e_X9_isFlight (by decide) hl.1 (Nat.le_of_ble_eq_true rfl) dX9_beloved_1) (fun H locs hG => ?_)
  refine lv_if_ne (tgt := 10) hx hb dX9_beloved_4 (by decide) (fun c_4 => ?_) (fun c_4 => ?_)
  · have h := if_t (bi_t c_4) h
    refine lv_iload_n hx hb dX9_beloved_10 rfl (lv_at hl 1 rfl) ?_
    refine lv_iconst (v := 0) hx hb dX9_beloved_11 (by decide) ?_
    refine lv_iconst (v := 1) hx hb dX9_beloved_12 (by decide) ?_
    refine g_ci hG (g_runS C hG (c_X9_in l D cs ad M x1 (0 : Int32) (1 : Int32) rfl) wm_X9_59 wt_X9_in wz_X9 wc_X9_in e_X9_in (by decide) hl.1 (Nat.le_of_ble_eq_true rfl) dX9_beloved_13) (fun H locs hG => ?_)
    refine lv_if_ne (tgt := 22) hx hb dX9_beloved_16 (by decide) (fun c_16 => ?_) (fun c_16 => ?_)
    · have h := if_t (bi_t c_16) h
      refine lv_ldc (v := -1000000) hx hb hown (hts _ wk_X9_53) dX9_beloved_22 ?_
      refine lv_istore_n (lv' := [(2, .int (-1000000)), (0, .ref (ad 140)), (1, .int x1)]) hx hb dX9_beloved_24 rfl hl (by decide) rfl (fun ls hl => ?_)
      refine lv_iconst (v := 0) hx hb dX9_beloved_25 (by decide) ?_
      refine lv_istore_n (lv' := [(3, .int 0), (2, .int (-1000000)), (0, .ref (ad 140)), (1, .int x1)]) hx hb dX9_beloved_26 rfl hl (by decide) rfl (fun ls hl => ?_)
      refine lv_iconst (v := 0) hx hb dX9_beloved_27 (by decide) ?_
      refine lv_istore (lv' := [(4, .int 0), (3, .int 0), (2, .int (-1000000)), (0, .ref (ad 140)), (1, .int x1)]) hx hb dX9_beloved_28 hl (by decide) rfl (fun ls hl => ?_)
      exact J_30 x1 _ ((-1000000 : Int32), (0 : Int32), (0 : Int32)) h H locs hG ls (lv_sub hl [3, 4, 2, 1, 0] rfl)
    · have h := if_f (bi_f c_16) h
      refine lv_ldc (v := -1000001) hx hb hown (hts _ wk_X9_67) dX9_beloved_19 ?_
      exact hr (Option.some.inj h) rfl hG dX9_beloved_21
  · have h := if_f (bi_f c_4) h
    refine lv_ldc (v := -1000002) hx hb hown (hts _ wk_X9_183) dX9_beloved_7 ?_
    exact hr (Option.some.inj h) rfl hG dX9_beloved_9
def f_X9_goesSo_5 (x1 : Int32) (x2 : Int32) (r5 : (Mem × Bool × Int32) → Option (Bool × Mem)) (M : Mem) (x3 : Bool) (x4 : Int32) : Option (Bool × Mem) :=
  if x2 ≤ x4 then (
    some (x3, M)
  ) else (
    (f_X9_passes M 148).bind fun q15 =>
    if x3 = true then (
      (f_X9_flying q15 148).bind fun q26 =>
      chk (ixb (x1 + x4) 320) <|
      if q26 = (q15 143 (x1 + x4).toNatClampNeg) then (
        nm (x4 + (1 : Int32)) fun x4_47 =>
        r5 (q15, true, x4_47)
      ) else (
        nm (x4 + (1 : Int32)) fun x4_47 =>
        r5 (q15, false, x4_47)
      )
    ) else (
      nm (x4 + (1 : Int32)) fun x4_47 =>
      r5 (q15, false, x4_47)
    )
  )
def f_X9_goesSo (M : Mem) (x1 : Int32) (x2 : Int32) : Option (Bool × Mem) :=
  iter (fun rec a => f_X9_goesSo_5 x1 x2 rec a.1 a.2.1 a.2.2) fuel (M, true, (0 : Int32))
theorem e_X9_goesSo : yX9_goesSo.cls = RX9 ∧ yX9_goesSo.cls ≠ "java/lang/invoke/MethodHandle" ∧ yX9_goesSo.cls ≠ "java/lang/invoke/VarHandle" ∧ (parseMethodDescriptor yX9_goesSo.desc).map (fun d => d.parameters.length) = some 2 := by decide +kernel
set_option maxHeartbeats 4000000 in
set_option maxRecDepth 100000 in
theorem c_X9_goesSo (l : Launch) (D : va_G) (cs : Nat → ClassId) (ad : Nat → Nat) (M : Mem) (x1 : Int32) (x2 : Int32) {z : Bool × Mem} (h : f_X9_goesSo M x1 x2 = some z) : CtI l yX9_goesSo cX9_goesSo 5 .boolean 4 D cs ad [.ref (ad 140), .int x1, .int x2] M (bi z.1) z.2 := by
  refine ct_z (own := RX9) (by decide) rfl (Nat.le_of_ble_eq_true rfl) ?_
  intro p e s m args below meth c Q C hr
  have hx := C.1
  have hb := C.2.1
  have hown := C.2.2.2.1
  have hts := C.2.2.2.2.1
  have J_5 : ∀ (x1 : Int32) (x2 : Int32) (n : Nat) (a : Mem × Bool × Int32), iter (fun rec a => f_X9_goesSo_5 x1 x2 rec a.1 a.2.1 a.2.2) n a = some z → GP p l e (rmk 4) s m args below meth c 0 0 Q D cs ad 5 5 [(0, .ref (ad 140)), (1, .int x1), (2, .int x2), (3, .int (bi a.2.1)), (4, .int a.2.2)] [] a.1 := by
    intro x1 x2
    refine iter_ind (fun r5 hr5 a h => ?_)
    obtain ⟨M, x3, x4⟩ := a
    have h : f_X9_goesSo_5 x1 x2 r5 M x3 x4 = some z := h
    intro H locs hG ls hl
    have hG : GH D cs ad s M H locs := hG
    have hl : lv_has ls 5 [(0, .ref (ad 140)), (1, .int x1), (2, .int x2), (3, .int (bi x3)), (4, .int x4)] := hl
    unfold f_X9_goesSo_5 at h
    refine lv_iload hx hb dX9_goesSo_5 (lv_at hl 4 rfl) ?_
    refine lv_iload_n hx hb dX9_goesSo_7 rfl (lv_at hl 2 rfl) ?_
    refine lv_icmp_ge (tgt := 53) hx hb dX9_goesSo_8 (by decide) (fun c_8 => ?_) (fun c_8 => ?_)
    · have h := if_t c_8 h
      refine lv_iload_n hx hb dX9_goesSo_53 rfl (lv_at hl 3 rfl) ?_
      exact hr (congrArg bi (pf1 (Option.some.inj h))) (pf2 (Option.some.inj h)) hG dX9_goesSo_54
    · have h := if_f c_8 h
      refine lv_aload_n hx hb dX9_goesSo_11 rfl (lv_at hl 0 rfl) ?_
      refine gf_X9_tried C hG gk_140 wf_X9_31 dX9_goesSo_12 ?_
      obtain ⟨q15, e_15, h⟩ := bd_e h
      refine g_cv hG (g_runS C hG (c_X9_passes l D cs ad M gk_148 gl_148 e_15) wm_X9_173 wt_X9_passes wz_X9 wc_X9_passes e_X9_passes (by decide) hl.1 (Nat.le_of_ble_eq_true rfl) dX9_goesSo_15) (fun H locs hG => ?_)
      refine lv_iload_n hx hb dX9_goesSo_18 rfl (lv_at hl 3 rfl) ?_
      refine lv_if_eq (tgt := 45) hx hb dX9_goesSo_19 (by decide) (fun c_19 => ?_) (fun c_19 => ?_)
      · have h := if_f (bi_f c_19) h
        refine lv_iconst (v := 0) hx hb dX9_goesSo_45 (by decide) ?_
        refine lv_istore_n (lv' := [(3, .int 0), (0, .ref (ad 140)), (1, .int x1), (2, .int x2), (4, .int x4)]) hx hb dX9_goesSo_46 rfl hl (by decide) rfl (fun ls hl => ?_)
        obtain ⟨x4_47, e4_47⟩ : ∃ y : Int32, y = x4 + (1 : Int32) := ⟨_, rfl⟩
        have h := nm_at e4_47 h
        refine lv_iinc (v := x4_47) (lv' := [(4, .int x4_47), (3, .int 0), (0, .ref (ad 140)), (1, .int x1), (2, .int x2)]) hx hb dX9_goesSo_47 hl (k := 4) rfl (by rw [e4_47]; rfl) (by decide) rfl (fun ls hl => ?_)
        refine lv_goto (tgt := 5) hx hb dX9_goesSo_50 (by decide) ?_
        exact hr5 (q15, false, x4_47) h H locs hG ls (lv_sub hl [2, 3, 4, 1, 0] rfl)
      · have h := if_t (bi_t c_19) h
        refine lv_aload_n hx hb dX9_goesSo_22 rfl (lv_at hl 0 rfl) ?_
        refine gf_X9_tried C hG gk_140 wf_X9_31 dX9_goesSo_23 ?_
        obtain ⟨q26, e_26, h⟩ := bd_e h
        refine g_ci hG (g_runS C hG (c_X9_flying l D cs ad q15 gk_148 gl_148 e_26) wm_X9_177 wt_X9_flying wz_X9 wc_X9_flying e_X9_flying (by decide) hl.1 (Nat.le_of_ble_eq_true rfl) dX9_goesSo_26) (fun H locs hG => ?_)
        refine lv_aload_n hx hb dX9_goesSo_29 rfl (lv_at hl 0 rfl) ?_
        refine gf_X9_items C hG gk_140 wf_X9_16 dX9_goesSo_30 ?_
        refine lv_iload_n hx hb dX9_goesSo_33 rfl (lv_at hl 1 rfl) ?_
        refine lv_iload hx hb dX9_goesSo_34 (lv_at hl 4 rfl) ?_
        refine lv_iadd hx hb dX9_goesSo_36 ?_
        obtain ⟨hi_37, h⟩ := ix_e h
        refine g_al C hG gk_143 gl_143 hi_37 rfl dX9_goesSo_37 ?_
        refine lv_icmp_ne (tgt := 45) hx hb dX9_goesSo_38 (by decide) (fun c_38 => ?_) (fun c_38 => ?_)
        · have h := if_f c_38 h
          refine lv_iconst (v := 0) hx hb dX9_goesSo_45 (by decide) ?_
          refine lv_istore_n (lv' := [(3, .int 0), (0, .ref (ad 140)), (1, .int x1), (2, .int x2), (4, .int x4)]) hx hb dX9_goesSo_46 rfl hl (by decide) rfl (fun ls hl => ?_)
          obtain ⟨x4_47, e4_47⟩ : ∃ y : Int32, y = x4 + (1 : Int32) := ⟨_, rfl⟩
          have h := nm_at e4_47 h
          refine lv_iinc (v := x4_47) (lv' := [(4, .int x4_47), (3, .int 0), (0, .ref (ad 140)), (1, .int x1), (2, .int x2)]) hx hb dX9_goesSo_47 hl (k := 4) rfl (by rw [e4_47]; rfl) (by decide) rfl (fun ls hl => ?_)
          refine lv_goto (tgt := 5) hx hb dX9_goesSo_50 (by decide) ?_
          exact hr5 (q15, false, x4_47) h H locs hG ls (lv_sub hl [2, 3, 4, 1, 0] rfl)
        · have h := if_t c_38 h
          refine lv_iconst (v := 1) hx hb dX9_goesSo_41 (by decide) ?_
          refine lv_goto (tgt := 46) hx hb dX9_goesSo_42 (by decide) ?_
          refine lv_istore_n (lv' := [(3, .int 1), (0, .ref (ad 140)), (1, .int x1), (2, .int x2), (4, .int x4)]) hx hb dX9_goesSo_46 rfl hl (by decide) rfl (fun ls hl => ?_)
          obtain ⟨x4_47, e4_47⟩ : ∃ y : Int32, y = x4 + (1 : Int32) := ⟨_, rfl⟩
          have h := nm_at e4_47 h
          refine lv_iinc (v := x4_47) (lv' := [(4, .int x4_47), (3, .int 1), (0, .ref (ad 140)), (1, .int x1), (2, .int x2)]) hx hb dX9_goesSo_47 hl (k := 4) rfl (by rw [e4_47]; rfl) (by decide) rfl (fun ls hl => ?_)
          refine lv_goto (tgt := 5) hx hb dX9_goesSo_50 (by decide) ?_
          exact hr5 (q15, true, x4_47) h H locs hG ls (lv_sub hl [2, 3, 4, 1, 0] rfl)
  intro H locs hG ls hl
  have hl : lv_has ls 5 [(0, .ref (ad 140)), (1, .int x1), (2, .int x2)] := hl
  unfold f_X9_goesSo at h
  refine lv_iconst (v := 1) hx hb dX9_goesSo_0 (by decide) ?_
  refine lv_istore_n (lv' := [(3, .int 1), (0, .ref (ad 140)), (1, .int x1), (2, .int x2)]) hx hb dX9_goesSo_1 rfl hl (by decide) rfl (fun ls hl => ?_)
  refine lv_iconst (v := 0) hx hb dX9_goesSo_2 (by decide) ?_
  refine lv_istore (lv' := [(4, .int 0), (3, .int 1), (0, .ref (ad 140)), (1, .int x1), (2, .int x2)]) hx hb dX9_goesSo_3 hl (by decide) rfl (fun ls hl => ?_)
  exact J_5 x1 x2 _ (M, true, (0 : Int32)) h H locs hG ls (lv_sub hl [2, 3, 4, 1, 0] rfl)
def f_X9_fits_127 (x2 : Int32) (x3 : Int32) (x4 : Int32) (x6 : Int32) (x8 : Int32) (r127 : (Mem × Int32 × Int32) → Option (Int32 × Mem)) (M : Mem) (x9 : Int32) (x10 : Int32) : Option (Int32 × Mem) :=
  if x8 < x10 then (
    nm (f_X9_well M x9) fun q184 =>
    some (q184.1, q184.2)
  ) else (
    (f_X9_tries M).bind fun q135 =>
    chk (ixb x6 57) <|
    nm (st q135 148 x6.toNatClampNeg x10) fun M146 =>
    (f_X9_goesSo M146 (((40 : Int32) * x2) + x3) x4).bind fun q158 =>
    if q158.1 = true then (
      nm ((x9 ||| ((1 : Int32) <<< (x10 &&& 31)))) fun x9_173 =>
      nm (x10 + (1 : Int32)) fun x10_175 =>
      r127 (q158.2, x9_173, x10_175)
    ) else (
      nm ((x9 ||| (0 : Int32))) fun x9_173 =>
      nm (x10 + (1 : Int32)) fun x10_175 =>
      r127 (q158.2, x9_173, x10_175)
    )
  )
def f_X9_fits_105 (M : Mem) (x2 : Int32) (x3 : Int32) (x4 : Int32) (x5 : Int32) (x6 : Int32) (s0 : Bool) : Option (Int32 × Mem) :=
  if x5 = (0 : Int32) then (
    iter (fun rec a => f_X9_fits_127 x2 x3 x4 x6 (5 : Int32) rec a.1 a.2.1 a.2.2) fuel (M, (0 : Int32), (bi s0))
  ) else (
    iter (fun rec a => f_X9_fits_127 x2 x3 x4 x6 (6 : Int32) rec a.1 a.2.1 a.2.2) fuel (M, (0 : Int32), (bi s0))
  )
def f_X9_fits_92 (M : Mem) (x2 : Int32) (x3 : Int32) (x4 : Int32) (x5 : Int32) (s0 : Int32) (s1 : Int32) : Option (Int32 × Mem) :=
  nm ((s0 + s1)) fun x6_93 =>
  if x5 = (0 : Int32) then (
    f_X9_fits_105 M x2 x3 x4 x5 x6_93 true
  ) else (
    f_X9_fits_105 M x2 x3 x4 x5 x6_93 false
  )
def f_X9_fits (M : Mem) (x1 : Int32) (x2 : Int32) (x3 : Int32) (x4 : Int32) (x5 : Int32) : Option (Int32 × Mem) :=
  if (f_X9_isBird M x1) = true then (
    if (f_X9_isRow x2) = true then (
      if (f_X9_in x4 (1 : Int32) (f_X9_left M 146)) = true then (
        if (f_X9_in x5 (0 : Int32) (1 : Int32)) = true then (
          (f_X9_isMissing M x2).bind fun q46 =>
          if q46 = true then (
            nm (f_X9_found M (1 : Int32)) fun q54 =>
            some (q54.1, q54.2)
          ) else (
            (f_X9_isPart M x2 x3 x4).bind fun q63 =>
            if q63 = true then (
              if x5 = (0 : Int32) then (
                f_X9_fits_92 M x2 x3 x4 x5 ((21 : Int32) + ((6 : Int32) * x1)) (0 : Int32)
              ) else (
                f_X9_fits_92 M x2 x3 x4 x5 ((21 : Int32) + ((6 : Int32) * x1)) (2 : Int32)
              )
            ) else (
              nm (f_X9_found M (2 : Int32)) fun q71 =>
              some (q71.1, q71.2)
            )
          )
        ) else (
          some ((-1000001 : Int32), M)
        )
      ) else (
        some ((-1000001 : Int32), M)
      )
    ) else (
      some ((-1000001 : Int32), M)
    )
  ) else (
    some ((-1000001 : Int32), M)
  )
theorem e_X9_fits : yX9_fits.cls = RX9 ∧ yX9_fits.cls ≠ "java/lang/invoke/MethodHandle" ∧ yX9_fits.cls ≠ "java/lang/invoke/VarHandle" ∧ (parseMethodDescriptor yX9_fits.desc).map (fun d => d.parameters.length) = some 5 := by decide +kernel
set_option maxHeartbeats 4000000 in
set_option maxRecDepth 100000 in
theorem c_X9_fits (l : Launch) (D : va_G) (cs : Nat → ClassId) (ad : Nat → Nat) (M : Mem) (x1 : Int32) (x2 : Int32) (x3 : Int32) (x4 : Int32) (x5 : Int32) {z : Int32 × Mem} (h : f_X9_fits M x1 x2 x3 x4 x5 = some z) : CtI l yX9_fits cX9_fits 11 .int 5 D cs ad [.ref (ad 140), .int x1, .int x2, .int x3, .int x4, .int x5] M z.1 z.2 := by
  refine ct_i (own := RX9) (by decide) rfl (Nat.le_of_ble_eq_true rfl) ?_
  intro p e s m args below meth c Q C hr
  have hx := C.1
  have hb := C.2.1
  have hown := C.2.2.2.1
  have hts := C.2.2.2.2.1
  have J_127 : ∀ (x2 : Int32) (x3 : Int32) (x4 : Int32) (x6 : Int32) (x8 : Int32) (n : Nat) (a : Mem × Int32 × Int32), iter (fun rec a => f_X9_fits_127 x2 x3 x4 x6 x8 rec a.1 a.2.1 a.2.2) n a = some z → GP p l e (rmk 5) s m args below meth c 0 0 Q D cs ad 11 127 [(0, .ref (ad 140)), (2, .int x2), (3, .int x3), (4, .int x4), (6, .int x6), (8, .int x8), (9, .int a.2.1), (10, .int a.2.2)] [] a.1 := by
    intro x2 x3 x4 x6 x8
    refine iter_ind (fun r127 hr127 a h => ?_)
    obtain ⟨M, x9, x10⟩ := a
    have h : f_X9_fits_127 x2 x3 x4 x6 x8 r127 M x9 x10 = some z := h
    intro H locs hG ls hl
    have hG : GH D cs ad s M H locs := hG
    have hl : lv_has ls 11 [(0, .ref (ad 140)), (2, .int x2), (3, .int x3), (4, .int x4), (6, .int x6), (8, .int x8), (9, .int x9), (10, .int x10)] := hl
    unfold f_X9_fits_127 at h
    refine lv_iload hx hb dX9_fits_127 (lv_at hl 7 rfl) ?_
    refine lv_iload hx hb dX9_fits_129 (lv_at hl 5 rfl) ?_
    refine lv_icmp_gt (tgt := 181) hx hb dX9_fits_131 (by decide) (fun c_131 => ?_) (fun c_131 => ?_)
    · have h := if_t c_131 h
      refine lv_aload_n hx hb dX9_fits_181 rfl (lv_at hl 0 rfl) ?_
      refine lv_iload hx hb dX9_fits_182 (lv_at hl 6 rfl) ?_
      obtain ⟨q184, e_184⟩ : ∃ y, f_X9_well M x9 = y := ⟨_, rfl⟩
      have h := nm_at e_184.symm h
      refine g_ci hG (g_runV C hG (gR_9 gk_140) (c_X9_well l D cs ad M x9 e_184) wm_X9_72 wi_X9_well ws_X9_well wz_X9 wc_X9_well e_X9_well (by decide) hl.1 (Nat.le_of_ble_eq_true rfl) dX9_fits_184) (fun H locs hG => ?_)
      exact hr (pf1 (Option.some.inj h)) (pf2 (Option.some.inj h)) hG dX9_fits_187
    · have h := if_f c_131 h
      refine lv_aload_n hx hb dX9_fits_134 rfl (lv_at hl 0 rfl) ?_
      obtain ⟨q135, e_135, h⟩ := bd_e h
      refine g_cv hG (g_runV C hG (gR_9 gk_140) (c_X9_tries l D cs ad M e_135) wm_X9_196 wi_X9_tries ws_X9_tries wz_X9 wc_X9_tries e_X9_tries (by decide) hl.1 (Nat.le_of_ble_eq_true rfl) dX9_fits_135) (fun H locs hG => ?_)
      refine lv_aload_n hx hb dX9_fits_138 rfl (lv_at hl 0 rfl) ?_
      refine gf_X9_tried C hG gk_140 wf_X9_31 dX9_fits_139 ?_
      refine lv_iload hx hb dX9_fits_142 (lv_at hl 4 rfl) ?_
      refine lv_iload hx hb dX9_fits_144 (lv_at hl 7 rfl) ?_
      obtain ⟨hi_146, h⟩ := ix_e h
      refine g_as C hG gk_148 gl_148 hi_146 rfl dX9_fits_146 (fun M146 e_146 H locs hG => ?_)
      have h := nm_at e_146 h
      refine lv_iload hx hb dX9_fits_147 (lv_at hl 6 rfl) ?_
      refine lv_aload_n hx hb dX9_fits_149 rfl (lv_at hl 0 rfl) ?_
      refine lv_bipush (v := 40) hx hb dX9_fits_150 (by decide) ?_
      refine lv_iload_n hx hb dX9_fits_152 rfl (lv_at hl 1 rfl) ?_
      refine lv_imul hx hb dX9_fits_153 ?_
      refine lv_iload_n hx hb dX9_fits_154 rfl (lv_at hl 2 rfl) ?_
      refine lv_iadd hx hb dX9_fits_155 ?_
      refine lv_iload hx hb dX9_fits_156 (lv_at hl 3 rfl) ?_
      obtain ⟨q158, e_158, h⟩ := bd_e h
      refine g_ci hG (g_runV C hG (gR_9 gk_140) (c_X9_goesSo l D cs ad M146 (((40 : Int32) * x2) + x3) x4 e_158) wm_X9_209 wi_X9_goesSo ws_X9_goesSo wz_X9 wc_X9_goesSo e_X9_goesSo (by decide) hl.1 (Nat.le_of_ble_eq_true rfl) dX9_fits_158) (fun H locs hG => ?_)
      refine lv_if_eq (tgt := 171) hx hb dX9_fits_161 (by decide) (fun c_161 => ?_) (fun c_161 => ?_)
      · have h := if_f (bi_f c_161) h
        refine lv_iconst (v := 0) hx hb dX9_fits_171 (by decide) ?_
        refine lv_ior hx hb dX9_fits_172 ?_
        refine lv_topi (fun x9_173 e9_173 => ?_)
        have h := nm_at e9_173 h
        refine lv_istore (lv' := [(9, .int x9_173), (0, .ref (ad 140)), (2, .int x2), (3, .int x3), (4, .int x4), (6, .int x6), (8, .int x8), (10, .int x10)]) hx hb dX9_fits_173 hl (by decide) rfl (fun ls hl => ?_)
        obtain ⟨x10_175, e10_175⟩ : ∃ y : Int32, y = x10 + (1 : Int32) := ⟨_, rfl⟩
        have h := nm_at e10_175 h
        refine lv_iinc (v := x10_175) (lv' := [(10, .int x10_175), (9, .int x9_173), (0, .ref (ad 140)), (2, .int x2), (3, .int x3), (4, .int x4), (6, .int x6), (8, .int x8)]) hx hb dX9_fits_175 hl (k := 7) rfl (by rw [e10_175]; rfl) (by decide) rfl (fun ls hl => ?_)
        refine lv_goto (tgt := 127) hx hb dX9_fits_178 (by decide) ?_
        exact hr127 (q158.2, x9_173, x10_175) h H locs hG ls (lv_sub hl [2, 3, 4, 5, 6, 7, 1, 0] rfl)
      · have h := if_t (bi_t c_161) h
        refine lv_iconst (v := 1) hx hb dX9_fits_164 (by decide) ?_
        refine lv_iload hx hb dX9_fits_165 (lv_at hl 7 rfl) ?_
        refine lv_ishl hx hb dX9_fits_167 ?_
        refine lv_goto (tgt := 172) hx hb dX9_fits_168 (by decide) ?_
        refine lv_ior hx hb dX9_fits_172 ?_
        refine lv_topi (fun x9_173 e9_173 => ?_)
        have h := nm_at e9_173 h
        refine lv_istore (lv' := [(9, .int x9_173), (0, .ref (ad 140)), (2, .int x2), (3, .int x3), (4, .int x4), (6, .int x6), (8, .int x8), (10, .int x10)]) hx hb dX9_fits_173 hl (by decide) rfl (fun ls hl => ?_)
        obtain ⟨x10_175, e10_175⟩ : ∃ y : Int32, y = x10 + (1 : Int32) := ⟨_, rfl⟩
        have h := nm_at e10_175 h
        refine lv_iinc (v := x10_175) (lv' := [(10, .int x10_175), (9, .int x9_173), (0, .ref (ad 140)), (2, .int x2), (3, .int x3), (4, .int x4), (6, .int x6), (8, .int x8)]) hx hb dX9_fits_175 hl (k := 7) rfl (by rw [e10_175]; rfl) (by decide) rfl (fun ls hl => ?_)
        refine lv_goto (tgt := 127) hx hb dX9_fits_178 (by decide) ?_
        exact hr127 (q158.2, x9_173, x10_175) h H locs hG ls (lv_sub hl [2, 3, 4, 5, 6, 7, 1, 0] rfl)
  have J_105 : ∀ (M : Mem) (x2 : Int32) (x3 : Int32) (x4 : Int32) (x5 : Int32) (x6 : Int32) (s0 : Bool), f_X9_fits_105 M x2 x3 x4 x5 x6 s0 = some z → GP p l e (rmk 5) s m args below meth c 0 0 Q D cs ad 11 105 [(0, .ref (ad 140)), (2, .int x2), (3, .int x3), (4, .int x4), (5, .int x5), (6, .int x6)] [.int (bi s0)] M := by
    intro M x2 x3 x4 x5 x6 s0 h H locs hG ls hl
    unfold f_X9_fits_105 at h
    refine lv_istore (lv' := [(7, .int (bi s0)), (0, .ref (ad 140)), (2, .int x2), (3, .int x3), (4, .int x4), (5, .int x5), (6, .int x6)]) hx hb dX9_fits_105 hl (by decide) rfl (fun ls hl => ?_)
    refine lv_iload hx hb dX9_fits_107 (lv_at hl 5 rfl) ?_
    refine lv_if_ne (tgt := 116) hx hb dX9_fits_109 (by decide) (fun c_109 => ?_) (fun c_109 => ?_)
    · have h := if_f c_109 h
      refine lv_bipush (v := 6) hx hb dX9_fits_116 (by decide) ?_
      refine lv_istore (lv' := [(8, .int 6), (7, .int (bi s0)), (0, .ref (ad 140)), (2, .int x2), (3, .int x3), (4, .int x4), (5, .int x5), (6, .int x6)]) hx hb dX9_fits_118 hl (by decide) rfl (fun ls hl => ?_)
      refine lv_iconst (v := 0) hx hb dX9_fits_120 (by decide) ?_
      refine lv_istore (lv' := [(9, .int 0), (8, .int 6), (7, .int (bi s0)), (0, .ref (ad 140)), (2, .int x2), (3, .int x3), (4, .int x4), (5, .int x5), (6, .int x6)]) hx hb dX9_fits_121 hl (by decide) rfl (fun ls hl => ?_)
      refine lv_iload hx hb dX9_fits_123 (lv_at hl 2 rfl) ?_
      refine lv_istore (lv' := [(10, .int (bi s0)), (9, .int 0), (8, .int 6), (7, .int (bi s0)), (0, .ref (ad 140)), (2, .int x2), (3, .int x3), (4, .int x4), (5, .int x5), (6, .int x6)]) hx hb dX9_fits_125 hl (by decide) rfl (fun ls hl => ?_)
      exact J_127 x2 x3 x4 x6 (6 : Int32) _ (M, (0 : Int32), (bi s0)) h H locs hG ls (lv_sub hl [4, 5, 6, 7, 9, 2, 1, 0] rfl)
    · have h := if_t c_109 h
      refine lv_iconst (v := 5) hx hb dX9_fits_112 (by decide) ?_
      refine lv_goto (tgt := 118) hx hb dX9_fits_113 (by decide) ?_
      refine lv_istore (lv' := [(8, .int 5), (7, .int (bi s0)), (0, .ref (ad 140)), (2, .int x2), (3, .int x3), (4, .int x4), (5, .int x5), (6, .int x6)]) hx hb dX9_fits_118 hl (by decide) rfl (fun ls hl => ?_)
      refine lv_iconst (v := 0) hx hb dX9_fits_120 (by decide) ?_
      refine lv_istore (lv' := [(9, .int 0), (8, .int 5), (7, .int (bi s0)), (0, .ref (ad 140)), (2, .int x2), (3, .int x3), (4, .int x4), (5, .int x5), (6, .int x6)]) hx hb dX9_fits_121 hl (by decide) rfl (fun ls hl => ?_)
      refine lv_iload hx hb dX9_fits_123 (lv_at hl 2 rfl) ?_
      refine lv_istore (lv' := [(10, .int (bi s0)), (9, .int 0), (8, .int 5), (7, .int (bi s0)), (0, .ref (ad 140)), (2, .int x2), (3, .int x3), (4, .int x4), (5, .int x5), (6, .int x6)]) hx hb dX9_fits_125 hl (by decide) rfl (fun ls hl => ?_)
      exact J_127 x2 x3 x4 x6 (5 : Int32) _ (M, (0 : Int32), (bi s0)) h H locs hG ls (lv_sub hl [4, 5, 6, 7, 9, 2, 1, 0] rfl)
  have J_92 : ∀ (M : Mem) (x2 : Int32) (x3 : Int32) (x4 : Int32) (x5 : Int32) (s0 : Int32) (s1 : Int32), f_X9_fits_92 M x2 x3 x4 x5 s0 s1 = some z → GP p l e (rmk 5) s m args below meth c 0 0 Q D cs ad 11 92 [(0, .ref (ad 140)), (2, .int x2), (3, .int x3), (4, .int x4), (5, .int x5)] [.int s1, .int s0] M := by
    intro M x2 x3 x4 x5 s0 s1 h H locs hG ls hl
    unfold f_X9_fits_92 at h
    refine lv_iadd hx hb dX9_fits_92 ?_
    refine lv_topi (fun x6_93 e6_93 => ?_)
    have h := nm_at e6_93 h
    refine lv_istore (lv' := [(6, .int x6_93), (0, .ref (ad 140)), (2, .int x2), (3, .int x3), (4, .int x4), (5, .int x5)]) hx hb dX9_fits_93 hl (by decide) rfl (fun ls hl => ?_)
    refine lv_iload hx hb dX9_fits_95 (lv_at hl 5 rfl) ?_
    refine lv_if_ne (tgt := 104) hx hb dX9_fits_97 (by decide) (fun c_97 => ?_) (fun c_97 => ?_)
    · have h := if_f c_97 h
      refine lv_iconst (v := 0) hx hb dX9_fits_104 (by decide) ?_
      exact J_105 M x2 x3 x4 x5 x6_93 false h H locs hG ls (lv_sub hl [1, 2, 3, 4, 5, 0] rfl)
    · have h := if_t c_97 h
      refine lv_iconst (v := 1) hx hb dX9_fits_100 (by decide) ?_
      refine lv_goto (tgt := 105) hx hb dX9_fits_101 (by decide) ?_
      exact J_105 M x2 x3 x4 x5 x6_93 true h H locs hG ls (lv_sub hl [1, 2, 3, 4, 5, 0] rfl)
  intro H locs hG ls hl
  have hl : lv_has ls 11 [(0, .ref (ad 140)), (1, .int x1), (2, .int x2), (3, .int x3), (4, .int x4), (5, .int x5)] := hl
  unfold f_X9_fits at h
  refine lv_aload_n hx hb dX9_fits_0 rfl (lv_at hl 0 rfl) ?_
  refine lv_iload_n hx hb dX9_fits_1 rfl (lv_at hl 1 rfl) ?_
  refine g_ci hG (g_runV C hG (gR_9 gk_140) (c_X9_isBird l D cs ad M x1 rfl) wm_X9_187 wi_X9_isBird ws_X9_isBird wz_X9 wc_X9_isBird e_X9_isBird (by decide) hl.1 (Nat.le_of_ble_eq_true rfl) dX9_fits_2) (fun H locs hG => ?_)
  refine lv_if_eq (tgt := 41) hx hb dX9_fits_5 (by decide) (fun c_5 => ?_) (fun c_5 => ?_)
  · have h := if_f (bi_f c_5) h
    refine lv_ldc (v := -1000001) hx hb hown (hts _ wk_X9_67) dX9_fits_41 ?_
    exact hr (pf1 (Option.some.inj h)) (pf2 (Option.some.inj h)) hG dX9_fits_43
  · have h := if_t (bi_t c_5) h
    refine lv_iload_n hx hb dX9_fits_8 rfl (lv_at hl 2 rfl) ?_
    refine g_ci hG (g_runS C hG (c_X9_isRow l D cs ad M x2 rfl) wm_X9_63 wt_X9_isRow wz_X9 wc_X9_isRow e_X9_isRow (by decide) hl.1 (Nat.le_of_ble_eq_true rfl) dX9_fits_9) (fun H locs hG => ?_)
    refine lv_if_eq (tgt := 41) hx hb dX9_fits_12 (by decide) (fun c_12 => ?_) (fun c_12 => ?_)
    · have h := if_f (bi_f c_12) h
      refine lv_ldc (v := -1000001) hx hb hown (hts _ wk_X9_67) dX9_fits_41 ?_
      exact hr (pf1 (Option.some.inj h)) (pf2 (Option.some.inj h)) hG dX9_fits_43
    · have h := if_t (bi_t c_12) h
      refine lv_iload hx hb dX9_fits_15 (lv_at hl 4 rfl) ?_
      refine lv_iconst (v := 1) hx hb dX9_fits_17 (by decide) ?_
      refine lv_aload_n hx hb dX9_fits_18 rfl (lv_at hl 0 rfl) ?_
      refine gf_X9_now C hG gk_140 wf_X9_25 dX9_fits_19 ?_
      refine g_ci hG (g_runS C hG (c_X9_left l D cs ad M gk_146 gl_146 rfl) wm_X9_170 wt_X9_left wz_X9 wc_X9_left e_X9_left (by decide) hl.1 (Nat.le_of_ble_eq_true rfl) dX9_fits_22) (fun H locs hG => ?_)
      refine g_ci hG (g_runS C hG (c_X9_in l D cs ad M x4 (1 : Int32) (f_X9_left M 146) rfl) wm_X9_59 wt_X9_in wz_X9 wc_X9_in e_X9_in (by decide) hl.1 (Nat.le_of_ble_eq_true rfl) dX9_fits_25) (fun H locs hG => ?_)
      refine lv_if_eq (tgt := 41) hx hb dX9_fits_28 (by decide) (fun c_28 => ?_) (fun c_28 => ?_)
      · have h := if_f (bi_f c_28) h
        refine lv_ldc (v := -1000001) hx hb hown (hts _ wk_X9_67) dX9_fits_41 ?_
        exact hr (pf1 (Option.some.inj h)) (pf2 (Option.some.inj h)) hG dX9_fits_43
      · have h := if_t (bi_t c_28) h
        refine lv_iload hx hb dX9_fits_31 (lv_at hl 5 rfl) ?_
        refine lv_iconst (v := 0) hx hb dX9_fits_33 (by decide) ?_
        refine lv_iconst (v := 1) hx hb dX9_fits_34 (by decide) ?_
        refine g_ci hG (g_runS C hG (c_X9_in l D cs ad M x5 (0 : Int32) (1 : Int32) rfl) wm_X9_59 wt_X9_in wz_X9 wc_X9_in e_X9_in (by decide) hl.1 (Nat.le_of_ble_eq_true rfl) dX9_fits_35) (fun H locs hG => ?_)
        refine lv_if_ne (tgt := 44) hx hb dX9_fits_38 (by decide) (fun c_38 => ?_) (fun c_38 => ?_)
        · have h := if_t (bi_t c_38) h
          refine lv_aload_n hx hb dX9_fits_44 rfl (lv_at hl 0 rfl) ?_
          refine lv_iload_n hx hb dX9_fits_45 rfl (lv_at hl 2 rfl) ?_
          obtain ⟨q46, e_46, h⟩ := bd_e h
          refine g_ci hG (g_runV C hG (gR_9 gk_140) (c_X9_isMissing l D cs ad M x2 e_46) wm_X9_75 wi_X9_isMissing ws_X9_isMissing wz_X9 wc_X9_isMissing e_X9_isMissing (by decide) hl.1 (Nat.le_of_ble_eq_true rfl) dX9_fits_46) (fun H locs hG => ?_)
          refine lv_if_eq (tgt := 58) hx hb dX9_fits_49 (by decide) (fun c_49 => ?_) (fun c_49 => ?_)
          · have h := if_f (bi_f c_49) h
            refine lv_aload_n hx hb dX9_fits_58 rfl (lv_at hl 0 rfl) ?_
            refine lv_iload_n hx hb dX9_fits_59 rfl (lv_at hl 2 rfl) ?_
            refine lv_iload_n hx hb dX9_fits_60 rfl (lv_at hl 3 rfl) ?_
            refine lv_iload hx hb dX9_fits_61 (lv_at hl 4 rfl) ?_
            obtain ⟨q63, e_63, h⟩ := bd_e h
            refine g_ci hG (g_runV C hG (gR_9 gk_140) (c_X9_isPart l D cs ad M x2 x3 x4 e_63) wm_X9_82 wi_X9_isPart ws_X9_isPart wz_X9 wc_X9_isPart e_X9_isPart (by decide) hl.1 (Nat.le_of_ble_eq_true rfl) dX9_fits_63) (fun H locs hG => ?_)
            refine lv_if_ne (tgt := 75) hx hb dX9_fits_66 (by decide) (fun c_66 => ?_) (fun c_66 => ?_)
            · have h := if_t (bi_t c_66) h
              refine lv_bipush (v := 21) hx hb dX9_fits_75 (by decide) ?_
              refine lv_bipush (v := 6) hx hb dX9_fits_77 (by decide) ?_
              refine lv_iload_n hx hb dX9_fits_79 rfl (lv_at hl 1 rfl) ?_
              refine lv_imul hx hb dX9_fits_80 ?_
              refine lv_iadd hx hb dX9_fits_81 ?_
              refine lv_iload hx hb dX9_fits_82 (lv_at hl 5 rfl) ?_
              refine lv_if_ne (tgt := 91) hx hb dX9_fits_84 (by decide) (fun c_84 => ?_) (fun c_84 => ?_)
              · have h := if_f c_84 h
                refine lv_iconst (v := 2) hx hb dX9_fits_91 (by decide) ?_
                exact J_92 M x2 x3 x4 x5 ((21 : Int32) + ((6 : Int32) * x1)) (2 : Int32) h H locs hG ls (lv_sub hl [0, 2, 3, 4, 5] rfl)
              · have h := if_t c_84 h
                refine lv_iconst (v := 0) hx hb dX9_fits_87 (by decide) ?_
                refine lv_goto (tgt := 92) hx hb dX9_fits_88 (by decide) ?_
                exact J_92 M x2 x3 x4 x5 ((21 : Int32) + ((6 : Int32) * x1)) (0 : Int32) h H locs hG ls (lv_sub hl [0, 2, 3, 4, 5] rfl)
            · have h := if_f (bi_f c_66) h
              refine lv_aload_n hx hb dX9_fits_69 rfl (lv_at hl 0 rfl) ?_
              refine lv_iconst (v := 2) hx hb dX9_fits_70 (by decide) ?_
              obtain ⟨q71, e_71⟩ : ∃ y, f_X9_found M (2 : Int32) = y := ⟨_, rfl⟩
              have h := nm_at e_71.symm h
              refine g_ci hG (g_runV C hG (gR_9 gk_140) (c_X9_found l D cs ad M (2 : Int32) e_71) wm_X9_68 wi_X9_found ws_X9_found wz_X9 wc_X9_found e_X9_found (by decide) hl.1 (Nat.le_of_ble_eq_true rfl) dX9_fits_71) (fun H locs hG => ?_)
              exact hr (pf1 (Option.some.inj h)) (pf2 (Option.some.inj h)) hG dX9_fits_74
          · have h := if_t (bi_t c_49) h
            refine lv_aload_n hx hb dX9_fits_52 rfl (lv_at hl 0 rfl) ?_
            refine lv_iconst (v := 1) hx hb dX9_fits_53 (by decide) ?_
            obtain ⟨q54, e_54⟩ : ∃ y, f_X9_found M (1 : Int32) = y := ⟨_, rfl⟩
            have h := nm_at e_54.symm h
            refine g_ci hG (g_runV C hG (gR_9 gk_140) (c_X9_found l D cs ad M (1 : Int32) e_54) wm_X9_68 wi_X9_found ws_X9_found wz_X9 wc_X9_found e_X9_found (by decide) hl.1 (Nat.le_of_ble_eq_true rfl) dX9_fits_54) (fun H locs hG => ?_)
            exact hr (pf1 (Option.some.inj h)) (pf2 (Option.some.inj h)) hG dX9_fits_57
        · have h := if_f (bi_f c_38) h
          refine lv_ldc (v := -1000001) hx hb hown (hts _ wk_X9_67) dX9_fits_41 ?_
          exact hr (pf1 (Option.some.inj h)) (pf2 (Option.some.inj h)) hG dX9_fits_43
def f_X9_asked_81 (x1 : Int32) (x2 : Int32) (x3 : Int32) (r81 : (Mem × Int32 × Int32) → Option (Int32 × Mem)) (M : Mem) (x4 : Int32) (x5 : Int32) : Option (Int32 × Mem) :=
  if (21 : Int32) ≤ x5 then (
    nm (f_X9_well M x4) fun q152 =>
    some (q152.1, q152.2)
  ) else (
    (f_X9_tries M).bind fun q89 =>
    chk (ixb ((6 : Int32) + (q89 146 3)) 57) <|
    chk (ixb ((11 : Int32) + (q89 146 ((6 : Int32) + (q89 146 3)).toNatClampNeg)) 57) <|
    nm (st q89 148 (((11 : Int32) + (q89 146 ((6 : Int32) + (q89 146 3)).toNatClampNeg)).toNatClampNeg) x5) fun M115 =>
    (f_X9_goesSo M115 (((40 : Int32) * x1) + x2) x3).bind fun q126 =>
    if q126.1 = true then (
      nm ((x4 ||| ((1 : Int32) <<< (x5 &&& 31)))) fun x4_141 =>
      nm (x5 + (1 : Int32)) fun x5_143 =>
      r81 (q126.2, x4_141, x5_143)
    ) else (
      nm ((x4 ||| (0 : Int32))) fun x4_141 =>
      nm (x5 + (1 : Int32)) fun x5_143 =>
      r81 (q126.2, x4_141, x5_143)
    )
  )
def f_X9_asked (M : Mem) (x1 : Int32) (x2 : Int32) (x3 : Int32) : Option (Int32 × Mem) :=
  if (f_X9_isFlight M) = true then (
    if (f_X9_left M 146) = (0 : Int32) then (
      some ((-1000002 : Int32), M)
    ) else (
      if (f_X9_isRow x1) = true then (
        if (f_X9_in x3 (1 : Int32) (f_X9_left M 146)) = true then (
          (f_X9_isMissing M x1).bind fun q47 =>
          if q47 = true then (
            nm (f_X9_found M (1 : Int32)) fun q55 =>
            some (q55.1, q55.2)
          ) else (
            (f_X9_isPart M x1 x2 x3).bind fun q63 =>
            if q63 = true then (
              iter (fun rec a => f_X9_asked_81 x1 x2 x3 rec a.1 a.2.1 a.2.2) fuel (M, (0 : Int32), (0 : Int32))
            ) else (
              nm (f_X9_found M (2 : Int32)) fun q71 =>
              some (q71.1, q71.2)
            )
          )
        ) else (
          some ((-1000001 : Int32), M)
        )
      ) else (
        some ((-1000001 : Int32), M)
      )
    )
  ) else (
    some ((-1000002 : Int32), M)
  )
theorem e_X9_asked : yX9_asked.cls = RX9 ∧ yX9_asked.cls ≠ "java/lang/invoke/MethodHandle" ∧ yX9_asked.cls ≠ "java/lang/invoke/VarHandle" ∧ (parseMethodDescriptor yX9_asked.desc).map (fun d => d.parameters.length) = some 3 := by decide +kernel
set_option maxHeartbeats 4000000 in
set_option maxRecDepth 100000 in
theorem c_X9_asked (l : Launch) (D : va_G) (cs : Nat → ClassId) (ad : Nat → Nat) (M : Mem) (x1 : Int32) (x2 : Int32) (x3 : Int32) {z : Int32 × Mem} (h : f_X9_asked M x1 x2 x3 = some z) : CtI l yX9_asked cX9_asked 6 .int 5 D cs ad [.ref (ad 140), .int x1, .int x2, .int x3] M z.1 z.2 := by
  refine ct_i (own := RX9) (by decide) rfl (Nat.le_of_ble_eq_true rfl) ?_
  intro p e s m args below meth c Q C hr
  have hx := C.1
  have hb := C.2.1
  have hown := C.2.2.2.1
  have hts := C.2.2.2.2.1
  have J_81 : ∀ (x1 : Int32) (x2 : Int32) (x3 : Int32) (n : Nat) (a : Mem × Int32 × Int32), iter (fun rec a => f_X9_asked_81 x1 x2 x3 rec a.1 a.2.1 a.2.2) n a = some z → GP p l e (rmk 5) s m args below meth c 0 0 Q D cs ad 6 81 [(0, .ref (ad 140)), (1, .int x1), (2, .int x2), (3, .int x3), (4, .int a.2.1), (5, .int a.2.2)] [] a.1 := by
    intro x1 x2 x3
    refine iter_ind (fun r81 hr81 a h => ?_)
    obtain ⟨M, x4, x5⟩ := a
    have h : f_X9_asked_81 x1 x2 x3 r81 M x4 x5 = some z := h
    intro H locs hG ls hl
    have hG : GH D cs ad s M H locs := hG
    have hl : lv_has ls 6 [(0, .ref (ad 140)), (1, .int x1), (2, .int x2), (3, .int x3), (4, .int x4), (5, .int x5)] := hl
    unfold f_X9_asked_81 at h
    refine lv_iload hx hb dX9_asked_81 (lv_at hl 5 rfl) ?_
    refine lv_bipush (v := 21) hx hb dX9_asked_83 (by decide) ?_
    refine lv_icmp_ge (tgt := 149) hx hb dX9_asked_85 (by decide) (fun c_85 => ?_) (fun c_85 => ?_)
    · have h := if_t c_85 h
      refine lv_aload_n hx hb dX9_asked_149 rfl (lv_at hl 0 rfl) ?_
      refine lv_iload hx hb dX9_asked_150 (lv_at hl 4 rfl) ?_
      obtain ⟨q152, e_152⟩ : ∃ y, f_X9_well M x4 = y := ⟨_, rfl⟩
      have h := nm_at e_152.symm h
      refine g_ci hG (g_runV C hG (gR_9 gk_140) (c_X9_well l D cs ad M x4 e_152) wm_X9_72 wi_X9_well ws_X9_well wz_X9 wc_X9_well e_X9_well (by decide) hl.1 (Nat.le_of_ble_eq_true rfl) dX9_asked_152) (fun H locs hG => ?_)
      exact hr (pf1 (Option.some.inj h)) (pf2 (Option.some.inj h)) hG dX9_asked_155
    · have h := if_f c_85 h
      refine lv_aload_n hx hb dX9_asked_88 rfl (lv_at hl 0 rfl) ?_
      obtain ⟨q89, e_89, h⟩ := bd_e h
      refine g_cv hG (g_runV C hG (gR_9 gk_140) (c_X9_tries l D cs ad M e_89) wm_X9_196 wi_X9_tries ws_X9_tries wz_X9 wc_X9_tries e_X9_tries (by decide) hl.1 (Nat.le_of_ble_eq_true rfl) dX9_asked_89) (fun H locs hG => ?_)
      refine lv_aload_n hx hb dX9_asked_92 rfl (lv_at hl 0 rfl) ?_
      refine gf_X9_tried C hG gk_140 wf_X9_31 dX9_asked_93 ?_
      refine lv_bipush (v := 11) hx hb dX9_asked_96 (by decide) ?_
      refine lv_aload_n hx hb dX9_asked_98 rfl (lv_at hl 0 rfl) ?_
      refine gf_X9_now C hG gk_140 wf_X9_25 dX9_asked_99 ?_
      refine lv_bipush (v := 6) hx hb dX9_asked_102 (by decide) ?_
      refine lv_aload_n hx hb dX9_asked_104 rfl (lv_at hl 0 rfl) ?_
      refine gf_X9_now C hG gk_140 wf_X9_25 dX9_asked_105 ?_
      refine lv_iconst (v := 3) hx hb dX9_asked_108 (by decide) ?_
      refine g_al (j := 3) C hG gk_146 gl_146 (ixl rfl) (by decide) dX9_asked_109 ?_
      refine lv_iadd hx hb dX9_asked_110 ?_
      obtain ⟨hi_111, h⟩ := ix_e h
      refine g_al C hG gk_146 gl_146 hi_111 rfl dX9_asked_111 ?_
      refine lv_iadd hx hb dX9_asked_112 ?_
      refine lv_iload hx hb dX9_asked_113 (lv_at hl 5 rfl) ?_
      obtain ⟨hi_115, h⟩ := ix_e h
      refine g_as C hG gk_148 gl_148 hi_115 rfl dX9_asked_115 (fun M115 e_115 H locs hG => ?_)
      have h := nm_at e_115 h
      refine lv_iload hx hb dX9_asked_116 (lv_at hl 4 rfl) ?_
      refine lv_aload_n hx hb dX9_asked_118 rfl (lv_at hl 0 rfl) ?_
      refine lv_bipush (v := 40) hx hb dX9_asked_119 (by decide) ?_
      refine lv_iload_n hx hb dX9_asked_121 rfl (lv_at hl 1 rfl) ?_
      refine lv_imul hx hb dX9_asked_122 ?_
      refine lv_iload_n hx hb dX9_asked_123 rfl (lv_at hl 2 rfl) ?_
      refine lv_iadd hx hb dX9_asked_124 ?_
      refine lv_iload_n hx hb dX9_asked_125 rfl (lv_at hl 3 rfl) ?_
      obtain ⟨q126, e_126, h⟩ := bd_e h
      refine g_ci hG (g_runV C hG (gR_9 gk_140) (c_X9_goesSo l D cs ad M115 (((40 : Int32) * x1) + x2) x3 e_126) wm_X9_209 wi_X9_goesSo ws_X9_goesSo wz_X9 wc_X9_goesSo e_X9_goesSo (by decide) hl.1 (Nat.le_of_ble_eq_true rfl) dX9_asked_126) (fun H locs hG => ?_)
      refine lv_if_eq (tgt := 139) hx hb dX9_asked_129 (by decide) (fun c_129 => ?_) (fun c_129 => ?_)
      · have h := if_f (bi_f c_129) h
        refine lv_iconst (v := 0) hx hb dX9_asked_139 (by decide) ?_
        refine lv_ior hx hb dX9_asked_140 ?_
        refine lv_topi (fun x4_141 e4_141 => ?_)
        have h := nm_at e4_141 h
        refine lv_istore (lv' := [(4, .int x4_141), (0, .ref (ad 140)), (1, .int x1), (2, .int x2), (3, .int x3), (5, .int x5)]) hx hb dX9_asked_141 hl (by decide) rfl (fun ls hl => ?_)
        obtain ⟨x5_143, e5_143⟩ : ∃ y : Int32, y = x5 + (1 : Int32) := ⟨_, rfl⟩
        have h := nm_at e5_143 h
        refine lv_iinc (v := x5_143) (lv' := [(5, .int x5_143), (4, .int x4_141), (0, .ref (ad 140)), (1, .int x1), (2, .int x2), (3, .int x3)]) hx hb dX9_asked_143 hl (k := 5) rfl (by rw [e5_143]; rfl) (by decide) rfl (fun ls hl => ?_)
        refine lv_goto (tgt := 81) hx hb dX9_asked_146 (by decide) ?_
        exact hr81 (q126.2, x4_141, x5_143) h H locs hG ls (lv_sub hl [2, 3, 4, 5, 1, 0] rfl)
      · have h := if_t (bi_t c_129) h
        refine lv_iconst (v := 1) hx hb dX9_asked_132 (by decide) ?_
        refine lv_iload hx hb dX9_asked_133 (lv_at hl 5 rfl) ?_
        refine lv_ishl hx hb dX9_asked_135 ?_
        refine lv_goto (tgt := 140) hx hb dX9_asked_136 (by decide) ?_
        refine lv_ior hx hb dX9_asked_140 ?_
        refine lv_topi (fun x4_141 e4_141 => ?_)
        have h := nm_at e4_141 h
        refine lv_istore (lv' := [(4, .int x4_141), (0, .ref (ad 140)), (1, .int x1), (2, .int x2), (3, .int x3), (5, .int x5)]) hx hb dX9_asked_141 hl (by decide) rfl (fun ls hl => ?_)
        obtain ⟨x5_143, e5_143⟩ : ∃ y : Int32, y = x5 + (1 : Int32) := ⟨_, rfl⟩
        have h := nm_at e5_143 h
        refine lv_iinc (v := x5_143) (lv' := [(5, .int x5_143), (4, .int x4_141), (0, .ref (ad 140)), (1, .int x1), (2, .int x2), (3, .int x3)]) hx hb dX9_asked_143 hl (k := 5) rfl (by rw [e5_143]; rfl) (by decide) rfl (fun ls hl => ?_)
        refine lv_goto (tgt := 81) hx hb dX9_asked_146 (by decide) ?_
        exact hr81 (q126.2, x4_141, x5_143) h H locs hG ls (lv_sub hl [2, 3, 4, 5, 1, 0] rfl)
  intro H locs hG ls hl
  have hl : lv_has ls 6 [(0, .ref (ad 140)), (1, .int x1), (2, .int x2), (3, .int x3)] := hl
  unfold f_X9_asked at h
  refine lv_aload_n hx hb dX9_asked_0 rfl (lv_at hl 0 rfl) ?_
  refine g_ci hG (g_runV C hG (gR_9 gk_140) (c_X9_isFlight l D cs ad M rfl) wm_X9_180 wi_X9_isFlight ws_X9_isFlight wz_X9 wc_X9_isFlight e_X9_isFlight (by decide) hl.1 (Nat.le_of_ble_eq_true rfl) dX9_asked_1) (fun H locs hG => ?_)
  refine lv_if_eq (tgt := 17) hx hb dX9_asked_4 (by decide) (fun c_4 => ?_) (fun c_4 => ?_)
  · have h := if_f (bi_f c_4) h
    refine lv_ldc (v := -1000002) hx hb hown (hts _ wk_X9_183) dX9_asked_17 ?_
    exact hr (pf1 (Option.some.inj h)) (pf2 (Option.some.inj h)) hG dX9_asked_19
  · have h := if_t (bi_t c_4) h
    refine lv_aload_n hx hb dX9_asked_7 rfl (lv_at hl 0 rfl) ?_
    refine gf_X9_now C hG gk_140 wf_X9_25 dX9_asked_8 ?_
    refine g_ci hG (g_runS C hG (c_X9_left l D cs ad M gk_146 gl_146 rfl) wm_X9_170 wt_X9_left wz_X9 wc_X9_left e_X9_left (by decide) hl.1 (Nat.le_of_ble_eq_true rfl) dX9_asked_11) (fun H locs hG => ?_)
    refine lv_if_ne (tgt := 20) hx hb dX9_asked_14 (by decide) (fun c_14 => ?_) (fun c_14 => ?_)
    · have h := if_f c_14 h
      refine lv_iload_n hx hb dX9_asked_20 rfl (lv_at hl 1 rfl) ?_
      refine g_ci hG (g_runS C hG (c_X9_isRow l D cs ad M x1 rfl) wm_X9_63 wt_X9_isRow wz_X9 wc_X9_isRow e_X9_isRow (by decide) hl.1 (Nat.le_of_ble_eq_true rfl) dX9_asked_21) (fun H locs hG => ?_)
      refine lv_if_eq (tgt := 42) hx hb dX9_asked_24 (by decide) (fun c_24 => ?_) (fun c_24 => ?_)
      · have h := if_f (bi_f c_24) h
        refine lv_ldc (v := -1000001) hx hb hown (hts _ wk_X9_67) dX9_asked_42 ?_
        exact hr (pf1 (Option.some.inj h)) (pf2 (Option.some.inj h)) hG dX9_asked_44
      · have h := if_t (bi_t c_24) h
        refine lv_iload_n hx hb dX9_asked_27 rfl (lv_at hl 3 rfl) ?_
        refine lv_iconst (v := 1) hx hb dX9_asked_28 (by decide) ?_
        refine lv_aload_n hx hb dX9_asked_29 rfl (lv_at hl 0 rfl) ?_
        refine gf_X9_now C hG gk_140 wf_X9_25 dX9_asked_30 ?_
        refine g_ci hG (g_runS C hG (c_X9_left l D cs ad M gk_146 gl_146 rfl) wm_X9_170 wt_X9_left wz_X9 wc_X9_left e_X9_left (by decide) hl.1 (Nat.le_of_ble_eq_true rfl) dX9_asked_33) (fun H locs hG => ?_)
        refine g_ci hG (g_runS C hG (c_X9_in l D cs ad M x3 (1 : Int32) (f_X9_left M 146) rfl) wm_X9_59 wt_X9_in wz_X9 wc_X9_in e_X9_in (by decide) hl.1 (Nat.le_of_ble_eq_true rfl) dX9_asked_36) (fun H locs hG => ?_)
        refine lv_if_ne (tgt := 45) hx hb dX9_asked_39 (by decide) (fun c_39 => ?_) (fun c_39 => ?_)
        · have h := if_t (bi_t c_39) h
          refine lv_aload_n hx hb dX9_asked_45 rfl (lv_at hl 0 rfl) ?_
          refine lv_iload_n hx hb dX9_asked_46 rfl (lv_at hl 1 rfl) ?_
          obtain ⟨q47, e_47, h⟩ := bd_e h
          refine g_ci hG (g_runV C hG (gR_9 gk_140) (c_X9_isMissing l D cs ad M x1 e_47) wm_X9_75 wi_X9_isMissing ws_X9_isMissing wz_X9 wc_X9_isMissing e_X9_isMissing (by decide) hl.1 (Nat.le_of_ble_eq_true rfl) dX9_asked_47) (fun H locs hG => ?_)
          refine lv_if_eq (tgt := 59) hx hb dX9_asked_50 (by decide) (fun c_50 => ?_) (fun c_50 => ?_)
          · have h := if_f (bi_f c_50) h
            refine lv_aload_n hx hb dX9_asked_59 rfl (lv_at hl 0 rfl) ?_
            refine lv_iload_n hx hb dX9_asked_60 rfl (lv_at hl 1 rfl) ?_
            refine lv_iload_n hx hb dX9_asked_61 rfl (lv_at hl 2 rfl) ?_
            refine lv_iload_n hx hb dX9_asked_62 rfl (lv_at hl 3 rfl) ?_
            obtain ⟨q63, e_63, h⟩ := bd_e h
            refine g_ci hG (g_runV C hG (gR_9 gk_140) (c_X9_isPart l D cs ad M x1 x2 x3 e_63) wm_X9_82 wi_X9_isPart ws_X9_isPart wz_X9 wc_X9_isPart e_X9_isPart (by decide) hl.1 (Nat.le_of_ble_eq_true rfl) dX9_asked_63) (fun H locs hG => ?_)
            refine lv_if_ne (tgt := 75) hx hb dX9_asked_66 (by decide) (fun c_66 => ?_) (fun c_66 => ?_)
            · have h := if_t (bi_t c_66) h
              refine lv_iconst (v := 0) hx hb dX9_asked_75 (by decide) ?_
              refine lv_istore (lv' := [(4, .int 0), (0, .ref (ad 140)), (1, .int x1), (2, .int x2), (3, .int x3)]) hx hb dX9_asked_76 hl (by decide) rfl (fun ls hl => ?_)
              refine lv_iconst (v := 0) hx hb dX9_asked_78 (by decide) ?_
              refine lv_istore (lv' := [(5, .int 0), (4, .int 0), (0, .ref (ad 140)), (1, .int x1), (2, .int x2), (3, .int x3)]) hx hb dX9_asked_79 hl (by decide) rfl (fun ls hl => ?_)
              exact J_81 x1 x2 x3 _ (M, (0 : Int32), (0 : Int32)) h H locs hG ls (lv_sub hl [2, 3, 4, 5, 1, 0] rfl)
            · have h := if_f (bi_f c_66) h
              refine lv_aload_n hx hb dX9_asked_69 rfl (lv_at hl 0 rfl) ?_
              refine lv_iconst (v := 2) hx hb dX9_asked_70 (by decide) ?_
              obtain ⟨q71, e_71⟩ : ∃ y, f_X9_found M (2 : Int32) = y := ⟨_, rfl⟩
              have h := nm_at e_71.symm h
              refine g_ci hG (g_runV C hG (gR_9 gk_140) (c_X9_found l D cs ad M (2 : Int32) e_71) wm_X9_68 wi_X9_found ws_X9_found wz_X9 wc_X9_found e_X9_found (by decide) hl.1 (Nat.le_of_ble_eq_true rfl) dX9_asked_71) (fun H locs hG => ?_)
              exact hr (pf1 (Option.some.inj h)) (pf2 (Option.some.inj h)) hG dX9_asked_74
          · have h := if_t (bi_t c_50) h
            refine lv_aload_n hx hb dX9_asked_53 rfl (lv_at hl 0 rfl) ?_
            refine lv_iconst (v := 1) hx hb dX9_asked_54 (by decide) ?_
            obtain ⟨q55, e_55⟩ : ∃ y, f_X9_found M (1 : Int32) = y := ⟨_, rfl⟩
            have h := nm_at e_55.symm h
            refine g_ci hG (g_runV C hG (gR_9 gk_140) (c_X9_found l D cs ad M (1 : Int32) e_55) wm_X9_68 wi_X9_found ws_X9_found wz_X9 wc_X9_found e_X9_found (by decide) hl.1 (Nat.le_of_ble_eq_true rfl) dX9_asked_55) (fun H locs hG => ?_)
            exact hr (pf1 (Option.some.inj h)) (pf2 (Option.some.inj h)) hG dX9_asked_58
        · have h := if_f (bi_f c_39) h
          refine lv_ldc (v := -1000001) hx hb hown (hts _ wk_X9_67) dX9_asked_42 ?_
          exact hr (pf1 (Option.some.inj h)) (pf2 (Option.some.inj h)) hG dX9_asked_44
    · have h := if_t c_14 h
      refine lv_ldc (v := -1000002) hx hb hown (hts _ wk_X9_183) dX9_asked_17 ?_
      exact hr (pf1 (Option.some.inj h)) (pf2 (Option.some.inj h)) hG dX9_asked_19
def f_X9_storm_189 (r132 : (Mem × Int32 × Int32) → Option (Int32 × Mem)) (M : Mem) (x1 : Int32) (x2 : Int32) (x3 : Int32) (x4 : Int32) (x5 : Int32) (x6 : Int32) (x7 : Int32) (x9 : Int32) (x10 : Int32) (s0 : Int32) (s1 : Int32) : Option (Int32 × Mem) :=
  nm ((s0 * s1)) fun x8_190 =>
  if (f_X9_has x7 x9) = true then (
    chk (ixb x10 57) <|
    if (5 : Int32) ≤ (M 148 x10.toNatClampNeg) then (
      nm (st M 148 x10.toNatClampNeg ((M 148 x10.toNatClampNeg) - (5 : Int32))) fun M242 =>
      nm (x9 + (1 : Int32)) fun x9_243 =>
      r132 (M242, x8_190, x9_243)
    ) else (
      nm (st M 148 x10.toNatClampNeg (0 : Int32)) fun M242 =>
      nm (x9 + (1 : Int32)) fun x9_243 =>
      r132 (M242, x8_190, x9_243)
    )
  ) else (
    chk (ixb x10 57) <|
    nm (st M 148 x10.toNatClampNeg (M 148 x10.toNatClampNeg)) fun M242 =>
    nm (x9 + (1 : Int32)) fun x9_243 =>
    r132 (M242, x8_190, x9_243)
  )
def f_X9_storm_132 (r101 : (Mem × Int32 × Int32) → Option (Int32 × Mem)) (x1 : Int32) (x2 : Int32) (x3 : Int32) (x4 : Int32) (x5 : Int32) (x6 : Int32) (x7 : Int32) (r132 : (Mem × Int32 × Int32) → Option (Int32 × Mem)) (M : Mem) (x8 : Int32) (x9 : Int32) : Option (Int32 × Mem) :=
  if (M 146 5) ≤ x9 then (
    if x8 ≤ (0 : Int32) then (
      nm ((x5 + (0 : Int32))) fun x5_274 =>
      nm (x7 + (1 : Int32)) fun x7_276 =>
      r101 (M, x5_274, x7_276)
    ) else (
      (f_X9_ends M).bind fun q257 =>
      (f_X9_ones q257.1).bind fun q260 =>
      if q260 < x1 then (
        nm ((x5 + (0 : Int32))) fun x5_274 =>
        nm (x7 + (1 : Int32)) fun x7_276 =>
        r101 (q257.2, x5_274, x7_276)
      ) else (
        nm ((x5 + x8)) fun x5_274 =>
        nm (x7 + (1 : Int32)) fun x7_276 =>
        r101 (q257.2, x5_274, x7_276)
      )
    )
  ) else (
    nm ((((21 : Int32) + ((6 : Int32) * x9)) + (1 : Int32))) fun x10_153 =>
    if (f_X9_has x4 x9) = true then (
      if (f_X9_has x7 x9) = true then (
        f_X9_storm_189 r132 M x1 x2 x3 x4 x5 x6 x7 x9 x10_153 x8 x2
      ) else (
        f_X9_storm_189 r132 M x1 x2 x3 x4 x5 x6 x7 x9 x10_153 x8 ((10 : Int32) - x2)
      )
    ) else (
      f_X9_storm_189 r132 M x1 x2 x3 x4 x5 x6 x7 x9 x10_153 x8 (1 : Int32)
    )
  )
def f_X9_storm_290 (M : Mem) (x3 : Int32) (x5 : Int32) (x6 : Int32) (r290 : (Int32 × Int32) → Option (Int32 × Mem)) (x7 : Int32) (x8 : Int32) : Option (Int32 × Mem) :=
  if x8 = (0 : Int32) then (
    if x3 = (0 : Int32) then (
      chk (decide (¬ x7 = 0)) <|
      some ((x5 / x7), M)
    ) else (
      chk (decide (¬ x7 = 0)) <|
      some ((x6 / x7), M)
    )
  ) else (
    chk (decide (¬ x8 = 0)) <|
    nm ((x7 - x7 / x8 * x8)) fun x9_300 =>
    r290 (x8, x9_300)
  )
def f_X9_storm_101 (x1 : Int32) (x2 : Int32) (x3 : Int32) (x4 : Int32) (x6 : Int32) (r101 : (Mem × Int32 × Int32) → Option (Int32 × Mem)) (M : Mem) (x5 : Int32) (x7 : Int32) : Option (Int32 × Mem) :=
  if x4 < x7 then (
    iter (fun rec a => f_X9_storm_290 M x3 x5 x6 rec a.1 a.2) fuel (x5, x6)
  ) else (
    if (x7 &&& (x4 ^^^ (-1 : Int32))) = (0 : Int32) then (
      (f_X9_tries M).bind fun q126 =>
      iter (fun rec a => f_X9_storm_132 r101 x1 x2 x3 x4 x5 x6 x7 rec a.1 a.2.1 a.2.2) fuel (q126, (1 : Int32), (0 : Int32))
    ) else (
      (f_X9_tries M).bind fun q126 =>
      iter (fun rec a => f_X9_storm_132 r101 x1 x2 x3 x4 x5 x6 x7 rec a.1 a.2.1 a.2.2) fuel (q126, (0 : Int32), (0 : Int32))
    )
  )
def f_X9_storm_60 (M : Mem) (x1 : Int32) (x2 : Int32) (x3 : Int32) (x4 : Int32) (x5 : Bool) (r60 : (Int32 × Int32) → Option (Int32 × Mem)) (x6 : Int32) (x7 : Int32) : Option (Int32 × Mem) :=
  if (M 146 5) ≤ x7 then (
    iter (fun rec a => f_X9_storm_101 x1 x2 x3 x4 x6 rec a.1 a.2.1 a.2.2) fuel (M, (bi x5), (0 : Int32))
  ) else (
    if (f_X9_has x4 x7) = true then (
      nm ((x6 * (10 : Int32))) fun x6_90 =>
      nm (x7 + (1 : Int32)) fun x7_92 =>
      r60 (x6_90, x7_92)
    ) else (
      nm ((x6 * (1 : Int32))) fun x6_90 =>
      nm (x7 + (1 : Int32)) fun x7_92 =>
      r60 (x6_90, x7_92)
    )
  )
def f_X9_storm (M : Mem) (x1 : Int32) (x2 : Int32) (x3 : Int32) : Option (Int32 × Mem) :=
  if (f_X9_isFlight M) = true then (
    if (f_X9_in x1 (0 : Int32) (6 : Int32)) = true then (
      if (f_X9_in x2 (0 : Int32) (10 : Int32)) = true then (
        if (f_X9_in x3 (0 : Int32) (1 : Int32)) = true then (
          (f_X9_flying M 146).bind fun q46 =>
          iter (fun rec a => f_X9_storm_60 M x1 x2 x3 q46 false rec a.1 a.2) fuel ((1 : Int32), (0 : Int32))
        ) else (
          some ((-1000001 : Int32), M)
        )
      ) else (
        some ((-1000001 : Int32), M)
      )
    ) else (
      some ((-1000001 : Int32), M)
    )
  ) else (
    some ((-1000002 : Int32), M)
  )
theorem e_X9_storm : yX9_storm.cls = RX9 ∧ yX9_storm.cls ≠ "java/lang/invoke/MethodHandle" ∧ yX9_storm.cls ≠ "java/lang/invoke/VarHandle" ∧ (parseMethodDescriptor yX9_storm.desc).map (fun d => d.parameters.length) = some 3 := by decide +kernel
set_option maxHeartbeats 4000000 in
set_option maxRecDepth 100000 in
theorem c_X9_storm (l : Launch) (D : va_G) (cs : Nat → ClassId) (ad : Nat → Nat) (M : Mem) (x1 : Int32) (x2 : Int32) (x3 : Int32) {z : Int32 × Mem} (h : f_X9_storm M x1 x2 x3 = some z) : CtI l yX9_storm cX9_storm 11 .int 5 D cs ad [.ref (ad 140), .int x1, .int x2, .int x3] M z.1 z.2 := by
  refine ct_i (own := RX9) (by decide) rfl (Nat.le_of_ble_eq_true rfl) ?_
  intro p e s m args below meth c Q C hr
  have hx := C.1
  have hb := C.2.1
  have hown := C.2.2.2.1
  have hts := C.2.2.2.2.1
  have J_189 : ∀ (M : Mem) (x1 : Int32) (x2 : Int32) (x3 : Int32) (x4 : Int32) (x5 : Int32) (x6 : Int32) (x7 : Int32) (x9 : Int32) (x10 : Int32) (s0 : Int32) (s1 : Int32) (r132 : (Mem × Int32 × Int32) → Option (Int32 × Mem)) (hr132 : ∀ a, r132 a = some z → GP p l e (rmk 5) s m args below meth c 0 0 Q D cs ad 11 132 [(0, .ref (ad 140)), (1, .int x1), (2, .int x2), (3, .int x3), (4, .int x4), (5, .int x5), (6, .int x6), (7, .int x7), (8, .int a.2.1), (9, .int a.2.2)] [] a.1), f_X9_storm_189 r132 M x1 x2 x3 x4 x5 x6 x7 x9 x10 s0 s1 = some z → GP p l e (rmk 5) s m args below meth c 0 0 Q D cs ad 11 189 [(0, .ref (ad 140)), (1, .int x1), (2, .int x2), (3, .int x3), (4, .int x4), (5, .int x5), (6, .int x6), (7, .int x7), (9, .int x9), (10, .int x10)] [.int s1, .int s0] M := by
    intro M x1 x2 x3 x4 x5 x6 x7 x9 x10 s0 s1 r132 hr132 h H locs hG ls hl
    unfold f_X9_storm_189 at h
    refine lv_imul hx hb dX9_storm_189 ?_
    refine lv_topi (fun x8_190 e8_190 => ?_)
    have h := nm_at e8_190 h
    refine lv_istore (lv' := [(8, .int x8_190), (0, .ref (ad 140)), (1, .int x1), (2, .int x2), (3, .int x3), (4, .int x4), (5, .int x5), (6, .int x6), (7, .int x7), (9, .int x9), (10, .int x10)]) hx hb dX9_storm_190 hl (by decide) rfl (fun ls hl => ?_)
    refine lv_aload_n hx hb dX9_storm_192 rfl (lv_at hl 1 rfl) ?_
    refine gf_X9_tried C hG gk_140 wf_X9_31 dX9_storm_193 ?_
    refine lv_iload hx hb dX9_storm_196 (lv_at hl 10 rfl) ?_
    refine lv_iload hx hb dX9_storm_198 (lv_at hl 8 rfl) ?_
    refine lv_iload hx hb dX9_storm_200 (lv_at hl 9 rfl) ?_
    refine g_ci hG (g_runS C hG (c_X9_has l D cs ad M x7 x9 rfl) wm_X9_148 wt_X9_has wz_X9 wc_X9_has e_X9_has (by decide) hl.1 (Nat.le_of_ble_eq_true rfl) dX9_storm_202) (fun H locs hG => ?_)
    refine lv_if_ne (tgt := 218) hx hb dX9_storm_205 (by decide) (fun c_205 => ?_) (fun c_205 => ?_)
    · have h := if_t (bi_t c_205) h
      refine lv_aload_n hx hb dX9_storm_218 rfl (lv_at hl 1 rfl) ?_
      refine gf_X9_tried C hG gk_140 wf_X9_31 dX9_storm_219 ?_
      refine lv_iload hx hb dX9_storm_222 (lv_at hl 10 rfl) ?_
      obtain ⟨hi_224, h⟩ := ix_e h
      refine g_al C hG gk_148 gl_148 hi_224 rfl dX9_storm_224 ?_
      refine lv_iconst (v := 5) hx hb dX9_storm_225 (by decide) ?_
      refine lv_icmp_ge (tgt := 233) hx hb dX9_storm_226 (by decide) (fun c_226 => ?_) (fun c_226 => ?_)
      · have h := if_t c_226 h
        refine lv_aload_n hx hb dX9_storm_233 rfl (lv_at hl 1 rfl) ?_
        refine gf_X9_tried C hG gk_140 wf_X9_31 dX9_storm_234 ?_
        refine lv_iload hx hb dX9_storm_237 (lv_at hl 10 rfl) ?_
        refine g_al C hG gk_148 gl_148 hi_224 rfl dX9_storm_239 ?_
        refine lv_iconst (v := 5) hx hb dX9_storm_240 (by decide) ?_
        refine lv_isub hx hb dX9_storm_241 ?_
        refine g_as C hG gk_148 gl_148 hi_224 rfl dX9_storm_242 (fun M242 e_242 H locs hG => ?_)
        have h := nm_at e_242 h
        obtain ⟨x9_243, e9_243⟩ : ∃ y : Int32, y = x9 + (1 : Int32) := ⟨_, rfl⟩
        have h := nm_at e9_243 h
        refine lv_iinc (v := x9_243) (lv' := [(9, .int x9_243), (8, .int x8_190), (0, .ref (ad 140)), (1, .int x1), (2, .int x2), (3, .int x3), (4, .int x4), (5, .int x5), (6, .int x6), (7, .int x7), (10, .int x10)]) hx hb dX9_storm_243 hl (k := 9) rfl (by rw [e9_243]; rfl) (by decide) rfl (fun ls hl => ?_)
        refine lv_goto (tgt := 132) hx hb dX9_storm_246 (by decide) ?_
        exact hr132 (M242, x8_190, x9_243) h H locs hG ls (lv_sub hl [2, 3, 4, 5, 6, 7, 8, 9, 1, 0] rfl)
      · have h := if_f c_226 h
        refine lv_iconst (v := 0) hx hb dX9_storm_229 (by decide) ?_
        refine lv_goto (tgt := 242) hx hb dX9_storm_230 (by decide) ?_
        refine g_as C hG gk_148 gl_148 hi_224 rfl dX9_storm_242 (fun M242 e_242 H locs hG => ?_)
        have h := nm_at e_242 h
        obtain ⟨x9_243, e9_243⟩ : ∃ y : Int32, y = x9 + (1 : Int32) := ⟨_, rfl⟩
        have h := nm_at e9_243 h
        refine lv_iinc (v := x9_243) (lv' := [(9, .int x9_243), (8, .int x8_190), (0, .ref (ad 140)), (1, .int x1), (2, .int x2), (3, .int x3), (4, .int x4), (5, .int x5), (6, .int x6), (7, .int x7), (10, .int x10)]) hx hb dX9_storm_243 hl (k := 9) rfl (by rw [e9_243]; rfl) (by decide) rfl (fun ls hl => ?_)
        refine lv_goto (tgt := 132) hx hb dX9_storm_246 (by decide) ?_
        exact hr132 (M242, x8_190, x9_243) h H locs hG ls (lv_sub hl [2, 3, 4, 5, 6, 7, 8, 9, 1, 0] rfl)
    · have h := if_f (bi_f c_205) h
      refine lv_aload_n hx hb dX9_storm_208 rfl (lv_at hl 1 rfl) ?_
      refine gf_X9_tried C hG gk_140 wf_X9_31 dX9_storm_209 ?_
      refine lv_iload hx hb dX9_storm_212 (lv_at hl 10 rfl) ?_
      obtain ⟨hi_214, h⟩ := ix_e h
      refine g_al C hG gk_148 gl_148 hi_214 rfl dX9_storm_214 ?_
      refine lv_goto (tgt := 242) hx hb dX9_storm_215 (by decide) ?_
      refine g_as C hG gk_148 gl_148 hi_214 rfl dX9_storm_242 (fun M242 e_242 H locs hG => ?_)
      have h := nm_at e_242 h
      obtain ⟨x9_243, e9_243⟩ : ∃ y : Int32, y = x9 + (1 : Int32) := ⟨_, rfl⟩
      have h := nm_at e9_243 h
      refine lv_iinc (v := x9_243) (lv' := [(9, .int x9_243), (8, .int x8_190), (0, .ref (ad 140)), (1, .int x1), (2, .int x2), (3, .int x3), (4, .int x4), (5, .int x5), (6, .int x6), (7, .int x7), (10, .int x10)]) hx hb dX9_storm_243 hl (k := 9) rfl (by rw [e9_243]; rfl) (by decide) rfl (fun ls hl => ?_)
      refine lv_goto (tgt := 132) hx hb dX9_storm_246 (by decide) ?_
      exact hr132 (M242, x8_190, x9_243) h H locs hG ls (lv_sub hl [2, 3, 4, 5, 6, 7, 8, 9, 1, 0] rfl)
  have J_132 : ∀ (x1 : Int32) (x2 : Int32) (x3 : Int32) (x4 : Int32) (x5 : Int32) (x6 : Int32) (x7 : Int32) (r101 : (Mem × Int32 × Int32) → Option (Int32 × Mem)) (hr101 : ∀ a, r101 a = some z → GP p l e (rmk 5) s m args below meth c 0 0 Q D cs ad 11 101 [(0, .ref (ad 140)), (1, .int x1), (2, .int x2), (3, .int x3), (4, .int x4), (5, .int a.2.1), (6, .int x6), (7, .int a.2.2)] [] a.1) (n : Nat) (a : Mem × Int32 × Int32), iter (fun rec a => f_X9_storm_132 r101 x1 x2 x3 x4 x5 x6 x7 rec a.1 a.2.1 a.2.2) n a = some z → GP p l e (rmk 5) s m args below meth c 0 0 Q D cs ad 11 132 [(0, .ref (ad 140)), (1, .int x1), (2, .int x2), (3, .int x3), (4, .int x4), (5, .int x5), (6, .int x6), (7, .int x7), (8, .int a.2.1), (9, .int a.2.2)] [] a.1 := by
    intro x1 x2 x3 x4 x5 x6 x7 r101 hr101
    refine iter_ind (fun r132 hr132 a h => ?_)
    obtain ⟨M, x8, x9⟩ := a
    have h : f_X9_storm_132 r101 x1 x2 x3 x4 x5 x6 x7 r132 M x8 x9 = some z := h
    intro H locs hG ls hl
    have hG : GH D cs ad s M H locs := hG
    have hl : lv_has ls 11 [(0, .ref (ad 140)), (1, .int x1), (2, .int x2), (3, .int x3), (4, .int x4), (5, .int x5), (6, .int x6), (7, .int x7), (8, .int x8), (9, .int x9)] := hl
    unfold f_X9_storm_132 at h
    refine lv_iload hx hb dX9_storm_132 (lv_at hl 9 rfl) ?_
    refine lv_aload_n hx hb dX9_storm_134 rfl (lv_at hl 0 rfl) ?_
    refine gf_X9_now C hG gk_140 wf_X9_25 dX9_storm_135 ?_
    refine lv_iconst (v := 5) hx hb dX9_storm_138 (by decide) ?_
    refine g_al (j := 5) C hG gk_146 gl_146 (ixl rfl) (by decide) dX9_storm_139 ?_
    refine lv_icmp_ge (tgt := 249) hx hb dX9_storm_140 (by decide) (fun c_140 => ?_) (fun c_140 => ?_)
    · have h := if_t c_140 h
      refine lv_iload hx hb dX9_storm_249 (lv_at hl 5 rfl) ?_
      refine lv_iload hx hb dX9_storm_251 (lv_at hl 8 rfl) ?_
      refine lv_if_le (tgt := 272) hx hb dX9_storm_253 (by decide) (fun c_253 => ?_) (fun c_253 => ?_)
      · have h := if_t c_253 h
        refine lv_iconst (v := 0) hx hb dX9_storm_272 (by decide) ?_
        refine lv_iadd hx hb dX9_storm_273 ?_
        refine lv_topi (fun x5_274 e5_274 => ?_)
        have h := nm_at e5_274 h
        refine lv_istore (lv' := [(5, .int x5_274), (0, .ref (ad 140)), (1, .int x1), (2, .int x2), (3, .int x3), (4, .int x4), (6, .int x6), (7, .int x7), (8, .int x8), (9, .int x9)]) hx hb dX9_storm_274 hl (by decide) rfl (fun ls hl => ?_)
        obtain ⟨x7_276, e7_276⟩ : ∃ y : Int32, y = x7 + (1 : Int32) := ⟨_, rfl⟩
        have h := nm_at e7_276 h
        refine lv_iinc (v := x7_276) (lv' := [(7, .int x7_276), (5, .int x5_274), (0, .ref (ad 140)), (1, .int x1), (2, .int x2), (3, .int x3), (4, .int x4), (6, .int x6), (8, .int x8), (9, .int x9)]) hx hb dX9_storm_276 hl (k := 7) rfl (by rw [e7_276]; rfl) (by decide) rfl (fun ls hl => ?_)
        refine lv_goto (tgt := 101) hx hb dX9_storm_279 (by decide) ?_
        exact hr101 (M, x5_274, x7_276) h H locs hG ls (lv_sub hl [2, 3, 4, 5, 6, 1, 7, 0] rfl)
      · have h := if_f c_253 h
        refine lv_aload_n hx hb dX9_storm_256 rfl (lv_at hl 0 rfl) ?_
        obtain ⟨q257, e_257, h⟩ := bd_e h
        refine g_ci hG (g_runV C hG (gR_9 gk_140) (c_X9_ends l D cs ad M e_257) wm_X9_199 wi_X9_ends ws_X9_ends wz_X9 wc_X9_ends e_X9_ends (by decide) hl.1 (Nat.le_of_ble_eq_true rfl) dX9_storm_257) (fun H locs hG => ?_)
        obtain ⟨q260, e_260, h⟩ := bd_e h
        refine g_ci hG (g_runS C hG (c_X9_ones l D cs ad q257.2 q257.1 e_260) wm_X9_152 wt_X9_ones wz_X9 wc_X9_ones e_X9_ones (by decide) hl.1 (Nat.le_of_ble_eq_true rfl) dX9_storm_260) (fun H locs hG => ?_)
        refine lv_iload_n hx hb dX9_storm_263 rfl (lv_at hl 1 rfl) ?_
        refine lv_icmp_lt (tgt := 272) hx hb dX9_storm_264 (by decide) (fun c_264 => ?_) (fun c_264 => ?_)
        · have h := if_t c_264 h
          refine lv_iconst (v := 0) hx hb dX9_storm_272 (by decide) ?_
          refine lv_iadd hx hb dX9_storm_273 ?_
          refine lv_topi (fun x5_274 e5_274 => ?_)
          have h := nm_at e5_274 h
          refine lv_istore (lv' := [(5, .int x5_274), (0, .ref (ad 140)), (1, .int x1), (2, .int x2), (3, .int x3), (4, .int x4), (6, .int x6), (7, .int x7), (8, .int x8), (9, .int x9)]) hx hb dX9_storm_274 hl (by decide) rfl (fun ls hl => ?_)
          obtain ⟨x7_276, e7_276⟩ : ∃ y : Int32, y = x7 + (1 : Int32) := ⟨_, rfl⟩
          have h := nm_at e7_276 h
          refine lv_iinc (v := x7_276) (lv' := [(7, .int x7_276), (5, .int x5_274), (0, .ref (ad 140)), (1, .int x1), (2, .int x2), (3, .int x3), (4, .int x4), (6, .int x6), (8, .int x8), (9, .int x9)]) hx hb dX9_storm_276 hl (k := 7) rfl (by rw [e7_276]; rfl) (by decide) rfl (fun ls hl => ?_)
          refine lv_goto (tgt := 101) hx hb dX9_storm_279 (by decide) ?_
          exact hr101 (q257.2, x5_274, x7_276) h H locs hG ls (lv_sub hl [2, 3, 4, 5, 6, 1, 7, 0] rfl)
        · have h := if_f c_264 h
          refine lv_iload hx hb dX9_storm_267 (lv_at hl 8 rfl) ?_
          refine lv_goto (tgt := 273) hx hb dX9_storm_269 (by decide) ?_
          refine lv_iadd hx hb dX9_storm_273 ?_
          refine lv_topi (fun x5_274 e5_274 => ?_)
          have h := nm_at e5_274 h
          refine lv_istore (lv' := [(5, .int x5_274), (0, .ref (ad 140)), (1, .int x1), (2, .int x2), (3, .int x3), (4, .int x4), (6, .int x6), (7, .int x7), (8, .int x8), (9, .int x9)]) hx hb dX9_storm_274 hl (by decide) rfl (fun ls hl => ?_)
          obtain ⟨x7_276, e7_276⟩ : ∃ y : Int32, y = x7 + (1 : Int32) := ⟨_, rfl⟩
          have h := nm_at e7_276 h
          refine lv_iinc (v := x7_276) (lv' := [(7, .int x7_276), (5, .int x5_274), (0, .ref (ad 140)), (1, .int x1), (2, .int x2), (3, .int x3), (4, .int x4), (6, .int x6), (8, .int x8), (9, .int x9)]) hx hb dX9_storm_276 hl (k := 7) rfl (by rw [e7_276]; rfl) (by decide) rfl (fun ls hl => ?_)
          refine lv_goto (tgt := 101) hx hb dX9_storm_279 (by decide) ?_
          exact hr101 (q257.2, x5_274, x7_276) h H locs hG ls (lv_sub hl [2, 3, 4, 5, 6, 1, 7, 0] rfl)
    · have h := if_f c_140 h
      refine lv_bipush (v := 21) hx hb dX9_storm_143 (by decide) ?_
      refine lv_bipush (v := 6) hx hb dX9_storm_145 (by decide) ?_
      refine lv_iload hx hb dX9_storm_147 (lv_at hl 9 rfl) ?_
      refine lv_imul hx hb dX9_storm_149 ?_
      refine lv_iadd hx hb dX9_storm_150 ?_
      refine lv_iconst (v := 1) hx hb dX9_storm_151 (by decide) ?_
      refine lv_iadd hx hb dX9_storm_152 ?_
      refine lv_topi (fun x10_153 e10_153 => ?_)
      have h := nm_at e10_153 h
      refine lv_istore (lv' := [(10, .int x10_153), (0, .ref (ad 140)), (1, .int x1), (2, .int x2), (3, .int x3), (4, .int x4), (5, .int x5), (6, .int x6), (7, .int x7), (8, .int x8), (9, .int x9)]) hx hb dX9_storm_153 hl (by decide) rfl (fun ls hl => ?_)
      refine lv_iload hx hb dX9_storm_155 (lv_at hl 9 rfl) ?_
      refine lv_iload hx hb dX9_storm_157 (lv_at hl 5 rfl) ?_
      refine lv_iload hx hb dX9_storm_159 (lv_at hl 10 rfl) ?_
      refine g_ci hG (g_runS C hG (c_X9_has l D cs ad M x4 x9 rfl) wm_X9_148 wt_X9_has wz_X9 wc_X9_has e_X9_has (by decide) hl.1 (Nat.le_of_ble_eq_true rfl) dX9_storm_161) (fun H locs hG => ?_)
      refine lv_if_ne (tgt := 171) hx hb dX9_storm_164 (by decide) (fun c_164 => ?_) (fun c_164 => ?_)
      · have h := if_t (bi_t c_164) h
        refine lv_iload hx hb dX9_storm_171 (lv_at hl 8 rfl) ?_
        refine lv_iload hx hb dX9_storm_173 (lv_at hl 10 rfl) ?_
        refine g_ci hG (g_runS C hG (c_X9_has l D cs ad M x7 x9 rfl) wm_X9_148 wt_X9_has wz_X9 wc_X9_has e_X9_has (by decide) hl.1 (Nat.le_of_ble_eq_true rfl) dX9_storm_175) (fun H locs hG => ?_)
        refine lv_if_eq (tgt := 185) hx hb dX9_storm_178 (by decide) (fun c_178 => ?_) (fun c_178 => ?_)
        · have h := if_f (bi_f c_178) h
          refine lv_bipush (v := 10) hx hb dX9_storm_185 (by decide) ?_
          refine lv_iload_n hx hb dX9_storm_187 rfl (lv_at hl 3 rfl) ?_
          refine lv_isub hx hb dX9_storm_188 ?_
          exact J_189 M x1 x2 x3 x4 x5 x6 x7 x9 x10_153 x8 ((10 : Int32) - x2) r132 hr132 h H locs hG ls (lv_sub hl [1, 2, 3, 4, 5, 6, 7, 8, 10, 0] rfl)
        · have h := if_t (bi_t c_178) h
          refine lv_iload_n hx hb dX9_storm_181 rfl (lv_at hl 3 rfl) ?_
          refine lv_goto (tgt := 189) hx hb dX9_storm_182 (by decide) ?_
          exact J_189 M x1 x2 x3 x4 x5 x6 x7 x9 x10_153 x8 x2 r132 hr132 h H locs hG ls (lv_sub hl [1, 2, 3, 4, 5, 6, 7, 8, 10, 0] rfl)
      · have h := if_f (bi_f c_164) h
        refine lv_iconst (v := 1) hx hb dX9_storm_167 (by decide) ?_
        refine lv_goto (tgt := 189) hx hb dX9_storm_168 (by decide) ?_
        exact J_189 M x1 x2 x3 x4 x5 x6 x7 x9 x10_153 x8 (1 : Int32) r132 hr132 h H locs hG ls (lv_sub hl [1, 2, 3, 4, 5, 6, 7, 8, 10, 0] rfl)
  have J_290 : ∀ (M : Mem) (x3 : Int32) (x5 : Int32) (x6 : Int32) (n : Nat) (a : Int32 × Int32), iter (fun rec a => f_X9_storm_290 M x3 x5 x6 rec a.1 a.2) n a = some z → GP p l e (rmk 5) s m args below meth c 0 0 Q D cs ad 11 290 [(3, .int x3), (5, .int x5), (6, .int x6), (7, .int a.1), (8, .int a.2)] [] M := by
    intro M x3 x5 x6
    refine iter_ind (fun r290 hr290 a h => ?_)
    obtain ⟨x7, x8⟩ := a
    have h : f_X9_storm_290 M x3 x5 x6 r290 x7 x8 = some z := h
    intro H locs hG ls hl
    have hG : GH D cs ad s M H locs := hG
    have hl : lv_has ls 11 [(3, .int x3), (5, .int x5), (6, .int x6), (7, .int x7), (8, .int x8)] := hl
    unfold f_X9_storm_290 at h
    refine lv_iload hx hb dX9_storm_290 (lv_at hl 4 rfl) ?_
    refine lv_if_eq (tgt := 313) hx hb dX9_storm_292 (by decide) (fun c_292 => ?_) (fun c_292 => ?_)
    · have h := if_t c_292 h
      refine lv_iload_n hx hb dX9_storm_313 rfl (lv_at hl 0 rfl) ?_
      refine lv_if_ne (tgt := 322) hx hb dX9_storm_314 (by decide) (fun c_314 => ?_) (fun c_314 => ?_)
      · have h := if_f c_314 h
        refine lv_iload hx hb dX9_storm_322 (lv_at hl 2 rfl) ?_
        refine lv_iload hx hb dX9_storm_324 (lv_at hl 3 rfl) ?_
        obtain ⟨hd_326, h⟩ := dn_e h
        refine lv_idiv hx hb dX9_storm_326 hd_326 ?_
        exact hr (pf1 (Option.some.inj h)) (pf2 (Option.some.inj h)) hG dX9_storm_327
      · have h := if_t c_314 h
        refine lv_iload hx hb dX9_storm_317 (lv_at hl 1 rfl) ?_
        refine lv_goto (tgt := 324) hx hb dX9_storm_319 (by decide) ?_
        refine lv_iload hx hb dX9_storm_324 (lv_at hl 3 rfl) ?_
        obtain ⟨hd_326, h⟩ := dn_e h
        refine lv_idiv hx hb dX9_storm_326 hd_326 ?_
        exact hr (pf1 (Option.some.inj h)) (pf2 (Option.some.inj h)) hG dX9_storm_327
    · have h := if_f c_292 h
      refine lv_iload hx hb dX9_storm_295 (lv_at hl 3 rfl) ?_
      refine lv_iload hx hb dX9_storm_297 (lv_at hl 4 rfl) ?_
      obtain ⟨hd_299, h⟩ := dn_e h
      refine lv_irem hx hb dX9_storm_299 hd_299 ?_
      refine lv_topi (fun x9_300 e9_300 => ?_)
      have h := nm_at e9_300 h
      refine lv_istore (lv' := [(9, .int x9_300), (3, .int x3), (5, .int x5), (6, .int x6), (7, .int x7), (8, .int x8)]) hx hb dX9_storm_300 hl (by decide) rfl (fun ls hl => ?_)
      refine lv_iload hx hb dX9_storm_302 (lv_at hl 5 rfl) ?_
      refine lv_istore (lv' := [(7, .int x8), (9, .int x9_300), (3, .int x3), (5, .int x5), (6, .int x6), (8, .int x8)]) hx hb dX9_storm_304 hl (by decide) rfl (fun ls hl => ?_)
      refine lv_iload hx hb dX9_storm_306 (lv_at hl 1 rfl) ?_
      refine lv_istore (lv' := [(8, .int x9_300), (7, .int x8), (9, .int x9_300), (3, .int x3), (5, .int x5), (6, .int x6)]) hx hb dX9_storm_308 hl (by decide) rfl (fun ls hl => ?_)
      refine lv_goto (tgt := 290) hx hb dX9_storm_310 (by decide) ?_
      exact hr290 (x8, x9_300) h H locs hG ls (lv_sub hl [3, 4, 5, 1, 0] rfl)
  have J_101 : ∀ (x1 : Int32) (x2 : Int32) (x3 : Int32) (x4 : Int32) (x6 : Int32) (n : Nat) (a : Mem × Int32 × Int32), iter (fun rec a => f_X9_storm_101 x1 x2 x3 x4 x6 rec a.1 a.2.1 a.2.2) n a = some z → GP p l e (rmk 5) s m args below meth c 0 0 Q D cs ad 11 101 [(0, .ref (ad 140)), (1, .int x1), (2, .int x2), (3, .int x3), (4, .int x4), (5, .int a.2.1), (6, .int x6), (7, .int a.2.2)] [] a.1 := by
    intro x1 x2 x3 x4 x6
    refine iter_ind (fun r101 hr101 a h => ?_)
    obtain ⟨M, x5, x7⟩ := a
    have h : f_X9_storm_101 x1 x2 x3 x4 x6 r101 M x5 x7 = some z := h
    intro H locs hG ls hl
    have hG : GH D cs ad s M H locs := hG
    have hl : lv_has ls 11 [(0, .ref (ad 140)), (1, .int x1), (2, .int x2), (3, .int x3), (4, .int x4), (5, .int x5), (6, .int x6), (7, .int x7)] := hl
    unfold f_X9_storm_101 at h
    refine lv_iload hx hb dX9_storm_101 (lv_at hl 7 rfl) ?_
    refine lv_iload hx hb dX9_storm_103 (lv_at hl 4 rfl) ?_
    refine lv_icmp_gt (tgt := 282) hx hb dX9_storm_105 (by decide) (fun c_105 => ?_) (fun c_105 => ?_)
    · have h := if_t c_105 h
      refine lv_iload hx hb dX9_storm_282 (lv_at hl 5 rfl) ?_
      refine lv_istore (lv' := [(7, .int x5), (0, .ref (ad 140)), (1, .int x1), (2, .int x2), (3, .int x3), (4, .int x4), (5, .int x5), (6, .int x6)]) hx hb dX9_storm_284 hl (by decide) rfl (fun ls hl => ?_)
      refine lv_iload hx hb dX9_storm_286 (lv_at hl 7 rfl) ?_
      refine lv_istore (lv' := [(8, .int x6), (7, .int x5), (0, .ref (ad 140)), (1, .int x1), (2, .int x2), (3, .int x3), (4, .int x4), (5, .int x5), (6, .int x6)]) hx hb dX9_storm_288 hl (by decide) rfl (fun ls hl => ?_)
      exact J_290 M x3 x5 x6 _ (x5, x6) h H locs hG ls (lv_sub hl [5, 7, 8, 1, 0] rfl)
    · have h := if_f c_105 h
      refine lv_iload hx hb dX9_storm_108 (lv_at hl 7 rfl) ?_
      refine lv_iload hx hb dX9_storm_110 (lv_at hl 4 rfl) ?_
      refine lv_iconst (v := -1) hx hb dX9_storm_112 (by decide) ?_
      refine lv_ixor hx hb dX9_storm_113 ?_
      refine lv_iand hx hb dX9_storm_114 ?_
      refine lv_if_ne (tgt := 122) hx hb dX9_storm_115 (by decide) (fun c_115 => ?_) (fun c_115 => ?_)
      · have h := if_f c_115 h
        refine lv_iconst (v := 0) hx hb dX9_storm_122 (by decide) ?_
        refine lv_istore (lv' := [(8, .int 0), (0, .ref (ad 140)), (1, .int x1), (2, .int x2), (3, .int x3), (4, .int x4), (5, .int x5), (6, .int x6), (7, .int x7)]) hx hb dX9_storm_123 hl (by decide) rfl (fun ls hl => ?_)
        refine lv_aload_n hx hb dX9_storm_125 rfl (lv_at hl 1 rfl) ?_
        obtain ⟨q126, e_126, h⟩ := bd_e h
        refine g_cv hG (g_runV C hG (gR_9 gk_140) (c_X9_tries l D cs ad M e_126) wm_X9_196 wi_X9_tries ws_X9_tries wz_X9 wc_X9_tries e_X9_tries (by decide) hl.1 (Nat.le_of_ble_eq_true rfl) dX9_storm_126) (fun H locs hG => ?_)
        refine lv_iconst (v := 0) hx hb dX9_storm_129 (by decide) ?_
        refine lv_istore (lv' := [(9, .int 0), (8, .int 0), (0, .ref (ad 140)), (1, .int x1), (2, .int x2), (3, .int x3), (4, .int x4), (5, .int x5), (6, .int x6), (7, .int x7)]) hx hb dX9_storm_130 hl (by decide) rfl (fun ls hl => ?_)
        exact J_132 x1 x2 x3 x4 x5 x6 x7 r101 hr101 _ (q126, (0 : Int32), (0 : Int32)) h H locs hG ls (lv_sub hl [2, 3, 4, 5, 6, 7, 8, 9, 1, 0] rfl)
      · have h := if_t c_115 h
        refine lv_iconst (v := 1) hx hb dX9_storm_118 (by decide) ?_
        refine lv_goto (tgt := 123) hx hb dX9_storm_119 (by decide) ?_
        refine lv_istore (lv' := [(8, .int 1), (0, .ref (ad 140)), (1, .int x1), (2, .int x2), (3, .int x3), (4, .int x4), (5, .int x5), (6, .int x6), (7, .int x7)]) hx hb dX9_storm_123 hl (by decide) rfl (fun ls hl => ?_)
        refine lv_aload_n hx hb dX9_storm_125 rfl (lv_at hl 1 rfl) ?_
        obtain ⟨q126, e_126, h⟩ := bd_e h
        refine g_cv hG (g_runV C hG (gR_9 gk_140) (c_X9_tries l D cs ad M e_126) wm_X9_196 wi_X9_tries ws_X9_tries wz_X9 wc_X9_tries e_X9_tries (by decide) hl.1 (Nat.le_of_ble_eq_true rfl) dX9_storm_126) (fun H locs hG => ?_)
        refine lv_iconst (v := 0) hx hb dX9_storm_129 (by decide) ?_
        refine lv_istore (lv' := [(9, .int 0), (8, .int 1), (0, .ref (ad 140)), (1, .int x1), (2, .int x2), (3, .int x3), (4, .int x4), (5, .int x5), (6, .int x6), (7, .int x7)]) hx hb dX9_storm_130 hl (by decide) rfl (fun ls hl => ?_)
        exact J_132 x1 x2 x3 x4 x5 x6 x7 r101 hr101 _ (q126, (1 : Int32), (0 : Int32)) h H locs hG ls (lv_sub hl [2, 3, 4, 5, 6, 7, 8, 9, 1, 0] rfl)
  have J_60 : ∀ (M : Mem) (x1 : Int32) (x2 : Int32) (x3 : Int32) (x4 : Int32) (x5 : Bool) (n : Nat) (a : Int32 × Int32), iter (fun rec a => f_X9_storm_60 M x1 x2 x3 x4 x5 rec a.1 a.2) n a = some z → GP p l e (rmk 5) s m args below meth c 0 0 Q D cs ad 11 60 [(0, .ref (ad 140)), (1, .int x1), (2, .int x2), (3, .int x3), (4, .int x4), (5, .int (bi x5)), (6, .int a.1), (7, .int a.2)] [] M := by
    intro M x1 x2 x3 x4 x5
    refine iter_ind (fun r60 hr60 a h => ?_)
    obtain ⟨x6, x7⟩ := a
    have h : f_X9_storm_60 M x1 x2 x3 x4 x5 r60 x6 x7 = some z := h
    intro H locs hG ls hl
    have hG : GH D cs ad s M H locs := hG
    have hl : lv_has ls 11 [(0, .ref (ad 140)), (1, .int x1), (2, .int x2), (3, .int x3), (4, .int x4), (5, .int (bi x5)), (6, .int x6), (7, .int x7)] := hl
    unfold f_X9_storm_60 at h
    refine lv_iload hx hb dX9_storm_60 (lv_at hl 7 rfl) ?_
    refine lv_aload_n hx hb dX9_storm_62 rfl (lv_at hl 0 rfl) ?_
    refine gf_X9_now C hG gk_140 wf_X9_25 dX9_storm_63 ?_
    refine lv_iconst (v := 5) hx hb dX9_storm_66 (by decide) ?_
    refine g_al (j := 5) C hG gk_146 gl_146 (ixl rfl) (by decide) dX9_storm_67 ?_
    refine lv_icmp_ge (tgt := 98) hx hb dX9_storm_68 (by decide) (fun c_68 => ?_) (fun c_68 => ?_)
    · have h := if_t c_68 h
      refine lv_iconst (v := 0) hx hb dX9_storm_98 (by decide) ?_
      refine lv_istore (lv' := [(7, .int 0), (0, .ref (ad 140)), (1, .int x1), (2, .int x2), (3, .int x3), (4, .int x4), (5, .int (bi x5)), (6, .int x6)]) hx hb dX9_storm_99 hl (by decide) rfl (fun ls hl => ?_)
      exact J_101 x1 x2 x3 x4 x6 _ (M, (bi x5), (0 : Int32)) h H locs hG ls (lv_sub hl [1, 2, 3, 4, 5, 6, 7, 0] rfl)
    · have h := if_f c_68 h
      refine lv_iload hx hb dX9_storm_71 (lv_at hl 6 rfl) ?_
      refine lv_iload hx hb dX9_storm_73 (lv_at hl 4 rfl) ?_
      refine lv_iload hx hb dX9_storm_75 (lv_at hl 7 rfl) ?_
      refine g_ci hG (g_runS C hG (c_X9_has l D cs ad M x4 x7 rfl) wm_X9_148 wt_X9_has wz_X9 wc_X9_has e_X9_has (by decide) hl.1 (Nat.le_of_ble_eq_true rfl) dX9_storm_77) (fun H locs hG => ?_)
      refine lv_if_eq (tgt := 88) hx hb dX9_storm_80 (by decide) (fun c_80 => ?_) (fun c_80 => ?_)
      · have h := if_f (bi_f c_80) h
        refine lv_iconst (v := 1) hx hb dX9_storm_88 (by decide) ?_
        refine lv_imul hx hb dX9_storm_89 ?_
        refine lv_topi (fun x6_90 e6_90 => ?_)
        have h := nm_at e6_90 h
        refine lv_istore (lv' := [(6, .int x6_90), (0, .ref (ad 140)), (1, .int x1), (2, .int x2), (3, .int x3), (4, .int x4), (5, .int (bi x5)), (7, .int x7)]) hx hb dX9_storm_90 hl (by decide) rfl (fun ls hl => ?_)
        obtain ⟨x7_92, e7_92⟩ : ∃ y : Int32, y = x7 + (1 : Int32) := ⟨_, rfl⟩
        have h := nm_at e7_92 h
        refine lv_iinc (v := x7_92) (lv' := [(7, .int x7_92), (6, .int x6_90), (0, .ref (ad 140)), (1, .int x1), (2, .int x2), (3, .int x3), (4, .int x4), (5, .int (bi x5))]) hx hb dX9_storm_92 hl (k := 7) rfl (by rw [e7_92]; rfl) (by decide) rfl (fun ls hl => ?_)
        refine lv_goto (tgt := 60) hx hb dX9_storm_95 (by decide) ?_
        exact hr60 (x6_90, x7_92) h H locs hG ls (lv_sub hl [2, 3, 4, 5, 6, 7, 1, 0] rfl)
      · have h := if_t (bi_t c_80) h
        refine lv_bipush (v := 10) hx hb dX9_storm_83 (by decide) ?_
        refine lv_goto (tgt := 89) hx hb dX9_storm_85 (by decide) ?_
        refine lv_imul hx hb dX9_storm_89 ?_
        refine lv_topi (fun x6_90 e6_90 => ?_)
        have h := nm_at e6_90 h
        refine lv_istore (lv' := [(6, .int x6_90), (0, .ref (ad 140)), (1, .int x1), (2, .int x2), (3, .int x3), (4, .int x4), (5, .int (bi x5)), (7, .int x7)]) hx hb dX9_storm_90 hl (by decide) rfl (fun ls hl => ?_)
        obtain ⟨x7_92, e7_92⟩ : ∃ y : Int32, y = x7 + (1 : Int32) := ⟨_, rfl⟩
        have h := nm_at e7_92 h
        refine lv_iinc (v := x7_92) (lv' := [(7, .int x7_92), (6, .int x6_90), (0, .ref (ad 140)), (1, .int x1), (2, .int x2), (3, .int x3), (4, .int x4), (5, .int (bi x5))]) hx hb dX9_storm_92 hl (k := 7) rfl (by rw [e7_92]; rfl) (by decide) rfl (fun ls hl => ?_)
        refine lv_goto (tgt := 60) hx hb dX9_storm_95 (by decide) ?_
        exact hr60 (x6_90, x7_92) h H locs hG ls (lv_sub hl [2, 3, 4, 5, 6, 7, 1, 0] rfl)
  intro H locs hG ls hl
  have hl : lv_has ls 11 [(0, .ref (ad 140)), (1, .int x1), (2, .int x2), (3, .int x3)] := hl
  unfold f_X9_storm at h
  refine lv_aload_n hx hb dX9_storm_0 rfl (lv_at hl 0 rfl) ?_
  refine g_ci hG (g_runV C hG (gR_9 gk_140) (c_X9_isFlight l D cs ad M rfl) wm_X9_180 wi_X9_isFlight ws_X9_isFlight wz_X9 wc_X9_isFlight e_X9_isFlight (by decide) hl.1 (Nat.le_of_ble_eq_true rfl) dX9_storm_1) (fun H locs hG => ?_)
  refine lv_if_ne (tgt := 10) hx hb dX9_storm_4 (by decide) (fun c_4 => ?_) (fun c_4 => ?_)
  · have h := if_t (bi_t c_4) h
    refine lv_iload_n hx hb dX9_storm_10 rfl (lv_at hl 1 rfl) ?_
    refine lv_iconst (v := 0) hx hb dX9_storm_11 (by decide) ?_
    refine lv_bipush (v := 6) hx hb dX9_storm_12 (by decide) ?_
    refine g_ci hG (g_runS C hG (c_X9_in l D cs ad M x1 (0 : Int32) (6 : Int32) rfl) wm_X9_59 wt_X9_in wz_X9 wc_X9_in e_X9_in (by decide) hl.1 (Nat.le_of_ble_eq_true rfl) dX9_storm_14) (fun H locs hG => ?_)
    refine lv_if_eq (tgt := 39) hx hb dX9_storm_17 (by decide) (fun c_17 => ?_) (fun c_17 => ?_)
    · have h := if_f (bi_f c_17) h
      refine lv_ldc (v := -1000001) hx hb hown (hts _ wk_X9_67) dX9_storm_39 ?_
      exact hr (pf1 (Option.some.inj h)) (pf2 (Option.some.inj h)) hG dX9_storm_41
    · have h := if_t (bi_t c_17) h
      refine lv_iload_n hx hb dX9_storm_20 rfl (lv_at hl 2 rfl) ?_
      refine lv_iconst (v := 0) hx hb dX9_storm_21 (by decide) ?_
      refine lv_bipush (v := 10) hx hb dX9_storm_22 (by decide) ?_
      refine g_ci hG (g_runS C hG (c_X9_in l D cs ad M x2 (0 : Int32) (10 : Int32) rfl) wm_X9_59 wt_X9_in wz_X9 wc_X9_in e_X9_in (by decide) hl.1 (Nat.le_of_ble_eq_true rfl) dX9_storm_24) (fun H locs hG => ?_)
      refine lv_if_eq (tgt := 39) hx hb dX9_storm_27 (by decide) (fun c_27 => ?_) (fun c_27 => ?_)
      · have h := if_f (bi_f c_27) h
        refine lv_ldc (v := -1000001) hx hb hown (hts _ wk_X9_67) dX9_storm_39 ?_
        exact hr (pf1 (Option.some.inj h)) (pf2 (Option.some.inj h)) hG dX9_storm_41
      · have h := if_t (bi_t c_27) h
        refine lv_iload_n hx hb dX9_storm_30 rfl (lv_at hl 3 rfl) ?_
        refine lv_iconst (v := 0) hx hb dX9_storm_31 (by decide) ?_
        refine lv_iconst (v := 1) hx hb dX9_storm_32 (by decide) ?_
        refine g_ci hG (g_runS C hG (c_X9_in l D cs ad M x3 (0 : Int32) (1 : Int32) rfl) wm_X9_59 wt_X9_in wz_X9 wc_X9_in e_X9_in (by decide) hl.1 (Nat.le_of_ble_eq_true rfl) dX9_storm_33) (fun H locs hG => ?_)
        refine lv_if_ne (tgt := 42) hx hb dX9_storm_36 (by decide) (fun c_36 => ?_) (fun c_36 => ?_)
        · have h := if_t (bi_t c_36) h
          refine lv_aload_n hx hb dX9_storm_42 rfl (lv_at hl 0 rfl) ?_
          refine gf_X9_now C hG gk_140 wf_X9_25 dX9_storm_43 ?_
          obtain ⟨q46, e_46, h⟩ := bd_e h
          refine g_ci hG (g_runS C hG (c_X9_flying l D cs ad M gk_146 gl_146 e_46) wm_X9_177 wt_X9_flying wz_X9 wc_X9_flying e_X9_flying (by decide) hl.1 (Nat.le_of_ble_eq_true rfl) dX9_storm_46) (fun H locs hG => ?_)
          refine lv_istore (lv' := [(4, .int q46), (0, .ref (ad 140)), (1, .int x1), (2, .int x2), (3, .int x3)]) hx hb dX9_storm_49 hl (by decide) rfl (fun ls hl => ?_)
          refine lv_iconst (v := 0) hx hb dX9_storm_51 (by decide) ?_
          refine lv_istore (lv' := [(5, .int 0), (4, .int q46), (0, .ref (ad 140)), (1, .int x1), (2, .int x2), (3, .int x3)]) hx hb dX9_storm_52 hl (by decide) rfl (fun ls hl => ?_)
          refine lv_iconst (v := 1) hx hb dX9_storm_54 (by decide) ?_
          refine lv_istore (lv' := [(6, .int 1), (5, .int 0), (4, .int q46), (0, .ref (ad 140)), (1, .int x1), (2, .int x2), (3, .int x3)]) hx hb dX9_storm_55 hl (by decide) rfl (fun ls hl => ?_)
          refine lv_iconst (v := 0) hx hb dX9_storm_57 (by decide) ?_
          refine lv_istore (lv' := [(7, .int 0), (6, .int 1), (5, .int 0), (4, .int q46), (0, .ref (ad 140)), (1, .int x1), (2, .int x2), (3, .int x3)]) hx hb dX9_storm_58 hl (by decide) rfl (fun ls hl => ?_)
          exact J_60 M x1 x2 x3 q46 false _ ((1 : Int32), (0 : Int32)) h H locs hG ls (lv_sub hl [4, 5, 6, 7, 3, 2, 1, 0] rfl)
        · have h := if_f (bi_f c_36) h
          refine lv_ldc (v := -1000001) hx hb hown (hts _ wk_X9_67) dX9_storm_39 ?_
          exact hr (pf1 (Option.some.inj h)) (pf2 (Option.some.inj h)) hG dX9_storm_41
  · have h := if_f (bi_f c_4) h
    refine lv_ldc (v := -1000002) hx hb hown (hts _ wk_X9_183) dX9_storm_7 ?_
    exact hr (pf1 (Option.some.inj h)) (pf2 (Option.some.inj h)) hG dX9_storm_9
