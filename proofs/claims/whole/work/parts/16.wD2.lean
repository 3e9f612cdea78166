def f_X8_seekOrder_36 (r36 : (Mem × Int32) → Option Mem) (M : Mem) (x1 : Int32) : Option Mem :=
  if (120 : Int32) ≤ x1 then (
    some M
  ) else (
    nm (f_X2_become M 14 4) fun q50 =>
    (f_X4_layInto q50 23 (q50 11 3)).bind fun q77 =>
    (f_X2_arriving q77 14).bind fun q88 =>
    (f_X4_weigh q88.2 (f_J6_bitCount_0f7a4 q88.1)).bind fun q94 =>
    (f_X4_stepOn q94).bind fun q101 =>
    if q101.1 = true then (
      nm (x1 + (1 : Int32)) fun x1_108 =>
      r36 (q101.2, x1_108)
    ) else (
      some q101.2
    )
  )
def f_X8_seekOrder (M : Mem) : Option Mem :=
  (f_X4_begin M 13 (M 11 3) (f_X2_coming M 4)).bind fun q31 =>
  iter (fun rec a => f_X8_seekOrder_36 rec a.1 a.2) fuel (q31, (0 : Int32))
theorem e_X8_seekOrder : yX8_seekOrder.cls = RX8 ∧ yX8_seekOrder.cls ≠ "java/lang/invoke/MethodHandle" ∧ yX8_seekOrder.cls ≠ "java/lang/invoke/VarHandle" ∧ (parseMethodDescriptor yX8_seekOrder.desc).map (fun d => d.parameters.length) = some 0 := by decide +kernel
set_option maxHeartbeats 4000000 in
set_option maxRecDepth 100000 in
theorem c_X8_seekOrder (l : Launch) (D : va_G) (cs : Nat → ClassId) (ad : Nat → Nat) (M : Mem) {z : Mem} (h : f_X8_seekOrder M = some z) : CtV l yX8_seekOrder cX8_seekOrder 2 5 D cs ad [.ref (ad 0)] M z := by
  refine ct_v (own := RX8) (by decide) rfl (Nat.le_of_ble_eq_true rfl) ?_
  intro p e s m args below meth c Q C hr
  have hx := C.1
  have hb := C.2.1
  have hown := C.2.2.2.1
  have hts := C.2.2.2.2.1
  have J_36 : ∀ (n : Nat) (a : Mem × Int32), iter (fun rec a => f_X8_seekOrder_36 rec a.1 a.2) n a = some z → GP p l e (rmk 5) s m args below meth c 0 0 Q D cs ad 2 36 [(0, .ref (ad 0)), (1, .int a.2)] [] a.1 := by
    refine iter_ind (fun r36 hr36 a h => ?_)
    obtain ⟨M, x1⟩ := a
    have h : f_X8_seekOrder_36 r36 M x1 = some z := h
    intro H locs hG ls hl
    have hG : GH D cs ad s M H locs := hG
    have hl : lv_has ls 2 [(0, .ref (ad 0)), (1, .int x1)] := hl
    unfold f_X8_seekOrder_36 at h
    refine lv_iload_n hx hb dX8_seekOrder_36 rfl (lv_at hl 1 rfl) ?_
    refine lv_bipush (v := 120) hx hb dX8_seekOrder_37 (by decide) ?_
    refine lv_icmp_ge (tgt := 114) hx hb dX8_seekOrder_39 (by decide) (fun c_39 => ?_) (fun c_39 => ?_)
    · have h := if_t c_39 h
      exact hr (Option.some.inj h) hG dX8_seekOrder_114
    · have h := if_f c_39 h
      refine lv_aload_n hx hb dX8_seekOrder_42 rfl (lv_at hl 0 rfl) ?_
      refine gf_X8_trial C hG gk_0 wf_X8_29 dX8_seekOrder_43 ?_
      refine lv_aload_n hx hb dX8_seekOrder_46 rfl (lv_at hl 0 rfl) ?_
      refine gf_X8_now C hG gk_0 wf_X8_25 dX8_seekOrder_47 ?_
      obtain ⟨q50, e_50⟩ : ∃ y, f_X2_become M 14 4 = y := ⟨_, rfl⟩
      have h := nm_at e_50.symm h
      refine g_cv hG (g_runV C hG (gR_2 gk_14) (c_X2_become l D cs ad M gk_14 gk_4 e_50) wm_X8_122 wi_X2_become ws_X2_become wz_X2 wc_X2_become e_X2_become (by decide) hl.1 (Nat.le_of_ble_eq_true rfl) dX8_seekOrder_50) (fun H locs hG => ?_)
      refine lv_aload_n hx hb dX8_seekOrder_53 rfl (lv_at hl 0 rfl) ?_
      refine gf_X8_orders C hG gk_0 wf_X8_46 dX8_seekOrder_54 ?_
      refine lv_aload_n hx hb dX8_seekOrder_57 rfl (lv_at hl 0 rfl) ?_
      refine gf_X8_trial C hG gk_0 wf_X8_29 dX8_seekOrder_58 ?_
      refine gf_X2_moment (j := 21) C hG gk_14 rfl wf_X8_146 dX8_seekOrder_61 ?_
      refine gf_X3_line (j := 23) C hG gk_21 rfl wf_X8_181 dX8_seekOrder_64 ?_
      refine lv_aload_n hx hb dX8_seekOrder_67 rfl (lv_at hl 0 rfl) ?_
      refine gf_X8_now C hG gk_0 wf_X8_25 dX8_seekOrder_68 ?_
      refine gf_X2_moment (j := 11) C hG gk_4 rfl wf_X8_146 dX8_seekOrder_71 ?_
      refine gf_X3_through C hG gk_11 wf_X8_184 dX8_seekOrder_74 ?_
      obtain ⟨q77, e_77, h⟩ := bd_e h
      refine g_cv hG (g_runV C hG (gR_4 gk_99) (c_X4_layInto l D cs ad q50 gk_23 gl_23 (q50 11 3) e_77) wm_X8_317 wi_X4_layInto ws_X4_layInto wz_X4 wc_X4_layInto e_X4_layInto (by decide) hl.1 (Nat.le_of_ble_eq_true rfl) dX8_seekOrder_77) (fun H locs hG => ?_)
      refine lv_aload_n hx hb dX8_seekOrder_80 rfl (lv_at hl 0 rfl) ?_
      refine gf_X8_orders C hG gk_0 wf_X8_46 dX8_seekOrder_81 ?_
      refine lv_aload_n hx hb dX8_seekOrder_84 rfl (lv_at hl 0 rfl) ?_
      refine gf_X8_trial C hG gk_0 wf_X8_29 dX8_seekOrder_85 ?_
      obtain ⟨q88, e_88, h⟩ := bd_e h
      refine g_ci hG (g_runV C hG (gR_2 gk_14) (c_X2_arriving l D cs ad q77 gk_14 e_88) wm_X8_219 wi_X2_arriving ws_X2_arriving wz_X2 wc_X2_arriving e_X2_arriving (by decide) hl.1 (Nat.le_of_ble_eq_true rfl) dX8_seekOrder_88) (fun H locs hG => ?_)
      refine g_ci hG (g_runS C hG (c_J6_bitCount_0f7a4 l D cs ad q88.2 q88.1 rfl) wm_X8_237 wt_J6_bitCount_0f7a4 wz_J6 wc_J6_bitCount_0f7a4 e_J6_bitCount_0f7a4 (by decide) hl.1 (Nat.le_of_ble_eq_true rfl) dX8_seekOrder_91) (fun H locs hG => ?_)
      obtain ⟨q94, e_94, h⟩ := bd_e h
      refine g_cv hG (g_runV C hG (gR_4 gk_99) (c_X4_weigh l D cs ad q88.2 (f_J6_bitCount_0f7a4 q88.1) e_94) wm_X8_321 wi_X4_weigh ws_X4_weigh wz_X4 wc_X4_weigh e_X4_weigh (by decide) hl.1 (Nat.le_of_ble_eq_true rfl) dX8_seekOrder_94) (fun H locs hG => ?_)
      refine lv_aload_n hx hb dX8_seekOrder_97 rfl (lv_at hl 0 rfl) ?_
      refine gf_X8_orders C hG gk_0 wf_X8_46 dX8_seekOrder_98 ?_
      obtain ⟨q101, e_101, h⟩ := bd_e h
      refine g_ci hG (g_runV C hG (gR_4 gk_99) (c_X4_stepOn l D cs ad q94 e_101) wm_X8_324 wi_X4_stepOn ws_X4_stepOn wz_X4 wc_X4_stepOn e_X4_stepOn (by decide) hl.1 (Nat.le_of_ble_eq_true rfl) dX8_seekOrder_101) (fun H locs hG => ?_)
      refine lv_if_ne (tgt := 108) hx hb dX8_seekOrder_104 (by decide) (fun c_104 => ?_) (fun c_104 => ?_)
      · have h := if_t (bi_t c_104) h
        obtain ⟨x1_108, e1_108⟩ : ∃ y : Int32, y = x1 + (1 : Int32) := ⟨_, rfl⟩
        have h := nm_at e1_108 h
        refine lv_iinc (v := x1_108) (lv' := [(1, .int x1_108), (0, .ref (ad 0))]) hx hb dX8_seekOrder_108 hl (k := 1) rfl (by rw [e1_108]; rfl) (by decide) rfl (fun ls hl => ?_)
        refine lv_goto (tgt := 36) hx hb dX8_seekOrder_111 (by decide) ?_
        exact hr36 (q101.2, x1_108) h H locs hG ls (lv_sub hl [1, 0] rfl)
      · have h := if_f (bi_f c_104) h
        exact hr (Option.some.inj h) hG dX8_seekOrder_107
  intro H locs hG ls hl
  have hl : lv_has ls 2 [(0, .ref (ad 0))] := hl
  unfold f_X8_seekOrder at h
  refine lv_aload_n hx hb dX8_seekOrder_0 rfl (lv_at hl 0 rfl) ?_
  refine gf_X8_orders C hG gk_0 wf_X8_46 dX8_seekOrder_1 ?_
  refine lv_aload_n hx hb dX8_seekOrder_4 rfl (lv_at hl 0 rfl) ?_
  refine gf_X8_now C hG gk_0 wf_X8_25 dX8_seekOrder_5 ?_
  refine gf_X2_moment (j := 11) C hG gk_4 rfl wf_X8_146 dX8_seekOrder_8 ?_
  refine gf_X3_line (j := 13) C hG gk_11 rfl wf_X8_181 dX8_seekOrder_11 ?_
  refine lv_aload_n hx hb dX8_seekOrder_14 rfl (lv_at hl 0 rfl) ?_
  refine gf_X8_now C hG gk_0 wf_X8_25 dX8_seekOrder_15 ?_
  refine gf_X2_moment (j := 11) C hG gk_4 rfl wf_X8_146 dX8_seekOrder_18 ?_
  refine gf_X3_through C hG gk_11 wf_X8_184 dX8_seekOrder_21 ?_
  refine lv_aload_n hx hb dX8_seekOrder_24 rfl (lv_at hl 0 rfl) ?_
  refine gf_X8_now C hG gk_0 wf_X8_25 dX8_seekOrder_25 ?_
  refine g_ci hG (g_runV C hG (gR_2 gk_4) (c_X2_coming l D cs ad M gk_4 rfl) wm_X8_141 wi_X2_coming ws_X2_coming wz_X2 wc_X2_coming e_X2_coming (by decide) hl.1 (Nat.le_of_ble_eq_true rfl) dX8_seekOrder_28) (fun H locs hG => ?_)
  obtain ⟨q31, e_31, h⟩ := bd_e h
  refine g_cv hG (g_runV C hG (gR_4 gk_99) (c_X4_begin l D cs ad M gk_13 gl_13 (M 11 3) (f_X2_coming M 4) e_31) wm_X8_315 wi_X4_begin ws_X4_begin wz_X4 wc_X4_begin e_X4_begin (by decide) hl.1 (Nat.le_of_ble_eq_true rfl) dX8_seekOrder_31) (fun H locs hG => ?_)
  refine lv_iconst (v := 0) hx hb dX8_seekOrder_34 (by decide) ?_
  refine lv_istore_n (lv' := [(1, .int 0), (0, .ref (ad 0))]) hx hb dX8_seekOrder_35 rfl hl (by decide) rfl (fun ls hl => ?_)
  exact J_36 _ (q31, (0 : Int32)) h H locs hG ls (lv_sub hl [1, 0] rfl)
def f_X8_order (M : Mem) (x1 : Int32) : Option (Int32 × Mem) :=
  if (f_X2_isThere M 4) = true then (
    if x1 < (-1 : Int32) then (
      some ((-1000001 : Int32), M)
    ) else (
      if x1 < (5 : Int32) then (
        if x1 < (f_X2_coming M 4) then (
          (f_X8_seekOrder M).bind fun q41 =>
          if (0 : Int32) ≤ x1 then (
            chk (ixb x1 5) <|
            some ((q41 101 x1.toNatClampNeg), q41)
          ) else (
            some ((q41 99 3), q41)
          )
        ) else (
          some ((-1000000 : Int32), M)
        )
      ) else (
        some ((-1000001 : Int32), M)
      )
    )
  ) else (
    some ((-1000002 : Int32), M)
  )
theorem e_X8_order : yX8_order.cls = RX8 ∧ yX8_order.cls ≠ "java/lang/invoke/MethodHandle" ∧ yX8_order.cls ≠ "java/lang/invoke/VarHandle" ∧ (parseMethodDescriptor yX8_order.desc).map (fun d => d.parameters.length) = some 1 := by decide +kernel
set_option maxHeartbeats 4000000 in
set_option maxRecDepth 100000 in
theorem c_X8_order (l : Launch) (D : va_G) (cs : Nat → ClassId) (ad : Nat → Nat) (M : Mem) (x1 : Int32) {z : Int32 × Mem} (h : f_X8_order M x1 = some z) : CtI l yX8_order cX8_order 2 .int 6 D cs ad [.ref (ad 0), .int x1] M z.1 z.2 := by
  refine ct_i (own := RX8) (by decide) rfl (Nat.le_of_ble_eq_true rfl) ?_
  intro p e s m args below meth c Q C hr
  have hx := C.1
  have hb := C.2.1
  have hown := C.2.2.2.1
  have hts := C.2.2.2.2.1
  intro H locs hG ls hl
  have hl : lv_has ls 2 [(0, .ref (ad 0)), (1, .int x1)] := hl
  unfold f_X8_order at h
  refine lv_aload_n hx hb dX8_order_0 rfl (lv_at hl 0 rfl) ?_
  refine gf_X8_now C hG gk_0 wf_X8_25 dX8_order_1 ?_
  refine g_ci hG (g_runV C hG (gR_2 gk_4) (c_X2_isThere l D cs ad M gk_4 rfl) wm_X8_215 wi_X2_isThere ws_X2_isThere wz_X2 wc_X2_isThere e_X2_isThere (by decide) hl.1 (Nat.le_of_ble_eq_true rfl) dX8_order_4) (fun H locs hG => ?_)
  refine lv_if_ne (tgt := 13) hx hb dX8_order_7 (by decide) (fun c_7 => ?_) (fun c_7 => ?_)
  · have h := if_t (bi_t c_7) h
    refine lv_iload_n hx hb dX8_order_13 rfl (lv_at hl 1 rfl) ?_
    refine lv_iconst (v := -1) hx hb dX8_order_14 (by decide) ?_
    refine lv_icmp_lt (tgt := 23) hx hb dX8_order_15 (by decide) (fun c_15 => ?_) (fun c_15 => ?_)
    · have h := if_t c_15 h
      refine lv_ldc (v := -1000001) hx hb hown (hts _ wk_X8_70) dX8_order_23 ?_
      exact hr (pf1 (Option.some.inj h)) (pf2 (Option.some.inj h)) hG dX8_order_25
    · have h := if_f c_15 h
      refine lv_iload_n hx hb dX8_order_18 rfl (lv_at hl 1 rfl) ?_
      refine lv_iconst (v := 5) hx hb dX8_order_19 (by decide) ?_
      refine lv_icmp_lt (tgt := 26) hx hb dX8_order_20 (by decide) (fun c_20 => ?_) (fun c_20 => ?_)
      · have h := if_t c_20 h
        refine lv_iload_n hx hb dX8_order_26 rfl (lv_at hl 1 rfl) ?_
        refine lv_aload_n hx hb dX8_order_27 rfl (lv_at hl 0 rfl) ?_
        refine gf_X8_now C hG gk_0 wf_X8_25 dX8_order_28 ?_
        refine g_ci hG (g_runV C hG (gR_2 gk_4) (c_X2_coming l D cs ad M gk_4 rfl) wm_X8_141 wi_X2_coming ws_X2_coming wz_X2 wc_X2_coming e_X2_coming (by decide) hl.1 (Nat.le_of_ble_eq_true rfl) dX8_order_31) (fun H locs hG => ?_)
        refine lv_icmp_lt (tgt := 40) hx hb dX8_order_34 (by decide) (fun c_34 => ?_) (fun c_34 => ?_)
        · have h := if_t c_34 h
          refine lv_aload_n hx hb dX8_order_40 rfl (lv_at hl 0 rfl) ?_
          obtain ⟨q41, e_41, h⟩ := bd_e h
          refine g_cv hG (g_runV C hG (gR_8 gk_0) (c_X8_seekOrder l D cs ad M e_41) wm_X8_228 wi_X8_seekOrder ws_X8_seekOrder wz_X8 wc_X8_seekOrder e_X8_seekOrder (by decide) hl.1 (Nat.le_of_ble_eq_true rfl) dX8_order_41) (fun H locs hG => ?_)
          refine lv_iload_n hx hb dX8_order_44 rfl (lv_at hl 1 rfl) ?_
          refine lv_if_ge (tgt := 58) hx hb dX8_order_45 (by decide) (fun c_45 => ?_) (fun c_45 => ?_)
          · have h := if_t c_45 h
            refine lv_aload_n hx hb dX8_order_58 rfl (lv_at hl 0 rfl) ?_
            refine gf_X8_orders C hG gk_0 wf_X8_46 dX8_order_59 ?_
            refine gf_X4_best (j := 101) C hG gk_99 rfl wf_X8_234 dX8_order_62 ?_
            refine lv_iload_n hx hb dX8_order_65 rfl (lv_at hl 1 rfl) ?_
            obtain ⟨hi_66, h⟩ := ix_e h
            refine g_al C hG gk_101 gl_101 hi_66 rfl dX8_order_66 ?_
            exact hr (pf1 (Option.some.inj h)) (pf2 (Option.some.inj h)) hG dX8_order_67
          · have h := if_f c_45 h
            refine lv_aload_n hx hb dX8_order_48 rfl (lv_at hl 0 rfl) ?_
            refine gf_X8_orders C hG gk_0 wf_X8_46 dX8_order_49 ?_
            refine gf_X4_most C hG gk_99 wf_X8_231 dX8_order_52 ?_
            refine lv_goto (tgt := 67) hx hb dX8_order_55 (by decide) ?_
            exact hr (pf1 (Option.some.inj h)) (pf2 (Option.some.inj h)) hG dX8_order_67
        · have h := if_f c_34 h
          refine lv_ldc (v := -1000000) hx hb hown (hts _ wk_X8_222) dX8_order_37 ?_
          exact hr (pf1 (Option.some.inj h)) (pf2 (Option.some.inj h)) hG dX8_order_39
      · have h := if_f c_20 h
        refine lv_ldc (v := -1000001) hx hb hown (hts _ wk_X8_70) dX8_order_23 ?_
        exact hr (pf1 (Option.some.inj h)) (pf2 (Option.some.inj h)) hG dX8_order_25
  · have h := if_f (bi_f c_7) h
    refine lv_ldc (v := -1000002) hx hb hown (hts _ wk_X8_145) dX8_order_10 ?_
    exact hr (pf1 (Option.some.inj h)) (pf2 (Option.some.inj h)) hG dX8_order_12
def f_X8_fewestToKeep_34 (x1 : Int32) (x2 : Int32) (r34 : (Mem × Int32 × Int32 × Int32) → Option (Int32 × Mem)) (M : Mem) (x3 : Int32) (x4 : Int32) (x5 : Int32) : Option (Int32 × Mem) :=
  if x2 < x5 then (
    some (x3, M)
  ) else (
    if (x5 &&& (x2 ^^^ (-1 : Int32))) = (0 : Int32) then (
      if x4 ≤ (f_J6_bitCount_0f7a4 x5) then (
        nm (x5 + (1 : Int32)) fun x5_111 =>
        r34 (M, x3, x4, x5_111)
      ) else (
        nm (f_X2_become M 14 4) fun q67 =>
        nm (st q67 21 1 ((q67 21 1) ||| x5)) fun M84 =>
        (f_X2_arriving M84 14).bind fun q91 =>
        if (f_J6_bitCount_0f7a4 q91.1) < x1 then (
          nm (x5 + (1 : Int32)) fun x5_111 =>
          r34 (q91.2, x3, x4, x5_111)
        ) else (
          nm ((f_J6_bitCount_0f7a4 x5)) fun x4_109 =>
          nm (x5 + (1 : Int32)) fun x5_111 =>
          r34 (q91.2, x5, x4_109, x5_111)
        )
      )
    ) else (
      nm (x5 + (1 : Int32)) fun x5_111 =>
      r34 (M, x3, x4, x5_111)
    )
  )
def f_X8_fewestToKeep (M : Mem) (x1 : Int32) : Option (Int32 × Mem) :=
  nm (((M 11 0) &&& ((M 11 1) ^^^ (-1 : Int32)))) fun x2_23 =>
  iter (fun rec a => f_X8_fewestToKeep_34 x1 x2_23 rec a.1 a.2.1 a.2.2.1 a.2.2.2) fuel (M, (-1000000 : Int32), (7 : Int32), (0 : Int32))
theorem e_X8_fewestToKeep : yX8_fewestToKeep.cls = RX8 ∧ yX8_fewestToKeep.cls ≠ "java/lang/invoke/MethodHandle" ∧ yX8_fewestToKeep.cls ≠ "java/lang/invoke/VarHandle" ∧ (parseMethodDescriptor yX8_fewestToKeep.desc).map (fun d => d.parameters.length) = some 1 := by decide +kernel
set_option maxHeartbeats 4000000 in
set_option maxRecDepth 100000 in
theorem c_X8_fewestToKeep (l : Launch) (D : va_G) (cs : Nat → ClassId) (ad : Nat → Nat) (M : Mem) (x1 : Int32) {z : Int32 × Mem} (h : f_X8_fewestToKeep M x1 = some z) : CtI l yX8_fewestToKeep cX8_fewestToKeep 6 .int 5 D cs ad [.ref (ad 0), .int x1] M z.1 z.2 := by
  refine ct_i (own := RX8) (by decide) rfl (Nat.le_of_ble_eq_true rfl) ?_
  intro p e s m args below meth c Q C hr
  have hx := C.1
  have hb := C.2.1
  have hown := C.2.2.2.1
  have hts := C.2.2.2.2.1
  have J_34 : ∀ (x1 : Int32) (x2 : Int32) (n : Nat) (a : Mem × Int32 × Int32 × Int32), iter (fun rec a => f_X8_fewestToKeep_34 x1 x2 rec a.1 a.2.1 a.2.2.1 a.2.2.2) n a = some z → GP p l e (rmk 5) s m args below meth c 0 0 Q D cs ad 6 34 [(0, .ref (ad 0)), (1, .int x1), (2, .int x2), (3, .int a.2.1), (4, .int a.2.2.1), (5, .int a.2.2.2)] [] a.1 := by
    intro x1 x2
    refine iter_ind (fun r34 hr34 a h => ?_)
    obtain ⟨M, x3, x4, x5⟩ := a
    have h : f_X8_fewestToKeep_34 x1 x2 r34 M x3 x4 x5 = some z := h
    intro H locs hG ls hl
    have hG : GH D cs ad s M H locs := hG
    have hl : lv_has ls 6 [(0, .ref (ad 0)), (1, .int x1), (2, .int x2), (3, .int x3), (4, .int x4), (5, .int x5)] := hl
    unfold f_X8_fewestToKeep_34 at h
    refine lv_iload hx hb dX8_fewestToKeep_34 (lv_at hl 5 rfl) ?_
    refine lv_iload_n hx hb dX8_fewestToKeep_36 rfl (lv_at hl 2 rfl) ?_
    refine lv_icmp_gt (tgt := 117) hx hb dX8_fewestToKeep_37 (by decide) (fun c_37 => ?_) (fun c_37 => ?_)
    · have h := if_t c_37 h
      refine lv_iload_n hx hb dX8_fewestToKeep_117 rfl (lv_at hl 3 rfl) ?_
      exact hr (pf1 (Option.some.inj h)) (pf2 (Option.some.inj h)) hG dX8_fewestToKeep_118
    · have h := if_f c_37 h
      refine lv_iload hx hb dX8_fewestToKeep_40 (lv_at hl 5 rfl) ?_
      refine lv_iload_n hx hb dX8_fewestToKeep_42 rfl (lv_at hl 2 rfl) ?_
      refine lv_iconst (v := -1) hx hb dX8_fewestToKeep_43 (by decide) ?_
      refine lv_ixor hx hb dX8_fewestToKeep_44 ?_
      refine lv_iand hx hb dX8_fewestToKeep_45 ?_
      refine lv_if_ne (tgt := 111) hx hb dX8_fewestToKeep_46 (by decide) (fun c_46 => ?_) (fun c_46 => ?_)
      · have h := if_f c_46 h
        obtain ⟨x5_111, e5_111⟩ : ∃ y : Int32, y = x5 + (1 : Int32) := ⟨_, rfl⟩
        have h := nm_at e5_111 h
        refine lv_iinc (v := x5_111) (lv' := [(5, .int x5_111), (0, .ref (ad 0)), (1, .int x1), (2, .int x2), (3, .int x3), (4, .int x4)]) hx hb dX8_fewestToKeep_111 hl (k := 5) rfl (by rw [e5_111]; rfl) (by decide) rfl (fun ls hl => ?_)
        refine lv_goto (tgt := 34) hx hb dX8_fewestToKeep_114 (by decide) ?_
        exact hr34 (M, x3, x4, x5_111) h H locs hG ls (lv_sub hl [1, 2, 3, 4, 5, 0] rfl)
      · have h := if_t c_46 h
        refine lv_iload hx hb dX8_fewestToKeep_49 (lv_at hl 5 rfl) ?_
        refine g_ci hG (g_runS C hG (c_J6_bitCount_0f7a4 l D cs ad M x5 rfl) wm_X8_237 wt_J6_bitCount_0f7a4 wz_J6 wc_J6_bitCount_0f7a4 e_J6_bitCount_0f7a4 (by decide) hl.1 (Nat.le_of_ble_eq_true rfl) dX8_fewestToKeep_51) (fun H locs hG => ?_)
        refine lv_iload hx hb dX8_fewestToKeep_54 (lv_at hl 4 rfl) ?_
        refine lv_icmp_ge (tgt := 111) hx hb dX8_fewestToKeep_56 (by decide) (fun c_56 => ?_) (fun c_56 => ?_)
        · have h := if_t c_56 h
          obtain ⟨x5_111, e5_111⟩ : ∃ y : Int32, y = x5 + (1 : Int32) := ⟨_, rfl⟩
          have h := nm_at e5_111 h
          refine lv_iinc (v := x5_111) (lv' := [(5, .int x5_111), (0, .ref (ad 0)), (1, .int x1), (2, .int x2), (3, .int x3), (4, .int x4)]) hx hb dX8_fewestToKeep_111 hl (k := 5) rfl (by rw [e5_111]; rfl) (by decide) rfl (fun ls hl => ?_)
          refine lv_goto (tgt := 34) hx hb dX8_fewestToKeep_114 (by decide) ?_
          exact hr34 (M, x3, x4, x5_111) h H locs hG ls (lv_sub hl [1, 2, 3, 4, 5, 0] rfl)
        · have h := if_f c_56 h
          refine lv_aload_n hx hb dX8_fewestToKeep_59 rfl (lv_at hl 0 rfl) ?_
          refine gf_X8_trial C hG gk_0 wf_X8_29 dX8_fewestToKeep_60 ?_
          refine lv_aload_n hx hb dX8_fewestToKeep_63 rfl (lv_at hl 0 rfl) ?_
          refine gf_X8_now C hG gk_0 wf_X8_25 dX8_fewestToKeep_64 ?_
          obtain ⟨q67, e_67⟩ : ∃ y, f_X2_become M 14 4 = y := ⟨_, rfl⟩
          have h := nm_at e_67.symm h
          refine g_cv hG (g_runV C hG (gR_2 gk_14) (c_X2_become l D cs ad M gk_14 gk_4 e_67) wm_X8_122 wi_X2_become ws_X2_become wz_X2 wc_X2_become e_X2_become (by decide) hl.1 (Nat.le_of_ble_eq_true rfl) dX8_fewestToKeep_67) (fun H locs hG => ?_)
          refine lv_aload_n hx hb dX8_fewestToKeep_70 rfl (lv_at hl 0 rfl) ?_
          refine gf_X8_trial C hG gk_0 wf_X8_29 dX8_fewestToKeep_71 ?_
          refine gf_X2_moment (j := 21) C hG gk_14 rfl wf_X8_146 dX8_fewestToKeep_74 ?_
          refine lv_dup hx hb dX8_fewestToKeep_77 rfl ?_
          refine gf_X3_kept C hG gk_21 wf_X8_172 dX8_fewestToKeep_78 ?_
          refine lv_iload hx hb dX8_fewestToKeep_81 (lv_at hl 5 rfl) ?_
          refine lv_ior hx hb dX8_fewestToKeep_83 ?_
          refine gp_X3_kept C hG gk_21 wf_X8_172 dX8_fewestToKeep_84 (fun M84 e_84 H locs hG => ?_)
          have h := nm_at e_84 h
          refine lv_aload_n hx hb dX8_fewestToKeep_87 rfl (lv_at hl 0 rfl) ?_
          refine gf_X8_trial C hG gk_0 wf_X8_29 dX8_fewestToKeep_88 ?_
          obtain ⟨q91, e_91, h⟩ := bd_e h
          refine g_ci hG (g_runV C hG (gR_2 gk_14) (c_X2_arriving l D cs ad M84 gk_14 e_91) wm_X8_219 wi_X2_arriving ws_X2_arriving wz_X2 wc_X2_arriving e_X2_arriving (by decide) hl.1 (Nat.le_of_ble_eq_true rfl) dX8_fewestToKeep_91) (fun H locs hG => ?_)
          refine g_ci hG (g_runS C hG (c_J6_bitCount_0f7a4 l D cs ad q91.2 q91.1 rfl) wm_X8_237 wt_J6_bitCount_0f7a4 wz_J6 wc_J6_bitCount_0f7a4 e_J6_bitCount_0f7a4 (by decide) hl.1 (Nat.le_of_ble_eq_true rfl) dX8_fewestToKeep_94) (fun H locs hG => ?_)
          refine lv_iload_n hx hb dX8_fewestToKeep_97 rfl (lv_at hl 1 rfl) ?_
          refine lv_icmp_lt (tgt := 111) hx hb dX8_fewestToKeep_98 (by decide) (fun c_98 => ?_) (fun c_98 => ?_)
          · have h := if_t c_98 h
            obtain ⟨x5_111, e5_111⟩ : ∃ y : Int32, y = x5 + (1 : Int32) := ⟨_, rfl⟩
            have h := nm_at e5_111 h
            refine lv_iinc (v := x5_111) (lv' := [(5, .int x5_111), (0, .ref (ad 0)), (1, .int x1), (2, .int x2), (3, .int x3), (4, .int x4)]) hx hb dX8_fewestToKeep_111 hl (k := 5) rfl (by rw [e5_111]; rfl) (by decide) rfl (fun ls hl => ?_)
            refine lv_goto (tgt := 34) hx hb dX8_fewestToKeep_114 (by decide) ?_
            exact hr34 (q91.2, x3, x4, x5_111) h H locs hG ls (lv_sub hl [1, 2, 3, 4, 5, 0] rfl)
          · have h := if_f c_98 h
            refine lv_iload hx hb dX8_fewestToKeep_101 (lv_at hl 5 rfl) ?_
            refine lv_istore_n (lv' := [(3, .int x5), (0, .ref (ad 0)), (1, .int x1), (2, .int x2), (4, .int x4), (5, .int x5)]) hx hb dX8_fewestToKeep_103 rfl hl (by decide) rfl (fun ls hl => ?_)
            refine lv_iload hx hb dX8_fewestToKeep_104 (lv_at hl 5 rfl) ?_
            refine g_ci hG (g_runS C hG (c_J6_bitCount_0f7a4 l D cs ad q91.2 x5 rfl) wm_X8_237 wt_J6_bitCount_0f7a4 wz_J6 wc_J6_bitCount_0f7a4 e_J6_bitCount_0f7a4 (by decide) hl.1 (Nat.le_of_ble_eq_true rfl) dX8_fewestToKeep_106) (fun H locs hG => ?_)
            refine lv_topi (fun x4_109 e4_109 => ?_)
            have h := nm_at e4_109 h
            refine lv_istore (lv' := [(4, .int x4_109), (3, .int x5), (0, .ref (ad 0)), (1, .int x1), (2, .int x2), (5, .int x5)]) hx hb dX8_fewestToKeep_109 hl (by decide) rfl (fun ls hl => ?_)
            obtain ⟨x5_111, e5_111⟩ : ∃ y : Int32, y = x5 + (1 : Int32) := ⟨_, rfl⟩
            have h := nm_at e5_111 h
            refine lv_iinc (v := x5_111) (lv' := [(5, .int x5_111), (4, .int x4_109), (3, .int x5), (0, .ref (ad 0)), (1, .int x1), (2, .int x2)]) hx hb dX8_fewestToKeep_111 hl (k := 5) rfl (by rw [e5_111]; rfl) (by decide) rfl (fun ls hl => ?_)
            refine lv_goto (tgt := 34) hx hb dX8_fewestToKeep_114 (by decide) ?_
            exact hr34 (q91.2, x5, x4_109, x5_111) h H locs hG ls (lv_sub hl [3, 4, 5, 2, 1, 0] rfl)
  intro H locs hG ls hl
  have hl : lv_has ls 6 [(0, .ref (ad 0)), (1, .int x1)] := hl
  unfold f_X8_fewestToKeep at h
  refine lv_aload_n hx hb dX8_fewestToKeep_0 rfl (lv_at hl 0 rfl) ?_
  refine gf_X8_now C hG gk_0 wf_X8_25 dX8_fewestToKeep_1 ?_
  refine gf_X2_moment (j := 11) C hG gk_4 rfl wf_X8_146 dX8_fewestToKeep_4 ?_
  refine gf_X3_flying C hG gk_11 wf_X8_157 dX8_fewestToKeep_7 ?_
  refine lv_aload_n hx hb dX8_fewestToKeep_10 rfl (lv_at hl 0 rfl) ?_
  refine gf_X8_now C hG gk_0 wf_X8_25 dX8_fewestToKeep_11 ?_
  refine gf_X2_moment (j := 11) C hG gk_4 rfl wf_X8_146 dX8_fewestToKeep_14 ?_
  refine gf_X3_kept C hG gk_11 wf_X8_172 dX8_fewestToKeep_17 ?_
  refine lv_iconst (v := -1) hx hb dX8_fewestToKeep_20 (by decide) ?_
  refine lv_ixor hx hb dX8_fewestToKeep_21 ?_
  refine lv_iand hx hb dX8_fewestToKeep_22 ?_
  refine lv_topi (fun x2_23 e2_23 => ?_)
  have h := nm_at e2_23 h
  refine lv_istore_n (lv' := [(2, .int x2_23), (0, .ref (ad 0)), (1, .int x1)]) hx hb dX8_fewestToKeep_23 rfl hl (by decide) rfl (fun ls hl => ?_)
  refine lv_ldc (v := -1000000) hx hb hown (hts _ wk_X8_222) dX8_fewestToKeep_24 ?_
  refine lv_istore_n (lv' := [(3, .int (-1000000)), (2, .int x2_23), (0, .ref (ad 0)), (1, .int x1)]) hx hb dX8_fewestToKeep_26 rfl hl (by decide) rfl (fun ls hl => ?_)
  refine lv_bipush (v := 7) hx hb dX8_fewestToKeep_27 (by decide) ?_
  refine lv_istore (lv' := [(4, .int 7), (3, .int (-1000000)), (2, .int x2_23), (0, .ref (ad 0)), (1, .int x1)]) hx hb dX8_fewestToKeep_29 hl (by decide) rfl (fun ls hl => ?_)
  refine lv_iconst (v := 0) hx hb dX8_fewestToKeep_31 (by decide) ?_
  refine lv_istore (lv' := [(5, .int 0), (4, .int 7), (3, .int (-1000000)), (2, .int x2_23), (0, .ref (ad 0)), (1, .int x1)]) hx hb dX8_fewestToKeep_32 hl (by decide) rfl (fun ls hl => ?_)
  exact J_34 x1 x2_23 _ (M, (-1000000 : Int32), (7 : Int32), (0 : Int32)) h H locs hG ls (lv_sub hl [4, 5, 3, 2, 1, 0] rfl)
def f_X8_toldOfSet (x0 : Int32) (x1 : Int32) : Int32 :=
  if x0 = (-1000000 : Int32) then (
    x0
  ) else (
    if x1 = (1 : Int32) then (
      x0
    ) else (
      (f_J6_bitCount_0f7a4 x0)
    )
  )
theorem e_X8_toldOfSet : yX8_toldOfSet.cls ≠ "java/lang/invoke/MethodHandle" ∧ yX8_toldOfSet.cls ≠ "java/lang/invoke/VarHandle" ∧ (parseMethodDescriptor yX8_toldOfSet.desc).map (fun d => d.parameters.length) = some 2 := by decide +kernel
set_option maxHeartbeats 4000000 in
set_option maxRecDepth 100000 in
theorem c_X8_toldOfSet (l : Launch) (D : va_G) (cs : Nat → ClassId) (ad : Nat → Nat) (M : Mem) (x0 : Int32) (x1 : Int32) {z : Int32} (h : f_X8_toldOfSet x0 x1 = z) : CtI l yX8_toldOfSet cX8_toldOfSet 2 .int 1 D cs ad [.int x0, .int x1] M z M := by
  refine ct_i (own := RX8) (by decide) rfl (Nat.le_of_ble_eq_true rfl) ?_
  intro p e s m args below meth c Q C hr
  have hx := C.1
  have hb := C.2.1
  have hown := C.2.2.2.1
  have hts := C.2.2.2.2.1
  intro H locs hG ls hl
  have hl : lv_has ls 2 [(0, .int x0), (1, .int x1)] := hl
  unfold f_X8_toldOfSet at h
  refine lv_iload_n hx hb dX8_toldOfSet_0 rfl (lv_at hl 0 rfl) ?_
  refine lv_ldc (v := -1000000) hx hb hown (hts _ wk_X8_222) dX8_toldOfSet_1 ?_
  refine lv_icmp_eq (tgt := 11) hx hb dX8_toldOfSet_3 (by decide) (fun c_3 => ?_) (fun c_3 => ?_)
  · have h := if_t c_3 h
    refine lv_iload_n hx hb dX8_toldOfSet_11 rfl (lv_at hl 0 rfl) ?_
    refine lv_goto (tgt := 19) hx hb dX8_toldOfSet_12 (by decide) ?_
    exact hr h rfl hG dX8_toldOfSet_19
  · have h := if_f c_3 h
    refine lv_iload_n hx hb dX8_toldOfSet_6 rfl (lv_at hl 1 rfl) ?_
    refine lv_iconst (v := 1) hx hb dX8_toldOfSet_7 (by decide) ?_
    refine lv_icmp_ne (tgt := 15) hx hb dX8_toldOfSet_8 (by decide) (fun c_8 => ?_) (fun c_8 => ?_)
    · have h := if_f c_8 h
      refine lv_iload_n hx hb dX8_toldOfSet_15 rfl (lv_at hl 0 rfl) ?_
      refine g_ci hG (g_runS C hG (c_J6_bitCount_0f7a4 l D cs ad M x0 rfl) wm_X8_237 wt_J6_bitCount_0f7a4 wz_J6 wc_J6_bitCount_0f7a4 e_J6_bitCount_0f7a4 (by decide) hl.1 (Nat.le_of_ble_eq_true rfl) dX8_toldOfSet_16) (fun H locs hG => ?_)
      exact hr h rfl hG dX8_toldOfSet_19
    · have h := if_t c_8 h
      refine lv_iload_n hx hb dX8_toldOfSet_11 rfl (lv_at hl 0 rfl) ?_
      refine lv_goto (tgt := 19) hx hb dX8_toldOfSet_12 (by decide) ?_
      exact hr h rfl hG dX8_toldOfSet_19
def f_X8_toKeep (M : Mem) (x1 : Int32) : Option (Int32 × Mem) :=
  if (f_X2_isThere M 4) = true then (
    if (f_X8_isWithin x1 (1 : Int32)) = true then (
      nm ((f_J6_bitCount_0f7a4 (M 11 0))) fun x2_37 =>
      (f_X8_fewestToKeep M x2_37).bind fun q40 =>
      some ((f_X8_toldOfSet q40.1 x1), q40.2)
    ) else (
      some ((-1000001 : Int32), M)
    )
  ) else (
    some ((-1000002 : Int32), M)
  )
theorem e_X8_toKeep : yX8_toKeep.cls = RX8 ∧ yX8_toKeep.cls ≠ "java/lang/invoke/MethodHandle" ∧ yX8_toKeep.cls ≠ "java/lang/invoke/VarHandle" ∧ (parseMethodDescriptor yX8_toKeep.desc).map (fun d => d.parameters.length) = some 1 := by decide +kernel
set_option maxHeartbeats 4000000 in
set_option maxRecDepth 100000 in
theorem c_X8_toKeep (l : Launch) (D : va_G) (cs : Nat → ClassId) (ad : Nat → Nat) (M : Mem) (x1 : Int32) {z : Int32 × Mem} (h : f_X8_toKeep M x1 = some z) : CtI l yX8_toKeep cX8_toKeep 3 .int 6 D cs ad [.ref (ad 0), .int x1] M z.1 z.2 := by
  refine ct_i (own := RX8) (by decide) rfl (Nat.le_of_ble_eq_true rfl) ?_
  intro p e s m args below meth c Q C hr
  have hx := C.1
  have hb := C.2.1
  have hown := C.2.2.2.1
  have hts := C.2.2.2.2.1
  intro H locs hG ls hl
  have hl : lv_has ls 3 [(0, .ref (ad 0)), (1, .int x1)] := hl
  unfold f_X8_toKeep at h
  refine lv_aload_n hx hb dX8_toKeep_0 rfl (lv_at hl 0 rfl) ?_
  refine gf_X8_now C hG gk_0 wf_X8_25 dX8_toKeep_1 ?_
  refine g_ci hG (g_runV C hG (gR_2 gk_4) (c_X2_isThere l D cs ad M gk_4 rfl) wm_X8_215 wi_X2_isThere ws_X2_isThere wz_X2 wc_X2_isThere e_X2_isThere (by decide) hl.1 (Nat.le_of_ble_eq_true rfl) dX8_toKeep_4) (fun H locs hG => ?_)
  refine lv_if_ne (tgt := 13) hx hb dX8_toKeep_7 (by decide) (fun c_7 => ?_) (fun c_7 => ?_)
  · have h := if_t (bi_t c_7) h
    refine lv_iload_n hx hb dX8_toKeep_13 rfl (lv_at hl 1 rfl) ?_
    refine lv_iconst (v := 1) hx hb dX8_toKeep_14 (by decide) ?_
    refine g_ci hG (g_runS C hG (c_X8_isWithin l D cs ad M x1 (1 : Int32) rfl) wm_X8_66 wt_X8_isWithin wz_X8 wc_X8_isWithin e_X8_isWithin (by decide) hl.1 (Nat.le_of_ble_eq_true rfl) dX8_toKeep_15) (fun H locs hG => ?_)
    refine lv_if_ne (tgt := 24) hx hb dX8_toKeep_18 (by decide) (fun c_18 => ?_) (fun c_18 => ?_)
    · have h := if_t (bi_t c_18) h
      refine lv_aload_n hx hb dX8_toKeep_24 rfl (lv_at hl 0 rfl) ?_
      refine gf_X8_now C hG gk_0 wf_X8_25 dX8_toKeep_25 ?_
      refine gf_X2_moment (j := 11) C hG gk_4 rfl wf_X8_146 dX8_toKeep_28 ?_
      refine gf_X3_flying C hG gk_11 wf_X8_157 dX8_toKeep_31 ?_
      refine g_ci hG (g_runS C hG (c_J6_bitCount_0f7a4 l D cs ad M (M 11 0) rfl) wm_X8_237 wt_J6_bitCount_0f7a4 wz_J6 wc_J6_bitCount_0f7a4 e_J6_bitCount_0f7a4 (by decide) hl.1 (Nat.le_of_ble_eq_true rfl) dX8_toKeep_34) (fun H locs hG => ?_)
      refine lv_topi (fun x2_37 e2_37 => ?_)
      have h := nm_at e2_37 h
      refine lv_istore_n (lv' := [(2, .int x2_37), (0, .ref (ad 0)), (1, .int x1)]) hx hb dX8_toKeep_37 rfl hl (by decide) rfl (fun ls hl => ?_)
      refine lv_aload_n hx hb dX8_toKeep_38 rfl (lv_at hl 1 rfl) ?_
      refine lv_iload_n hx hb dX8_toKeep_39 rfl (lv_at hl 0 rfl) ?_
      obtain ⟨q40, e_40, h⟩ := bd_e h
      refine g_ci hG (g_runV C hG (gR_8 gk_0) (c_X8_fewestToKeep l D cs ad M x2_37 e_40) wm_X8_242 wi_X8_fewestToKeep ws_X8_fewestToKeep wz_X8 wc_X8_fewestToKeep e_X8_fewestToKeep (by decide) hl.1 (Nat.le_of_ble_eq_true rfl) dX8_toKeep_40) (fun H locs hG => ?_)
      refine lv_iload_n hx hb dX8_toKeep_43 rfl (lv_at hl 2 rfl) ?_
      refine g_ci hG (g_runS C hG (c_X8_toldOfSet l D cs ad q40.2 q40.1 x1 rfl) wm_X8_245 wt_X8_toldOfSet wz_X8 wc_X8_toldOfSet e_X8_toldOfSet (by decide) hl.1 (Nat.le_of_ble_eq_true rfl) dX8_toKeep_44) (fun H locs hG => ?_)
      exact hr (pf1 (Option.some.inj h)) (pf2 (Option.some.inj h)) hG dX8_toKeep_47
    · have h := if_f (bi_f c_18) h
      refine lv_ldc (v := -1000001) hx hb hown (hts _ wk_X8_70) dX8_toKeep_21 ?_
      exact hr (pf1 (Option.some.inj h)) (pf2 (Option.some.inj h)) hG dX8_toKeep_23
  · have h := if_f (bi_f c_7) h
    refine lv_ldc (v := -1000002) hx hb hown (hts _ wk_X8_145) dX8_toKeep_10 ?_
    exact hr (pf1 (Option.some.inj h)) (pf2 (Option.some.inj h)) hG dX8_toKeep_12
def f_X8_whole (M : Mem) (x1 : Int32) (x2 : Int32) : Option (Int32 × Mem) :=
  if (f_X2_isThere M 4) = true then (
    if (f_X8_isWithin x1 (6 : Int32)) = true then (
      if (f_X8_isWithin x2 (1 : Int32)) = true then (
        (f_X8_fewestToKeep M x1).bind fun q35 =>
        some ((f_X8_toldOfSet q35.1 x2), q35.2)
      ) else (
        some ((-1000001 : Int32), M)
      )
    ) else (
      some ((-1000001 : Int32), M)
    )
  ) else (
    some ((-1000002 : Int32), M)
  )
theorem e_X8_whole : yX8_whole.cls = RX8 ∧ yX8_whole.cls ≠ "java/lang/invoke/MethodHandle" ∧ yX8_whole.cls ≠ "java/lang/invoke/VarHandle" ∧ (parseMethodDescriptor yX8_whole.desc).map (fun d => d.parameters.length) = some 2 := by decide +kernel
set_option maxHeartbeats 4000000 in
set_option maxRecDepth 100000 in
theorem c_X8_whole (l : Launch) (D : va_G) (cs : Nat → ClassId) (ad : Nat → Nat) (M : Mem) (x1 : Int32) (x2 : Int32) {z : Int32 × Mem} (h : f_X8_whole M x1 x2 = some z) : CtI l yX8_whole cX8_whole 3 .int 6 D cs ad [.ref (ad 0), .int x1, .int x2] M z.1 z.2 := by
  refine ct_i (own := RX8) (by decide) rfl (Nat.le_of_ble_eq_true rfl) ?_
  intro p e s m args below meth c Q C hr
  have hx := C.1
  have hb := C.2.1
  have hown := C.2.2.2.1
  have hts := C.2.2.2.2.1
  intro H locs hG ls hl
  have hl : lv_has ls 3 [(0, .ref (ad 0)), (1, .int x1), (2, .int x2)] := hl
  unfold f_X8_whole at h
  refine lv_aload_n hx hb dX8_whole_0 rfl (lv_at hl 0 rfl) ?_
  refine gf_X8_now C hG gk_0 wf_X8_25 dX8_whole_1 ?_
  refine g_ci hG (g_runV C hG (gR_2 gk_4) (c_X2_isThere l D cs ad M gk_4 rfl) wm_X8_215 wi_X2_isThere ws_X2_isThere wz_X2 wc_X2_isThere e_X2_isThere (by decide) hl.1 (Nat.le_of_ble_eq_true rfl) dX8_whole_4) (fun H locs hG => ?_)
  refine lv_if_ne (tgt := 13) hx hb dX8_whole_7 (by decide) (fun c_7 => ?_) (fun c_7 => ?_)
  · have h := if_t (bi_t c_7) h
    refine lv_iload_n hx hb dX8_whole_13 rfl (lv_at hl 1 rfl) ?_
    refine lv_bipush (v := 6) hx hb dX8_whole_14 (by decide) ?_
    refine g_ci hG (g_runS C hG (c_X8_isWithin l D cs ad M x1 (6 : Int32) rfl) wm_X8_66 wt_X8_isWithin wz_X8 wc_X8_isWithin e_X8_isWithin (by decide) hl.1 (Nat.le_of_ble_eq_true rfl) dX8_whole_16) (fun H locs hG => ?_)
    refine lv_if_eq (tgt := 30) hx hb dX8_whole_19 (by decide) (fun c_19 => ?_) (fun c_19 => ?_)
    · have h := if_f (bi_f c_19) h
      refine lv_ldc (v := -1000001) hx hb hown (hts _ wk_X8_70) dX8_whole_30 ?_
      exact hr (pf1 (Option.some.inj h)) (pf2 (Option.some.inj h)) hG dX8_whole_32
    · have h := if_t (bi_t c_19) h
      refine lv_iload_n hx hb dX8_whole_22 rfl (lv_at hl 2 rfl) ?_
      refine lv_iconst (v := 1) hx hb dX8_whole_23 (by decide) ?_
      refine g_ci hG (g_runS C hG (c_X8_isWithin l D cs ad M x2 (1 : Int32) rfl) wm_X8_66 wt_X8_isWithin wz_X8 wc_X8_isWithin e_X8_isWithin (by decide) hl.1 (Nat.le_of_ble_eq_true rfl) dX8_whole_24) (fun H locs hG => ?_)
      refine lv_if_ne (tgt := 33) hx hb dX8_whole_27 (by decide) (fun c_27 => ?_) (fun c_27 => ?_)
      · have h := if_t (bi_t c_27) h
        refine lv_aload_n hx hb dX8_whole_33 rfl (lv_at hl 0 rfl) ?_
        refine lv_iload_n hx hb dX8_whole_34 rfl (lv_at hl 1 rfl) ?_
        obtain ⟨q35, e_35, h⟩ := bd_e h
        refine g_ci hG (g_runV C hG (gR_8 gk_0) (c_X8_fewestToKeep l D cs ad M x1 e_35) wm_X8_242 wi_X8_fewestToKeep ws_X8_fewestToKeep wz_X8 wc_X8_fewestToKeep e_X8_fewestToKeep (by decide) hl.1 (Nat.le_of_ble_eq_true rfl) dX8_whole_35) (fun H locs hG => ?_)
        refine lv_iload_n hx hb dX8_whole_38 rfl (lv_at hl 2 rfl) ?_
        refine g_ci hG (g_runS C hG (c_X8_toldOfSet l D cs ad q35.2 q35.1 x2 rfl) wm_X8_245 wt_X8_toldOfSet wz_X8 wc_X8_toldOfSet e_X8_toldOfSet (by decide) hl.1 (Nat.le_of_ble_eq_true rfl) dX8_whole_39) (fun H locs hG => ?_)
        exact hr (pf1 (Option.some.inj h)) (pf2 (Option.some.inj h)) hG dX8_whole_42
      · have h := if_f (bi_f c_27) h
        refine lv_ldc (v := -1000001) hx hb hown (hts _ wk_X8_70) dX8_whole_30 ?_
        exact hr (pf1 (Option.some.inj h)) (pf2 (Option.some.inj h)) hG dX8_whole_32
  · have h := if_f (bi_f c_7) h
    refine lv_ldc (v := -1000002) hx hb hown (hts _ wk_X8_145) dX8_whole_10 ?_
    exact hr (pf1 (Option.some.inj h)) (pf2 (Option.some.inj h)) hG dX8_whole_12
def f_X8_meal_33 (x1 : Int32) (r33 : (Mem × Int32 × Int32 × Int32) → Option (Int32 × Mem)) (M : Mem) (x2 : Int32) (x3 : Int32) (x4 : Int32) : Option (Int32 × Mem) :=
  if (M 5 2) ≤ x4 then (
    if x1 = (0 : Int32) then (
      some (x2, M)
    ) else (
      some (x3, M)
    )
  ) else (
    if (f_X3_flies M 11 x4) = true then (
      nm (f_X2_become M 14 4) fun q71 =>
      (f_X2_strengthen q71 14 x4).bind fun q80 =>
      (f_X2_arriving q80 14).bind fun q87 =>
      nm ((f_J6_bitCount_0f7a4 q87.1)) fun x5_93 =>
      if x5_93 ≤ x3 then (
        nm (x4 + (1 : Int32)) fun x4_107 =>
        r33 (q87.2, x2, x3, x4_107)
      ) else (
        nm (x4 + (1 : Int32)) fun x4_107 =>
        r33 (q87.2, x4, x5_93, x4_107)
      )
    ) else (
      nm (x4 + (1 : Int32)) fun x4_107 =>
      r33 (M, x2, x3, x4_107)
    )
  )
def f_X8_meal (M : Mem) (x1 : Int32) : Option (Int32 × Mem) :=
  if (f_X2_isThere M 4) = true then (
    if (f_X8_isWithin x1 (1 : Int32)) = true then (
      iter (fun rec a => f_X8_meal_33 x1 rec a.1 a.2.1 a.2.2.1 a.2.2.2) fuel (M, (-1000000 : Int32), (-1000000 : Int32), (0 : Int32))
    ) else (
      some ((-1000001 : Int32), M)
    )
  ) else (
    some ((-1000002 : Int32), M)
  )
theorem e_X8_meal : yX8_meal.cls = RX8 ∧ yX8_meal.cls ≠ "java/lang/invoke/MethodHandle" ∧ yX8_meal.cls ≠ "java/lang/invoke/VarHandle" ∧ (parseMethodDescriptor yX8_meal.desc).map (fun d => d.parameters.length) = some 1 := by decide +kernel
set_option maxHeartbeats 4000000 in
set_option maxRecDepth 100000 in
theorem c_X8_meal (l : Launch) (D : va_G) (cs : Nat → ClassId) (ad : Nat → Nat) (M : Mem) (x1 : Int32) {z : Int32 × Mem} (h : f_X8_meal M x1 = some z) : CtI l yX8_meal cX8_meal 6 .int 5 D cs ad [.ref (ad 0), .int x1] M z.1 z.2 := by
  refine ct_i (own := RX8) (by decide) rfl (Nat.le_of_ble_eq_true rfl) ?_
  intro p e s m args below meth c Q C hr
  have hx := C.1
  have hb := C.2.1
  have hown := C.2.2.2.1
  have hts := C.2.2.2.2.1
  have J_33 : ∀ (x1 : Int32) (n : Nat) (a : Mem × Int32 × Int32 × Int32), iter (fun rec a => f_X8_meal_33 x1 rec a.1 a.2.1 a.2.2.1 a.2.2.2) n a = some z → GP p l e (rmk 5) s m args below meth c 0 0 Q D cs ad 6 33 [(0, .ref (ad 0)), (1, .int x1), (2, .int a.2.1), (3, .int a.2.2.1), (4, .int a.2.2.2)] [] a.1 := by
    intro x1
    refine iter_ind (fun r33 hr33 a h => ?_)
    obtain ⟨M, x2, x3, x4⟩ := a
    have h : f_X8_meal_33 x1 r33 M x2 x3 x4 = some z := h
    intro H locs hG ls hl
    have hG : GH D cs ad s M H locs := hG
    have hl : lv_has ls 6 [(0, .ref (ad 0)), (1, .int x1), (2, .int x2), (3, .int x3), (4, .int x4)] := hl
    unfold f_X8_meal_33 at h
    refine lv_iload hx hb dX8_meal_33 (lv_at hl 4 rfl) ?_
    refine lv_aload_n hx hb dX8_meal_35 rfl (lv_at hl 0 rfl) ?_
    refine gf_X8_now C hG gk_0 wf_X8_25 dX8_meal_36 ?_
    refine gf_X2_told (j := 5) C hG gk_4 rfl wf_X8_129 dX8_meal_39 ?_
    refine gf_X7_birds C hG gk_5 wf_X8_133 dX8_meal_42 ?_
    refine lv_icmp_ge (tgt := 113) hx hb dX8_meal_45 (by decide) (fun c_45 => ?_) (fun c_45 => ?_)
    · have h := if_t c_45 h
      refine lv_iload_n hx hb dX8_meal_113 rfl (lv_at hl 1 rfl) ?_
      refine lv_if_ne (tgt := 121) hx hb dX8_meal_114 (by decide) (fun c_114 => ?_) (fun c_114 => ?_)
      · have h := if_f c_114 h
        refine lv_iload_n hx hb dX8_meal_121 rfl (lv_at hl 3 rfl) ?_
        exact hr (pf1 (Option.some.inj h)) (pf2 (Option.some.inj h)) hG dX8_meal_122
      · have h := if_t c_114 h
        refine lv_iload_n hx hb dX8_meal_117 rfl (lv_at hl 2 rfl) ?_
        refine lv_goto (tgt := 122) hx hb dX8_meal_118 (by decide) ?_
        exact hr (pf1 (Option.some.inj h)) (pf2 (Option.some.inj h)) hG dX8_meal_122
    · have h := if_f c_45 h
      refine lv_aload_n hx hb dX8_meal_48 rfl (lv_at hl 0 rfl) ?_
      refine gf_X8_now C hG gk_0 wf_X8_25 dX8_meal_49 ?_
      refine gf_X2_moment (j := 11) C hG gk_4 rfl wf_X8_146 dX8_meal_52 ?_
      refine lv_iload hx hb dX8_meal_55 (lv_at hl 4 rfl) ?_
      refine g_ci hG (g_runV C hG (gR_3 gk_11) (c_X3_flies l D cs ad M gk_11 x4 rfl) wm_X8_178 wi_X3_flies ws_X3_flies wz_X3 wc_X3_flies e_X3_flies (by decide) hl.1 (Nat.le_of_ble_eq_true rfl) dX8_meal_57) (fun H locs hG => ?_)
      refine lv_if_eq (tgt := 107) hx hb dX8_meal_60 (by decide) (fun c_60 => ?_) (fun c_60 => ?_)
      · have h := if_f (bi_f c_60) h
        obtain ⟨x4_107, e4_107⟩ : ∃ y : Int32, y = x4 + (1 : Int32) := ⟨_, rfl⟩
        have h := nm_at e4_107 h
        refine lv_iinc (v := x4_107) (lv' := [(4, .int x4_107), (0, .ref (ad 0)), (1, .int x1), (2, .int x2), (3, .int x3)]) hx hb dX8_meal_107 hl (k := 4) rfl (by rw [e4_107]; rfl) (by decide) rfl (fun ls hl => ?_)
        refine lv_goto (tgt := 33) hx hb dX8_meal_110 (by decide) ?_
        exact hr33 (M, x2, x3, x4_107) h H locs hG ls (lv_sub hl [1, 2, 3, 4, 0] rfl)
      · have h := if_t (bi_t c_60) h
        refine lv_aload_n hx hb dX8_meal_63 rfl (lv_at hl 0 rfl) ?_
        refine gf_X8_trial C hG gk_0 wf_X8_29 dX8_meal_64 ?_
        refine lv_aload_n hx hb dX8_meal_67 rfl (lv_at hl 0 rfl) ?_
        refine gf_X8_now C hG gk_0 wf_X8_25 dX8_meal_68 ?_
        obtain ⟨q71, e_71⟩ : ∃ y, f_X2_become M 14 4 = y := ⟨_, rfl⟩
        have h := nm_at e_71.symm h
        refine g_cv hG (g_runV C hG (gR_2 gk_14) (c_X2_become l D cs ad M gk_14 gk_4 e_71) wm_X8_122 wi_X2_become ws_X2_become wz_X2 wc_X2_become e_X2_become (by decide) hl.1 (Nat.le_of_ble_eq_true rfl) dX8_meal_71) (fun H locs hG => ?_)
        refine lv_aload_n hx hb dX8_meal_74 rfl (lv_at hl 0 rfl) ?_
        refine gf_X8_trial C hG gk_0 wf_X8_29 dX8_meal_75 ?_
        refine lv_iload hx hb dX8_meal_78 (lv_at hl 4 rfl) ?_
        obtain ⟨q80, e_80, h⟩ := bd_e h
        refine g_cv hG (g_runV C hG (gR_2 gk_14) (c_X2_strengthen l D cs ad q71 gk_14 x4 e_80) wm_X8_165 wi_X2_strengthen ws_X2_strengthen wz_X2 wc_X2_strengthen e_X2_strengthen (by decide) hl.1 (Nat.le_of_ble_eq_true rfl) dX8_meal_80) (fun H locs hG => ?_)
        refine lv_aload_n hx hb dX8_meal_83 rfl (lv_at hl 0 rfl) ?_
        refine gf_X8_trial C hG gk_0 wf_X8_29 dX8_meal_84 ?_
        obtain ⟨q87, e_87, h⟩ := bd_e h
        refine g_ci hG (g_runV C hG (gR_2 gk_14) (c_X2_arriving l D cs ad q80 gk_14 e_87) wm_X8_219 wi_X2_arriving ws_X2_arriving wz_X2 wc_X2_arriving e_X2_arriving (by decide) hl.1 (Nat.le_of_ble_eq_true rfl) dX8_meal_87) (fun H locs hG => ?_)
        refine g_ci hG (g_runS C hG (c_J6_bitCount_0f7a4 l D cs ad q87.2 q87.1 rfl) wm_X8_237 wt_J6_bitCount_0f7a4 wz_J6 wc_J6_bitCount_0f7a4 e_J6_bitCount_0f7a4 (by decide) hl.1 (Nat.le_of_ble_eq_true rfl) dX8_meal_90) (fun H locs hG => ?_)
        refine lv_topi (fun x5_93 e5_93 => ?_)
        have h := nm_at e5_93 h
        refine lv_istore (lv' := [(5, .int x5_93), (0, .ref (ad 0)), (1, .int x1), (2, .int x2), (3, .int x3), (4, .int x4)]) hx hb dX8_meal_93 hl (by decide) rfl (fun ls hl => ?_)
        refine lv_iload hx hb dX8_meal_95 (lv_at hl 0 rfl) ?_
        refine lv_iload_n hx hb dX8_meal_97 rfl (lv_at hl 4 rfl) ?_
        refine lv_icmp_le (tgt := 107) hx hb dX8_meal_98 (by decide) (fun c_98 => ?_) (fun c_98 => ?_)
        · have h := if_t c_98 h
          obtain ⟨x4_107, e4_107⟩ : ∃ y : Int32, y = x4 + (1 : Int32) := ⟨_, rfl⟩
          have h := nm_at e4_107 h
          refine lv_iinc (v := x4_107) (lv' := [(4, .int x4_107), (5, .int x5_93), (0, .ref (ad 0)), (1, .int x1), (2, .int x2), (3, .int x3)]) hx hb dX8_meal_107 hl (k := 5) rfl (by rw [e4_107]; rfl) (by decide) rfl (fun ls hl => ?_)
          refine lv_goto (tgt := 33) hx hb dX8_meal_110 (by decide) ?_
          exact hr33 (q87.2, x2, x3, x4_107) h H locs hG ls (lv_sub hl [2, 3, 4, 5, 0] rfl)
        · have h := if_f c_98 h
          refine lv_iload hx hb dX8_meal_101 (lv_at hl 0 rfl) ?_
          refine lv_istore_n (lv' := [(3, .int x5_93), (5, .int x5_93), (0, .ref (ad 0)), (1, .int x1), (2, .int x2), (4, .int x4)]) hx hb dX8_meal_103 rfl hl (by decide) rfl (fun ls hl => ?_)
          refine lv_iload hx hb dX8_meal_104 (lv_at hl 5 rfl) ?_
          refine lv_istore_n (lv' := [(2, .int x4), (3, .int x5_93), (5, .int x5_93), (0, .ref (ad 0)), (1, .int x1), (4, .int x4)]) hx hb dX8_meal_106 rfl hl (by decide) rfl (fun ls hl => ?_)
          obtain ⟨x4_107, e4_107⟩ : ∃ y : Int32, y = x4 + (1 : Int32) := ⟨_, rfl⟩
          have h := nm_at e4_107 h
          refine lv_iinc (v := x4_107) (lv' := [(4, .int x4_107), (2, .int x4), (3, .int x5_93), (5, .int x5_93), (0, .ref (ad 0)), (1, .int x1)]) hx hb dX8_meal_107 hl (k := 5) rfl (by rw [e4_107]; rfl) (by decide) rfl (fun ls hl => ?_)
          refine lv_goto (tgt := 33) hx hb dX8_meal_110 (by decide) ?_
          exact hr33 (q87.2, x4, x5_93, x4_107) h H locs hG ls (lv_sub hl [4, 5, 1, 2, 0] rfl)
  intro H locs hG ls hl
  have hl : lv_has ls 6 [(0, .ref (ad 0)), (1, .int x1)] := hl
  unfold f_X8_meal at h
  refine lv_aload_n hx hb dX8_meal_0 rfl (lv_at hl 0 rfl) ?_
  refine gf_X8_now C hG gk_0 wf_X8_25 dX8_meal_1 ?_
  refine g_ci hG (g_runV C hG (gR_2 gk_4) (c_X2_isThere l D cs ad M gk_4 rfl) wm_X8_215 wi_X2_isThere ws_X2_isThere wz_X2 wc_X2_isThere e_X2_isThere (by decide) hl.1 (Nat.le_of_ble_eq_true rfl) dX8_meal_4) (fun H locs hG => ?_)
  refine lv_if_ne (tgt := 13) hx hb dX8_meal_7 (by decide) (fun c_7 => ?_) (fun c_7 => ?_)
  · have h := if_t (bi_t c_7) h
    refine lv_iload_n hx hb dX8_meal_13 rfl (lv_at hl 1 rfl) ?_
    refine lv_iconst (v := 1) hx hb dX8_meal_14 (by decide) ?_
    refine g_ci hG (g_runS C hG (c_X8_isWithin l D cs ad M x1 (1 : Int32) rfl) wm_X8_66 wt_X8_isWithin wz_X8 wc_X8_isWithin e_X8_isWithin (by decide) hl.1 (Nat.le_of_ble_eq_true rfl) dX8_meal_15) (fun H locs hG => ?_)
    refine lv_if_ne (tgt := 24) hx hb dX8_meal_18 (by decide) (fun c_18 => ?_) (fun c_18 => ?_)
    · have h := if_t (bi_t c_18) h
      refine lv_ldc (v := -1000000) hx hb hown (hts _ wk_X8_222) dX8_meal_24 ?_
      refine lv_istore_n (lv' := [(2, .int (-1000000)), (0, .ref (ad 0)), (1, .int x1)]) hx hb dX8_meal_26 rfl hl (by decide) rfl (fun ls hl => ?_)
      refine lv_ldc (v := -1000000) hx hb hown (hts _ wk_X8_222) dX8_meal_27 ?_
      refine lv_istore_n (lv' := [(3, .int (-1000000)), (2, .int (-1000000)), (0, .ref (ad 0)), (1, .int x1)]) hx hb dX8_meal_29 rfl hl (by decide) rfl (fun ls hl => ?_)
      refine lv_iconst (v := 0) hx hb dX8_meal_30 (by decide) ?_
      refine lv_istore (lv' := [(4, .int 0), (3, .int (-1000000)), (2, .int (-1000000)), (0, .ref (ad 0)), (1, .int x1)]) hx hb dX8_meal_31 hl (by decide) rfl (fun ls hl => ?_)
      exact J_33 x1 _ (M, (-1000000 : Int32), (-1000000 : Int32), (0 : Int32)) h H locs hG ls (lv_sub hl [3, 4, 2, 1, 0] rfl)
    · have h := if_f (bi_f c_18) h
      refine lv_ldc (v := -1000001) hx hb hown (hts _ wk_X8_70) dX8_meal_21 ?_
      exact hr (pf1 (Option.some.inj h)) (pf2 (Option.some.inj h)) hG dX8_meal_23
  · have h := if_f (bi_f c_7) h
    refine lv_ldc (v := -1000002) hx hb hown (hts _ wk_X8_145) dX8_meal_10 ?_
    exact hr (pf1 (Option.some.inj h)) (pf2 (Option.some.inj h)) hG dX8_meal_12
def f_X8_catches (M : Mem) (x1 : Int32) : Option (Int32 × Mem) :=
  if (f_X8_isBird M x1) = true then (
    if (f_X3_flies M 11 x1) = true then (
      nm ((((1 : Int32) <<< (x1 &&& 31)) ^^^ (-1 : Int32))) fun x2_33 =>
      nm (f_X2_become M 14 4) fun q42 =>
      (f_X2_arriving q42 14).bind fun q49 =>
      nm ((f_J6_bitCount_0f7a4 (q49.1 &&& x2_33))) fun x3_57 =>
      nm (f_X2_become q49.2 14 4) fun q66 =>
      nm (f_X3_turnBack q66 21 ((1 : Int32) <<< (x1 &&& 31))) fun q79 =>
      (f_X2_arriving q79 14).bind fun q87 =>
      some ((x3_57 - (f_J6_bitCount_0f7a4 (q87.1 &&& x2_33))), q87.2)
    ) else (
      some ((-1000002 : Int32), M)
    )
  ) else (
    some ((-1000001 : Int32), M)
  )
theorem e_X8_catches : yX8_catches.cls = RX8 ∧ yX8_catches.cls ≠ "java/lang/invoke/MethodHandle" ∧ yX8_catches.cls ≠ "java/lang/invoke/VarHandle" ∧ (parseMethodDescriptor yX8_catches.desc).map (fun d => d.parameters.length) = some 1 := by decide +kernel
set_option maxHeartbeats 4000000 in
set_option maxRecDepth 100000 in
theorem c_X8_catches (l : Launch) (D : va_G) (cs : Nat → ClassId) (ad : Nat → Nat) (M : Mem) (x1 : Int32) {z : Int32 × Mem} (h : f_X8_catches M x1 = some z) : CtI l yX8_catches cX8_catches 4 .int 5 D cs ad [.ref (ad 0), .int x1] M z.1 z.2 := by
  refine ct_i (own := RX8) (by decide) rfl (Nat.le_of_ble_eq_true rfl) ?_
  intro p e s m args below meth c Q C hr
  have hx := C.1
  have hb := C.2.1
  have hown := C.2.2.2.1
  have hts := C.2.2.2.2.1
  intro H locs hG ls hl
  have hl : lv_has ls 4 [(0, .ref (ad 0)), (1, .int x1)] := hl
  unfold f_X8_catches at h
  refine lv_aload_n hx hb dX8_catches_0 rfl (lv_at hl 0 rfl) ?_
  refine lv_iload_n hx hb dX8_catches_1 rfl (lv_at hl 1 rfl) ?_
  refine g_ci hG (g_runV C hG (gR_8 gk_0) (c_X8_isBird l D cs ad M x1 rfl) wm_X8_162 wi_X8_isBird ws_X8_isBird wz_X8 wc_X8_isBird e_X8_isBird (by decide) hl.1 (Nat.le_of_ble_eq_true rfl) dX8_catches_2) (fun H locs hG => ?_)
  refine lv_if_ne (tgt := 11) hx hb dX8_catches_5 (by decide) (fun c_5 => ?_) (fun c_5 => ?_)
  · have h := if_t (bi_t c_5) h
    refine lv_aload_n hx hb dX8_catches_11 rfl (lv_at hl 0 rfl) ?_
    refine gf_X8_now C hG gk_0 wf_X8_25 dX8_catches_12 ?_
    refine gf_X2_moment (j := 11) C hG gk_4 rfl wf_X8_146 dX8_catches_15 ?_
    refine lv_iload_n hx hb dX8_catches_18 rfl (lv_at hl 1 rfl) ?_
    refine g_ci hG (g_runV C hG (gR_3 gk_11) (c_X3_flies l D cs ad M gk_11 x1 rfl) wm_X8_178 wi_X3_flies ws_X3_flies wz_X3 wc_X3_flies e_X3_flies (by decide) hl.1 (Nat.le_of_ble_eq_true rfl) dX8_catches_19) (fun H locs hG => ?_)
    refine lv_if_ne (tgt := 28) hx hb dX8_catches_22 (by decide) (fun c_22 => ?_) (fun c_22 => ?_)
    · have h := if_t (bi_t c_22) h
      refine lv_iconst (v := 1) hx hb dX8_catches_28 (by decide) ?_
      refine lv_iload_n hx hb dX8_catches_29 rfl (lv_at hl 1 rfl) ?_
      refine lv_ishl hx hb dX8_catches_30 ?_
      refine lv_iconst (v := -1) hx hb dX8_catches_31 (by decide) ?_
      refine lv_ixor hx hb dX8_catches_32 ?_
      refine lv_topi (fun x2_33 e2_33 => ?_)
      have h := nm_at e2_33 h
      refine lv_istore_n (lv' := [(2, .int x2_33), (0, .ref (ad 0)), (1, .int x1)]) hx hb dX8_catches_33 rfl hl (by decide) rfl (fun ls hl => ?_)
      refine lv_aload_n hx hb dX8_catches_34 rfl (lv_at hl 1 rfl) ?_
      refine gf_X8_trial C hG gk_0 wf_X8_29 dX8_catches_35 ?_
      refine lv_aload_n hx hb dX8_catches_38 rfl (lv_at hl 1 rfl) ?_
      refine gf_X8_now C hG gk_0 wf_X8_25 dX8_catches_39 ?_
      obtain ⟨q42, e_42⟩ : ∃ y, f_X2_become M 14 4 = y := ⟨_, rfl⟩
      have h := nm_at e_42.symm h
      refine g_cv hG (g_runV C hG (gR_2 gk_14) (c_X2_become l D cs ad M gk_14 gk_4 e_42) wm_X8_122 wi_X2_become ws_X2_become wz_X2 wc_X2_become e_X2_become (by decide) hl.1 (Nat.le_of_ble_eq_true rfl) dX8_catches_42) (fun H locs hG => ?_)
      refine lv_aload_n hx hb dX8_catches_45 rfl (lv_at hl 1 rfl) ?_
      refine gf_X8_trial C hG gk_0 wf_X8_29 dX8_catches_46 ?_
      obtain ⟨q49, e_49, h⟩ := bd_e h
      refine g_ci hG (g_runV C hG (gR_2 gk_14) (c_X2_arriving l D cs ad q42 gk_14 e_49) wm_X8_219 wi_X2_arriving ws_X2_arriving wz_X2 wc_X2_arriving e_X2_arriving (by decide) hl.1 (Nat.le_of_ble_eq_true rfl) dX8_catches_49) (fun H locs hG => ?_)
      refine lv_iload_n hx hb dX8_catches_52 rfl (lv_at hl 0 rfl) ?_
      refine lv_iand hx hb dX8_catches_53 ?_
      refine g_ci hG (g_runS C hG (c_J6_bitCount_0f7a4 l D cs ad q49.2 (q49.1 &&& x2_33) rfl) wm_X8_237 wt_J6_bitCount_0f7a4 wz_J6 wc_J6_bitCount_0f7a4 e_J6_bitCount_0f7a4 (by decide) hl.1 (Nat.le_of_ble_eq_true rfl) dX8_catches_54) (fun H locs hG => ?_)
      refine lv_topi (fun x3_57 e3_57 => ?_)
      have h := nm_at e3_57 h
      refine lv_istore_n (lv' := [(3, .int x3_57), (2, .int x2_33), (0, .ref (ad 0)), (1, .int x1)]) hx hb dX8_catches_57 rfl hl (by decide) rfl (fun ls hl => ?_)
      refine lv_aload_n hx hb dX8_catches_58 rfl (lv_at hl 2 rfl) ?_
      refine gf_X8_trial C hG gk_0 wf_X8_29 dX8_catches_59 ?_
      refine lv_aload_n hx hb dX8_catches_62 rfl (lv_at hl 2 rfl) ?_
      refine gf_X8_now C hG gk_0 wf_X8_25 dX8_catches_63 ?_
      obtain ⟨q66, e_66⟩ : ∃ y, f_X2_become q49.2 14 4 = y := ⟨_, rfl⟩
      have h := nm_at e_66.symm h
      refine g_cv hG (g_runV C hG (gR_2 gk_14) (c_X2_become l D cs ad q49.2 gk_14 gk_4 e_66) wm_X8_122 wi_X2_become ws_X2_become wz_X2 wc_X2_become e_X2_become (by decide) hl.1 (Nat.le_of_ble_eq_true rfl) dX8_catches_66) (fun H locs hG => ?_)
      refine lv_aload_n hx hb dX8_catches_69 rfl (lv_at hl 2 rfl) ?_
      refine gf_X8_trial C hG gk_0 wf_X8_29 dX8_catches_70 ?_
      refine gf_X2_moment (j := 21) C hG gk_14 rfl wf_X8_146 dX8_catches_73 ?_
      refine lv_iconst (v := 1) hx hb dX8_catches_76 (by decide) ?_
      refine lv_iload_n hx hb dX8_catches_77 rfl (lv_at hl 3 rfl) ?_
      refine lv_ishl hx hb dX8_catches_78 ?_
      obtain ⟨q79, e_79⟩ : ∃ y, f_X3_turnBack q66 21 ((1 : Int32) <<< (x1 &&& 31)) = y := ⟨_, rfl⟩
      have h := nm_at e_79.symm h
      refine g_cv hG (g_runV C hG (gR_3 gk_21) (c_X3_turnBack l D cs ad q66 gk_21 ((1 : Int32) <<< (x1 &&& 31)) e_79) wm_X8_248 wi_X3_turnBack ws_X3_turnBack wz_X3 wc_X3_turnBack e_X3_turnBack (by decide) hl.1 (Nat.le_of_ble_eq_true rfl) dX8_catches_79) (fun H locs hG => ?_)
      refine lv_iload_n hx hb dX8_catches_82 rfl (lv_at hl 0 rfl) ?_
      refine lv_aload_n hx hb dX8_catches_83 rfl (lv_at hl 2 rfl) ?_
      refine gf_X8_trial C hG gk_0 wf_X8_29 dX8_catches_84 ?_
      obtain ⟨q87, e_87, h⟩ := bd_e h
      refine g_ci hG (g_runV C hG (gR_2 gk_14) (c_X2_arriving l D cs ad q79 gk_14 e_87) wm_X8_219 wi_X2_arriving ws_X2_arriving wz_X2 wc_X2_arriving e_X2_arriving (by decide) hl.1 (Nat.le_of_ble_eq_true rfl) dX8_catches_87) (fun H locs hG => ?_)
      refine lv_iload_n hx hb dX8_catches_90 rfl (lv_at hl 1 rfl) ?_
      refine lv_iand hx hb dX8_catches_91 ?_
      refine g_ci hG (g_runS C hG (c_J6_bitCount_0f7a4 l D cs ad q87.2 (q87.1 &&& x2_33) rfl) wm_X8_237 wt_J6_bitCount_0f7a4 wz_J6 wc_J6_bitCount_0f7a4 e_J6_bitCount_0f7a4 (by decide) hl.1 (Nat.le_of_ble_eq_true rfl) dX8_catches_92) (fun H locs hG => ?_)
      refine lv_isub hx hb dX8_catches_95 ?_
      exact hr (pf1 (Option.some.inj h)) (pf2 (Option.some.inj h)) hG dX8_catches_96
    · have h := if_f (bi_f c_22) h
      refine lv_ldc (v := -1000002) hx hb hown (hts _ wk_X8_145) dX8_catches_25 ?_
      exact hr (pf1 (Option.some.inj h)) (pf2 (Option.some.inj h)) hG dX8_catches_27
  · have h := if_f (bi_f c_5) h
    refine lv_ldc (v := -1000001) hx hb hown (hts _ wk_X8_70) dX8_catches_8 ?_
    exact hr (pf1 (Option.some.inj h)) (pf2 (Option.some.inj h)) hG dX8_catches_10
def f_X8_beloved_32 (M : Mem) (x1 : Int32) (r32 : (Int32 × Int32 × Int32) → Option Int32) (x2 : Int32) (x3 : Int32) (x4 : Int32) : Option Int32 :=
  if (M 5 2) ≤ x4 then (
    if x1 = (0 : Int32) then (
      some x2
    ) else (
      if x2 = (-1000000 : Int32) then (
        some x2
      ) else (
        some x3
      )
    )
  ) else (
    (f_X2_loversOf M 4 x4).bind fun q53 =>
    if q53 ≤ x3 then (
      nm (x4 + (1 : Int32)) fun x4_70 =>
      r32 (x2, x3, x4_70)
    ) else (
      nm (x4 + (1 : Int32)) fun x4_70 =>
      r32 (x4, q53, x4_70)
    )
  )
def f_X8_beloved (M : Mem) (x1 : Int32) : Option Int32 :=
  if (f_X2_isThere M 4) = true then (
    if (f_X8_isWithin x1 (1 : Int32)) = true then (
      iter (fun rec a => f_X8_beloved_32 M x1 rec a.1 a.2.1 a.2.2) fuel ((-1000000 : Int32), (0 : Int32), (0 : Int32))
    ) else (
      some (-1000001 : Int32)
    )
  ) else (
    some (-1000002 : Int32)
  )
theorem e_X8_beloved : yX8_beloved.cls = RX8 ∧ yX8_beloved.cls ≠ "java/lang/invoke/MethodHandle" ∧ yX8_beloved.cls ≠ "java/lang/invoke/VarHandle" ∧ (parseMethodDescriptor yX8_beloved.desc).map (fun d => d.parameters.length) = some 1 := by decide +kernel
set_option maxHeartbeats 4000000 in
set_option maxRecDepth 100000 in
theorem c_X8_beloved (l : Launch) (D : va_G) (cs : Nat → ClassId) (ad : Nat → Nat) (M : Mem) (x1 : Int32) {z : Int32} (h : f_X8_beloved M x1 = some z) : CtI l yX8_beloved cX8_beloved 6 .int 2 D cs ad [.ref (ad 0), .int x1] M z M := by
  refine ct_i (own := RX8) (by decide) rfl (Nat.le_of_ble_eq_true rfl) ?_
  intro p e s m args below meth c Q C hr
  have hx := C.1
  have hb := C.2.1
  have hown := C.2.2.2.1
  have hts := C.2.2.2.2.1
  have J_32 : ∀ (x1 : Int32) (n : Nat) (a : Int32 × Int32 × Int32), iter (fun rec a => f_X8_beloved_32 M x1 rec a.1 a.2.1 a.2.2) n a = some z → GP p l e (rmk 2) s m args below meth c 0 0 Q D cs ad 6 32 [(0, .ref (ad 0)), (1, .int x1), (2, .int a.1), (3, .int a.2.1), (4, .int a.2.2)] [] M := by
    intro x1
    refine iter_ind (fun r32 hr32 a h => ?_)
    obtain ⟨x2, x3, x4⟩ := a
    have h : f_X8_beloved_32 M x1 r32 x2 x3 x4 = some z := h
    intro H locs hG ls hl
    have hG : GH D cs ad s M H locs := hG
    have hl : lv_has ls 6 [(0, .ref (ad 0)), (1, .int x1), (2, .int x2), (3, .int x3), (4, .int x4)] := hl
    unfold f_X8_beloved_32 at h
    refine lv_iload hx hb dX8_beloved_32 (lv_at hl 4 rfl) ?_
    refine lv_aload_n hx hb dX8_beloved_34 rfl (lv_at hl 0 rfl) ?_
    refine gf_X8_now C hG gk_0 wf_X8_25 dX8_beloved_35 ?_
    refine gf_X2_told (j := 5) C hG gk_4 rfl wf_X8_129 dX8_beloved_38 ?_
    refine gf_X7_birds C hG gk_5 wf_X8_133 dX8_beloved_41 ?_
    refine lv_icmp_ge (tgt := 76) hx hb dX8_beloved_44 (by decide) (fun c_44 => ?_) (fun c_44 => ?_)
    · have h := if_t c_44 h
      refine lv_iload_n hx hb dX8_beloved_76 rfl (lv_at hl 1 rfl) ?_
      refine lv_if_eq (tgt := 86) hx hb dX8_beloved_77 (by decide) (fun c_77 => ?_) (fun c_77 => ?_)
      · have h := if_t c_77 h
        refine lv_iload_n hx hb dX8_beloved_86 rfl (lv_at hl 2 rfl) ?_
        refine lv_goto (tgt := 91) hx hb dX8_beloved_87 (by decide) ?_
        exact hr (Option.some.inj h) rfl hG dX8_beloved_91
      · have h := if_f c_77 h
        refine lv_iload_n hx hb dX8_beloved_80 rfl (lv_at hl 2 rfl) ?_
        refine lv_ldc (v := -1000000) hx hb hown (hts _ wk_X8_222) dX8_beloved_81 ?_
        refine lv_icmp_ne (tgt := 90) hx hb dX8_beloved_83 (by decide) (fun c_83 => ?_) (fun c_83 => ?_)
        · have h := if_f c_83 h
          refine lv_iload_n hx hb dX8_beloved_90 rfl (lv_at hl 3 rfl) ?_
          exact hr (Option.some.inj h) rfl hG dX8_beloved_91
        · have h := if_t c_83 h
          refine lv_iload_n hx hb dX8_beloved_86 rfl (lv_at hl 2 rfl) ?_
          refine lv_goto (tgt := 91) hx hb dX8_beloved_87 (by decide) ?_
          exact hr (Option.some.inj h) rfl hG dX8_beloved_91
    · have h := if_f c_44 h
      refine lv_aload_n hx hb dX8_beloved_47 rfl (lv_at hl 0 rfl) ?_
      refine gf_X8_now C hG gk_0 wf_X8_25 dX8_beloved_48 ?_
      refine lv_iload hx hb dX8_beloved_51 (lv_at hl 4 rfl) ?_
      obtain ⟨q53, e_53, h⟩ := bd_e h
      refine g_ci hG (g_runV C hG (gR_2 gk_4) (c_X2_loversOf l D cs ad M gk_4 x4 e_53) wm_X8_251 wi_X2_loversOf ws_X2_loversOf wz_X2 wc_X2_loversOf e_X2_loversOf (by decide) hl.1 (Nat.le_of_ble_eq_true rfl) dX8_beloved_53) (fun H locs hG => ?_)
      refine lv_istore (lv' := [(5, .int q53), (0, .ref (ad 0)), (1, .int x1), (2, .int x2), (3, .int x3), (4, .int x4)]) hx hb dX8_beloved_56 hl (by decide) rfl (fun ls hl => ?_)
      refine lv_iload hx hb dX8_beloved_58 (lv_at hl 0 rfl) ?_
      refine lv_iload_n hx hb dX8_beloved_60 rfl (lv_at hl 4 rfl) ?_
      refine lv_icmp_le (tgt := 70) hx hb dX8_beloved_61 (by decide) (fun c_61 => ?_) (fun c_61 => ?_)
      · have h := if_t c_61 h
        obtain ⟨x4_70, e4_70⟩ : ∃ y : Int32, y = x4 + (1 : Int32) := ⟨_, rfl⟩
        have h := nm_at e4_70 h
        refine lv_iinc (v := x4_70) (lv' := [(4, .int x4_70), (5, .int q53), (0, .ref (ad 0)), (1, .int x1), (2, .int x2), (3, .int x3)]) hx hb dX8_beloved_70 hl (k := 5) rfl (by rw [e4_70]; rfl) (by decide) rfl (fun ls hl => ?_)
        refine lv_goto (tgt := 32) hx hb dX8_beloved_73 (by decide) ?_
        exact hr32 (x2, x3, x4_70) h H locs hG ls (lv_sub hl [2, 3, 4, 5, 0] rfl)
      · have h := if_f c_61 h
        refine lv_iload hx hb dX8_beloved_64 (lv_at hl 0 rfl) ?_
        refine lv_istore_n (lv' := [(3, .int q53), (5, .int q53), (0, .ref (ad 0)), (1, .int x1), (2, .int x2), (4, .int x4)]) hx hb dX8_beloved_66 rfl hl (by decide) rfl (fun ls hl => ?_)
        refine lv_iload hx hb dX8_beloved_67 (lv_at hl 5 rfl) ?_
        refine lv_istore_n (lv' := [(2, .int x4), (3, .int q53), (5, .int q53), (0, .ref (ad 0)), (1, .int x1), (4, .int x4)]) hx hb dX8_beloved_69 rfl hl (by decide) rfl (fun ls hl => ?_)
        obtain ⟨x4_70, e4_70⟩ : ∃ y : Int32, y = x4 + (1 : Int32) := ⟨_, rfl⟩
        have h := nm_at e4_70 h
        refine lv_iinc (v := x4_70) (lv' := [(4, .int x4_70), (2, .int x4), (3, .int q53), (5, .int q53), (0, .ref (ad 0)), (1, .int x1)]) hx hb dX8_beloved_70 hl (k := 5) rfl (by rw [e4_70]; rfl) (by decide) rfl (fun ls hl => ?_)
        refine lv_goto (tgt := 32) hx hb dX8_beloved_73 (by decide) ?_
        exact hr32 (x4, q53, x4_70) h H locs hG ls (lv_sub hl [4, 5, 1, 2, 0] rfl)
  intro H locs hG ls hl
  have hl : lv_has ls 6 [(0, .ref (ad 0)), (1, .int x1)] := hl
  unfold f_X8_beloved at h
  refine lv_aload_n hx hb dX8_beloved_0 rfl (lv_at hl 0 rfl) ?_
  refine gf_X8_now C hG gk_0 wf_X8_25 dX8_beloved_1 ?_
  refine g_ci hG (g_runV C hG (gR_2 gk_4) (c_X2_isThere l D cs ad M gk_4 rfl) wm_X8_215 wi_X2_isThere ws_X2_isThere wz_X2 wc_X2_isThere e_X2_isThere (by decide) hl.1 (Nat.le_of_ble_eq_true rfl) dX8_beloved_4) (fun H locs hG => ?_)
  refine lv_if_ne (tgt := 13) hx hb dX8_beloved_7 (by decide) (fun c_7 => ?_) (fun c_7 => ?_)
  · have h := if_t (bi_t c_7) h
    refine lv_iload_n hx hb dX8_beloved_13 rfl (lv_at hl 1 rfl) ?_
    refine lv_iconst (v := 1) hx hb dX8_beloved_14 (by decide) ?_
    refine g_ci hG (g_runS C hG (c_X8_isWithin l D cs ad M x1 (1 : Int32) rfl) wm_X8_66 wt_X8_isWithin wz_X8 wc_X8_isWithin e_X8_isWithin (by decide) hl.1 (Nat.le_of_ble_eq_true rfl) dX8_beloved_15) (fun H locs hG => ?_)
    refine lv_if_ne (tgt := 24) hx hb dX8_beloved_18 (by decide) (fun c_18 => ?_) (fun c_18 => ?_)
    · have h := if_t (bi_t c_18) h
      refine lv_ldc (v := -1000000) hx hb hown (hts _ wk_X8_222) dX8_beloved_24 ?_
      refine lv_istore_n (lv' := [(2, .int (-1000000)), (0, .ref (ad 0)), (1, .int x1)]) hx hb dX8_beloved_26 rfl hl (by decide) rfl (fun ls hl => ?_)
      refine lv_iconst (v := 0) hx hb dX8_beloved_27 (by decide) ?_
      refine lv_istore_n (lv' := [(3, .int 0), (2, .int (-1000000)), (0, .ref (ad 0)), (1, .int x1)]) hx hb dX8_beloved_28 rfl hl (by decide) rfl (fun ls hl => ?_)
      refine lv_iconst (v := 0) hx hb dX8_beloved_29 (by decide) ?_
      refine lv_istore (lv' := [(4, .int 0), (3, .int 0), (2, .int (-1000000)), (0, .ref (ad 0)), (1, .int x1)]) hx hb dX8_beloved_30 hl (by decide) rfl (fun ls hl => ?_)
      exact J_32 x1 _ ((-1000000 : Int32), (0 : Int32), (0 : Int32)) h H locs hG ls (lv_sub hl [3, 4, 2, 1, 0] rfl)
    · have h := if_f (bi_f c_18) h
      refine lv_ldc (v := -1000001) hx hb hown (hts _ wk_X8_70) dX8_beloved_21 ?_
      exact hr (Option.some.inj h) rfl hG dX8_beloved_23
  · have h := if_f (bi_f c_7) h
    refine lv_ldc (v := -1000002) hx hb hown (hts _ wk_X8_145) dX8_beloved_10 ?_
    exact hr (Option.some.inj h) rfl hG dX8_beloved_12
def f_X8_mayCome (M : Mem) (x1 : Int32) : Bool :=
  if x1 < (1 : Int32) then (
    false
  ) else (
    if (f_X2_coming M 4) < x1 then (
      false
    ) else (
      true
    )
  )
theorem e_X8_mayCome : yX8_mayCome.cls = RX8 ∧ yX8_mayCome.cls ≠ "java/lang/invoke/MethodHandle" ∧ yX8_mayCome.cls ≠ "java/lang/invoke/VarHandle" ∧ (parseMethodDescriptor yX8_mayCome.desc).map (fun d => d.parameters.length) = some 1 := by decide +kernel
set_option maxHeartbeats 4000000 in
set_option maxRecDepth 100000 in
theorem c_X8_mayCome (l : Launch) (D : va_G) (cs : Nat → ClassId) (ad : Nat → Nat) (M : Mem) (x1 : Int32) {z : Bool} (h : f_X8_mayCome M x1 = z) : CtI l yX8_mayCome cX8_mayCome 2 .boolean 1 D cs ad [.ref (ad 0), .int x1] M (bi z) M := by
  refine ct_z (own := RX8) (by decide) rfl (Nat.le_of_ble_eq_true rfl) ?_
  intro p e s m args below meth c Q C hr
  have hx := C.1
  have hb := C.2.1
  have hown := C.2.2.2.1
  have hts := C.2.2.2.2.1
  intro H locs hG ls hl
  have hl : lv_has ls 2 [(0, .ref (ad 0)), (1, .int x1)] := hl
  unfold f_X8_mayCome at h
  refine lv_iload_n hx hb dX8_mayCome_0 rfl (lv_at hl 1 rfl) ?_
  refine lv_iconst (v := 1) hx hb dX8_mayCome_1 (by decide) ?_
  refine lv_icmp_lt (tgt := 20) hx hb dX8_mayCome_2 (by decide) (fun c_2 => ?_) (fun c_2 => ?_)
  · have h := if_t c_2 h
    refine lv_iconst (v := 0) hx hb dX8_mayCome_20 (by decide) ?_
    exact hr (congrArg bi h) rfl hG dX8_mayCome_21
  · have h := if_f c_2 h
    refine lv_iload_n hx hb dX8_mayCome_5 rfl (lv_at hl 1 rfl) ?_
    refine lv_aload_n hx hb dX8_mayCome_6 rfl (lv_at hl 0 rfl) ?_
    refine gf_X8_now C hG gk_0 wf_X8_25 dX8_mayCome_7 ?_
    refine g_ci hG (g_runV C hG (gR_2 gk_4) (c_X2_coming l D cs ad M gk_4 rfl) wm_X8_141 wi_X2_coming ws_X2_coming wz_X2 wc_X2_coming e_X2_coming (by decide) hl.1 (Nat.le_of_ble_eq_true rfl) dX8_mayCome_10) (fun H locs hG => ?_)
    refine lv_icmp_gt (tgt := 20) hx hb dX8_mayCome_13 (by decide) (fun c_13 => ?_) (fun c_13 => ?_)
    · have h := if_t c_13 h
      refine lv_iconst (v := 0) hx hb dX8_mayCome_20 (by decide) ?_
      exact hr (congrArg bi h) rfl hG dX8_mayCome_21
    · have h := if_f c_13 h
      refine lv_iconst (v := 1) hx hb dX8_mayCome_16 (by decide) ?_
      refine lv_goto (tgt := 21) hx hb dX8_mayCome_17 (by decide) ?_
      exact hr (congrArg bi h) rfl hG dX8_mayCome_21
def f_X8_isSeen_3 (i1 : Nat) (x2 : Int32) (x3 : Int32) (r3 : (Mem × Int32) → Option (Bool × Mem)) (M : Mem) (x4 : Int32) : Option (Bool × Mem) :=
  if x3 ≤ x4 then (
    some (true, M)
  ) else (
    (f_X2_flyNext M 14).bind fun q13 =>
    chk (ixb (x2 + x4) 40) <|
    if (q13 21 0) = (q13 (i1 + 1) (x2 + x4).toNatClampNeg) then (
      nm (x4 + (1 : Int32)) fun x4_40 =>
      r3 (q13, x4_40)
    ) else (
      some (false, q13)
    )
  )
def f_X8_isSeen (M : Mem) (i1 : Nat) (x2 : Int32) (x3 : Int32) : Option (Bool × Mem) :=
  iter (fun rec a => f_X8_isSeen_3 i1 x2 x3 rec a.1 a.2) fuel (M, (0 : Int32))
theorem e_X8_isSeen : yX8_isSeen.cls = RX8 ∧ yX8_isSeen.cls ≠ "java/lang/invoke/MethodHandle" ∧ yX8_isSeen.cls ≠ "java/lang/invoke/VarHandle" ∧ (parseMethodDescriptor yX8_isSeen.desc).map (fun d => d.parameters.length) = some 3 := by decide +kernel
set_option maxHeartbeats 4000000 in
set_option maxRecDepth 100000 in
theorem c_X8_isSeen (l : Launch) (D : va_G) (cs : Nat → ClassId) (ad : Nat → Nat) (M : Mem) {i1 : Nat} (k_i1 : gK i1 = 5) (x2 : Int32) (x3 : Int32) {z : Bool × Mem} (h : f_X8_isSeen M i1 x2 x3 = some z) : CtI l yX8_isSeen cX8_isSeen 5 .boolean 4 D cs ad [.ref (ad 0), .ref (ad i1), .int x2, .int x3] M (bi z.1) z.2 := by
  refine ct_z (own := RX8) (by decide) rfl (Nat.le_of_ble_eq_true rfl) ?_
  intro p e s m args below meth c Q C hr
  have hx := C.1
  have hb := C.2.1
  have hown := C.2.2.2.1
  have hts := C.2.2.2.2.1
  have J_3 : ∀ (x2 : Int32) (x3 : Int32) (n : Nat) (a : Mem × Int32), iter (fun rec a => f_X8_isSeen_3 i1 x2 x3 rec a.1 a.2) n a = some z → GP p l e (rmk 4) s m args below meth c 0 0 Q D cs ad 5 3 [(0, .ref (ad 0)), (1, .ref (ad i1)), (2, .int x2), (3, .int x3), (4, .int a.2)] [] a.1 := by
    intro x2 x3
    refine iter_ind (fun r3 hr3 a h => ?_)
    obtain ⟨M, x4⟩ := a
    have h : f_X8_isSeen_3 i1 x2 x3 r3 M x4 = some z := h
    intro H locs hG ls hl
    have hG : GH D cs ad s M H locs := hG
    have hl : lv_has ls 5 [(0, .ref (ad 0)), (1, .ref (ad i1)), (2, .int x2), (3, .int x3), (4, .int x4)] := hl
    unfold f_X8_isSeen_3 at h
    refine lv_iload hx hb dX8_isSeen_3 (lv_at hl 4 rfl) ?_
    refine lv_iload_n hx hb dX8_isSeen_5 rfl (lv_at hl 3 rfl) ?_
    refine lv_icmp_ge (tgt := 46) hx hb dX8_isSeen_6 (by decide) (fun c_6 => ?_) (fun c_6 => ?_)
    · have h := if_t c_6 h
      refine lv_iconst (v := 1) hx hb dX8_isSeen_46 (by decide) ?_
      exact hr (congrArg bi (pf1 (Option.some.inj h))) (pf2 (Option.some.inj h)) hG dX8_isSeen_47
    · have h := if_f c_6 h
      refine lv_aload_n hx hb dX8_isSeen_9 rfl (lv_at hl 0 rfl) ?_
      refine gf_X8_trial C hG gk_0 wf_X8_29 dX8_isSeen_10 ?_
      obtain ⟨q13, e_13, h⟩ := bd_e h
      refine g_cv hG (g_runV C hG (gR_2 gk_14) (c_X2_flyNext l D cs ad M gk_14 e_13) wm_X8_154 wi_X2_flyNext ws_X2_flyNext wz_X2 wc_X2_flyNext e_X2_flyNext (by decide) hl.1 (Nat.le_of_ble_eq_true rfl) dX8_isSeen_13) (fun H locs hG => ?_)
      refine lv_aload_n hx hb dX8_isSeen_16 rfl (lv_at hl 0 rfl) ?_
      refine gf_X8_trial C hG gk_0 wf_X8_29 dX8_isSeen_17 ?_
      refine gf_X2_moment (j := 21) C hG gk_14 rfl wf_X8_146 dX8_isSeen_20 ?_
      refine gf_X3_flying C hG gk_21 wf_X8_157 dX8_isSeen_23 ?_
      refine lv_aload_n hx hb dX8_isSeen_26 rfl (lv_at hl 1 rfl) ?_
      refine gf_X5_items (j := (i1 + 1)) C hG k_i1 rfl wf_X8_96 dX8_isSeen_27 ?_
      refine lv_iload_n hx hb dX8_isSeen_30 rfl (lv_at hl 2 rfl) ?_
      refine lv_iload hx hb dX8_isSeen_31 (lv_at hl 4 rfl) ?_
      refine lv_iadd hx hb dX8_isSeen_33 ?_
      obtain ⟨hi_34, h⟩ := ix_e h
      refine g_al C hG (gk_X5_items k_i1) (gl_X5_items k_i1) hi_34 rfl dX8_isSeen_34 ?_
      refine lv_icmp_eq (tgt := 40) hx hb dX8_isSeen_35 (by decide) (fun c_35 => ?_) (fun c_35 => ?_)
      · have h := if_t c_35 h
        obtain ⟨x4_40, e4_40⟩ : ∃ y : Int32, y = x4 + (1 : Int32) := ⟨_, rfl⟩
        have h := nm_at e4_40 h
        refine lv_iinc (v := x4_40) (lv' := [(4, .int x4_40), (0, .ref (ad 0)), (1, .ref (ad i1)), (2, .int x2), (3, .int x3)]) hx hb dX8_isSeen_40 hl (k := 4) rfl (by rw [e4_40]; rfl) (by decide) rfl (fun ls hl => ?_)
        refine lv_goto (tgt := 3) hx hb dX8_isSeen_43 (by decide) ?_
        exact hr3 (q13, x4_40) h H locs hG ls (lv_sub hl [1, 2, 3, 4, 0] rfl)
      · have h := if_f c_35 h
        refine lv_iconst (v := 0) hx hb dX8_isSeen_38 (by decide) ?_
        exact hr (congrArg bi (pf1 (Option.some.inj h))) (pf2 (Option.some.inj h)) hG dX8_isSeen_39
  intro H locs hG ls hl
  have hl : lv_has ls 5 [(0, .ref (ad 0)), (1, .ref (ad i1)), (2, .int x2), (3, .int x3)] := hl
  unfold f_X8_isSeen at h
  refine lv_iconst (v := 0) hx hb dX8_isSeen_0 (by decide) ?_
  refine lv_istore (lv' := [(4, .int 0), (0, .ref (ad 0)), (1, .ref (ad i1)), (2, .int x2), (3, .int x3)]) hx hb dX8_isSeen_1 hl (by decide) rfl (fun ls hl => ?_)
  exact J_3 x2 x3 _ (M, (0 : Int32)) h H locs hG ls (lv_sub hl [1, 2, 3, 4, 0] rfl)
def f_X8_sortsSeen_6 (i2 : Nat) (x1 : Int32) (x3 : Int32) (x4 : Int32) (r6 : (Mem × Int32 × Int32) → Option (Int32 × Mem)) (M : Mem) (x5 : Int32) (x6 : Int32) : Option (Int32 × Mem) :=
  if (5 : Int32) < x6 then (
    some (x5, M)
  ) else (
    nm (f_X2_become M 14 4) fun q20 =>
    chk (ixb x1 6) <|
    nm (st q20 18 x1.toNatClampNeg x6) fun M36 =>
    (f_X8_isSeen M36 i2 x3 x4).bind fun q44 =>
    if q44.1 = true then (
      nm ((x5 ||| ((1 : Int32) <<< (x6 &&& 31)))) fun x5_59 =>
      nm (x6 + (1 : Int32)) fun x6_61 =>
      r6 (q44.2, x5_59, x6_61)
    ) else (
      nm ((x5 ||| (0 : Int32))) fun x5_59 =>
      nm (x6 + (1 : Int32)) fun x6_61 =>
      r6 (q44.2, x5_59, x6_61)
    )
  )
def f_X8_sortsSeen (M : Mem) (x1 : Int32) (i2 : Nat) (x3 : Int32) (x4 : Int32) : Option (Int32 × Mem) :=
  iter (fun rec a => f_X8_sortsSeen_6 i2 x1 x3 x4 rec a.1 a.2.1 a.2.2) fuel (M, (0 : Int32), (1 : Int32))
theorem e_X8_sortsSeen : yX8_sortsSeen.cls = RX8 ∧ yX8_sortsSeen.cls ≠ "java/lang/invoke/MethodHandle" ∧ yX8_sortsSeen.cls ≠ "java/lang/invoke/VarHandle" ∧ (parseMethodDescriptor yX8_sortsSeen.desc).map (fun d => d.parameters.length) = some 4 := by decide +kernel
set_option maxHeartbeats 4000000 in
set_option maxRecDepth 100000 in
theorem c_X8_sortsSeen (l : Launch) (D : va_G) (cs : Nat → ClassId) (ad : Nat → Nat) (M : Mem) (x1 : Int32) {i2 : Nat} (k_i2 : gK i2 = 5) (x3 : Int32) (x4 : Int32) {z : Int32 × Mem} (h : f_X8_sortsSeen M x1 i2 x3 x4 = some z) : CtI l yX8_sortsSeen cX8_sortsSeen 7 .int 5 D cs ad [.ref (ad 0), .int x1, .ref (ad i2), .int x3, .int x4] M z.1 z.2 := by
  refine ct_i (own := RX8) (by decide) rfl (Nat.le_of_ble_eq_true rfl) ?_
  intro p e s m args below meth c Q C hr
  have hx := C.1
  have hb := C.2.1
  have hown := C.2.2.2.1
  have hts := C.2.2.2.2.1
  have J_6 : ∀ (x1 : Int32) (x3 : Int32) (x4 : Int32) (n : Nat) (a : Mem × Int32 × Int32), iter (fun rec a => f_X8_sortsSeen_6 i2 x1 x3 x4 rec a.1 a.2.1 a.2.2) n a = some z → GP p l e (rmk 5) s m args below meth c 0 0 Q D cs ad 7 6 [(0, .ref (ad 0)), (1, .int x1), (2, .ref (ad i2)), (3, .int x3), (4, .int x4), (5, .int a.2.1), (6, .int a.2.2)] [] a.1 := by
    intro x1 x3 x4
    refine iter_ind (fun r6 hr6 a h => ?_)
    obtain ⟨M, x5, x6⟩ := a
    have h : f_X8_sortsSeen_6 i2 x1 x3 x4 r6 M x5 x6 = some z := h
    intro H locs hG ls hl
    have hG : GH D cs ad s M H locs := hG
    have hl : lv_has ls 7 [(0, .ref (ad 0)), (1, .int x1), (2, .ref (ad i2)), (3, .int x3), (4, .int x4), (5, .int x5), (6, .int x6)] := hl
    unfold f_X8_sortsSeen_6 at h
    refine lv_iload hx hb dX8_sortsSeen_6 (lv_at hl 6 rfl) ?_
    refine lv_iconst (v := 5) hx hb dX8_sortsSeen_8 (by decide) ?_
    refine lv_icmp_gt (tgt := 67) hx hb dX8_sortsSeen_9 (by decide) (fun c_9 => ?_) (fun c_9 => ?_)
    · have h := if_t c_9 h
      refine lv_iload hx hb dX8_sortsSeen_67 (lv_at hl 5 rfl) ?_
      exact hr (pf1 (Option.some.inj h)) (pf2 (Option.some.inj h)) hG dX8_sortsSeen_69
    · have h := if_f c_9 h
      refine lv_aload_n hx hb dX8_sortsSeen_12 rfl (lv_at hl 0 rfl) ?_
      refine gf_X8_trial C hG gk_0 wf_X8_29 dX8_sortsSeen_13 ?_
      refine lv_aload_n hx hb dX8_sortsSeen_16 rfl (lv_at hl 0 rfl) ?_
      refine gf_X8_now C hG gk_0 wf_X8_25 dX8_sortsSeen_17 ?_
      obtain ⟨q20, e_20⟩ : ∃ y, f_X2_become M 14 4 = y := ⟨_, rfl⟩
      have h := nm_at e_20.symm h
      refine g_cv hG (g_runV C hG (gR_2 gk_14) (c_X2_become l D cs ad M gk_14 gk_4 e_20) wm_X8_122 wi_X2_become ws_X2_become wz_X2 wc_X2_become e_X2_become (by decide) hl.1 (Nat.le_of_ble_eq_true rfl) dX8_sortsSeen_20) (fun H locs hG => ?_)
      refine lv_aload_n hx hb dX8_sortsSeen_23 rfl (lv_at hl 0 rfl) ?_
      refine gf_X8_trial C hG gk_0 wf_X8_29 dX8_sortsSeen_24 ?_
      refine gf_X2_told (j := 15) C hG gk_14 rfl wf_X8_129 dX8_sortsSeen_27 ?_
      refine gf_X7_kinds (j := 18) C hG gk_15 rfl wf_X8_286 dX8_sortsSeen_30 ?_
      refine lv_iload_n hx hb dX8_sortsSeen_33 rfl (lv_at hl 1 rfl) ?_
      refine lv_iload hx hb dX8_sortsSeen_34 (lv_at hl 6 rfl) ?_
      obtain ⟨hi_36, h⟩ := ix_e h
      refine g_as C hG gk_18 gl_18 hi_36 rfl dX8_sortsSeen_36 (fun M36 e_36 H locs hG => ?_)
      have h := nm_at e_36 h
      refine lv_iload hx hb dX8_sortsSeen_37 (lv_at hl 5 rfl) ?_
      refine lv_aload_n hx hb dX8_sortsSeen_39 rfl (lv_at hl 0 rfl) ?_
      refine lv_aload_n hx hb dX8_sortsSeen_40 rfl (lv_at hl 2 rfl) ?_
      refine lv_iload_n hx hb dX8_sortsSeen_41 rfl (lv_at hl 3 rfl) ?_
      refine lv_iload hx hb dX8_sortsSeen_42 (lv_at hl 4 rfl) ?_
      obtain ⟨q44, e_44, h⟩ := bd_e h
      refine g_ci hG (g_runV C hG (gR_8 gk_0) (c_X8_isSeen l D cs ad M36 k_i2 x3 x4 e_44) wm_X8_327 wi_X8_isSeen ws_X8_isSeen wz_X8 wc_X8_isSeen e_X8_isSeen (by decide) hl.1 (Nat.le_of_ble_eq_true rfl) dX8_sortsSeen_44) (fun H locs hG => ?_)
      refine lv_if_eq (tgt := 57) hx hb dX8_sortsSeen_47 (by decide) (fun c_47 => ?_) (fun c_47 => ?_)
      · have h := if_f (bi_f c_47) h
        refine lv_iconst (v := 0) hx hb dX8_sortsSeen_57 (by decide) ?_
        refine lv_ior hx hb dX8_sortsSeen_58 ?_
        refine lv_topi (fun x5_59 e5_59 => ?_)
        have h := nm_at e5_59 h
        refine lv_istore (lv' := [(5, .int x5_59), (0, .ref (ad 0)), (1, .int x1), (2, .ref (ad i2)), (3, .int x3), (4, .int x4), (6, .int x6)]) hx hb dX8_sortsSeen_59 hl (by decide) rfl (fun ls hl => ?_)
        obtain ⟨x6_61, e6_61⟩ : ∃ y : Int32, y = x6 + (1 : Int32) := ⟨_, rfl⟩
        have h := nm_at e6_61 h
        refine lv_iinc (v := x6_61) (lv' := [(6, .int x6_61), (5, .int x5_59), (0, .ref (ad 0)), (1, .int x1), (2, .ref (ad i2)), (3, .int x3), (4, .int x4)]) hx hb dX8_sortsSeen_61 hl (k := 6) rfl (by rw [e6_61]; rfl) (by decide) rfl (fun ls hl => ?_)
        refine lv_goto (tgt := 6) hx hb dX8_sortsSeen_64 (by decide) ?_
        exact hr6 (q44.2, x5_59, x6_61) h H locs hG ls (lv_sub hl [2, 3, 4, 5, 6, 1, 0] rfl)
      · have h := if_t (bi_t c_47) h
        refine lv_iconst (v := 1) hx hb dX8_sortsSeen_50 (by decide) ?_
        refine lv_iload hx hb dX8_sortsSeen_51 (lv_at hl 6 rfl) ?_
        refine lv_ishl hx hb dX8_sortsSeen_53 ?_
        refine lv_goto (tgt := 58) hx hb dX8_sortsSeen_54 (by decide) ?_
        refine lv_ior hx hb dX8_sortsSeen_58 ?_
        refine lv_topi (fun x5_59 e5_59 => ?_)
        have h := nm_at e5_59 h
        refine lv_istore (lv' := [(5, .int x5_59), (0, .ref (ad 0)), (1, .int x1), (2, .ref (ad i2)), (3, .int x3), (4, .int x4), (6, .int x6)]) hx hb dX8_sortsSeen_59 hl (by decide) rfl (fun ls hl => ?_)
        obtain ⟨x6_61, e6_61⟩ : ∃ y : Int32, y = x6 + (1 : Int32) := ⟨_, rfl⟩
        have h := nm_at e6_61 h
        refine lv_iinc (v := x6_61) (lv' := [(6, .int x6_61), (5, .int x5_59), (0, .ref (ad 0)), (1, .int x1), (2, .ref (ad i2)), (3, .int x3), (4, .int x4)]) hx hb dX8_sortsSeen_61 hl (k := 6) rfl (by rw [e6_61]; rfl) (by decide) rfl (fun ls hl => ?_)
        refine lv_goto (tgt := 6) hx hb dX8_sortsSeen_64 (by decide) ?_
        exact hr6 (q44.2, x5_59, x6_61) h H locs hG ls (lv_sub hl [2, 3, 4, 5, 6, 1, 0] rfl)
  intro H locs hG ls hl
  have hl : lv_has ls 7 [(0, .ref (ad 0)), (1, .int x1), (2, .ref (ad i2)), (3, .int x3), (4, .int x4)] := hl
  unfold f_X8_sortsSeen at h
  refine lv_iconst (v := 0) hx hb dX8_sortsSeen_0 (by decide) ?_
  refine lv_istore (lv' := [(5, .int 0), (0, .ref (ad 0)), (1, .int x1), (2, .ref (ad i2)), (3, .int x3), (4, .int x4)]) hx hb dX8_sortsSeen_1 hl (by decide) rfl (fun ls hl => ?_)
  refine lv_iconst (v := 1) hx hb dX8_sortsSeen_3 (by decide) ?_
  refine lv_istore (lv' := [(6, .int 1), (5, .int 0), (0, .ref (ad 0)), (1, .int x1), (2, .ref (ad i2)), (3, .int x3), (4, .int x4)]) hx hb dX8_sortsSeen_4 hl (by decide) rfl (fun ls hl => ?_)
  exact J_6 x1 x3 x4 _ (M, (0 : Int32), (1 : Int32)) h H locs hG ls (lv_sub hl [2, 3, 4, 5, 6, 1, 0] rfl)
def f_X8_leavesSeen_6 (i2 : Nat) (x1 : Int32) (x3 : Int32) (x4 : Int32) (r6 : (Mem × Int32 × Int32) → Option (Int32 × Mem)) (M : Mem) (x5 : Int32) (x6 : Int32) : Option (Int32 × Mem) :=
  if (6 : Int32) < x6 then (
    some (x5, M)
  ) else (
    nm (f_X2_become M 14 4) fun q21 =>
    chk (ixb x1 6) <|
    nm (st q21 19 x1.toNatClampNeg x6) fun M37 =>
    (f_X8_isSeen M37 i2 x3 x4).bind fun q45 =>
    if q45.1 = true then (
      nm ((x5 ||| ((1 : Int32) <<< (x6 &&& 31)))) fun x5_60 =>
      nm (x6 + (1 : Int32)) fun x6_62 =>
      r6 (q45.2, x5_60, x6_62)
    ) else (
      nm ((x5 ||| (0 : Int32))) fun x5_60 =>
      nm (x6 + (1 : Int32)) fun x6_62 =>
      r6 (q45.2, x5_60, x6_62)
    )
  )
def f_X8_leavesSeen (M : Mem) (x1 : Int32) (i2 : Nat) (x3 : Int32) (x4 : Int32) : Option (Int32 × Mem) :=
  iter (fun rec a => f_X8_leavesSeen_6 i2 x1 x3 x4 rec a.1 a.2.1 a.2.2) fuel (M, (0 : Int32), (0 : Int32))
theorem e_X8_leavesSeen : yX8_leavesSeen.cls = RX8 ∧ yX8_leavesSeen.cls ≠ "java/lang/invoke/MethodHandle" ∧ yX8_leavesSeen.cls ≠ "java/lang/invoke/VarHandle" ∧ (parseMethodDescriptor yX8_leavesSeen.desc).map (fun d => d.parameters.length) = some 4 := by decide +kernel
set_option maxHeartbeats 4000000 in
set_option maxRecDepth 100000 in
theorem c_X8_leavesSeen (l : Launch) (D : va_G) (cs : Nat → ClassId) (ad : Nat → Nat) (M : Mem) (x1 : Int32) {i2 : Nat} (k_i2 : gK i2 = 5) (x3 : Int32) (x4 : Int32) {z : Int32 × Mem} (h : f_X8_leavesSeen M x1 i2 x3 x4 = some z) : CtI l yX8_leavesSeen cX8_leavesSeen 7 .int 5 D cs ad [.ref (ad 0), .int x1, .ref (ad i2), .int x3, .int x4] M z.1 z.2 := by
  refine ct_i (own := RX8) (by decide) rfl (Nat.le_of_ble_eq_true rfl) ?_
  intro p e s m args below meth c Q C hr
  have hx := C.1
  have hb := C.2.1
  have hown := C.2.2.2.1
  have hts := C.2.2.2.2.1
  have J_6 : ∀ (x1 : Int32) (x3 : Int32) (x4 : Int32) (n : Nat) (a : Mem × Int32 × Int32), iter (fun rec a => f_X8_leavesSeen_6 i2 x1 x3 x4 rec a.1 a.2.1 a.2.2) n a = some z → GP p l e (rmk 5) s m args below meth c 0 0 Q D cs ad 7 6 [(0, .ref (ad 0)), (1, .int x1), (2, .ref (ad i2)), (3, .int x3), (4, .int x4), (5, .int a.2.1), (6, .int a.2.2)] [] a.1 := by
    intro x1 x3 x4
    refine iter_ind (fun r6 hr6 a h => ?_)
    obtain ⟨M, x5, x6⟩ := a
    have h : f_X8_leavesSeen_6 i2 x1 x3 x4 r6 M x5 x6 = some z := h
    intro H locs hG ls hl
    have hG : GH D cs ad s M H locs := hG
    have hl : lv_has ls 7 [(0, .ref (ad 0)), (1, .int x1), (2, .ref (ad i2)), (3, .int x3), (4, .int x4), (5, .int x5), (6, .int x6)] := hl
    unfold f_X8_leavesSeen_6 at h
    refine lv_iload hx hb dX8_leavesSeen_6 (lv_at hl 6 rfl) ?_
    refine lv_bipush (v := 6) hx hb dX8_leavesSeen_8 (by decide) ?_
    refine lv_icmp_gt (tgt := 68) hx hb dX8_leavesSeen_10 (by decide) (fun c_10 => ?_) (fun c_10 => ?_)
    · have h := if_t c_10 h
      refine lv_iload hx hb dX8_leavesSeen_68 (lv_at hl 5 rfl) ?_
      exact hr (pf1 (Option.some.inj h)) (pf2 (Option.some.inj h)) hG dX8_leavesSeen_70
    · have h := if_f c_10 h
      refine lv_aload_n hx hb dX8_leavesSeen_13 rfl (lv_at hl 0 rfl) ?_
      refine gf_X8_trial C hG gk_0 wf_X8_29 dX8_leavesSeen_14 ?_
      refine lv_aload_n hx hb dX8_leavesSeen_17 rfl (lv_at hl 0 rfl) ?_
      refine gf_X8_now C hG gk_0 wf_X8_25 dX8_leavesSeen_18 ?_
      obtain ⟨q21, e_21⟩ : ∃ y, f_X2_become M 14 4 = y := ⟨_, rfl⟩
      have h := nm_at e_21.symm h
      refine g_cv hG (g_runV C hG (gR_2 gk_14) (c_X2_become l D cs ad M gk_14 gk_4 e_21) wm_X8_122 wi_X2_become ws_X2_become wz_X2 wc_X2_become e_X2_become (by decide) hl.1 (Nat.le_of_ble_eq_true rfl) dX8_leavesSeen_21) (fun H locs hG => ?_)
      refine lv_aload_n hx hb dX8_leavesSeen_24 rfl (lv_at hl 0 rfl) ?_
      refine gf_X8_trial C hG gk_0 wf_X8_29 dX8_leavesSeen_25 ?_
      refine gf_X2_told (j := 15) C hG gk_14 rfl wf_X8_129 dX8_leavesSeen_28 ?_
      refine gf_X7_leaves (j := 19) C hG gk_15 rfl wf_X8_195 dX8_leavesSeen_31 ?_
      refine lv_iload_n hx hb dX8_leavesSeen_34 rfl (lv_at hl 1 rfl) ?_
      refine lv_iload hx hb dX8_leavesSeen_35 (lv_at hl 6 rfl) ?_
      obtain ⟨hi_37, h⟩ := ix_e h
      refine g_as C hG gk_19 gl_19 hi_37 rfl dX8_leavesSeen_37 (fun M37 e_37 H locs hG => ?_)
      have h := nm_at e_37 h
      refine lv_iload hx hb dX8_leavesSeen_38 (lv_at hl 5 rfl) ?_
      refine lv_aload_n hx hb dX8_leavesSeen_40 rfl (lv_at hl 0 rfl) ?_
      refine lv_aload_n hx hb dX8_leavesSeen_41 rfl (lv_at hl 2 rfl) ?_
      refine lv_iload_n hx hb dX8_leavesSeen_42 rfl (lv_at hl 3 rfl) ?_
      refine lv_iload hx hb dX8_leavesSeen_43 (lv_at hl 4 rfl) ?_
      obtain ⟨q45, e_45, h⟩ := bd_e h
      refine g_ci hG (g_runV C hG (gR_8 gk_0) (c_X8_isSeen l D cs ad M37 k_i2 x3 x4 e_45) wm_X8_327 wi_X8_isSeen ws_X8_isSeen wz_X8 wc_X8_isSeen e_X8_isSeen (by decide) hl.1 (Nat.le_of_ble_eq_true rfl) dX8_leavesSeen_45) (fun H locs hG => ?_)
      refine lv_if_eq (tgt := 58) hx hb dX8_leavesSeen_48 (by decide) (fun c_48 => ?_) (fun c_48 => ?_)
      · have h := if_f (bi_f c_48) h
        refine lv_iconst (v := 0) hx hb dX8_leavesSeen_58 (by decide) ?_
        refine lv_ior hx hb dX8_leavesSeen_59 ?_
        refine lv_topi (fun x5_60 e5_60 => ?_)
        have h := nm_at e5_60 h
        refine lv_istore (lv' := [(5, .int x5_60), (0, .ref (ad 0)), (1, .int x1), (2, .ref (ad i2)), (3, .int x3), (4, .int x4), (6, .int x6)]) hx hb dX8_leavesSeen_60 hl (by decide) rfl (fun ls hl => ?_)
        obtain ⟨x6_62, e6_62⟩ : ∃ y : Int32, y = x6 + (1 : Int32) := ⟨_, rfl⟩
        have h := nm_at e6_62 h
        refine lv_iinc (v := x6_62) (lv' := [(6, .int x6_62), (5, .int x5_60), (0, .ref (ad 0)), (1, .int x1), (2, .ref (ad i2)), (3, .int x3), (4, .int x4)]) hx hb dX8_leavesSeen_62 hl (k := 6) rfl (by rw [e6_62]; rfl) (by decide) rfl (fun ls hl => ?_)
        refine lv_goto (tgt := 6) hx hb dX8_leavesSeen_65 (by decide) ?_
        exact hr6 (q45.2, x5_60, x6_62) h H locs hG ls (lv_sub hl [2, 3, 4, 5, 6, 1, 0] rfl)
      · have h := if_t (bi_t c_48) h
        refine lv_iconst (v := 1) hx hb dX8_leavesSeen_51 (by decide) ?_
        refine lv_iload hx hb dX8_leavesSeen_52 (lv_at hl 6 rfl) ?_
        refine lv_ishl hx hb dX8_leavesSeen_54 ?_
        refine lv_goto (tgt := 59) hx hb dX8_leavesSeen_55 (by decide) ?_
        refine lv_ior hx hb dX8_leavesSeen_59 ?_
        refine lv_topi (fun x5_60 e5_60 => ?_)
        have h := nm_at e5_60 h
        refine lv_istore (lv' := [(5, .int x5_60), (0, .ref (ad 0)), (1, .int x1), (2, .ref (ad i2)), (3, .int x3), (4, .int x4), (6, .int x6)]) hx hb dX8_leavesSeen_60 hl (by decide) rfl (fun ls hl => ?_)
        obtain ⟨x6_62, e6_62⟩ : ∃ y : Int32, y = x6 + (1 : Int32) := ⟨_, rfl⟩
        have h := nm_at e6_62 h
        refine lv_iinc (v := x6_62) (lv' := [(6, .int x6_62), (5, .int x5_60), (0, .ref (ad 0)), (1, .int x1), (2, .ref (ad i2)), (3, .int x3), (4, .int x4)]) hx hb dX8_leavesSeen_62 hl (k := 6) rfl (by rw [e6_62]; rfl) (by decide) rfl (fun ls hl => ?_)
        refine lv_goto (tgt := 6) hx hb dX8_leavesSeen_65 (by decide) ?_
        exact hr6 (q45.2, x5_60, x6_62) h H locs hG ls (lv_sub hl [2, 3, 4, 5, 6, 1, 0] rfl)
  intro H locs hG ls hl
  have hl : lv_has ls 7 [(0, .ref (ad 0)), (1, .int x1), (2, .ref (ad i2)), (3, .int x3), (4, .int x4)] := hl
  unfold f_X8_leavesSeen at h
  refine lv_iconst (v := 0) hx hb dX8_leavesSeen_0 (by decide) ?_
  refine lv_istore (lv' := [(5, .int 0), (0, .ref (ad 0)), (1, .int x1), (2, .ref (ad i2)), (3, .int x3), (4, .int x4)]) hx hb dX8_leavesSeen_1 hl (by decide) rfl (fun ls hl => ?_)
  refine lv_iconst (v := 0) hx hb dX8_leavesSeen_3 (by decide) ?_
  refine lv_istore (lv' := [(6, .int 0), (5, .int 0), (0, .ref (ad 0)), (1, .int x1), (2, .ref (ad i2)), (3, .int x3), (4, .int x4)]) hx hb dX8_leavesSeen_4 hl (by decide) rfl (fun ls hl => ?_)
  exact J_6 x1 x3 x4 _ (M, (0 : Int32), (0 : Int32)) h H locs hG ls (lv_sub hl [2, 3, 4, 5, 6, 1, 0] rfl)
def f_X8_fits (M : Mem) (x1 : Int32) (x2 : Int32) (x3 : Int32) (x4 : Int32) (x5 : Int32) : Option (Int32 × Mem) :=
  if (f_X8_isBird M x1) = true then (
    if (f_X8_isRow x2) = true then (
      if (f_X8_mayCome M x4) = true then (
        if (f_X8_isWithin x5 (1 : Int32)) = true then (
          chk (ixb x2 8) <|
          if (M (104 + 2 * x2.toNatClampNeg) 0) = (0 : Int32) then (
            nm (f_X8_found M (1 : Int32)) fun q54 =>
            some (q54.1, q54.2)
          ) else (
            if (f_X5_has M (104 + 2 * x2.toNatClampNeg) x3 x4) = true then (
              if x5 = (0 : Int32) then (
                (f_X8_sortsSeen M x1 (104 + 2 * x2.toNatClampNeg) x3 x4).bind fun q88 =>
                nm (f_X8_well q88.2 q88.1) fun q104 =>
                some (q104.1, q104.2)
              ) else (
                (f_X8_leavesSeen M x1 (104 + 2 * x2.toNatClampNeg) x3 x4).bind fun q101 =>
                nm (f_X8_well q101.2 q101.1) fun q104 =>
                some (q104.1, q104.2)
              )
            ) else (
              nm (f_X8_found M (2 : Int32)) fun q71 =>
              some (q71.1, q71.2)
            )
          )
        ) else (
          some ((-1000001 : Int32), M)
        )
      ) else (
        some ((-1000001 : Int32), M)
      )
    ) else (
      some ((-1000001 : Int32), M)
    )
  ) else (
    some ((-1000001 : Int32), M)
  )
theorem e_X8_fits : yX8_fits.cls = RX8 ∧ yX8_fits.cls ≠ "java/lang/invoke/MethodHandle" ∧ yX8_fits.cls ≠ "java/lang/invoke/VarHandle" ∧ (parseMethodDescriptor yX8_fits.desc).map (fun d => d.parameters.length) = some 5 := by decide +kernel
set_option maxHeartbeats 4000000 in
set_option maxRecDepth 100000 in
theorem c_X8_fits (l : Launch) (D : va_G) (cs : Nat → ClassId) (ad : Nat → Nat) (M : Mem) (x1 : Int32) (x2 : Int32) (x3 : Int32) (x4 : Int32) (x5 : Int32) {z : Int32 × Mem} (h : f_X8_fits M x1 x2 x3 x4 x5 = some z) : CtI l yX8_fits cX8_fits 7 .int 6 D cs ad [.ref (ad 0), .int x1, .int x2, .int x3, .int x4, .int x5] M z.1 z.2 := by
  refine ct_i (own := RX8) (by decide) rfl (Nat.le_of_ble_eq_true rfl) ?_
  intro p e s m args below meth c Q C hr
  have hx := C.1
  have hb := C.2.1
  have hown := C.2.2.2.1
  have hts := C.2.2.2.2.1
  intro H locs hG ls hl
  have hl : lv_has ls 7 [(0, .ref (ad 0)), (1, .int x1), (2, .int x2), (3, .int x3), (4, .int x4), (5, .int x5)] := hl
  unfold f_X8_fits at h
  refine lv_aload_n hx hb dX8_fits_0 rfl (lv_at hl 0 rfl) ?_
  refine lv_iload_n hx hb dX8_fits_1 rfl (lv_at hl 1 rfl) ?_
  refine g_ci hG (g_runV C hG (gR_8 gk_0) (c_X8_isBird l D cs ad M x1 rfl) wm_X8_162 wi_X8_isBird ws_X8_isBird wz_X8 wc_X8_isBird e_X8_isBird (by decide) hl.1 (Nat.le_of_ble_eq_true rfl) dX8_fits_2) (fun H locs hG => ?_)
  refine lv_if_eq (tgt := 33) hx hb dX8_fits_5 (by decide) (fun c_5 => ?_) (fun c_5 => ?_)
  · have h := if_f (bi_f c_5) h
    refine lv_ldc (v := -1000001) hx hb hown (hts _ wk_X8_70) dX8_fits_33 ?_
    exact hr (pf1 (Option.some.inj h)) (pf2 (Option.some.inj h)) hG dX8_fits_35
  · have h := if_t (bi_t c_5) h
    refine lv_iload_n hx hb dX8_fits_8 rfl (lv_at hl 2 rfl) ?_
    refine g_ci hG (g_runS C hG (c_X8_isRow l D cs ad M x2 rfl) wm_X8_62 wt_X8_isRow wz_X8 wc_X8_isRow e_X8_isRow (by decide) hl.1 (Nat.le_of_ble_eq_true rfl) dX8_fits_9) (fun H locs hG => ?_)
    refine lv_if_eq (tgt := 33) hx hb dX8_fits_12 (by decide) (fun c_12 => ?_) (fun c_12 => ?_)
    · have h := if_f (bi_f c_12) h
      refine lv_ldc (v := -1000001) hx hb hown (hts _ wk_X8_70) dX8_fits_33 ?_
      exact hr (pf1 (Option.some.inj h)) (pf2 (Option.some.inj h)) hG dX8_fits_35
    · have h := if_t (bi_t c_12) h
      refine lv_aload_n hx hb dX8_fits_15 rfl (lv_at hl 0 rfl) ?_
      refine lv_iload hx hb dX8_fits_16 (lv_at hl 4 rfl) ?_
      refine g_ci hG (g_runV C hG (gR_8 gk_0) (c_X8_mayCome l D cs ad M x4 rfl) wm_X8_254 wi_X8_mayCome ws_X8_mayCome wz_X8 wc_X8_mayCome e_X8_mayCome (by decide) hl.1 (Nat.le_of_ble_eq_true rfl) dX8_fits_18) (fun H locs hG => ?_)
      refine lv_if_eq (tgt := 33) hx hb dX8_fits_21 (by decide) (fun c_21 => ?_) (fun c_21 => ?_)
      · have h := if_f (bi_f c_21) h
        refine lv_ldc (v := -1000001) hx hb hown (hts _ wk_X8_70) dX8_fits_33 ?_
        exact hr (pf1 (Option.some.inj h)) (pf2 (Option.some.inj h)) hG dX8_fits_35
      · have h := if_t (bi_t c_21) h
        refine lv_iload hx hb dX8_fits_24 (lv_at hl 5 rfl) ?_
        refine lv_iconst (v := 1) hx hb dX8_fits_26 (by decide) ?_
        refine g_ci hG (g_runS C hG (c_X8_isWithin l D cs ad M x5 (1 : Int32) rfl) wm_X8_66 wt_X8_isWithin wz_X8 wc_X8_isWithin e_X8_isWithin (by decide) hl.1 (Nat.le_of_ble_eq_true rfl) dX8_fits_27) (fun H locs hG => ?_)
        refine lv_if_ne (tgt := 36) hx hb dX8_fits_30 (by decide) (fun c_30 => ?_) (fun c_30 => ?_)
        · have h := if_t (bi_t c_30) h
          refine lv_aload_n hx hb dX8_fits_36 rfl (lv_at hl 0 rfl) ?_
          refine gf_X8_rows C hG gk_0 wf_X8_11 dX8_fits_37 ?_
          refine lv_iload_n hx hb dX8_fits_40 rfl (lv_at hl 2 rfl) ?_
          obtain ⟨hi_41, h⟩ := ix_e h
          refine g_rowld C hG hi_41 dX8_fits_41 ?_
          refine lv_astore (lv' := [(6, .ref (ad (104 + 2 * x2.toNatClampNeg))), (0, .ref (ad 0)), (1, .int x1), (2, .int x2), (3, .int x3), (4, .int x4), (5, .int x5)]) hx hb dX8_fits_42 hl (by decide) rfl (fun ls hl => ?_)
          refine lv_aload hx hb dX8_fits_44 (lv_at hl 0 rfl) ?_
          refine gf_X5_there C hG (gk_row hi_41) wf_X8_82 dX8_fits_46 ?_
          refine lv_if_ne (tgt := 58) hx hb dX8_fits_49 (by decide) (fun c_49 => ?_) (fun c_49 => ?_)
          · have h := if_f c_49 h
            refine lv_aload hx hb dX8_fits_58 (lv_at hl 0 rfl) ?_
            refine lv_iload_n hx hb dX8_fits_60 rfl (lv_at hl 4 rfl) ?_
            refine lv_iload hx hb dX8_fits_61 (lv_at hl 5 rfl) ?_
            refine g_ci hG (g_runV C hG (gR_5 (gk_row hi_41)) (c_X5_has l D cs ad M (gk_row hi_41) x3 x4 rfl) wm_X8_86 wi_X5_has ws_X5_has wz_X5 wc_X5_has e_X5_has (by decide) hl.1 (Nat.le_of_ble_eq_true rfl) dX8_fits_63) (fun H locs hG => ?_)
            refine lv_if_ne (tgt := 75) hx hb dX8_fits_66 (by decide) (fun c_66 => ?_) (fun c_66 => ?_)
            · have h := if_t (bi_t c_66) h
              refine lv_aload_n hx hb dX8_fits_75 rfl (lv_at hl 1 rfl) ?_
              refine lv_iload hx hb dX8_fits_76 (lv_at hl 6 rfl) ?_
              refine lv_if_ne (tgt := 94) hx hb dX8_fits_78 (by decide) (fun c_78 => ?_) (fun c_78 => ?_)
              · have h := if_f c_78 h
                refine lv_aload_n hx hb dX8_fits_94 rfl (lv_at hl 1 rfl) ?_
                refine lv_iload_n hx hb dX8_fits_95 rfl (lv_at hl 2 rfl) ?_
                refine lv_aload hx hb dX8_fits_96 (lv_at hl 0 rfl) ?_
                refine lv_iload_n hx hb dX8_fits_98 rfl (lv_at hl 4 rfl) ?_
                refine lv_iload hx hb dX8_fits_99 (lv_at hl 5 rfl) ?_
                obtain ⟨q101, e_101, h⟩ := bd_e h
                refine g_ci hG (g_runV C hG (gR_8 gk_0) (c_X8_leavesSeen l D cs ad M x1 (gk_row hi_41) x3 x4 e_101) wm_X8_261 wi_X8_leavesSeen ws_X8_leavesSeen wz_X8 wc_X8_leavesSeen e_X8_leavesSeen (by decide) hl.1 (Nat.le_of_ble_eq_true rfl) dX8_fits_101) (fun H locs hG => ?_)
                obtain ⟨q104, e_104⟩ : ∃ y, f_X8_well q101.2 q101.1 = y := ⟨_, rfl⟩
                have h := nm_at e_104.symm h
                refine g_ci hG (g_runV C hG (gR_8 gk_0) (c_X8_well l D cs ad q101.2 q101.1 e_104) wm_X8_79 wi_X8_well ws_X8_well wz_X8 wc_X8_well e_X8_well (by decide) hl.1 (Nat.le_of_ble_eq_true rfl) dX8_fits_104) (fun H locs hG => ?_)
                exact hr (pf1 (Option.some.inj h)) (pf2 (Option.some.inj h)) hG dX8_fits_107
              · have h := if_t c_78 h
                refine lv_aload_n hx hb dX8_fits_81 rfl (lv_at hl 1 rfl) ?_
                refine lv_iload_n hx hb dX8_fits_82 rfl (lv_at hl 2 rfl) ?_
                refine lv_aload hx hb dX8_fits_83 (lv_at hl 0 rfl) ?_
                refine lv_iload_n hx hb dX8_fits_85 rfl (lv_at hl 4 rfl) ?_
                refine lv_iload hx hb dX8_fits_86 (lv_at hl 5 rfl) ?_
                obtain ⟨q88, e_88, h⟩ := bd_e h
                refine g_ci hG (g_runV C hG (gR_8 gk_0) (c_X8_sortsSeen l D cs ad M x1 (gk_row hi_41) x3 x4 e_88) wm_X8_257 wi_X8_sortsSeen ws_X8_sortsSeen wz_X8 wc_X8_sortsSeen e_X8_sortsSeen (by decide) hl.1 (Nat.le_of_ble_eq_true rfl) dX8_fits_88) (fun H locs hG => ?_)
                refine lv_goto (tgt := 104) hx hb dX8_fits_91 (by decide) ?_
                obtain ⟨q104, e_104⟩ : ∃ y, f_X8_well q88.2 q88.1 = y := ⟨_, rfl⟩
                have h := nm_at e_104.symm h
                refine g_ci hG (g_runV C hG (gR_8 gk_0) (c_X8_well l D cs ad q88.2 q88.1 e_104) wm_X8_79 wi_X8_well ws_X8_well wz_X8 wc_X8_well e_X8_well (by decide) hl.1 (Nat.le_of_ble_eq_true rfl) dX8_fits_104) (fun H locs hG => ?_)
                exact hr (pf1 (Option.some.inj h)) (pf2 (Option.some.inj h)) hG dX8_fits_107
            · have h := if_f (bi_f c_66) h
              refine lv_aload_n hx hb dX8_fits_69 rfl (lv_at hl 1 rfl) ?_
              refine lv_iconst (v := 2) hx hb dX8_fits_70 (by decide) ?_
              obtain ⟨q71, e_71⟩ : ∃ y, f_X8_found M (2 : Int32) = y := ⟨_, rfl⟩
              have h := nm_at e_71.symm h
              refine g_ci hG (g_runV C hG (gR_8 gk_0) (c_X8_found l D cs ad M (2 : Int32) e_71) wm_X8_71 wi_X8_found ws_X8_found wz_X8 wc_X8_found e_X8_found (by decide) hl.1 (Nat.le_of_ble_eq_true rfl) dX8_fits_71) (fun H locs hG => ?_)
              exact hr (pf1 (Option.some.inj h)) (pf2 (Option.some.inj h)) hG dX8_fits_74
          · have h := if_t c_49 h
            refine lv_aload_n hx hb dX8_fits_52 rfl (lv_at hl 1 rfl) ?_
            refine lv_iconst (v := 1) hx hb dX8_fits_53 (by decide) ?_
            obtain ⟨q54, e_54⟩ : ∃ y, f_X8_found M (1 : Int32) = y := ⟨_, rfl⟩
            have h := nm_at e_54.symm h
            refine g_ci hG (g_runV C hG (gR_8 gk_0) (c_X8_found l D cs ad M (1 : Int32) e_54) wm_X8_71 wi_X8_found ws_X8_found wz_X8 wc_X8_found e_X8_found (by decide) hl.1 (Nat.le_of_ble_eq_true rfl) dX8_fits_54) (fun H locs hG => ?_)
            exact hr (pf1 (Option.some.inj h)) (pf2 (Option.some.inj h)) hG dX8_fits_57
        · have h := if_f (bi_f c_30) h
          refine lv_ldc (v := -1000001) hx hb hown (hts _ wk_X8_70) dX8_fits_33 ?_
          exact hr (pf1 (Option.some.inj h)) (pf2 (Option.some.inj h)) hG dX8_fits_35
