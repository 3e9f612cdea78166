def f_X8_asksSeen_15 (i1 : Nat) (x2 : Int32) (x3 : Int32) (x4 : Int32) (r15 : (Mem × Int32 × Int32) → Option (Int32 × Mem)) (M : Mem) (x5 : Int32) (x6 : Int32) : Option (Int32 × Mem) :=
  if (20 : Int32) < x6 then (
    some (x5, M)
  ) else (
    nm (f_X2_become M 14 4) fun q30 =>
    chk (ixb x4 5) <|
    nm (st q30 16 x4.toNatClampNeg x6) fun M47 =>
    (f_X8_isSeen M47 i1 x2 x3).bind fun q54 =>
    if q54.1 = true then (
      nm ((x5 ||| ((1 : Int32) <<< (x6 &&& 31)))) fun x5_69 =>
      nm (x6 + (1 : Int32)) fun x6_71 =>
      r15 (q54.2, x5_69, x6_71)
    ) else (
      nm ((x5 ||| (0 : Int32))) fun x5_69 =>
      nm (x6 + (1 : Int32)) fun x6_71 =>
      r15 (q54.2, x5_69, x6_71)
    )
  )
def f_X8_asksSeen (M : Mem) (i1 : Nat) (x2 : Int32) (x3 : Int32) : Option (Int32 × Mem) :=
  (f_X2_nextValley M 4).bind fun q4 =>
  iter (fun rec a => f_X8_asksSeen_15 i1 x2 x3 q4 rec a.1 a.2.1 a.2.2) fuel (M, (0 : Int32), (0 : Int32))
theorem e_X8_asksSeen : yX8_asksSeen.cls = RX8 ∧ yX8_asksSeen.cls ≠ "java/lang/invoke/MethodHandle" ∧ yX8_asksSeen.cls ≠ "java/lang/invoke/VarHandle" ∧ (parseMethodDescriptor yX8_asksSeen.desc).map (fun d => d.parameters.length) = some 3 := by decide +kernel
set_option maxHeartbeats 4000000 in
set_option maxRecDepth 100000 in
theorem c_X8_asksSeen (l : Launch) (D : va_G) (cs : Nat → ClassId) (ad : Nat → Nat) (M : Mem) {i1 : Nat} (k_i1 : gK i1 = 5) (x2 : Int32) (x3 : Int32) {z : Int32 × Mem} (h : f_X8_asksSeen M i1 x2 x3 = some z) : CtI l yX8_asksSeen cX8_asksSeen 7 .int 5 D cs ad [.ref (ad 0), .ref (ad i1), .int x2, .int x3] M z.1 z.2 := by
  refine ct_i (own := RX8) (by decide) rfl (Nat.le_of_ble_eq_true rfl) ?_
  intro p e s m args below meth c Q C hr
  have hx := C.1
  have hb := C.2.1
  have hown := C.2.2.2.1
  have hts := C.2.2.2.2.1
  have J_15 : ∀ (x2 : Int32) (x3 : Int32) (x4 : Int32) (n : Nat) (a : Mem × Int32 × Int32), iter (fun rec a => f_X8_asksSeen_15 i1 x2 x3 x4 rec a.1 a.2.1 a.2.2) n a = some z → GP p l e (rmk 5) s m args below meth c 0 0 Q D cs ad 7 15 [(0, .ref (ad 0)), (1, .ref (ad i1)), (2, .int x2), (3, .int x3), (4, .int x4), (5, .int a.2.1), (6, .int a.2.2)] [] a.1 := by
    intro x2 x3 x4
    refine iter_ind (fun r15 hr15 a h => ?_)
    obtain ⟨M, x5, x6⟩ := a
    have h : f_X8_asksSeen_15 i1 x2 x3 x4 r15 M x5 x6 = some z := h
    intro H locs hG ls hl
    have hG : GH D cs ad s M H locs := hG
    have hl : lv_has ls 7 [(0, .ref (ad 0)), (1, .ref (ad i1)), (2, .int x2), (3, .int x3), (4, .int x4), (5, .int x5), (6, .int x6)] := hl
    unfold f_X8_asksSeen_15 at h
    refine lv_iload hx hb dX8_asksSeen_15 (lv_at hl 6 rfl) ?_
    refine lv_bipush (v := 20) hx hb dX8_asksSeen_17 (by decide) ?_
    refine lv_icmp_gt (tgt := 77) hx hb dX8_asksSeen_19 (by decide) (fun c_19 => ?_) (fun c_19 => ?_)
    · have h := if_t c_19 h
      refine lv_iload hx hb dX8_asksSeen_77 (lv_at hl 5 rfl) ?_
      exact hr (pf1 (Option.some.inj h)) (pf2 (Option.some.inj h)) hG dX8_asksSeen_79
    · have h := if_f c_19 h
      refine lv_aload_n hx hb dX8_asksSeen_22 rfl (lv_at hl 0 rfl) ?_
      refine gf_X8_trial C hG gk_0 wf_X8_29 dX8_asksSeen_23 ?_
      refine lv_aload_n hx hb dX8_asksSeen_26 rfl (lv_at hl 0 rfl) ?_
      refine gf_X8_now C hG gk_0 wf_X8_25 dX8_asksSeen_27 ?_
      obtain ⟨q30, e_30⟩ : ∃ y, f_X2_become M 14 4 = y := ⟨_, rfl⟩
      have h := nm_at e_30.symm h
      refine g_cv hG (g_runV C hG (gR_2 gk_14) (c_X2_become l D cs ad M gk_14 gk_4 e_30) wm_X8_122 wi_X2_become ws_X2_become wz_X2 wc_X2_become e_X2_become (by decide) hl.1 (Nat.le_of_ble_eq_true rfl) dX8_asksSeen_30) (fun H locs hG => ?_)
      refine lv_aload_n hx hb dX8_asksSeen_33 rfl (lv_at hl 0 rfl) ?_
      refine gf_X8_trial C hG gk_0 wf_X8_29 dX8_asksSeen_34 ?_
      refine gf_X2_told (j := 15) C hG gk_14 rfl wf_X8_129 dX8_asksSeen_37 ?_
      refine gf_X7_asks (j := 16) C hG gk_15 rfl wf_X8_207 dX8_asksSeen_40 ?_
      refine lv_iload hx hb dX8_asksSeen_43 (lv_at hl 4 rfl) ?_
      refine lv_iload hx hb dX8_asksSeen_45 (lv_at hl 6 rfl) ?_
      obtain ⟨hi_47, h⟩ := ix_e h
      refine g_as C hG gk_16 gl_16 hi_47 rfl dX8_asksSeen_47 (fun M47 e_47 H locs hG => ?_)
      have h := nm_at e_47 h
      refine lv_iload hx hb dX8_asksSeen_48 (lv_at hl 5 rfl) ?_
      refine lv_aload_n hx hb dX8_asksSeen_50 rfl (lv_at hl 0 rfl) ?_
      refine lv_aload_n hx hb dX8_asksSeen_51 rfl (lv_at hl 1 rfl) ?_
      refine lv_iload_n hx hb dX8_asksSeen_52 rfl (lv_at hl 2 rfl) ?_
      refine lv_iload_n hx hb dX8_asksSeen_53 rfl (lv_at hl 3 rfl) ?_
      obtain ⟨q54, e_54, h⟩ := bd_e h
      refine g_ci hG (g_runV C hG (gR_8 gk_0) (c_X8_isSeen l D cs ad M47 k_i1 x2 x3 e_54) wm_X8_327 wi_X8_isSeen ws_X8_isSeen wz_X8 wc_X8_isSeen e_X8_isSeen (by decide) hl.1 (Nat.le_of_ble_eq_true rfl) dX8_asksSeen_54) (fun H locs hG => ?_)
      refine lv_if_eq (tgt := 67) hx hb dX8_asksSeen_57 (by decide) (fun c_57 => ?_) (fun c_57 => ?_)
      · have h := if_f (bi_f c_57) h
        refine lv_iconst (v := 0) hx hb dX8_asksSeen_67 (by decide) ?_
        refine lv_ior hx hb dX8_asksSeen_68 ?_
        refine lv_topi (fun x5_69 e5_69 => ?_)
        have h := nm_at e5_69 h
        refine lv_istore (lv' := [(5, .int x5_69), (0, .ref (ad 0)), (1, .ref (ad i1)), (2, .int x2), (3, .int x3), (4, .int x4), (6, .int x6)]) hx hb dX8_asksSeen_69 hl (by decide) rfl (fun ls hl => ?_)
        obtain ⟨x6_71, e6_71⟩ : ∃ y : Int32, y = x6 + (1 : Int32) := ⟨_, rfl⟩
        have h := nm_at e6_71 h
        refine lv_iinc (v := x6_71) (lv' := [(6, .int x6_71), (5, .int x5_69), (0, .ref (ad 0)), (1, .ref (ad i1)), (2, .int x2), (3, .int x3), (4, .int x4)]) hx hb dX8_asksSeen_71 hl (k := 6) rfl (by rw [e6_71]; rfl) (by decide) rfl (fun ls hl => ?_)
        refine lv_goto (tgt := 15) hx hb dX8_asksSeen_74 (by decide) ?_
        exact hr15 (q54.2, x5_69, x6_71) h H locs hG ls (lv_sub hl [2, 3, 4, 5, 6, 1, 0] rfl)
      · have h := if_t (bi_t c_57) h
        refine lv_iconst (v := 1) hx hb dX8_asksSeen_60 (by decide) ?_
        refine lv_iload hx hb dX8_asksSeen_61 (lv_at hl 6 rfl) ?_
        refine lv_ishl hx hb dX8_asksSeen_63 ?_
        refine lv_goto (tgt := 68) hx hb dX8_asksSeen_64 (by decide) ?_
        refine lv_ior hx hb dX8_asksSeen_68 ?_
        refine lv_topi (fun x5_69 e5_69 => ?_)
        have h := nm_at e5_69 h
        refine lv_istore (lv' := [(5, .int x5_69), (0, .ref (ad 0)), (1, .ref (ad i1)), (2, .int x2), (3, .int x3), (4, .int x4), (6, .int x6)]) hx hb dX8_asksSeen_69 hl (by decide) rfl (fun ls hl => ?_)
        obtain ⟨x6_71, e6_71⟩ : ∃ y : Int32, y = x6 + (1 : Int32) := ⟨_, rfl⟩
        have h := nm_at e6_71 h
        refine lv_iinc (v := x6_71) (lv' := [(6, .int x6_71), (5, .int x5_69), (0, .ref (ad 0)), (1, .ref (ad i1)), (2, .int x2), (3, .int x3), (4, .int x4)]) hx hb dX8_asksSeen_71 hl (k := 6) rfl (by rw [e6_71]; rfl) (by decide) rfl (fun ls hl => ?_)
        refine lv_goto (tgt := 15) hx hb dX8_asksSeen_74 (by decide) ?_
        exact hr15 (q54.2, x5_69, x6_71) h H locs hG ls (lv_sub hl [2, 3, 4, 5, 6, 1, 0] rfl)
  intro H locs hG ls hl
  have hl : lv_has ls 7 [(0, .ref (ad 0)), (1, .ref (ad i1)), (2, .int x2), (3, .int x3)] := hl
  unfold f_X8_asksSeen at h
  refine lv_aload_n hx hb dX8_asksSeen_0 rfl (lv_at hl 0 rfl) ?_
  refine gf_X8_now C hG gk_0 wf_X8_25 dX8_asksSeen_1 ?_
  obtain ⟨q4, e_4, h⟩ := bd_e h
  refine g_ci hG (g_runV C hG (gR_2 gk_4) (c_X2_nextValley l D cs ad M gk_4 e_4) wm_X8_331 wi_X2_nextValley ws_X2_nextValley wz_X2 wc_X2_nextValley e_X2_nextValley (by decide) hl.1 (Nat.le_of_ble_eq_true rfl) dX8_asksSeen_4) (fun H locs hG => ?_)
  refine lv_istore (lv' := [(4, .int q4), (0, .ref (ad 0)), (1, .ref (ad i1)), (2, .int x2), (3, .int x3)]) hx hb dX8_asksSeen_7 hl (by decide) rfl (fun ls hl => ?_)
  refine lv_iconst (v := 0) hx hb dX8_asksSeen_9 (by decide) ?_
  refine lv_istore (lv' := [(5, .int 0), (4, .int q4), (0, .ref (ad 0)), (1, .ref (ad i1)), (2, .int x2), (3, .int x3)]) hx hb dX8_asksSeen_10 hl (by decide) rfl (fun ls hl => ?_)
  refine lv_iconst (v := 0) hx hb dX8_asksSeen_12 (by decide) ?_
  refine lv_istore (lv' := [(6, .int 0), (5, .int 0), (4, .int q4), (0, .ref (ad 0)), (1, .ref (ad i1)), (2, .int x2), (3, .int x3)]) hx hb dX8_asksSeen_13 hl (by decide) rfl (fun ls hl => ?_)
  exact J_15 x2 x3 q4 _ (M, (0 : Int32), (0 : Int32)) h H locs hG ls (lv_sub hl [3, 4, 5, 6, 2, 1, 0] rfl)
def f_X8_asked (M : Mem) (x1 : Int32) (x2 : Int32) (x3 : Int32) : Option (Int32 × Mem) :=
  if (1 : Int32) ≤ (f_X2_coming M 4) then (
    if (f_X8_isRow x1) = true then (
      if (f_X8_mayCome M x3) = true then (
        chk (ixb x1 8) <|
        if (M (104 + 2 * x1.toNatClampNeg) 0) = (0 : Int32) then (
          nm (f_X8_found M (1 : Int32)) fun q50 =>
          some (q50.1, q50.2)
        ) else (
          if (f_X5_has M (104 + 2 * x1.toNatClampNeg) x2 x3) = true then (
            (f_X8_asksSeen M (104 + 2 * x1.toNatClampNeg) x2 x3).bind fun q76 =>
            nm (f_X8_well q76.2 q76.1) fun q79 =>
            some (q79.1, q79.2)
          ) else (
            nm (f_X8_found M (2 : Int32)) fun q66 =>
            some (q66.1, q66.2)
          )
        )
      ) else (
        some ((-1000001 : Int32), M)
      )
    ) else (
      some ((-1000001 : Int32), M)
    )
  ) else (
    some ((-1000002 : Int32), M)
  )
theorem e_X8_asked : yX8_asked.cls = RX8 ∧ yX8_asked.cls ≠ "java/lang/invoke/MethodHandle" ∧ yX8_asked.cls ≠ "java/lang/invoke/VarHandle" ∧ (parseMethodDescriptor yX8_asked.desc).map (fun d => d.parameters.length) = some 3 := by decide +kernel
set_option maxHeartbeats 4000000 in
set_option maxRecDepth 100000 in
theorem c_X8_asked (l : Launch) (D : va_G) (cs : Nat → ClassId) (ad : Nat → Nat) (M : Mem) (x1 : Int32) (x2 : Int32) (x3 : Int32) {z : Int32 × Mem} (h : f_X8_asked M x1 x2 x3 = some z) : CtI l yX8_asked cX8_asked 5 .int 6 D cs ad [.ref (ad 0), .int x1, .int x2, .int x3] M z.1 z.2 := by
  refine ct_i (own := RX8) (by decide) rfl (Nat.le_of_ble_eq_true rfl) ?_
  intro p e s m args below meth c Q C hr
  have hx := C.1
  have hb := C.2.1
  have hown := C.2.2.2.1
  have hts := C.2.2.2.2.1
  intro H locs hG ls hl
  have hl : lv_has ls 5 [(0, .ref (ad 0)), (1, .int x1), (2, .int x2), (3, .int x3)] := hl
  unfold f_X8_asked at h
  refine lv_aload_n hx hb dX8_asked_0 rfl (lv_at hl 0 rfl) ?_
  refine gf_X8_now C hG gk_0 wf_X8_25 dX8_asked_1 ?_
  refine g_ci hG (g_runV C hG (gR_2 gk_4) (c_X2_coming l D cs ad M gk_4 rfl) wm_X8_141 wi_X2_coming ws_X2_coming wz_X2 wc_X2_coming e_X2_coming (by decide) hl.1 (Nat.le_of_ble_eq_true rfl) dX8_asked_4) (fun H locs hG => ?_)
  refine lv_iconst (v := 1) hx hb dX8_asked_7 (by decide) ?_
  refine lv_icmp_ge (tgt := 14) hx hb dX8_asked_8 (by decide) (fun c_8 => ?_) (fun c_8 => ?_)
  · have h := if_t c_8 h
    refine lv_iload_n hx hb dX8_asked_14 rfl (lv_at hl 1 rfl) ?_
    refine g_ci hG (g_runS C hG (c_X8_isRow l D cs ad M x1 rfl) wm_X8_62 wt_X8_isRow wz_X8 wc_X8_isRow e_X8_isRow (by decide) hl.1 (Nat.le_of_ble_eq_true rfl) dX8_asked_15) (fun H locs hG => ?_)
    refine lv_if_eq (tgt := 29) hx hb dX8_asked_18 (by decide) (fun c_18 => ?_) (fun c_18 => ?_)
    · have h := if_f (bi_f c_18) h
      refine lv_ldc (v := -1000001) hx hb hown (hts _ wk_X8_70) dX8_asked_29 ?_
      exact hr (pf1 (Option.some.inj h)) (pf2 (Option.some.inj h)) hG dX8_asked_31
    · have h := if_t (bi_t c_18) h
      refine lv_aload_n hx hb dX8_asked_21 rfl (lv_at hl 0 rfl) ?_
      refine lv_iload_n hx hb dX8_asked_22 rfl (lv_at hl 3 rfl) ?_
      refine g_ci hG (g_runV C hG (gR_8 gk_0) (c_X8_mayCome l D cs ad M x3 rfl) wm_X8_254 wi_X8_mayCome ws_X8_mayCome wz_X8 wc_X8_mayCome e_X8_mayCome (by decide) hl.1 (Nat.le_of_ble_eq_true rfl) dX8_asked_23) (fun H locs hG => ?_)
      refine lv_if_ne (tgt := 32) hx hb dX8_asked_26 (by decide) (fun c_26 => ?_) (fun c_26 => ?_)
      · have h := if_t (bi_t c_26) h
        refine lv_aload_n hx hb dX8_asked_32 rfl (lv_at hl 0 rfl) ?_
        refine gf_X8_rows C hG gk_0 wf_X8_11 dX8_asked_33 ?_
        refine lv_iload_n hx hb dX8_asked_36 rfl (lv_at hl 1 rfl) ?_
        obtain ⟨hi_37, h⟩ := ix_e h
        refine g_rowld C hG hi_37 dX8_asked_37 ?_
        refine lv_astore (lv' := [(4, .ref (ad (104 + 2 * x1.toNatClampNeg))), (0, .ref (ad 0)), (1, .int x1), (2, .int x2), (3, .int x3)]) hx hb dX8_asked_38 hl (by decide) rfl (fun ls hl => ?_)
        refine lv_aload hx hb dX8_asked_40 (lv_at hl 0 rfl) ?_
        refine gf_X5_there C hG (gk_row hi_37) wf_X8_82 dX8_asked_42 ?_
        refine lv_if_ne (tgt := 54) hx hb dX8_asked_45 (by decide) (fun c_45 => ?_) (fun c_45 => ?_)
        · have h := if_f c_45 h
          refine lv_aload hx hb dX8_asked_54 (lv_at hl 0 rfl) ?_
          refine lv_iload_n hx hb dX8_asked_56 rfl (lv_at hl 3 rfl) ?_
          refine lv_iload_n hx hb dX8_asked_57 rfl (lv_at hl 4 rfl) ?_
          refine g_ci hG (g_runV C hG (gR_5 (gk_row hi_37)) (c_X5_has l D cs ad M (gk_row hi_37) x2 x3 rfl) wm_X8_86 wi_X5_has ws_X5_has wz_X5 wc_X5_has e_X5_has (by decide) hl.1 (Nat.le_of_ble_eq_true rfl) dX8_asked_58) (fun H locs hG => ?_)
          refine lv_if_ne (tgt := 70) hx hb dX8_asked_61 (by decide) (fun c_61 => ?_) (fun c_61 => ?_)
          · have h := if_t (bi_t c_61) h
            refine lv_aload_n hx hb dX8_asked_70 rfl (lv_at hl 1 rfl) ?_
            refine lv_aload_n hx hb dX8_asked_71 rfl (lv_at hl 1 rfl) ?_
            refine lv_aload hx hb dX8_asked_72 (lv_at hl 0 rfl) ?_
            refine lv_iload_n hx hb dX8_asked_74 rfl (lv_at hl 3 rfl) ?_
            refine lv_iload_n hx hb dX8_asked_75 rfl (lv_at hl 4 rfl) ?_
            obtain ⟨q76, e_76, h⟩ := bd_e h
            refine g_ci hG (g_runV C hG (gR_8 gk_0) (c_X8_asksSeen l D cs ad M (gk_row hi_37) x2 x3 e_76) wm_X8_264 wi_X8_asksSeen ws_X8_asksSeen wz_X8 wc_X8_asksSeen e_X8_asksSeen (by decide) hl.1 (Nat.le_of_ble_eq_true rfl) dX8_asked_76) (fun H locs hG => ?_)
            obtain ⟨q79, e_79⟩ : ∃ y, f_X8_well q76.2 q76.1 = y := ⟨_, rfl⟩
            have h := nm_at e_79.symm h
            refine g_ci hG (g_runV C hG (gR_8 gk_0) (c_X8_well l D cs ad q76.2 q76.1 e_79) wm_X8_79 wi_X8_well ws_X8_well wz_X8 wc_X8_well e_X8_well (by decide) hl.1 (Nat.le_of_ble_eq_true rfl) dX8_asked_79) (fun H locs hG => ?_)
            exact hr (pf1 (Option.some.inj h)) (pf2 (Option.some.inj h)) hG dX8_asked_82
          · have h := if_f (bi_f c_61) h
            refine lv_aload_n hx hb dX8_asked_64 rfl (lv_at hl 1 rfl) ?_
            refine lv_iconst (v := 2) hx hb dX8_asked_65 (by decide) ?_
            obtain ⟨q66, e_66⟩ : ∃ y, f_X8_found M (2 : Int32) = y := ⟨_, rfl⟩
            have h := nm_at e_66.symm h
            refine g_ci hG (g_runV C hG (gR_8 gk_0) (c_X8_found l D cs ad M (2 : Int32) e_66) wm_X8_71 wi_X8_found ws_X8_found wz_X8 wc_X8_found e_X8_found (by decide) hl.1 (Nat.le_of_ble_eq_true rfl) dX8_asked_66) (fun H locs hG => ?_)
            exact hr (pf1 (Option.some.inj h)) (pf2 (Option.some.inj h)) hG dX8_asked_69
        · have h := if_t c_45 h
          refine lv_aload_n hx hb dX8_asked_48 rfl (lv_at hl 1 rfl) ?_
          refine lv_iconst (v := 1) hx hb dX8_asked_49 (by decide) ?_
          obtain ⟨q50, e_50⟩ : ∃ y, f_X8_found M (1 : Int32) = y := ⟨_, rfl⟩
          have h := nm_at e_50.symm h
          refine g_ci hG (g_runV C hG (gR_8 gk_0) (c_X8_found l D cs ad M (1 : Int32) e_50) wm_X8_71 wi_X8_found ws_X8_found wz_X8 wc_X8_found e_X8_found (by decide) hl.1 (Nat.le_of_ble_eq_true rfl) dX8_asked_50) (fun H locs hG => ?_)
          exact hr (pf1 (Option.some.inj h)) (pf2 (Option.some.inj h)) hG dX8_asked_53
      · have h := if_f (bi_f c_26) h
        refine lv_ldc (v := -1000001) hx hb hown (hts _ wk_X8_70) dX8_asked_29 ?_
        exact hr (pf1 (Option.some.inj h)) (pf2 (Option.some.inj h)) hG dX8_asked_31
  · have h := if_f c_8 h
    refine lv_ldc (v := -1000002) hx hb hown (hts _ wk_X8_145) dX8_asked_11 ?_
    exact hr (pf1 (Option.some.inj h)) (pf2 (Option.some.inj h)) hG dX8_asked_13
def f_X8_power_4 (x0 : Int32) (x1 : Int32) (r4 : (Int32 × Int32) → Option Int32) (x2 : Int32) (x3 : Int32) : Option Int32 :=
  if x1 ≤ x3 then (
    some x2
  ) else (
    nm ((x2 * x0)) fun x2_12 =>
    nm (x3 + (1 : Int32)) fun x3_13 =>
    r4 (x2_12, x3_13)
  )
def f_X8_power (x0 : Int32) (x1 : Int32) : Option Int32 :=
  iter (fun rec a => f_X8_power_4 x0 x1 rec a.1 a.2) fuel ((1 : Int32), (0 : Int32))
theorem e_X8_power : yX8_power.cls ≠ "java/lang/invoke/MethodHandle" ∧ yX8_power.cls ≠ "java/lang/invoke/VarHandle" ∧ (parseMethodDescriptor yX8_power.desc).map (fun d => d.parameters.length) = some 2 := by decide +kernel
set_option maxHeartbeats 4000000 in
set_option maxRecDepth 100000 in
theorem c_X8_power (l : Launch) (D : va_G) (cs : Nat → ClassId) (ad : Nat → Nat) (M : Mem) (x0 : Int32) (x1 : Int32) {z : Int32} (h : f_X8_power x0 x1 = some z) : CtI l yX8_power cX8_power 4 .int 0 D cs ad [.int x0, .int x1] M z M := by
  refine ct_i (own := RX8) (by decide) rfl (Nat.le_of_ble_eq_true rfl) ?_
  intro p e s m args below meth c Q C hr
  have hx := C.1
  have hb := C.2.1
  have hown := C.2.2.2.1
  have hts := C.2.2.2.2.1
  have J_4 : ∀ (x0 : Int32) (x1 : Int32) (n : Nat) (a : Int32 × Int32), iter (fun rec a => f_X8_power_4 x0 x1 rec a.1 a.2) n a = some z → GP p l e (rmk 0) s m args below meth c 0 0 Q D cs ad 4 4 [(0, .int x0), (1, .int x1), (2, .int a.1), (3, .int a.2)] [] M := by
    intro x0 x1
    refine iter_ind (fun r4 hr4 a h => ?_)
    obtain ⟨x2, x3⟩ := a
    have h : f_X8_power_4 x0 x1 r4 x2 x3 = some z := h
    intro H locs hG ls hl
    have hG : GH D cs ad s M H locs := hG
    have hl : lv_has ls 4 [(0, .int x0), (1, .int x1), (2, .int x2), (3, .int x3)] := hl
    unfold f_X8_power_4 at h
    refine lv_iload_n hx hb dX8_power_4 rfl (lv_at hl 3 rfl) ?_
    refine lv_iload_n hx hb dX8_power_5 rfl (lv_at hl 1 rfl) ?_
    refine lv_icmp_ge (tgt := 19) hx hb dX8_power_6 (by decide) (fun c_6 => ?_) (fun c_6 => ?_)
    · have h := if_t c_6 h
      refine lv_iload_n hx hb dX8_power_19 rfl (lv_at hl 2 rfl) ?_
      exact hr (Option.some.inj h) rfl hG dX8_power_20
    · have h := if_f c_6 h
      refine lv_iload_n hx hb dX8_power_9 rfl (lv_at hl 2 rfl) ?_
      refine lv_iload_n hx hb dX8_power_10 rfl (lv_at hl 0 rfl) ?_
      refine lv_imul hx hb dX8_power_11 ?_
      refine lv_topi (fun x2_12 e2_12 => ?_)
      have h := nm_at e2_12 h
      refine lv_istore_n (lv' := [(2, .int x2_12), (0, .int x0), (1, .int x1), (3, .int x3)]) hx hb dX8_power_12 rfl hl (by decide) rfl (fun ls hl => ?_)
      obtain ⟨x3_13, e3_13⟩ : ∃ y : Int32, y = x3 + (1 : Int32) := ⟨_, rfl⟩
      have h := nm_at e3_13 h
      refine lv_iinc (v := x3_13) (lv' := [(3, .int x3_13), (2, .int x2_12), (0, .int x0), (1, .int x1)]) hx hb dX8_power_13 hl (k := 3) rfl (by rw [e3_13]; rfl) (by decide) rfl (fun ls hl => ?_)
      refine lv_goto (tgt := 4) hx hb dX8_power_16 (by decide) ?_
      exact hr4 (x2_12, x3_13) h H locs hG ls (lv_sub hl [2, 3, 1, 0] rfl)
  intro H locs hG ls hl
  have hl : lv_has ls 4 [(0, .int x0), (1, .int x1)] := hl
  unfold f_X8_power at h
  refine lv_iconst (v := 1) hx hb dX8_power_0 (by decide) ?_
  refine lv_istore_n (lv' := [(2, .int 1), (0, .int x0), (1, .int x1)]) hx hb dX8_power_1 rfl hl (by decide) rfl (fun ls hl => ?_)
  refine lv_iconst (v := 0) hx hb dX8_power_2 (by decide) ?_
  refine lv_istore_n (lv' := [(3, .int 0), (2, .int 1), (0, .int x0), (1, .int x1)]) hx hb dX8_power_3 rfl hl (by decide) rfl (fun ls hl => ?_)
  exact J_4 x0 x1 _ ((1 : Int32), (0 : Int32)) h H locs hG ls (lv_sub hl [2, 3, 1, 0] rfl)
def f_X8_stormWeight_17 (x1 : Int32) (x2 : Int32) (x3 : Int32) (r17 : (Mem × Int32 × Int32) → Option (Int32 × Mem)) (M : Mem) (x4 : Int32) (x5 : Int32) : Option (Int32 × Mem) :=
  if x3 < x5 then (
    some (x4, M)
  ) else (
    if (x5 &&& (x3 ^^^ (-1 : Int32))) = (0 : Int32) then (
      nm (f_X2_become M 14 4) fun q40 =>
      (f_X2_weaken q40 14 x5).bind fun q49 =>
      (f_X2_arriving q49 14).bind fun q56 =>
      if (f_J6_bitCount_0f7a4 q56.1) < x1 then (
        nm (x5 + (1 : Int32)) fun x5_101 =>
        r17 (q56.2, x4, x5_101)
      ) else (
        nm ((f_J6_bitCount_0f7a4 (x3 &&& (x5 ^^^ (-1 : Int32))))) fun x6_75 =>
        (f_X8_power x2 (f_J6_bitCount_0f7a4 x5)).bind fun q85 =>
        (f_X8_power ((10 : Int32) - x2) x6_75).bind fun q94 =>
        nm ((x4 + (q85 * q94))) fun x4_99 =>
        nm (x5 + (1 : Int32)) fun x5_101 =>
        r17 (q56.2, x4_99, x5_101)
      )
    ) else (
      nm (x5 + (1 : Int32)) fun x5_101 =>
      r17 (M, x4, x5_101)
    )
  )
def f_X8_stormWeight (M : Mem) (x1 : Int32) (x2 : Int32) : Option (Int32 × Mem) :=
  nm ((M 11 0)) fun x3_10 =>
  iter (fun rec a => f_X8_stormWeight_17 x1 x2 x3_10 rec a.1 a.2.1 a.2.2) fuel (M, (0 : Int32), (0 : Int32))
theorem e_X8_stormWeight : yX8_stormWeight.cls = RX8 ∧ yX8_stormWeight.cls ≠ "java/lang/invoke/MethodHandle" ∧ yX8_stormWeight.cls ≠ "java/lang/invoke/VarHandle" ∧ (parseMethodDescriptor yX8_stormWeight.desc).map (fun d => d.parameters.length) = some 2 := by decide +kernel
set_option maxHeartbeats 4000000 in
set_option maxRecDepth 100000 in
theorem c_X8_stormWeight (l : Launch) (D : va_G) (cs : Nat → ClassId) (ad : Nat → Nat) (M : Mem) (x1 : Int32) (x2 : Int32) {z : Int32 × Mem} (h : f_X8_stormWeight M x1 x2 = some z) : CtI l yX8_stormWeight cX8_stormWeight 7 .int 5 D cs ad [.ref (ad 0), .int x1, .int x2] M z.1 z.2 := by
  refine ct_i (own := RX8) (by decide) rfl (Nat.le_of_ble_eq_true rfl) ?_
  intro p e s m args below meth c Q C hr
  have hx := C.1
  have hb := C.2.1
  have hown := C.2.2.2.1
  have hts := C.2.2.2.2.1
  have J_17 : ∀ (x1 : Int32) (x2 : Int32) (x3 : Int32) (n : Nat) (a : Mem × Int32 × Int32), iter (fun rec a => f_X8_stormWeight_17 x1 x2 x3 rec a.1 a.2.1 a.2.2) n a = some z → GP p l e (rmk 5) s m args below meth c 0 0 Q D cs ad 7 17 [(0, .ref (ad 0)), (1, .int x1), (2, .int x2), (3, .int x3), (4, .int a.2.1), (5, .int a.2.2)] [] a.1 := by
    intro x1 x2 x3
    refine iter_ind (fun r17 hr17 a h => ?_)
    obtain ⟨M, x4, x5⟩ := a
    have h : f_X8_stormWeight_17 x1 x2 x3 r17 M x4 x5 = some z := h
    intro H locs hG ls hl
    have hG : GH D cs ad s M H locs := hG
    have hl : lv_has ls 7 [(0, .ref (ad 0)), (1, .int x1), (2, .int x2), (3, .int x3), (4, .int x4), (5, .int x5)] := hl
    unfold f_X8_stormWeight_17 at h
    refine lv_iload hx hb dX8_stormWeight_17 (lv_at hl 5 rfl) ?_
    refine lv_iload_n hx hb dX8_stormWeight_19 rfl (lv_at hl 3 rfl) ?_
    refine lv_icmp_gt (tgt := 107) hx hb dX8_stormWeight_20 (by decide) (fun c_20 => ?_) (fun c_20 => ?_)
    · have h := if_t c_20 h
      refine lv_iload hx hb dX8_stormWeight_107 (lv_at hl 4 rfl) ?_
      exact hr (pf1 (Option.some.inj h)) (pf2 (Option.some.inj h)) hG dX8_stormWeight_109
    · have h := if_f c_20 h
      refine lv_iload hx hb dX8_stormWeight_23 (lv_at hl 5 rfl) ?_
      refine lv_iload_n hx hb dX8_stormWeight_25 rfl (lv_at hl 3 rfl) ?_
      refine lv_iconst (v := -1) hx hb dX8_stormWeight_26 (by decide) ?_
      refine lv_ixor hx hb dX8_stormWeight_27 ?_
      refine lv_iand hx hb dX8_stormWeight_28 ?_
      refine lv_if_ne (tgt := 101) hx hb dX8_stormWeight_29 (by decide) (fun c_29 => ?_) (fun c_29 => ?_)
      · have h := if_f c_29 h
        obtain ⟨x5_101, e5_101⟩ : ∃ y : Int32, y = x5 + (1 : Int32) := ⟨_, rfl⟩
        have h := nm_at e5_101 h
        refine lv_iinc (v := x5_101) (lv' := [(5, .int x5_101), (0, .ref (ad 0)), (1, .int x1), (2, .int x2), (3, .int x3), (4, .int x4)]) hx hb dX8_stormWeight_101 hl (k := 5) rfl (by rw [e5_101]; rfl) (by decide) rfl (fun ls hl => ?_)
        refine lv_goto (tgt := 17) hx hb dX8_stormWeight_104 (by decide) ?_
        exact hr17 (M, x4, x5_101) h H locs hG ls (lv_sub hl [1, 2, 3, 4, 5, 0] rfl)
      · have h := if_t c_29 h
        refine lv_aload_n hx hb dX8_stormWeight_32 rfl (lv_at hl 0 rfl) ?_
        refine gf_X8_trial C hG gk_0 wf_X8_29 dX8_stormWeight_33 ?_
        refine lv_aload_n hx hb dX8_stormWeight_36 rfl (lv_at hl 0 rfl) ?_
        refine gf_X8_now C hG gk_0 wf_X8_25 dX8_stormWeight_37 ?_
        obtain ⟨q40, e_40⟩ : ∃ y, f_X2_become M 14 4 = y := ⟨_, rfl⟩
        have h := nm_at e_40.symm h
        refine g_cv hG (g_runV C hG (gR_2 gk_14) (c_X2_become l D cs ad M gk_14 gk_4 e_40) wm_X8_122 wi_X2_become ws_X2_become wz_X2 wc_X2_become e_X2_become (by decide) hl.1 (Nat.le_of_ble_eq_true rfl) dX8_stormWeight_40) (fun H locs hG => ?_)
        refine lv_aload_n hx hb dX8_stormWeight_43 rfl (lv_at hl 0 rfl) ?_
        refine gf_X8_trial C hG gk_0 wf_X8_29 dX8_stormWeight_44 ?_
        refine lv_iload hx hb dX8_stormWeight_47 (lv_at hl 5 rfl) ?_
        obtain ⟨q49, e_49, h⟩ := bd_e h
        refine g_cv hG (g_runV C hG (gR_2 gk_14) (c_X2_weaken l D cs ad q40 gk_14 x5 e_49) wm_X8_334 wi_X2_weaken ws_X2_weaken wz_X2 wc_X2_weaken e_X2_weaken (by decide) hl.1 (Nat.le_of_ble_eq_true rfl) dX8_stormWeight_49) (fun H locs hG => ?_)
        refine lv_aload_n hx hb dX8_stormWeight_52 rfl (lv_at hl 0 rfl) ?_
        refine gf_X8_trial C hG gk_0 wf_X8_29 dX8_stormWeight_53 ?_
        obtain ⟨q56, e_56, h⟩ := bd_e h
        refine g_ci hG (g_runV C hG (gR_2 gk_14) (c_X2_arriving l D cs ad q49 gk_14 e_56) wm_X8_219 wi_X2_arriving ws_X2_arriving wz_X2 wc_X2_arriving e_X2_arriving (by decide) hl.1 (Nat.le_of_ble_eq_true rfl) dX8_stormWeight_56) (fun H locs hG => ?_)
        refine g_ci hG (g_runS C hG (c_J6_bitCount_0f7a4 l D cs ad q56.2 q56.1 rfl) wm_X8_237 wt_J6_bitCount_0f7a4 wz_J6 wc_J6_bitCount_0f7a4 e_J6_bitCount_0f7a4 (by decide) hl.1 (Nat.le_of_ble_eq_true rfl) dX8_stormWeight_59) (fun H locs hG => ?_)
        refine lv_iload_n hx hb dX8_stormWeight_62 rfl (lv_at hl 1 rfl) ?_
        refine lv_icmp_lt (tgt := 101) hx hb dX8_stormWeight_63 (by decide) (fun c_63 => ?_) (fun c_63 => ?_)
        · have h := if_t c_63 h
          obtain ⟨x5_101, e5_101⟩ : ∃ y : Int32, y = x5 + (1 : Int32) := ⟨_, rfl⟩
          have h := nm_at e5_101 h
          refine lv_iinc (v := x5_101) (lv' := [(5, .int x5_101), (0, .ref (ad 0)), (1, .int x1), (2, .int x2), (3, .int x3), (4, .int x4)]) hx hb dX8_stormWeight_101 hl (k := 5) rfl (by rw [e5_101]; rfl) (by decide) rfl (fun ls hl => ?_)
          refine lv_goto (tgt := 17) hx hb dX8_stormWeight_104 (by decide) ?_
          exact hr17 (q56.2, x4, x5_101) h H locs hG ls (lv_sub hl [1, 2, 3, 4, 5, 0] rfl)
        · have h := if_f c_63 h
          refine lv_iload_n hx hb dX8_stormWeight_66 rfl (lv_at hl 3 rfl) ?_
          refine lv_iload hx hb dX8_stormWeight_67 (lv_at hl 5 rfl) ?_
          refine lv_iconst (v := -1) hx hb dX8_stormWeight_69 (by decide) ?_
          refine lv_ixor hx hb dX8_stormWeight_70 ?_
          refine lv_iand hx hb dX8_stormWeight_71 ?_
          refine g_ci hG (g_runS C hG (c_J6_bitCount_0f7a4 l D cs ad q56.2 (x3 &&& (x5 ^^^ (-1 : Int32))) rfl) wm_X8_237 wt_J6_bitCount_0f7a4 wz_J6 wc_J6_bitCount_0f7a4 e_J6_bitCount_0f7a4 (by decide) hl.1 (Nat.le_of_ble_eq_true rfl) dX8_stormWeight_72) (fun H locs hG => ?_)
          refine lv_topi (fun x6_75 e6_75 => ?_)
          have h := nm_at e6_75 h
          refine lv_istore (lv' := [(6, .int x6_75), (0, .ref (ad 0)), (1, .int x1), (2, .int x2), (3, .int x3), (4, .int x4), (5, .int x5)]) hx hb dX8_stormWeight_75 hl (by decide) rfl (fun ls hl => ?_)
          refine lv_iload hx hb dX8_stormWeight_77 (lv_at hl 5 rfl) ?_
          refine lv_iload_n hx hb dX8_stormWeight_79 rfl (lv_at hl 3 rfl) ?_
          refine lv_iload hx hb dX8_stormWeight_80 (lv_at hl 6 rfl) ?_
          refine g_ci hG (g_runS C hG (c_J6_bitCount_0f7a4 l D cs ad q56.2 x5 rfl) wm_X8_237 wt_J6_bitCount_0f7a4 wz_J6 wc_J6_bitCount_0f7a4 e_J6_bitCount_0f7a4 (by decide) hl.1 (Nat.le_of_ble_eq_true rfl) dX8_stormWeight_82) (fun H locs hG => ?_)
          obtain ⟨q85, e_85, h⟩ := bd_e h
          refine g_ci hG (g_runS C hG (c_X8_power l D cs ad q56.2 x2 (f_J6_bitCount_0f7a4 x5) e_85) wm_X8_271 wt_X8_power wz_X8 wc_X8_power e_X8_power (by decide) hl.1 (Nat.le_of_ble_eq_true rfl) dX8_stormWeight_85) (fun H locs hG => ?_)
          refine lv_bipush (v := 10) hx hb dX8_stormWeight_88 (by decide) ?_
          refine lv_iload_n hx hb dX8_stormWeight_90 rfl (lv_at hl 3 rfl) ?_
          refine lv_isub hx hb dX8_stormWeight_91 ?_
          refine lv_iload hx hb dX8_stormWeight_92 (lv_at hl 0 rfl) ?_
          obtain ⟨q94, e_94, h⟩ := bd_e h
          refine g_ci hG (g_runS C hG (c_X8_power l D cs ad q56.2 ((10 : Int32) - x2) x6_75 e_94) wm_X8_271 wt_X8_power wz_X8 wc_X8_power e_X8_power (by decide) hl.1 (Nat.le_of_ble_eq_true rfl) dX8_stormWeight_94) (fun H locs hG => ?_)
          refine lv_imul hx hb dX8_stormWeight_97 ?_
          refine lv_iadd hx hb dX8_stormWeight_98 ?_
          refine lv_topi (fun x4_99 e4_99 => ?_)
          have h := nm_at e4_99 h
          refine lv_istore (lv' := [(4, .int x4_99), (6, .int x6_75), (0, .ref (ad 0)), (1, .int x1), (2, .int x2), (3, .int x3), (5, .int x5)]) hx hb dX8_stormWeight_99 hl (by decide) rfl (fun ls hl => ?_)
          obtain ⟨x5_101, e5_101⟩ : ∃ y : Int32, y = x5 + (1 : Int32) := ⟨_, rfl⟩
          have h := nm_at e5_101 h
          refine lv_iinc (v := x5_101) (lv' := [(5, .int x5_101), (4, .int x4_99), (6, .int x6_75), (0, .ref (ad 0)), (1, .int x1), (2, .int x2), (3, .int x3)]) hx hb dX8_stormWeight_101 hl (k := 6) rfl (by rw [e5_101]; rfl) (by decide) rfl (fun ls hl => ?_)
          refine lv_goto (tgt := 17) hx hb dX8_stormWeight_104 (by decide) ?_
          exact hr17 (q56.2, x4_99, x5_101) h H locs hG ls (lv_sub hl [3, 4, 5, 6, 1, 0] rfl)
  intro H locs hG ls hl
  have hl : lv_has ls 7 [(0, .ref (ad 0)), (1, .int x1), (2, .int x2)] := hl
  unfold f_X8_stormWeight at h
  refine lv_aload_n hx hb dX8_stormWeight_0 rfl (lv_at hl 0 rfl) ?_
  refine gf_X8_now C hG gk_0 wf_X8_25 dX8_stormWeight_1 ?_
  refine gf_X2_moment (j := 11) C hG gk_4 rfl wf_X8_146 dX8_stormWeight_4 ?_
  refine gf_X3_flying C hG gk_11 wf_X8_157 dX8_stormWeight_7 ?_
  refine lv_topi (fun x3_10 e3_10 => ?_)
  have h := nm_at e3_10 h
  refine lv_istore_n (lv' := [(3, .int x3_10), (0, .ref (ad 0)), (1, .int x1), (2, .int x2)]) hx hb dX8_stormWeight_10 rfl hl (by decide) rfl (fun ls hl => ?_)
  refine lv_iconst (v := 0) hx hb dX8_stormWeight_11 (by decide) ?_
  refine lv_istore (lv' := [(4, .int 0), (3, .int x3_10), (0, .ref (ad 0)), (1, .int x1), (2, .int x2)]) hx hb dX8_stormWeight_12 hl (by decide) rfl (fun ls hl => ?_)
  refine lv_iconst (v := 0) hx hb dX8_stormWeight_14 (by decide) ?_
  refine lv_istore (lv' := [(5, .int 0), (4, .int 0), (3, .int x3_10), (0, .ref (ad 0)), (1, .int x1), (2, .int x2)]) hx hb dX8_stormWeight_15 hl (by decide) rfl (fun ls hl => ?_)
  exact J_17 x1 x2 x3_10 _ (M, (0 : Int32), (0 : Int32)) h H locs hG ls (lv_sub hl [3, 4, 5, 2, 1, 0] rfl)
def f_X8_commonDivisor_7 (r7 : (Int32 × Int32 × Int32) → Option Int32) (x2 : Int32) (x3 : Int32) (x4 : Int32) : Option Int32 :=
  if (100 : Int32) ≤ x4 then (
    some x2
  ) else (
    if x3 = (0 : Int32) then (
      some x2
    ) else (
      chk (decide (¬ x3 = 0)) <|
      nm ((x2 - x2 / x3 * x3)) fun x5_21 =>
      nm (x4 + (1 : Int32)) fun x4_28 =>
      r7 (x3, x5_21, x4_28)
    )
  )
def f_X8_commonDivisor (x0 : Int32) (x1 : Int32) : Option Int32 :=
  iter (fun rec a => f_X8_commonDivisor_7 rec a.1 a.2.1 a.2.2) fuel (x0, x1, (0 : Int32))
theorem e_X8_commonDivisor : yX8_commonDivisor.cls ≠ "java/lang/invoke/MethodHandle" ∧ yX8_commonDivisor.cls ≠ "java/lang/invoke/VarHandle" ∧ (parseMethodDescriptor yX8_commonDivisor.desc).map (fun d => d.parameters.length) = some 2 := by decide +kernel
set_option maxHeartbeats 4000000 in
set_option maxRecDepth 100000 in
theorem c_X8_commonDivisor (l : Launch) (D : va_G) (cs : Nat → ClassId) (ad : Nat → Nat) (M : Mem) (x0 : Int32) (x1 : Int32) {z : Int32} (h : f_X8_commonDivisor x0 x1 = some z) : CtI l yX8_commonDivisor cX8_commonDivisor 6 .int 0 D cs ad [.int x0, .int x1] M z M := by
  refine ct_i (own := RX8) (by decide) rfl (Nat.le_of_ble_eq_true rfl) ?_
  intro p e s m args below meth c Q C hr
  have hx := C.1
  have hb := C.2.1
  have hown := C.2.2.2.1
  have hts := C.2.2.2.2.1
  have J_7 : ∀ (n : Nat) (a : Int32 × Int32 × Int32), iter (fun rec a => f_X8_commonDivisor_7 rec a.1 a.2.1 a.2.2) n a = some z → GP p l e (rmk 0) s m args below meth c 0 0 Q D cs ad 6 7 [(2, .int a.1), (3, .int a.2.1), (4, .int a.2.2)] [] M := by
    refine iter_ind (fun r7 hr7 a h => ?_)
    obtain ⟨x2, x3, x4⟩ := a
    have h : f_X8_commonDivisor_7 r7 x2 x3 x4 = some z := h
    intro H locs hG ls hl
    have hG : GH D cs ad s M H locs := hG
    have hl : lv_has ls 6 [(2, .int x2), (3, .int x3), (4, .int x4)] := hl
    unfold f_X8_commonDivisor_7 at h
    refine lv_iload hx hb dX8_commonDivisor_7 (lv_at hl 2 rfl) ?_
    refine lv_bipush (v := 100) hx hb dX8_commonDivisor_9 (by decide) ?_
    refine lv_icmp_ge (tgt := 34) hx hb dX8_commonDivisor_11 (by decide) (fun c_11 => ?_) (fun c_11 => ?_)
    · have h := if_t c_11 h
      refine lv_iload_n hx hb dX8_commonDivisor_34 rfl (lv_at hl 0 rfl) ?_
      exact hr (Option.some.inj h) rfl hG dX8_commonDivisor_35
    · have h := if_f c_11 h
      refine lv_iload_n hx hb dX8_commonDivisor_14 rfl (lv_at hl 1 rfl) ?_
      refine lv_if_eq (tgt := 34) hx hb dX8_commonDivisor_15 (by decide) (fun c_15 => ?_) (fun c_15 => ?_)
      · have h := if_t c_15 h
        refine lv_iload_n hx hb dX8_commonDivisor_34 rfl (lv_at hl 0 rfl) ?_
        exact hr (Option.some.inj h) rfl hG dX8_commonDivisor_35
      · have h := if_f c_15 h
        refine lv_iload_n hx hb dX8_commonDivisor_18 rfl (lv_at hl 0 rfl) ?_
        refine lv_iload_n hx hb dX8_commonDivisor_19 rfl (lv_at hl 1 rfl) ?_
        obtain ⟨hd_20, h⟩ := dn_e h
        refine lv_irem hx hb dX8_commonDivisor_20 hd_20 ?_
        refine lv_topi (fun x5_21 e5_21 => ?_)
        have h := nm_at e5_21 h
        refine lv_istore (lv' := [(5, .int x5_21), (2, .int x2), (3, .int x3), (4, .int x4)]) hx hb dX8_commonDivisor_21 hl (by decide) rfl (fun ls hl => ?_)
        refine lv_iload_n hx hb dX8_commonDivisor_23 rfl (lv_at hl 2 rfl) ?_
        refine lv_istore_n (lv' := [(2, .int x3), (5, .int x5_21), (3, .int x3), (4, .int x4)]) hx hb dX8_commonDivisor_24 rfl hl (by decide) rfl (fun ls hl => ?_)
        refine lv_iload hx hb dX8_commonDivisor_25 (lv_at hl 1 rfl) ?_
        refine lv_istore_n (lv' := [(3, .int x5_21), (2, .int x3), (5, .int x5_21), (4, .int x4)]) hx hb dX8_commonDivisor_27 rfl hl (by decide) rfl (fun ls hl => ?_)
        obtain ⟨x4_28, e4_28⟩ : ∃ y : Int32, y = x4 + (1 : Int32) := ⟨_, rfl⟩
        have h := nm_at e4_28 h
        refine lv_iinc (v := x4_28) (lv' := [(4, .int x4_28), (3, .int x5_21), (2, .int x3), (5, .int x5_21)]) hx hb dX8_commonDivisor_28 hl (k := 3) rfl (by rw [e4_28]; rfl) (by decide) rfl (fun ls hl => ?_)
        refine lv_goto (tgt := 7) hx hb dX8_commonDivisor_31 (by decide) ?_
        exact hr7 (x3, x5_21, x4_28) h H locs hG ls (lv_sub hl [2, 1, 0] rfl)
  intro H locs hG ls hl
  have hl : lv_has ls 6 [(0, .int x0), (1, .int x1)] := hl
  unfold f_X8_commonDivisor at h
  refine lv_iload_n hx hb dX8_commonDivisor_0 rfl (lv_at hl 0 rfl) ?_
  refine lv_istore_n (lv' := [(2, .int x0), (0, .int x0), (1, .int x1)]) hx hb dX8_commonDivisor_1 rfl hl (by decide) rfl (fun ls hl => ?_)
  refine lv_iload_n hx hb dX8_commonDivisor_2 rfl (lv_at hl 2 rfl) ?_
  refine lv_istore_n (lv' := [(3, .int x1), (2, .int x0), (0, .int x0), (1, .int x1)]) hx hb dX8_commonDivisor_3 rfl hl (by decide) rfl (fun ls hl => ?_)
  refine lv_iconst (v := 0) hx hb dX8_commonDivisor_4 (by decide) ?_
  refine lv_istore (lv' := [(4, .int 0), (3, .int x1), (2, .int x0), (0, .int x0), (1, .int x1)]) hx hb dX8_commonDivisor_5 hl (by decide) rfl (fun ls hl => ?_)
  exact J_7 _ (x0, x1, (0 : Int32)) h H locs hG ls (lv_sub hl [2, 1, 0] rfl)
def f_X8_storm (M : Mem) (x1 : Int32) (x2 : Int32) (x3 : Int32) : Option (Int32 × Mem) :=
  if (f_X2_isThere M 4) = true then (
    if (f_X8_isWithin x1 (6 : Int32)) = true then (
      if (f_X8_isWithin x2 (10 : Int32)) = true then (
        if (f_X8_isWithin x3 (1 : Int32)) = true then (
          (f_X8_stormWeight M x1 x2).bind fun q45 =>
          (f_X8_power (10 : Int32) (f_J6_bitCount_0f7a4 (q45.2 11 0))).bind fun q65 =>
          (f_X8_commonDivisor q45.1 q65).bind fun q74 =>
          if (1 : Int32) ≤ q74 then (
            if x3 = (0 : Int32) then (
              chk (decide (¬ q74 = 0)) <|
              some ((q45.1 / q74), q45.2)
            ) else (
              chk (decide (¬ q74 = 0)) <|
              some ((q65 / q74), q45.2)
            )
          ) else (
            some ((-1000000 : Int32), q45.2)
          )
        ) else (
          some ((-1000001 : Int32), M)
        )
      ) else (
        some ((-1000001 : Int32), M)
      )
    ) else (
      some ((-1000001 : Int32), M)
    )
  ) else (
    some ((-1000002 : Int32), M)
  )
theorem e_X8_storm : yX8_storm.cls = RX8 ∧ yX8_storm.cls ≠ "java/lang/invoke/MethodHandle" ∧ yX8_storm.cls ≠ "java/lang/invoke/VarHandle" ∧ (parseMethodDescriptor yX8_storm.desc).map (fun d => d.parameters.length) = some 3 := by decide +kernel
set_option maxHeartbeats 4000000 in
set_option maxRecDepth 100000 in
theorem c_X8_storm (l : Launch) (D : va_G) (cs : Nat → ClassId) (ad : Nat → Nat) (M : Mem) (x1 : Int32) (x2 : Int32) (x3 : Int32) {z : Int32 × Mem} (h : f_X8_storm M x1 x2 x3 = some z) : CtI l yX8_storm cX8_storm 7 .int 6 D cs ad [.ref (ad 0), .int x1, .int x2, .int x3] M z.1 z.2 := by
  refine ct_i (own := RX8) (by decide) rfl (Nat.le_of_ble_eq_true rfl) ?_
  intro p e s m args below meth c Q C hr
  have hx := C.1
  have hb := C.2.1
  have hown := C.2.2.2.1
  have hts := C.2.2.2.2.1
  intro H locs hG ls hl
  have hl : lv_has ls 7 [(0, .ref (ad 0)), (1, .int x1), (2, .int x2), (3, .int x3)] := hl
  unfold f_X8_storm at h
  refine lv_aload_n hx hb dX8_storm_0 rfl (lv_at hl 0 rfl) ?_
  refine gf_X8_now C hG gk_0 wf_X8_25 dX8_storm_1 ?_
  refine g_ci hG (g_runV C hG (gR_2 gk_4) (c_X2_isThere l D cs ad M gk_4 rfl) wm_X8_215 wi_X2_isThere ws_X2_isThere wz_X2 wc_X2_isThere e_X2_isThere (by decide) hl.1 (Nat.le_of_ble_eq_true rfl) dX8_storm_4) (fun H locs hG => ?_)
  refine lv_if_ne (tgt := 13) hx hb dX8_storm_7 (by decide) (fun c_7 => ?_) (fun c_7 => ?_)
  · have h := if_t (bi_t c_7) h
    refine lv_iload_n hx hb dX8_storm_13 rfl (lv_at hl 1 rfl) ?_
    refine lv_bipush (v := 6) hx hb dX8_storm_14 (by decide) ?_
    refine g_ci hG (g_runS C hG (c_X8_isWithin l D cs ad M x1 (6 : Int32) rfl) wm_X8_66 wt_X8_isWithin wz_X8 wc_X8_isWithin e_X8_isWithin (by decide) hl.1 (Nat.le_of_ble_eq_true rfl) dX8_storm_16) (fun H locs hG => ?_)
    refine lv_if_eq (tgt := 39) hx hb dX8_storm_19 (by decide) (fun c_19 => ?_) (fun c_19 => ?_)
    · have h := if_f (bi_f c_19) h
      refine lv_ldc (v := -1000001) hx hb hown (hts _ wk_X8_70) dX8_storm_39 ?_
      exact hr (pf1 (Option.some.inj h)) (pf2 (Option.some.inj h)) hG dX8_storm_41
    · have h := if_t (bi_t c_19) h
      refine lv_iload_n hx hb dX8_storm_22 rfl (lv_at hl 2 rfl) ?_
      refine lv_bipush (v := 10) hx hb dX8_storm_23 (by decide) ?_
      refine g_ci hG (g_runS C hG (c_X8_isWithin l D cs ad M x2 (10 : Int32) rfl) wm_X8_66 wt_X8_isWithin wz_X8 wc_X8_isWithin e_X8_isWithin (by decide) hl.1 (Nat.le_of_ble_eq_true rfl) dX8_storm_25) (fun H locs hG => ?_)
      refine lv_if_eq (tgt := 39) hx hb dX8_storm_28 (by decide) (fun c_28 => ?_) (fun c_28 => ?_)
      · have h := if_f (bi_f c_28) h
        refine lv_ldc (v := -1000001) hx hb hown (hts _ wk_X8_70) dX8_storm_39 ?_
        exact hr (pf1 (Option.some.inj h)) (pf2 (Option.some.inj h)) hG dX8_storm_41
      · have h := if_t (bi_t c_28) h
        refine lv_iload_n hx hb dX8_storm_31 rfl (lv_at hl 3 rfl) ?_
        refine lv_iconst (v := 1) hx hb dX8_storm_32 (by decide) ?_
        refine g_ci hG (g_runS C hG (c_X8_isWithin l D cs ad M x3 (1 : Int32) rfl) wm_X8_66 wt_X8_isWithin wz_X8 wc_X8_isWithin e_X8_isWithin (by decide) hl.1 (Nat.le_of_ble_eq_true rfl) dX8_storm_33) (fun H locs hG => ?_)
        refine lv_if_ne (tgt := 42) hx hb dX8_storm_36 (by decide) (fun c_36 => ?_) (fun c_36 => ?_)
        · have h := if_t (bi_t c_36) h
          refine lv_aload_n hx hb dX8_storm_42 rfl (lv_at hl 0 rfl) ?_
          refine lv_iload_n hx hb dX8_storm_43 rfl (lv_at hl 1 rfl) ?_
          refine lv_iload_n hx hb dX8_storm_44 rfl (lv_at hl 2 rfl) ?_
          obtain ⟨q45, e_45, h⟩ := bd_e h
          refine g_ci hG (g_runV C hG (gR_8 gk_0) (c_X8_stormWeight l D cs ad M x1 x2 e_45) wm_X8_268 wi_X8_stormWeight ws_X8_stormWeight wz_X8 wc_X8_stormWeight e_X8_stormWeight (by decide) hl.1 (Nat.le_of_ble_eq_true rfl) dX8_storm_45) (fun H locs hG => ?_)
          refine lv_istore (lv' := [(4, .int q45.1), (0, .ref (ad 0)), (1, .int x1), (2, .int x2), (3, .int x3)]) hx hb dX8_storm_48 hl (by decide) rfl (fun ls hl => ?_)
          refine lv_bipush (v := 10) hx hb dX8_storm_50 (by decide) ?_
          refine lv_aload_n hx hb dX8_storm_52 rfl (lv_at hl 1 rfl) ?_
          refine gf_X8_now C hG gk_0 wf_X8_25 dX8_storm_53 ?_
          refine gf_X2_moment (j := 11) C hG gk_4 rfl wf_X8_146 dX8_storm_56 ?_
          refine gf_X3_flying C hG gk_11 wf_X8_157 dX8_storm_59 ?_
          refine g_ci hG (g_runS C hG (c_J6_bitCount_0f7a4 l D cs ad q45.2 (q45.2 11 0) rfl) wm_X8_237 wt_J6_bitCount_0f7a4 wz_J6 wc_J6_bitCount_0f7a4 e_J6_bitCount_0f7a4 (by decide) hl.1 (Nat.le_of_ble_eq_true rfl) dX8_storm_62) (fun H locs hG => ?_)
          obtain ⟨q65, e_65, h⟩ := bd_e h
          refine g_ci hG (g_runS C hG (c_X8_power l D cs ad q45.2 (10 : Int32) (f_J6_bitCount_0f7a4 (q45.2 11 0)) e_65) wm_X8_271 wt_X8_power wz_X8 wc_X8_power e_X8_power (by decide) hl.1 (Nat.le_of_ble_eq_true rfl) dX8_storm_65) (fun H locs hG => ?_)
          refine lv_istore (lv' := [(5, .int q65), (4, .int q45.1), (0, .ref (ad 0)), (1, .int x1), (2, .int x2), (3, .int x3)]) hx hb dX8_storm_68 hl (by decide) rfl (fun ls hl => ?_)
          refine lv_iload hx hb dX8_storm_70 (lv_at hl 1 rfl) ?_
          refine lv_iload hx hb dX8_storm_72 (lv_at hl 0 rfl) ?_
          obtain ⟨q74, e_74, h⟩ := bd_e h
          refine g_ci hG (g_runS C hG (c_X8_commonDivisor l D cs ad q45.2 q45.1 q65 e_74) wm_X8_274 wt_X8_commonDivisor wz_X8 wc_X8_commonDivisor e_X8_commonDivisor (by decide) hl.1 (Nat.le_of_ble_eq_true rfl) dX8_storm_74) (fun H locs hG => ?_)
          refine lv_istore (lv' := [(6, .int q74), (5, .int q65), (4, .int q45.1), (0, .ref (ad 0)), (1, .int x1), (2, .int x2), (3, .int x3)]) hx hb dX8_storm_77 hl (by decide) rfl (fun ls hl => ?_)
          refine lv_iload hx hb dX8_storm_79 (lv_at hl 0 rfl) ?_
          refine lv_iconst (v := 1) hx hb dX8_storm_81 (by decide) ?_
          refine lv_icmp_ge (tgt := 88) hx hb dX8_storm_82 (by decide) (fun c_82 => ?_) (fun c_82 => ?_)
          · have h := if_t c_82 h
            refine lv_iload_n hx hb dX8_storm_88 rfl (lv_at hl 6 rfl) ?_
            refine lv_if_ne (tgt := 100) hx hb dX8_storm_89 (by decide) (fun c_89 => ?_) (fun c_89 => ?_)
            · have h := if_f c_89 h
              refine lv_iload hx hb dX8_storm_100 (lv_at hl 1 rfl) ?_
              refine lv_iload hx hb dX8_storm_102 (lv_at hl 0 rfl) ?_
              obtain ⟨hd_104, h⟩ := dn_e h
              refine lv_idiv hx hb dX8_storm_104 hd_104 ?_
              exact hr (pf1 (Option.some.inj h)) (pf2 (Option.some.inj h)) hG dX8_storm_105
            · have h := if_t c_89 h
              refine lv_iload hx hb dX8_storm_92 (lv_at hl 2 rfl) ?_
              refine lv_iload hx hb dX8_storm_94 (lv_at hl 0 rfl) ?_
              obtain ⟨hd_96, h⟩ := dn_e h
              refine lv_idiv hx hb dX8_storm_96 hd_96 ?_
              refine lv_goto (tgt := 105) hx hb dX8_storm_97 (by decide) ?_
              exact hr (pf1 (Option.some.inj h)) (pf2 (Option.some.inj h)) hG dX8_storm_105
          · have h := if_f c_82 h
            refine lv_ldc (v := -1000000) hx hb hown (hts _ wk_X8_222) dX8_storm_85 ?_
            exact hr (pf1 (Option.some.inj h)) (pf2 (Option.some.inj h)) hG dX8_storm_87
        · have h := if_f (bi_f c_36) h
          refine lv_ldc (v := -1000001) hx hb hown (hts _ wk_X8_70) dX8_storm_39 ?_
          exact hr (pf1 (Option.some.inj h)) (pf2 (Option.some.inj h)) hG dX8_storm_41
  · have h := if_f (bi_f c_7) h
    refine lv_ldc (v := -1000002) hx hb hown (hts _ wk_X8_145) dX8_storm_10 ?_
    exact hr (pf1 (Option.some.inj h)) (pf2 (Option.some.inj h)) hG dX8_storm_12
def f_X8_drawn_58 (x1 : Int32) (x3 : Int32) (r58 : (Mem × Int64 × Int32 × Int32 × Int32) → Option (Int32 × Mem)) (M : Mem) (x4 : Int64) (x6 : Int32) (x7 : Int32) (x8 : Int32) : Option (Int32 × Mem) :=
  if x1 ≤ x8 then (
    if x3 = (0 : Int32) then (
      some (x6, M)
    ) else (
      some (x7, M)
    )
  ) else (
    nm (((x4 * (16807 : Int64)) - (x4 * (16807 : Int64)) / (2147483647 : Int64) * (2147483647 : Int64))) fun x4_74 =>
    nm (f_X2_become M 14 4) fun q84 =>
    (f_X2_strike q84 14 x4_74).bind fun q93 =>
    (f_X2_arriving q93 14).bind fun q100 =>
    nm ((f_J6_bitCount_0f7a4 q100.1)) fun x9_106 =>
    nm ((x6 + x9_106)) fun x6_113 =>
    if x9_106 ≤ (0 : Int32) then (
      nm ((x7 + (0 : Int32))) fun x7_128 =>
      nm (x8 + (1 : Int32)) fun x8_130 =>
      r58 (q100.2, x4_74, x6_113, x7_128, x8_130)
    ) else (
      nm ((x7 + (1 : Int32))) fun x7_128 =>
      nm (x8 + (1 : Int32)) fun x8_130 =>
      r58 (q100.2, x4_74, x6_113, x7_128, x8_130)
    )
  )
def f_X8_drawn (M : Mem) (x1 : Int32) (x2 : Int32) (x3 : Int32) : Option (Int32 × Mem) :=
  if (f_X2_isThere M 4) = true then (
    if (f_X8_isWithin x1 (40 : Int32)) = true then (
      if x2 < (1 : Int32) then (
        some ((-1000001 : Int32), M)
      ) else (
        if (999999 : Int32) < x2 then (
          some ((-1000001 : Int32), M)
        ) else (
          if (f_X8_isWithin x3 (1 : Int32)) = true then (
            nm ((x2).toInt64) fun x4_47 =>
            iter (fun rec a => f_X8_drawn_58 x1 x3 rec a.1 a.2.1 a.2.2.1 a.2.2.2.1 a.2.2.2.2) fuel (M, x4_47, (0 : Int32), (0 : Int32), (0 : Int32))
          ) else (
            some ((-1000001 : Int32), M)
          )
        )
      )
    ) else (
      some ((-1000001 : Int32), M)
    )
  ) else (
    some ((-1000002 : Int32), M)
  )
theorem e_X8_drawn : yX8_drawn.cls = RX8 ∧ yX8_drawn.cls ≠ "java/lang/invoke/MethodHandle" ∧ yX8_drawn.cls ≠ "java/lang/invoke/VarHandle" ∧ (parseMethodDescriptor yX8_drawn.desc).map (fun d => d.parameters.length) = some 3 := by decide +kernel
set_option maxHeartbeats 4000000 in
set_option maxRecDepth 100000 in
theorem c_X8_drawn (l : Launch) (D : va_G) (cs : Nat → ClassId) (ad : Nat → Nat) (M : Mem) (x1 : Int32) (x2 : Int32) (x3 : Int32) {z : Int32 × Mem} (h : f_X8_drawn M x1 x2 x3 = some z) : CtI l yX8_drawn cX8_drawn 10 .int 5 D cs ad [.ref (ad 0), .int x1, .int x2, .int x3] M z.1 z.2 := by
  refine ct_i (own := RX8) (by decide) rfl (Nat.le_of_ble_eq_true rfl) ?_
  intro p e s m args below meth c Q C hr
  have hx := C.1
  have hb := C.2.1
  have hown := C.2.2.2.1
  have hts := C.2.2.2.2.1
  have J_58 : ∀ (x1 : Int32) (x3 : Int32) (n : Nat) (a : Mem × Int64 × Int32 × Int32 × Int32), iter (fun rec a => f_X8_drawn_58 x1 x3 rec a.1 a.2.1 a.2.2.1 a.2.2.2.1 a.2.2.2.2) n a = some z → GP p l e (rmk 5) s m args below meth c 0 0 Q D cs ad 10 58 [(0, .ref (ad 0)), (1, .int x1), (3, .int x3), (4, .long a.2.1), (6, .int a.2.2.1), (7, .int a.2.2.2.1), (8, .int a.2.2.2.2)] [] a.1 := by
    intro x1 x3
    refine iter_ind (fun r58 hr58 a h => ?_)
    obtain ⟨M, x4, x6, x7, x8⟩ := a
    have h : f_X8_drawn_58 x1 x3 r58 M x4 x6 x7 x8 = some z := h
    intro H locs hG ls hl
    have hG : GH D cs ad s M H locs := hG
    have hl : lv_has ls 10 [(0, .ref (ad 0)), (1, .int x1), (3, .int x3), (4, .long x4), (6, .int x6), (7, .int x7), (8, .int x8)] := hl
    unfold f_X8_drawn_58 at h
    refine lv_iload hx hb dX8_drawn_58 (lv_at hl 6 rfl) ?_
    refine lv_iload_n hx hb dX8_drawn_60 rfl (lv_at hl 1 rfl) ?_
    refine lv_icmp_ge (tgt := 136) hx hb dX8_drawn_61 (by decide) (fun c_61 => ?_) (fun c_61 => ?_)
    · have h := if_t c_61 h
      refine lv_iload_n hx hb dX8_drawn_136 rfl (lv_at hl 2 rfl) ?_
      refine lv_if_ne (tgt := 145) hx hb dX8_drawn_137 (by decide) (fun c_137 => ?_) (fun c_137 => ?_)
      · have h := if_f c_137 h
        refine lv_iload hx hb dX8_drawn_145 (lv_at hl 5 rfl) ?_
        exact hr (pf1 (Option.some.inj h)) (pf2 (Option.some.inj h)) hG dX8_drawn_147
      · have h := if_t c_137 h
        refine lv_iload hx hb dX8_drawn_140 (lv_at hl 4 rfl) ?_
        refine lv_goto (tgt := 147) hx hb dX8_drawn_142 (by decide) ?_
        exact hr (pf1 (Option.some.inj h)) (pf2 (Option.some.inj h)) hG dX8_drawn_147
    · have h := if_f c_61 h
      refine lv_lload hx hb dX8_drawn_64 (lv_at hl 3 rfl) ?_
      refine lv_ldc2 (v := 16807) hx hb hown (hts _ wk_X8_278) dX8_drawn_66 ?_
      refine lv_lmul hx hb dX8_drawn_69 ?_
      refine lv_ldc2 (v := 2147483647) hx hb hown (hts _ wk_X8_280) dX8_drawn_70 ?_
      refine lv_lrem hx hb dX8_drawn_73 (by decide) ?_
      refine lv_topl (fun x4_74 e4_74 => ?_)
      have h := nm_at e4_74 h
      refine lv_lstore (lv' := [(4, .long x4_74), (0, .ref (ad 0)), (1, .int x1), (3, .int x3), (6, .int x6), (7, .int x7), (8, .int x8)]) hx hb dX8_drawn_74 hl (by decide) rfl (fun ls hl => ?_)
      refine lv_aload_n hx hb dX8_drawn_76 rfl (lv_at hl 1 rfl) ?_
      refine gf_X8_trial C hG gk_0 wf_X8_29 dX8_drawn_77 ?_
      refine lv_aload_n hx hb dX8_drawn_80 rfl (lv_at hl 1 rfl) ?_
      refine gf_X8_now C hG gk_0 wf_X8_25 dX8_drawn_81 ?_
      obtain ⟨q84, e_84⟩ : ∃ y, f_X2_become M 14 4 = y := ⟨_, rfl⟩
      have h := nm_at e_84.symm h
      refine g_cv hG (g_runV C hG (gR_2 gk_14) (c_X2_become l D cs ad M gk_14 gk_4 e_84) wm_X8_122 wi_X2_become ws_X2_become wz_X2 wc_X2_become e_X2_become (by decide) hl.1 (Nat.le_of_ble_eq_true rfl) dX8_drawn_84) (fun H locs hG => ?_)
      refine lv_aload_n hx hb dX8_drawn_87 rfl (lv_at hl 1 rfl) ?_
      refine gf_X8_trial C hG gk_0 wf_X8_29 dX8_drawn_88 ?_
      refine lv_lload hx hb dX8_drawn_91 (lv_at hl 0 rfl) ?_
      obtain ⟨q93, e_93, h⟩ := bd_e h
      refine g_cv hG (g_runV C hG (gR_2 gk_14) (c_X2_strike l D cs ad q84 gk_14 x4_74 e_93) wm_X8_282 wi_X2_strike ws_X2_strike wz_X2 wc_X2_strike e_X2_strike (by decide) hl.1 (Nat.le_of_ble_eq_true rfl) dX8_drawn_93) (fun H locs hG => ?_)
      refine lv_aload_n hx hb dX8_drawn_96 rfl (lv_at hl 1 rfl) ?_
      refine gf_X8_trial C hG gk_0 wf_X8_29 dX8_drawn_97 ?_
      obtain ⟨q100, e_100, h⟩ := bd_e h
      refine g_ci hG (g_runV C hG (gR_2 gk_14) (c_X2_arriving l D cs ad q93 gk_14 e_100) wm_X8_219 wi_X2_arriving ws_X2_arriving wz_X2 wc_X2_arriving e_X2_arriving (by decide) hl.1 (Nat.le_of_ble_eq_true rfl) dX8_drawn_100) (fun H locs hG => ?_)
      refine g_ci hG (g_runS C hG (c_J6_bitCount_0f7a4 l D cs ad q100.2 q100.1 rfl) wm_X8_237 wt_J6_bitCount_0f7a4 wz_J6 wc_J6_bitCount_0f7a4 e_J6_bitCount_0f7a4 (by decide) hl.1 (Nat.le_of_ble_eq_true rfl) dX8_drawn_103) (fun H locs hG => ?_)
      refine lv_topi (fun x9_106 e9_106 => ?_)
      have h := nm_at e9_106 h
      refine lv_istore (lv' := [(9, .int x9_106), (4, .long x4_74), (0, .ref (ad 0)), (1, .int x1), (3, .int x3), (6, .int x6), (7, .int x7), (8, .int x8)]) hx hb dX8_drawn_106 hl (by decide) rfl (fun ls hl => ?_)
      refine lv_iload hx hb dX8_drawn_108 (lv_at hl 5 rfl) ?_
      refine lv_iload hx hb dX8_drawn_110 (lv_at hl 0 rfl) ?_
      refine lv_iadd hx hb dX8_drawn_112 ?_
      refine lv_topi (fun x6_113 e6_113 => ?_)
      have h := nm_at e6_113 h
      refine lv_istore (lv' := [(6, .int x6_113), (9, .int x9_106), (4, .long x4_74), (0, .ref (ad 0)), (1, .int x1), (3, .int x3), (7, .int x7), (8, .int x8)]) hx hb dX8_drawn_113 hl (by decide) rfl (fun ls hl => ?_)
      refine lv_iload hx hb dX8_drawn_115 (lv_at hl 6 rfl) ?_
      refine lv_iload hx hb dX8_drawn_117 (lv_at hl 1 rfl) ?_
      refine lv_if_le (tgt := 126) hx hb dX8_drawn_119 (by decide) (fun c_119 => ?_) (fun c_119 => ?_)
      · have h := if_t c_119 h
        refine lv_iconst (v := 0) hx hb dX8_drawn_126 (by decide) ?_
        refine lv_iadd hx hb dX8_drawn_127 ?_
        refine lv_topi (fun x7_128 e7_128 => ?_)
        have h := nm_at e7_128 h
        refine lv_istore (lv' := [(7, .int x7_128), (6, .int x6_113), (9, .int x9_106), (4, .long x4_74), (0, .ref (ad 0)), (1, .int x1), (3, .int x3), (8, .int x8)]) hx hb dX8_drawn_128 hl (by decide) rfl (fun ls hl => ?_)
        obtain ⟨x8_130, e8_130⟩ : ∃ y : Int32, y = x8 + (1 : Int32) := ⟨_, rfl⟩
        have h := nm_at e8_130 h
        refine lv_iinc (v := x8_130) (lv' := [(8, .int x8_130), (7, .int x7_128), (6, .int x6_113), (9, .int x9_106), (4, .long x4_74), (0, .ref (ad 0)), (1, .int x1), (3, .int x3)]) hx hb dX8_drawn_130 hl (k := 7) rfl (by rw [e8_130]; rfl) (by decide) rfl (fun ls hl => ?_)
        refine lv_goto (tgt := 58) hx hb dX8_drawn_133 (by decide) ?_
        exact hr58 (q100.2, x4_74, x6_113, x7_128, x8_130) h H locs hG ls (lv_sub hl [5, 6, 7, 4, 2, 1, 0] rfl)
      · have h := if_f c_119 h
        refine lv_iconst (v := 1) hx hb dX8_drawn_122 (by decide) ?_
        refine lv_goto (tgt := 127) hx hb dX8_drawn_123 (by decide) ?_
        refine lv_iadd hx hb dX8_drawn_127 ?_
        refine lv_topi (fun x7_128 e7_128 => ?_)
        have h := nm_at e7_128 h
        refine lv_istore (lv' := [(7, .int x7_128), (6, .int x6_113), (9, .int x9_106), (4, .long x4_74), (0, .ref (ad 0)), (1, .int x1), (3, .int x3), (8, .int x8)]) hx hb dX8_drawn_128 hl (by decide) rfl (fun ls hl => ?_)
        obtain ⟨x8_130, e8_130⟩ : ∃ y : Int32, y = x8 + (1 : Int32) := ⟨_, rfl⟩
        have h := nm_at e8_130 h
        refine lv_iinc (v := x8_130) (lv' := [(8, .int x8_130), (7, .int x7_128), (6, .int x6_113), (9, .int x9_106), (4, .long x4_74), (0, .ref (ad 0)), (1, .int x1), (3, .int x3)]) hx hb dX8_drawn_130 hl (k := 7) rfl (by rw [e8_130]; rfl) (by decide) rfl (fun ls hl => ?_)
        refine lv_goto (tgt := 58) hx hb dX8_drawn_133 (by decide) ?_
        exact hr58 (q100.2, x4_74, x6_113, x7_128, x8_130) h H locs hG ls (lv_sub hl [5, 6, 7, 4, 2, 1, 0] rfl)
  intro H locs hG ls hl
  have hl : lv_has ls 10 [(0, .ref (ad 0)), (1, .int x1), (2, .int x2), (3, .int x3)] := hl
  unfold f_X8_drawn at h
  refine lv_aload_n hx hb dX8_drawn_0 rfl (lv_at hl 0 rfl) ?_
  refine gf_X8_now C hG gk_0 wf_X8_25 dX8_drawn_1 ?_
  refine g_ci hG (g_runV C hG (gR_2 gk_4) (c_X2_isThere l D cs ad M gk_4 rfl) wm_X8_215 wi_X2_isThere ws_X2_isThere wz_X2 wc_X2_isThere e_X2_isThere (by decide) hl.1 (Nat.le_of_ble_eq_true rfl) dX8_drawn_4) (fun H locs hG => ?_)
  refine lv_if_ne (tgt := 13) hx hb dX8_drawn_7 (by decide) (fun c_7 => ?_) (fun c_7 => ?_)
  · have h := if_t (bi_t c_7) h
    refine lv_iload_n hx hb dX8_drawn_13 rfl (lv_at hl 1 rfl) ?_
    refine lv_bipush (v := 40) hx hb dX8_drawn_14 (by decide) ?_
    refine g_ci hG (g_runS C hG (c_X8_isWithin l D cs ad M x1 (40 : Int32) rfl) wm_X8_66 wt_X8_isWithin wz_X8 wc_X8_isWithin e_X8_isWithin (by decide) hl.1 (Nat.le_of_ble_eq_true rfl) dX8_drawn_16) (fun H locs hG => ?_)
    refine lv_if_eq (tgt := 42) hx hb dX8_drawn_19 (by decide) (fun c_19 => ?_) (fun c_19 => ?_)
    · have h := if_f (bi_f c_19) h
      refine lv_ldc (v := -1000001) hx hb hown (hts _ wk_X8_70) dX8_drawn_42 ?_
      exact hr (pf1 (Option.some.inj h)) (pf2 (Option.some.inj h)) hG dX8_drawn_44
    · have h := if_t (bi_t c_19) h
      refine lv_iload_n hx hb dX8_drawn_22 rfl (lv_at hl 2 rfl) ?_
      refine lv_iconst (v := 1) hx hb dX8_drawn_23 (by decide) ?_
      refine lv_icmp_lt (tgt := 42) hx hb dX8_drawn_24 (by decide) (fun c_24 => ?_) (fun c_24 => ?_)
      · have h := if_t c_24 h
        refine lv_ldc (v := -1000001) hx hb hown (hts _ wk_X8_70) dX8_drawn_42 ?_
        exact hr (pf1 (Option.some.inj h)) (pf2 (Option.some.inj h)) hG dX8_drawn_44
      · have h := if_f c_24 h
        refine lv_iload_n hx hb dX8_drawn_27 rfl (lv_at hl 2 rfl) ?_
        refine lv_ldcw (v := 999999) hx hb hown (hts _ wk_X8_277) dX8_drawn_28 ?_
        refine lv_icmp_gt (tgt := 42) hx hb dX8_drawn_31 (by decide) (fun c_31 => ?_) (fun c_31 => ?_)
        · have h := if_t c_31 h
          refine lv_ldc (v := -1000001) hx hb hown (hts _ wk_X8_70) dX8_drawn_42 ?_
          exact hr (pf1 (Option.some.inj h)) (pf2 (Option.some.inj h)) hG dX8_drawn_44
        · have h := if_f c_31 h
          refine lv_iload_n hx hb dX8_drawn_34 rfl (lv_at hl 3 rfl) ?_
          refine lv_iconst (v := 1) hx hb dX8_drawn_35 (by decide) ?_
          refine g_ci hG (g_runS C hG (c_X8_isWithin l D cs ad M x3 (1 : Int32) rfl) wm_X8_66 wt_X8_isWithin wz_X8 wc_X8_isWithin e_X8_isWithin (by decide) hl.1 (Nat.le_of_ble_eq_true rfl) dX8_drawn_36) (fun H locs hG => ?_)
          refine lv_if_ne (tgt := 45) hx hb dX8_drawn_39 (by decide) (fun c_39 => ?_) (fun c_39 => ?_)
          · have h := if_t (bi_t c_39) h
            refine lv_iload_n hx hb dX8_drawn_45 rfl (lv_at hl 2 rfl) ?_
            refine lv_i2l hx hb dX8_drawn_46 rfl ?_
            refine lv_topl (fun x4_47 e4_47 => ?_)
            have h := nm_at e4_47 h
            refine lv_lstore (lv' := [(4, .long x4_47), (0, .ref (ad 0)), (1, .int x1), (2, .int x2), (3, .int x3)]) hx hb dX8_drawn_47 hl (by decide) rfl (fun ls hl => ?_)
            refine lv_iconst (v := 0) hx hb dX8_drawn_49 (by decide) ?_
            refine lv_istore (lv' := [(6, .int 0), (4, .long x4_47), (0, .ref (ad 0)), (1, .int x1), (2, .int x2), (3, .int x3)]) hx hb dX8_drawn_50 hl (by decide) rfl (fun ls hl => ?_)
            refine lv_iconst (v := 0) hx hb dX8_drawn_52 (by decide) ?_
            refine lv_istore (lv' := [(7, .int 0), (6, .int 0), (4, .long x4_47), (0, .ref (ad 0)), (1, .int x1), (2, .int x2), (3, .int x3)]) hx hb dX8_drawn_53 hl (by decide) rfl (fun ls hl => ?_)
            refine lv_iconst (v := 0) hx hb dX8_drawn_55 (by decide) ?_
            refine lv_istore (lv' := [(8, .int 0), (7, .int 0), (6, .int 0), (4, .long x4_47), (0, .ref (ad 0)), (1, .int x1), (2, .int x2), (3, .int x3)]) hx hb dX8_drawn_56 hl (by decide) rfl (fun ls hl => ?_)
            exact J_58 x1 x3 _ (M, x4_47, (0 : Int32), (0 : Int32), (0 : Int32)) h H locs hG ls (lv_sub hl [4, 5, 7, 3, 2, 1, 0] rfl)
          · have h := if_f (bi_f c_39) h
            refine lv_ldc (v := -1000001) hx hb hown (hts _ wk_X8_70) dX8_drawn_42 ?_
            exact hr (pf1 (Option.some.inj h)) (pf2 (Option.some.inj h)) hG dX8_drawn_44
  · have h := if_f (bi_f c_7) h
    refine lv_ldc (v := -1000002) hx hb hown (hts _ wk_X8_145) dX8_drawn_10 ?_
    exact hr (pf1 (Option.some.inj h)) (pf2 (Option.some.inj h)) hG dX8_drawn_12
def f_X8_image (M : Mem) (x1 : Int32) : Option (Int32 × Mem) :=
  if (f_X8_isWithin x1 (1 : Int32)) = true then (
    if (f_X2_isThere M 4) = true then (
      chk (ixb x1 2) <|
      nm (f_X2_become M (120 + 10 * x1.toNatClampNeg) 4) fun q34 =>
      some ((1 : Int32), q34)
    ) else (
      some ((-1000002 : Int32), M)
    )
  ) else (
    some ((-1000001 : Int32), M)
  )
theorem e_X8_image : yX8_image.cls = RX8 ∧ yX8_image.cls ≠ "java/lang/invoke/MethodHandle" ∧ yX8_image.cls ≠ "java/lang/invoke/VarHandle" ∧ (parseMethodDescriptor yX8_image.desc).map (fun d => d.parameters.length) = some 1 := by decide +kernel
set_option maxHeartbeats 4000000 in
set_option maxRecDepth 100000 in
theorem c_X8_image (l : Launch) (D : va_G) (cs : Nat → ClassId) (ad : Nat → Nat) (M : Mem) (x1 : Int32) {z : Int32 × Mem} (h : f_X8_image M x1 = some z) : CtI l yX8_image cX8_image 2 .int 3 D cs ad [.ref (ad 0), .int x1] M z.1 z.2 := by
  refine ct_i (own := RX8) (by decide) rfl (Nat.le_of_ble_eq_true rfl) ?_
  intro p e s m args below meth c Q C hr
  have hx := C.1
  have hb := C.2.1
  have hown := C.2.2.2.1
  have hts := C.2.2.2.2.1
  intro H locs hG ls hl
  have hl : lv_has ls 2 [(0, .ref (ad 0)), (1, .int x1)] := hl
  unfold f_X8_image at h
  refine lv_iload_n hx hb dX8_image_0 rfl (lv_at hl 1 rfl) ?_
  refine lv_iconst (v := 1) hx hb dX8_image_1 (by decide) ?_
  refine g_ci hG (g_runS C hG (c_X8_isWithin l D cs ad M x1 (1 : Int32) rfl) wm_X8_66 wt_X8_isWithin wz_X8 wc_X8_isWithin e_X8_isWithin (by decide) hl.1 (Nat.le_of_ble_eq_true rfl) dX8_image_2) (fun H locs hG => ?_)
  refine lv_if_ne (tgt := 11) hx hb dX8_image_5 (by decide) (fun c_5 => ?_) (fun c_5 => ?_)
  · have h := if_t (bi_t c_5) h
    refine lv_aload_n hx hb dX8_image_11 rfl (lv_at hl 0 rfl) ?_
    refine gf_X8_now C hG gk_0 wf_X8_25 dX8_image_12 ?_
    refine g_ci hG (g_runV C hG (gR_2 gk_4) (c_X2_isThere l D cs ad M gk_4 rfl) wm_X8_215 wi_X2_isThere ws_X2_isThere wz_X2 wc_X2_isThere e_X2_isThere (by decide) hl.1 (Nat.le_of_ble_eq_true rfl) dX8_image_15) (fun H locs hG => ?_)
    refine lv_if_ne (tgt := 24) hx hb dX8_image_18 (by decide) (fun c_18 => ?_) (fun c_18 => ?_)
    · have h := if_t (bi_t c_18) h
      refine lv_aload_n hx hb dX8_image_24 rfl (lv_at hl 0 rfl) ?_
      refine gf_X8_images C hG gk_0 wf_X8_32 dX8_image_25 ?_
      refine lv_iload_n hx hb dX8_image_28 rfl (lv_at hl 1 rfl) ?_
      obtain ⟨hi_29, h⟩ := ix_e h
      refine g_imgld C hG hi_29 dX8_image_29 ?_
      refine lv_aload_n hx hb dX8_image_30 rfl (lv_at hl 0 rfl) ?_
      refine gf_X8_now C hG gk_0 wf_X8_25 dX8_image_31 ?_
      obtain ⟨q34, e_34⟩ : ∃ y, f_X2_become M (120 + 10 * x1.toNatClampNeg) 4 = y := ⟨_, rfl⟩
      have h := nm_at e_34.symm h
      refine g_cv hG (g_runV C hG (gR_2 (gk_img hi_29)) (c_X2_become l D cs ad M (gk_img hi_29) gk_4 e_34) wm_X8_122 wi_X2_become ws_X2_become wz_X2 wc_X2_become e_X2_become (by decide) hl.1 (Nat.le_of_ble_eq_true rfl) dX8_image_34) (fun H locs hG => ?_)
      refine lv_iconst (v := 1) hx hb dX8_image_37 (by decide) ?_
      exact hr (pf1 (Option.some.inj h)) (pf2 (Option.some.inj h)) hG dX8_image_38
    · have h := if_f (bi_f c_18) h
      refine lv_ldc (v := -1000002) hx hb hown (hts _ wk_X8_145) dX8_image_21 ?_
      exact hr (pf1 (Option.some.inj h)) (pf2 (Option.some.inj h)) hG dX8_image_23
  · have h := if_f (bi_f c_5) h
    refine lv_ldc (v := -1000001) hx hb hown (hts _ wk_X8_70) dX8_image_8 ?_
    exact hr (pf1 (Option.some.inj h)) (pf2 (Option.some.inj h)) hG dX8_image_10
def f_X8_restore (M : Mem) (x1 : Int32) : Option (Int32 × Mem) :=
  if (f_X8_isWithin x1 (1 : Int32)) = true then (
    chk (ixb x1 2) <|
    if (f_X2_isThere M (120 + 10 * x1.toNatClampNeg)) = true then (
      nm (f_X2_become M 4 (120 + 10 * x1.toNatClampNeg)) fun q36 =>
      nm (f_X0_forgetAll q36) fun q43 =>
      some ((1 : Int32), q43)
    ) else (
      some ((-1000002 : Int32), M)
    )
  ) else (
    some ((-1000001 : Int32), M)
  )
theorem e_X8_restore : yX8_restore.cls = RX8 ∧ yX8_restore.cls ≠ "java/lang/invoke/MethodHandle" ∧ yX8_restore.cls ≠ "java/lang/invoke/VarHandle" ∧ (parseMethodDescriptor yX8_restore.desc).map (fun d => d.parameters.length) = some 1 := by decide +kernel
set_option maxHeartbeats 4000000 in
set_option maxRecDepth 100000 in
theorem c_X8_restore (l : Launch) (D : va_G) (cs : Nat → ClassId) (ad : Nat → Nat) (M : Mem) (x1 : Int32) {z : Int32 × Mem} (h : f_X8_restore M x1 = some z) : CtI l yX8_restore cX8_restore 2 .int 3 D cs ad [.ref (ad 0), .int x1] M z.1 z.2 := by
  refine ct_i (own := RX8) (by decide) rfl (Nat.le_of_ble_eq_true rfl) ?_
  intro p e s m args below meth c Q C hr
  have hx := C.1
  have hb := C.2.1
  have hown := C.2.2.2.1
  have hts := C.2.2.2.2.1
  intro H locs hG ls hl
  have hl : lv_has ls 2 [(0, .ref (ad 0)), (1, .int x1)] := hl
  unfold f_X8_restore at h
  refine lv_iload_n hx hb dX8_restore_0 rfl (lv_at hl 1 rfl) ?_
  refine lv_iconst (v := 1) hx hb dX8_restore_1 (by decide) ?_
  refine g_ci hG (g_runS C hG (c_X8_isWithin l D cs ad M x1 (1 : Int32) rfl) wm_X8_66 wt_X8_isWithin wz_X8 wc_X8_isWithin e_X8_isWithin (by decide) hl.1 (Nat.le_of_ble_eq_true rfl) dX8_restore_2) (fun H locs hG => ?_)
  refine lv_if_ne (tgt := 11) hx hb dX8_restore_5 (by decide) (fun c_5 => ?_) (fun c_5 => ?_)
  · have h := if_t (bi_t c_5) h
    refine lv_aload_n hx hb dX8_restore_11 rfl (lv_at hl 0 rfl) ?_
    refine gf_X8_images C hG gk_0 wf_X8_32 dX8_restore_12 ?_
    refine lv_iload_n hx hb dX8_restore_15 rfl (lv_at hl 1 rfl) ?_
    obtain ⟨hi_16, h⟩ := ix_e h
    refine g_imgld C hG hi_16 dX8_restore_16 ?_
    refine g_ci hG (g_runV C hG (gR_2 (gk_img hi_16)) (c_X2_isThere l D cs ad M (gk_img hi_16) rfl) wm_X8_215 wi_X2_isThere ws_X2_isThere wz_X2 wc_X2_isThere e_X2_isThere (by decide) hl.1 (Nat.le_of_ble_eq_true rfl) dX8_restore_17) (fun H locs hG => ?_)
    refine lv_if_ne (tgt := 26) hx hb dX8_restore_20 (by decide) (fun c_20 => ?_) (fun c_20 => ?_)
    · have h := if_t (bi_t c_20) h
      refine lv_aload_n hx hb dX8_restore_26 rfl (lv_at hl 0 rfl) ?_
      refine gf_X8_now C hG gk_0 wf_X8_25 dX8_restore_27 ?_
      refine lv_aload_n hx hb dX8_restore_30 rfl (lv_at hl 0 rfl) ?_
      refine gf_X8_images C hG gk_0 wf_X8_32 dX8_restore_31 ?_
      refine lv_iload_n hx hb dX8_restore_34 rfl (lv_at hl 1 rfl) ?_
      refine g_imgld C hG hi_16 dX8_restore_35 ?_
      obtain ⟨q36, e_36⟩ : ∃ y, f_X2_become M 4 (120 + 10 * x1.toNatClampNeg) = y := ⟨_, rfl⟩
      have h := nm_at e_36.symm h
      refine g_cv hG (g_runV C hG (gR_2 gk_4) (c_X2_become l D cs ad M gk_4 (gk_img hi_16) e_36) wm_X8_122 wi_X2_become ws_X2_become wz_X2 wc_X2_become e_X2_become (by decide) hl.1 (Nat.le_of_ble_eq_true rfl) dX8_restore_36) (fun H locs hG => ?_)
      refine lv_aload_n hx hb dX8_restore_39 rfl (lv_at hl 0 rfl) ?_
      refine gf_X8_acts C hG gk_0 wf_X8_39 dX8_restore_40 ?_
      obtain ⟨q43, e_43⟩ : ∃ y, f_X0_forgetAll q36 = y := ⟨_, rfl⟩
      have h := nm_at e_43.symm h
      refine g_cv hG (g_runV C hG (gR_0 gk_25) (c_X0_forgetAll l D cs ad q36 e_43) wm_X8_126 wi_X0_forgetAll ws_X0_forgetAll wz_X0 wc_X0_forgetAll e_X0_forgetAll (by decide) hl.1 (Nat.le_of_ble_eq_true rfl) dX8_restore_43) (fun H locs hG => ?_)
      refine lv_iconst (v := 1) hx hb dX8_restore_46 (by decide) ?_
      exact hr (pf1 (Option.some.inj h)) (pf2 (Option.some.inj h)) hG dX8_restore_47
    · have h := if_f (bi_f c_20) h
      refine lv_ldc (v := -1000002) hx hb hown (hts _ wk_X8_145) dX8_restore_23 ?_
      exact hr (pf1 (Option.some.inj h)) (pf2 (Option.some.inj h)) hG dX8_restore_25
  · have h := if_f (bi_f c_5) h
    refine lv_ldc (v := -1000001) hx hb hown (hts _ wk_X8_70) dX8_restore_8 ?_
    exact hr (pf1 (Option.some.inj h)) (pf2 (Option.some.inj h)) hG dX8_restore_10
def f_X8_kind (M : Mem) (x1 : Int32) : Option Int32 :=
  if (f_X8_isBird M x1) = true then (
    chk (ixb x1 6) <|
    some (M 8 x1.toNatClampNeg)
  ) else (
    some (-1000001 : Int32)
  )
theorem e_X8_kind : yX8_kind.cls = RX8 ∧ yX8_kind.cls ≠ "java/lang/invoke/MethodHandle" ∧ yX8_kind.cls ≠ "java/lang/invoke/VarHandle" ∧ (parseMethodDescriptor yX8_kind.desc).map (fun d => d.parameters.length) = some 1 := by decide +kernel
set_option maxHeartbeats 4000000 in
set_option maxRecDepth 100000 in
theorem c_X8_kind (l : Launch) (D : va_G) (cs : Nat → ClassId) (ad : Nat → Nat) (M : Mem) (x1 : Int32) {z : Int32} (h : f_X8_kind M x1 = some z) : CtI l yX8_kind cX8_kind 2 .int 1 D cs ad [.ref (ad 0), .int x1] M z M := by
  refine ct_i (own := RX8) (by decide) rfl (Nat.le_of_ble_eq_true rfl) ?_
  intro p e s m args below meth c Q C hr
  have hx := C.1
  have hb := C.2.1
  have hown := C.2.2.2.1
  have hts := C.2.2.2.2.1
  intro H locs hG ls hl
  have hl : lv_has ls 2 [(0, .ref (ad 0)), (1, .int x1)] := hl
  unfold f_X8_kind at h
  refine lv_aload_n hx hb dX8_kind_0 rfl (lv_at hl 0 rfl) ?_
  refine lv_iload_n hx hb dX8_kind_1 rfl (lv_at hl 1 rfl) ?_
  refine g_ci hG (g_runV C hG (gR_8 gk_0) (c_X8_isBird l D cs ad M x1 rfl) wm_X8_162 wi_X8_isBird ws_X8_isBird wz_X8 wc_X8_isBird e_X8_isBird (by decide) hl.1 (Nat.le_of_ble_eq_true rfl) dX8_kind_2) (fun H locs hG => ?_)
  refine lv_if_eq (tgt := 23) hx hb dX8_kind_5 (by decide) (fun c_5 => ?_) (fun c_5 => ?_)
  · have h := if_f (bi_f c_5) h
    refine lv_ldc (v := -1000001) hx hb hown (hts _ wk_X8_70) dX8_kind_23 ?_
    exact hr (Option.some.inj h) rfl hG dX8_kind_25
  · have h := if_t (bi_t c_5) h
    refine lv_aload_n hx hb dX8_kind_8 rfl (lv_at hl 0 rfl) ?_
    refine gf_X8_now C hG gk_0 wf_X8_25 dX8_kind_9 ?_
    refine gf_X2_told (j := 5) C hG gk_4 rfl wf_X8_129 dX8_kind_12 ?_
    refine gf_X7_kinds (j := 8) C hG gk_5 rfl wf_X8_286 dX8_kind_15 ?_
    refine lv_iload_n hx hb dX8_kind_18 rfl (lv_at hl 1 rfl) ?_
    obtain ⟨hi_19, h⟩ := ix_e h
    refine g_al C hG gk_8 gl_8 hi_19 rfl dX8_kind_19 ?_
    refine lv_goto (tgt := 25) hx hb dX8_kind_20 (by decide) ?_
    exact hr (Option.some.inj h) rfl hG dX8_kind_25
def f_X8_isOfKind_4 (M : Mem) (x1 : Int32) (r4 : (Int32 × Int32) → Option Bool) (x2 : Int32) (x3 : Int32) : Option Bool :=
  if (6 : Int32) ≤ x3 then (
    some false
  ) else (
    if x2 = x1 then (
      some true
    ) else (
      chk (ixb x2 6) <|
      nm ((kab x2.toNatClampNeg)) fun x2_24 =>
      nm (x3 + (1 : Int32)) fun x3_25 =>
      r4 (x2_24, x3_25)
    )
  )
def f_X8_isOfKind (M : Mem) (x0 : Int32) (x1 : Int32) : Option Bool :=
  iter (fun rec a => f_X8_isOfKind_4 M x1 rec a.1 a.2) fuel (x0, (0 : Int32))
theorem e_X8_isOfKind : yX8_isOfKind.cls ≠ "java/lang/invoke/MethodHandle" ∧ yX8_isOfKind.cls ≠ "java/lang/invoke/VarHandle" ∧ (parseMethodDescriptor yX8_isOfKind.desc).map (fun d => d.parameters.length) = some 2 := by decide +kernel
set_option maxHeartbeats 4000000 in
set_option maxRecDepth 100000 in
theorem c_X8_isOfKind (l : Launch) (D : va_G) (cs : Nat → ClassId) (ad : Nat → Nat) (M : Mem) (x0 : Int32) (x1 : Int32) {z : Bool} (h : f_X8_isOfKind M x0 x1 = some z) : CtI l yX8_isOfKind cX8_isOfKind 4 .boolean 0 D cs ad [.int x0, .int x1] M (bi z) M := by
  refine ct_z (own := RX8) (by decide) rfl (Nat.le_of_ble_eq_true rfl) ?_
  intro p e s m args below meth c Q C hr
  have hx := C.1
  have hb := C.2.1
  have hown := C.2.2.2.1
  have hts := C.2.2.2.2.1
  obtain ⟨tK, hZ, hT⟩ := C.2.2.2.2.2.2.2.2
  have J_4 : ∀ (x1 : Int32) (n : Nat) (a : Int32 × Int32), iter (fun rec a => f_X8_isOfKind_4 M x1 rec a.1 a.2) n a = some z → GP p l e (rmk 0) s m args below meth c 0 0 Q D cs ad 4 4 [(1, .int x1), (2, .int a.1), (3, .int a.2)] [] M := by
    intro x1
    refine iter_ind (fun r4 hr4 a h => ?_)
    obtain ⟨x2, x3⟩ := a
    have h : f_X8_isOfKind_4 M x1 r4 x2 x3 = some z := h
    intro H locs hG ls hl
    have hG : GH D cs ad s M H locs := hG
    have hl : lv_has ls 4 [(1, .int x1), (2, .int x2), (3, .int x3)] := hl
    unfold f_X8_isOfKind_4 at h
    refine lv_iload_n hx hb dX8_isOfKind_4 rfl (lv_at hl 2 rfl) ?_
    refine va_gets hx hb hZ hG.2 hown (hts _ wf_X8_312) (fun _ h9 => h9) dX8_isOfKind_5 ?_
    refine va_tlen hx hb hT hG.2 (v := 6) (by decide) dX8_isOfKind_8 ?_
    refine lv_icmp_ge (tgt := 31) hx hb dX8_isOfKind_9 (by decide) (fun c_9 => ?_) (fun c_9 => ?_)
    · have h := if_t c_9 h
      refine lv_iconst (v := 0) hx hb dX8_isOfKind_31 (by decide) ?_
      exact hr (congrArg bi (Option.some.inj h)) rfl hG dX8_isOfKind_32
    · have h := if_f c_9 h
      refine lv_iload_n hx hb dX8_isOfKind_12 rfl (lv_at hl 1 rfl) ?_
      refine lv_iload_n hx hb dX8_isOfKind_13 rfl (lv_at hl 0 rfl) ?_
      refine lv_icmp_ne (tgt := 19) hx hb dX8_isOfKind_14 (by decide) (fun c_14 => ?_) (fun c_14 => ?_)
      · have h := if_f c_14 h
        refine va_gets hx hb hZ hG.2 hown (hts _ wf_X8_312) (fun _ h9 => h9) dX8_isOfKind_19 ?_
        refine lv_iload_n hx hb dX8_isOfKind_22 rfl (lv_at hl 1 rfl) ?_
        obtain ⟨hi_23, h⟩ := ix_e h
        refine va_ti hx hb hT hG.2 hi_23 rfl dX8_isOfKind_23 ?_
        refine lv_topi (fun x2_24 e2_24 => ?_)
        have h := nm_at e2_24 h
        refine lv_istore_n (lv' := [(2, .int x2_24), (1, .int x1), (3, .int x3)]) hx hb dX8_isOfKind_24 rfl hl (by decide) rfl (fun ls hl => ?_)
        obtain ⟨x3_25, e3_25⟩ : ∃ y : Int32, y = x3 + (1 : Int32) := ⟨_, rfl⟩
        have h := nm_at e3_25 h
        refine lv_iinc (v := x3_25) (lv' := [(3, .int x3_25), (2, .int x2_24), (1, .int x1)]) hx hb dX8_isOfKind_25 hl (k := 2) rfl (by rw [e3_25]; rfl) (by decide) rfl (fun ls hl => ?_)
        refine lv_goto (tgt := 4) hx hb dX8_isOfKind_28 (by decide) ?_
        exact hr4 (x2_24, x3_25) h H locs hG ls (lv_sub hl [2, 1, 0] rfl)
      · have h := if_t c_14 h
        refine lv_iconst (v := 1) hx hb dX8_isOfKind_17 (by decide) ?_
        exact hr (congrArg bi (Option.some.inj h)) rfl hG dX8_isOfKind_18
  intro H locs hG ls hl
  have hl : lv_has ls 4 [(0, .int x0), (1, .int x1)] := hl
  unfold f_X8_isOfKind at h
  refine lv_iload_n hx hb dX8_isOfKind_0 rfl (lv_at hl 0 rfl) ?_
  refine lv_istore_n (lv' := [(2, .int x0), (0, .int x0), (1, .int x1)]) hx hb dX8_isOfKind_1 rfl hl (by decide) rfl (fun ls hl => ?_)
  refine lv_iconst (v := 0) hx hb dX8_isOfKind_2 (by decide) ?_
  refine lv_istore_n (lv' := [(3, .int 0), (2, .int x0), (0, .int x0), (1, .int x1)]) hx hb dX8_isOfKind_3 rfl hl (by decide) rfl (fun ls hl => ?_)
  exact J_4 x1 _ (x0, (0 : Int32)) h H locs hG ls (lv_sub hl [3, 1, 0] rfl)
def f_X8_as (M : Mem) (x1 : Int32) (x2 : Int32) : Option (Int32 × Mem) :=
  if (f_X8_isBird M x1) = true then (
    if (f_X8_isWithin x2 (5 : Int32)) = true then (
      chk (ixb x1 6) <|
      (f_X8_isOfKind M (M 8 x1.toNatClampNeg) x2).bind fun q32 =>
      if q32 = true then (
        nm (f_X8_well M x1) fun q40 =>
        some (q40.1, q40.2)
      ) else (
        nm (f_X8_found M (3 : Int32)) fun q48 =>
        some (q48.1, q48.2)
      )
    ) else (
      some ((-1000001 : Int32), M)
    )
  ) else (
    some ((-1000001 : Int32), M)
  )
theorem e_X8_as : yX8_as.cls = RX8 ∧ yX8_as.cls ≠ "java/lang/invoke/MethodHandle" ∧ yX8_as.cls ≠ "java/lang/invoke/VarHandle" ∧ (parseMethodDescriptor yX8_as.desc).map (fun d => d.parameters.length) = some 2 := by decide +kernel
set_option maxHeartbeats 4000000 in
set_option maxRecDepth 100000 in
theorem c_X8_as (l : Launch) (D : va_G) (cs : Nat → ClassId) (ad : Nat → Nat) (M : Mem) (x1 : Int32) (x2 : Int32) {z : Int32 × Mem} (h : f_X8_as M x1 x2 = some z) : CtI l yX8_as cX8_as 3 .int 1 D cs ad [.ref (ad 0), .int x1, .int x2] M z.1 z.2 := by
  refine ct_i (own := RX8) (by decide) rfl (Nat.le_of_ble_eq_true rfl) ?_
  intro p e s m args below meth c Q C hr
  have hx := C.1
  have hb := C.2.1
  have hown := C.2.2.2.1
  have hts := C.2.2.2.2.1
  intro H locs hG ls hl
  have hl : lv_has ls 3 [(0, .ref (ad 0)), (1, .int x1), (2, .int x2)] := hl
  unfold f_X8_as at h
  refine lv_aload_n hx hb dX8_as_0 rfl (lv_at hl 0 rfl) ?_
  refine lv_iload_n hx hb dX8_as_1 rfl (lv_at hl 1 rfl) ?_
  refine g_ci hG (g_runV C hG (gR_8 gk_0) (c_X8_isBird l D cs ad M x1 rfl) wm_X8_162 wi_X8_isBird ws_X8_isBird wz_X8 wc_X8_isBird e_X8_isBird (by decide) hl.1 (Nat.le_of_ble_eq_true rfl) dX8_as_2) (fun H locs hG => ?_)
  refine lv_if_eq (tgt := 16) hx hb dX8_as_5 (by decide) (fun c_5 => ?_) (fun c_5 => ?_)
  · have h := if_f (bi_f c_5) h
    refine lv_ldc (v := -1000001) hx hb hown (hts _ wk_X8_70) dX8_as_16 ?_
    exact hr (pf1 (Option.some.inj h)) (pf2 (Option.some.inj h)) hG dX8_as_18
  · have h := if_t (bi_t c_5) h
    refine lv_iload_n hx hb dX8_as_8 rfl (lv_at hl 2 rfl) ?_
    refine lv_iconst (v := 5) hx hb dX8_as_9 (by decide) ?_
    refine g_ci hG (g_runS C hG (c_X8_isWithin l D cs ad M x2 (5 : Int32) rfl) wm_X8_66 wt_X8_isWithin wz_X8 wc_X8_isWithin e_X8_isWithin (by decide) hl.1 (Nat.le_of_ble_eq_true rfl) dX8_as_10) (fun H locs hG => ?_)
    refine lv_if_ne (tgt := 19) hx hb dX8_as_13 (by decide) (fun c_13 => ?_) (fun c_13 => ?_)
    · have h := if_t (bi_t c_13) h
      refine lv_aload_n hx hb dX8_as_19 rfl (lv_at hl 0 rfl) ?_
      refine gf_X8_now C hG gk_0 wf_X8_25 dX8_as_20 ?_
      refine gf_X2_told (j := 5) C hG gk_4 rfl wf_X8_129 dX8_as_23 ?_
      refine gf_X7_kinds (j := 8) C hG gk_5 rfl wf_X8_286 dX8_as_26 ?_
      refine lv_iload_n hx hb dX8_as_29 rfl (lv_at hl 1 rfl) ?_
      obtain ⟨hi_30, h⟩ := ix_e h
      refine g_al C hG gk_8 gl_8 hi_30 rfl dX8_as_30 ?_
      refine lv_iload_n hx hb dX8_as_31 rfl (lv_at hl 2 rfl) ?_
      obtain ⟨q32, e_32, h⟩ := bd_e h
      refine g_ci hG (g_runS C hG (c_X8_isOfKind l D cs ad M (M 8 x1.toNatClampNeg) x2 e_32) wm_X8_289 wt_X8_isOfKind wz_X8 wc_X8_isOfKind e_X8_isOfKind (by decide) hl.1 (Nat.le_of_ble_eq_true rfl) dX8_as_32) (fun H locs hG => ?_)
      refine lv_if_eq (tgt := 46) hx hb dX8_as_35 (by decide) (fun c_35 => ?_) (fun c_35 => ?_)
      · have h := if_f (bi_f c_35) h
        refine lv_aload_n hx hb dX8_as_46 rfl (lv_at hl 0 rfl) ?_
        refine lv_iconst (v := 3) hx hb dX8_as_47 (by decide) ?_
        obtain ⟨q48, e_48⟩ : ∃ y, f_X8_found M (3 : Int32) = y := ⟨_, rfl⟩
        have h := nm_at e_48.symm h
        refine g_ci hG (g_runV C hG (gR_8 gk_0) (c_X8_found l D cs ad M (3 : Int32) e_48) wm_X8_71 wi_X8_found ws_X8_found wz_X8 wc_X8_found e_X8_found (by decide) hl.1 (Nat.le_of_ble_eq_true rfl) dX8_as_48) (fun H locs hG => ?_)
        exact hr (pf1 (Option.some.inj h)) (pf2 (Option.some.inj h)) hG dX8_as_51
      · have h := if_t (bi_t c_35) h
        refine lv_aload_n hx hb dX8_as_38 rfl (lv_at hl 0 rfl) ?_
        refine lv_iload_n hx hb dX8_as_39 rfl (lv_at hl 1 rfl) ?_
        obtain ⟨q40, e_40⟩ : ∃ y, f_X8_well M x1 = y := ⟨_, rfl⟩
        have h := nm_at e_40.symm h
        refine g_ci hG (g_runV C hG (gR_8 gk_0) (c_X8_well l D cs ad M x1 e_40) wm_X8_79 wi_X8_well ws_X8_well wz_X8 wc_X8_well e_X8_well (by decide) hl.1 (Nat.le_of_ble_eq_true rfl) dX8_as_40) (fun H locs hG => ?_)
        refine lv_goto (tgt := 51) hx hb dX8_as_43 (by decide) ?_
        exact hr (pf1 (Option.some.inj h)) (pf2 (Option.some.inj h)) hG dX8_as_51
    · have h := if_f (bi_f c_13) h
      refine lv_ldc (v := -1000001) hx hb hown (hts _ wk_X8_70) dX8_as_16 ?_
      exact hr (pf1 (Option.some.inj h)) (pf2 (Option.some.inj h)) hG dX8_as_18
def f_X8_trace (M : Mem) (x1 : Int32) : Option Int32 :=
  if x1 < (0 : Int32) then (
    some (-1000000 : Int32)
  ) else (
    if (M 102 1) ≤ x1 then (
      some (-1000000 : Int32)
    ) else (
      chk (ixb x1 16) <|
      some (M 103 x1.toNatClampNeg)
    )
  )
theorem e_X8_trace : yX8_trace.cls = RX8 ∧ yX8_trace.cls ≠ "java/lang/invoke/MethodHandle" ∧ yX8_trace.cls ≠ "java/lang/invoke/VarHandle" ∧ (parseMethodDescriptor yX8_trace.desc).map (fun d => d.parameters.length) = some 1 := by decide +kernel
set_option maxHeartbeats 4000000 in
set_option maxRecDepth 100000 in
theorem c_X8_trace (l : Launch) (D : va_G) (cs : Nat → ClassId) (ad : Nat → Nat) (M : Mem) (x1 : Int32) {z : Int32} (h : f_X8_trace M x1 = some z) : CtI l yX8_trace cX8_trace 2 .int 0 D cs ad [.ref (ad 0), .int x1] M z M := by
  refine ct_i (own := RX8) (by decide) rfl (Nat.le_of_ble_eq_true rfl) ?_
  intro p e s m args below meth c Q C hr
  have hx := C.1
  have hb := C.2.1
  have hown := C.2.2.2.1
  have hts := C.2.2.2.2.1
  intro H locs hG ls hl
  have hl : lv_has ls 2 [(0, .ref (ad 0)), (1, .int x1)] := hl
  unfold f_X8_trace at h
  refine lv_iload_n hx hb dX8_trace_0 rfl (lv_at hl 1 rfl) ?_
  refine lv_if_lt (tgt := 27) hx hb dX8_trace_1 (by decide) (fun c_1 => ?_) (fun c_1 => ?_)
  · have h := if_t c_1 h
    refine lv_ldc (v := -1000000) hx hb hown (hts _ wk_X8_222) dX8_trace_27 ?_
    exact hr (Option.some.inj h) rfl hG dX8_trace_29
  · have h := if_f c_1 h
    refine lv_iload_n hx hb dX8_trace_4 rfl (lv_at hl 1 rfl) ?_
    refine lv_aload_n hx hb dX8_trace_5 rfl (lv_at hl 0 rfl) ?_
    refine gf_X8_asks C hG gk_0 wf_X8_53 dX8_trace_6 ?_
    refine gf_X1_length C hG gk_102 wf_X8_301 dX8_trace_9 ?_
    refine lv_icmp_ge (tgt := 27) hx hb dX8_trace_12 (by decide) (fun c_12 => ?_) (fun c_12 => ?_)
    · have h := if_t c_12 h
      refine lv_ldc (v := -1000000) hx hb hown (hts _ wk_X8_222) dX8_trace_27 ?_
      exact hr (Option.some.inj h) rfl hG dX8_trace_29
    · have h := if_f c_12 h
      refine lv_aload_n hx hb dX8_trace_15 rfl (lv_at hl 0 rfl) ?_
      refine gf_X8_asks C hG gk_0 wf_X8_53 dX8_trace_16 ?_
      refine gf_X1_bodies (j := 103) C hG gk_102 rfl wf_X8_302 dX8_trace_19 ?_
      refine lv_iload_n hx hb dX8_trace_22 rfl (lv_at hl 1 rfl) ?_
      obtain ⟨hi_23, h⟩ := ix_e h
      refine g_al C hG gk_103 gl_103 hi_23 rfl dX8_trace_23 ?_
      refine lv_goto (tgt := 29) hx hb dX8_trace_24 (by decide) ?_
      exact hr (Option.some.inj h) rfl hG dX8_trace_29
def f_X8_rowsThere_4 (M : Mem) (r4 : (Int32 × Int32) → Option Int32) (x1 : Int32) (x2 : Int32) : Option Int32 :=
  if (8 : Int32) ≤ x2 then (
    some x1
  ) else (
    chk (ixb x2 8) <|
    if (M (104 + 2 * x2.toNatClampNeg) 0) = (0 : Int32) then (
      nm ((x1 + (0 : Int32))) fun x1_29 =>
      nm (x2 + (1 : Int32)) fun x2_30 =>
      r4 (x1_29, x2_30)
    ) else (
      nm ((x1 + (1 : Int32))) fun x1_29 =>
      nm (x2 + (1 : Int32)) fun x2_30 =>
      r4 (x1_29, x2_30)
    )
  )
def f_X8_rowsThere (M : Mem) : Option Int32 :=
  iter (fun rec a => f_X8_rowsThere_4 M rec a.1 a.2) fuel ((0 : Int32), (0 : Int32))
theorem e_X8_rowsThere : yX8_rowsThere.cls = RX8 ∧ yX8_rowsThere.cls ≠ "java/lang/invoke/MethodHandle" ∧ yX8_rowsThere.cls ≠ "java/lang/invoke/VarHandle" ∧ (parseMethodDescriptor yX8_rowsThere.desc).map (fun d => d.parameters.length) = some 0 := by decide +kernel
set_option maxHeartbeats 4000000 in
set_option maxRecDepth 100000 in
theorem c_X8_rowsThere (l : Launch) (D : va_G) (cs : Nat → ClassId) (ad : Nat → Nat) (M : Mem) {z : Int32} (h : f_X8_rowsThere M = some z) : CtI l yX8_rowsThere cX8_rowsThere 3 .int 0 D cs ad [.ref (ad 0)] M z M := by
  refine ct_i (own := RX8) (by decide) rfl (Nat.le_of_ble_eq_true rfl) ?_
  intro p e s m args below meth c Q C hr
  have hx := C.1
  have hb := C.2.1
  have hown := C.2.2.2.1
  have hts := C.2.2.2.2.1
  have J_4 : ∀ (n : Nat) (a : Int32 × Int32), iter (fun rec a => f_X8_rowsThere_4 M rec a.1 a.2) n a = some z → GP p l e (rmk 0) s m args below meth c 0 0 Q D cs ad 3 4 [(0, .ref (ad 0)), (1, .int a.1), (2, .int a.2)] [] M := by
    refine iter_ind (fun r4 hr4 a h => ?_)
    obtain ⟨x1, x2⟩ := a
    have h : f_X8_rowsThere_4 M r4 x1 x2 = some z := h
    intro H locs hG ls hl
    have hG : GH D cs ad s M H locs := hG
    have hl : lv_has ls 3 [(0, .ref (ad 0)), (1, .int x1), (2, .int x2)] := hl
    unfold f_X8_rowsThere_4 at h
    refine lv_iload_n hx hb dX8_rowsThere_4 rfl (lv_at hl 2 rfl) ?_
    refine lv_bipush (v := 8) hx hb dX8_rowsThere_5 (by decide) ?_
    refine lv_icmp_ge (tgt := 36) hx hb dX8_rowsThere_7 (by decide) (fun c_7 => ?_) (fun c_7 => ?_)
    · have h := if_t c_7 h
      refine lv_iload_n hx hb dX8_rowsThere_36 rfl (lv_at hl 1 rfl) ?_
      exact hr (Option.some.inj h) rfl hG dX8_rowsThere_37
    · have h := if_f c_7 h
      refine lv_iload_n hx hb dX8_rowsThere_10 rfl (lv_at hl 1 rfl) ?_
      refine lv_aload_n hx hb dX8_rowsThere_11 rfl (lv_at hl 0 rfl) ?_
      refine gf_X8_rows C hG gk_0 wf_X8_11 dX8_rowsThere_12 ?_
      refine lv_iload_n hx hb dX8_rowsThere_15 rfl (lv_at hl 2 rfl) ?_
      obtain ⟨hi_16, h⟩ := ix_e h
      refine g_rowld C hG hi_16 dX8_rowsThere_16 ?_
      refine gf_X5_there C hG (gk_row hi_16) wf_X8_82 dX8_rowsThere_17 ?_
      refine lv_if_eq (tgt := 27) hx hb dX8_rowsThere_20 (by decide) (fun c_20 => ?_) (fun c_20 => ?_)
      · have h := if_t c_20 h
        refine lv_iconst (v := 0) hx hb dX8_rowsThere_27 (by decide) ?_
        refine lv_iadd hx hb dX8_rowsThere_28 ?_
        refine lv_topi (fun x1_29 e1_29 => ?_)
        have h := nm_at e1_29 h
        refine lv_istore_n (lv' := [(1, .int x1_29), (0, .ref (ad 0)), (2, .int x2)]) hx hb dX8_rowsThere_29 rfl hl (by decide) rfl (fun ls hl => ?_)
        obtain ⟨x2_30, e2_30⟩ : ∃ y : Int32, y = x2 + (1 : Int32) := ⟨_, rfl⟩
        have h := nm_at e2_30 h
        refine lv_iinc (v := x2_30) (lv' := [(2, .int x2_30), (1, .int x1_29), (0, .ref (ad 0))]) hx hb dX8_rowsThere_30 hl (k := 2) rfl (by rw [e2_30]; rfl) (by decide) rfl (fun ls hl => ?_)
        refine lv_goto (tgt := 4) hx hb dX8_rowsThere_33 (by decide) ?_
        exact hr4 (x1_29, x2_30) h H locs hG ls (lv_sub hl [2, 1, 0] rfl)
      · have h := if_f c_20 h
        refine lv_iconst (v := 1) hx hb dX8_rowsThere_23 (by decide) ?_
        refine lv_goto (tgt := 28) hx hb dX8_rowsThere_24 (by decide) ?_
        refine lv_iadd hx hb dX8_rowsThere_28 ?_
        refine lv_topi (fun x1_29 e1_29 => ?_)
        have h := nm_at e1_29 h
        refine lv_istore_n (lv' := [(1, .int x1_29), (0, .ref (ad 0)), (2, .int x2)]) hx hb dX8_rowsThere_29 rfl hl (by decide) rfl (fun ls hl => ?_)
        obtain ⟨x2_30, e2_30⟩ : ∃ y : Int32, y = x2 + (1 : Int32) := ⟨_, rfl⟩
        have h := nm_at e2_30 h
        refine lv_iinc (v := x2_30) (lv' := [(2, .int x2_30), (1, .int x1_29), (0, .ref (ad 0))]) hx hb dX8_rowsThere_30 hl (k := 2) rfl (by rw [e2_30]; rfl) (by decide) rfl (fun ls hl => ?_)
        refine lv_goto (tgt := 4) hx hb dX8_rowsThere_33 (by decide) ?_
        exact hr4 (x1_29, x2_30) h H locs hG ls (lv_sub hl [2, 1, 0] rfl)
  intro H locs hG ls hl
  have hl : lv_has ls 3 [(0, .ref (ad 0))] := hl
  unfold f_X8_rowsThere at h
  refine lv_iconst (v := 0) hx hb dX8_rowsThere_0 (by decide) ?_
  refine lv_istore_n (lv' := [(1, .int 0), (0, .ref (ad 0))]) hx hb dX8_rowsThere_1 rfl hl (by decide) rfl (fun ls hl => ?_)
  refine lv_iconst (v := 0) hx hb dX8_rowsThere_2 (by decide) ?_
  refine lv_istore_n (lv' := [(2, .int 0), (1, .int 0), (0, .ref (ad 0))]) hx hb dX8_rowsThere_3 rfl hl (by decide) rfl (fun ls hl => ?_)
  exact J_4 _ ((0 : Int32), (0 : Int32)) h H locs hG ls (lv_sub hl [2, 1, 0] rfl)
def f_X8_count (M : Mem) (x1 : Int32) : Option Int32 :=
  if x1 = (0 : Int32) then (
    (f_X8_rowsThere M).bind fun q49 =>
    some q49
  ) else (
  if x1 = (1 : Int32) then (
    some (M 5 1)
  ) else (
  if x1 = (2 : Int32) then (
    some (M 5 2)
  ) else (
  if x1 = (3 : Int32) then (
    some (M 11 3)
  ) else (
  if x1 = (4 : Int32) then (
    some (M 11 0)
  ) else (
  if x1 = (5 : Int32) then (
    some (M 11 2)
  ) else (
  if x1 = (6 : Int32) then (
    some (M 25 2)
  ) else (
  if x1 = (7 : Int32) then (
    some (M 2 1)
  ) else (
    some (-1000001 : Int32)
  ))))))))
theorem e_X8_count : yX8_count.cls = RX8 ∧ yX8_count.cls ≠ "java/lang/invoke/MethodHandle" ∧ yX8_count.cls ≠ "java/lang/invoke/VarHandle" ∧ (parseMethodDescriptor yX8_count.desc).map (fun d => d.parameters.length) = some 1 := by decide +kernel
set_option maxHeartbeats 4000000 in
set_option maxRecDepth 100000 in
theorem c_X8_count (l : Launch) (D : va_G) (cs : Nat → ClassId) (ad : Nat → Nat) (M : Mem) (x1 : Int32) {z : Int32} (h : f_X8_count M x1 = some z) : CtI l yX8_count cX8_count 2 .int 1 D cs ad [.ref (ad 0), .int x1] M z M := by
  refine ct_i (own := RX8) (by decide) rfl (Nat.le_of_ble_eq_true rfl) ?_
  intro p e s m args below meth c Q C hr
  have hx := C.1
  have hb := C.2.1
  have hown := C.2.2.2.1
  have hts := C.2.2.2.2.1
  intro H locs hG ls hl
  have hl : lv_has ls 2 [(0, .ref (ad 0)), (1, .int x1)] := hl
  unfold f_X8_count at h
  refine lv_iload_n hx hb dX8_count_0 rfl (lv_at hl 1 rfl) ?_
  by_cases c_1_0 : x1 = (0 : Int32)
  · have h := if_t c_1_0 h
    refine g_tsw (tgt := 48) (off := 47) hx hb dX8_count_1 (by rw [c_1_0]; rfl) (by decide) ?_
    refine lv_aload_n hx hb dX8_count_48 rfl (lv_at hl 0 rfl) ?_
    obtain ⟨q49, e_49, h⟩ := bd_e h
    refine g_ci hG (g_runV C hG (gR_8 gk_0) (c_X8_rowsThere l D cs ad M e_49) wm_X8_305 wi_X8_rowsThere ws_X8_rowsThere wz_X8 wc_X8_rowsThere e_X8_rowsThere (by decide) hl.1 (Nat.le_of_ble_eq_true rfl) dX8_count_49) (fun H locs hG => ?_)
    exact hr (Option.some.inj h) rfl hG dX8_count_52
  have h := if_f c_1_0 h
  by_cases c_1_1 : x1 = (1 : Int32)
  · have h := if_t c_1_1 h
    refine g_tsw (tgt := 53) (off := 52) hx hb dX8_count_1 (by rw [c_1_1]; rfl) (by decide) ?_
    refine lv_aload_n hx hb dX8_count_53 rfl (lv_at hl 0 rfl) ?_
    refine gf_X8_now C hG gk_0 wf_X8_25 dX8_count_54 ?_
    refine gf_X2_told (j := 5) C hG gk_4 rfl wf_X8_129 dX8_count_57 ?_
    refine gf_X7_valleys C hG gk_5 wf_X8_204 dX8_count_60 ?_
    exact hr (Option.some.inj h) rfl hG dX8_count_63
  have h := if_f c_1_1 h
  by_cases c_1_2 : x1 = (2 : Int32)
  · have h := if_t c_1_2 h
    refine g_tsw (tgt := 64) (off := 63) hx hb dX8_count_1 (by rw [c_1_2]; rfl) (by decide) ?_
    refine lv_aload_n hx hb dX8_count_64 rfl (lv_at hl 0 rfl) ?_
    refine gf_X8_now C hG gk_0 wf_X8_25 dX8_count_65 ?_
    refine gf_X2_told (j := 5) C hG gk_4 rfl wf_X8_129 dX8_count_68 ?_
    refine gf_X7_birds C hG gk_5 wf_X8_133 dX8_count_71 ?_
    exact hr (Option.some.inj h) rfl hG dX8_count_74
  have h := if_f c_1_2 h
  by_cases c_1_3 : x1 = (3 : Int32)
  · have h := if_t c_1_3 h
    refine g_tsw (tgt := 75) (off := 74) hx hb dX8_count_1 (by rw [c_1_3]; rfl) (by decide) ?_
    refine lv_aload_n hx hb dX8_count_75 rfl (lv_at hl 0 rfl) ?_
    refine gf_X8_now C hG gk_0 wf_X8_25 dX8_count_76 ?_
    refine gf_X2_moment (j := 11) C hG gk_4 rfl wf_X8_146 dX8_count_79 ?_
    refine gf_X3_through C hG gk_11 wf_X8_184 dX8_count_82 ?_
    exact hr (Option.some.inj h) rfl hG dX8_count_85
  have h := if_f c_1_3 h
  by_cases c_1_4 : x1 = (4 : Int32)
  · have h := if_t c_1_4 h
    refine g_tsw (tgt := 86) (off := 85) hx hb dX8_count_1 (by rw [c_1_4]; rfl) (by decide) ?_
    refine lv_aload_n hx hb dX8_count_86 rfl (lv_at hl 0 rfl) ?_
    refine gf_X8_now C hG gk_0 wf_X8_25 dX8_count_87 ?_
    refine gf_X2_moment (j := 11) C hG gk_4 rfl wf_X8_146 dX8_count_90 ?_
    refine gf_X3_flying C hG gk_11 wf_X8_157 dX8_count_93 ?_
    exact hr (Option.some.inj h) rfl hG dX8_count_96
  have h := if_f c_1_4 h
  by_cases c_1_5 : x1 = (5 : Int32)
  · have h := if_t c_1_5 h
    refine g_tsw (tgt := 97) (off := 96) hx hb dX8_count_1 (by rw [c_1_5]; rfl) (by decide) ?_
    refine lv_aload_n hx hb dX8_count_97 rfl (lv_at hl 0 rfl) ?_
    refine gf_X8_now C hG gk_0 wf_X8_25 dX8_count_98 ?_
    refine gf_X2_moment (j := 11) C hG gk_4 rfl wf_X8_146 dX8_count_101 ?_
    refine gf_X3_turned C hG gk_11 wf_X8_308 dX8_count_104 ?_
    exact hr (Option.some.inj h) rfl hG dX8_count_107
  have h := if_f c_1_5 h
  by_cases c_1_6 : x1 = (6 : Int32)
  · have h := if_t c_1_6 h
    refine g_tsw (tgt := 108) (off := 107) hx hb dX8_count_1 (by rw [c_1_6]; rfl) (by decide) ?_
    refine lv_aload_n hx hb dX8_count_108 rfl (lv_at hl 0 rfl) ?_
    refine gf_X8_acts C hG gk_0 wf_X8_39 dX8_count_109 ?_
    refine gf_X0_length C hG gk_25 wf_X8_191 dX8_count_112 ?_
    exact hr (Option.some.inj h) rfl hG dX8_count_115
  have h := if_f c_1_6 h
  by_cases c_1_7 : x1 = (7 : Int32)
  · have h := if_t c_1_7 h
    refine g_tsw (tgt := 116) (off := 115) hx hb dX8_count_1 (by rw [c_1_7]; rfl) (by decide) ?_
    refine lv_aload_n hx hb dX8_count_116 rfl (lv_at hl 0 rfl) ?_
    refine gf_X8_tape C hG gk_0 wf_X8_18 dX8_count_117 ?_
    refine gf_X6_length C hG gk_2 wf_X8_112 dX8_count_120 ?_
    exact hr (Option.some.inj h) rfl hG dX8_count_123
  have h := if_f c_1_7 h
  refine g_tsw (tgt := 124) (off := 123) hx hb dX8_count_1 ?_ (by decide) ?_
  · have n_0 := i32_ne c_1_0 (j := 0) rfl
    have n_1 := i32_ne c_1_1 (j := 1) rfl
    have n_2 := i32_ne c_1_2 (j := 2) rfl
    have n_3 := i32_ne c_1_3 (j := 3) rfl
    have n_4 := i32_ne c_1_4 (j := 4) rfl
    have n_5 := i32_ne c_1_5 (j := 5) rfl
    have n_6 := i32_ne c_1_6 (j := 6) rfl
    have n_7 := i32_ne c_1_7 (j := 7) rfl
    rcases (show (x1).toInt < 0 ∨ 7 < (x1).toInt by omega) with q | q
    · exact if_pos (Or.inl q)
    · exact if_pos (Or.inr q)
  · refine lv_ldc (v := -1000001) hx hb hown (hts _ wk_X8_70) dX8_count_124 ?_
    exact hr (Option.some.inj h) rfl hG dX8_count_126
def f_X8_status (M : Mem) : Int32 :=
  (M 0 8)
theorem e_X8_status : yX8_status.cls = RX8 ∧ yX8_status.cls ≠ "java/lang/invoke/MethodHandle" ∧ yX8_status.cls ≠ "java/lang/invoke/VarHandle" ∧ (parseMethodDescriptor yX8_status.desc).map (fun d => d.parameters.length) = some 0 := by decide +kernel
set_option maxHeartbeats 4000000 in
set_option maxRecDepth 100000 in
theorem c_X8_status (l : Launch) (D : va_G) (cs : Nat → ClassId) (ad : Nat → Nat) (M : Mem) {z : Int32} (h : f_X8_status M = z) : CtI l yX8_status cX8_status 1 .int 0 D cs ad [.ref (ad 0)] M z M := by
  refine ct_i (own := RX8) (by decide) rfl (Nat.le_of_ble_eq_true rfl) ?_
  intro p e s m args below meth c Q C hr
  have hx := C.1
  have hb := C.2.1
  have hown := C.2.2.2.1
  have hts := C.2.2.2.2.1
  intro H locs hG ls hl
  have hl : lv_has ls 1 [(0, .ref (ad 0))] := hl
  unfold f_X8_status at h
  refine lv_aload_n hx hb dX8_status_0 rfl (lv_at hl 0 rfl) ?_
  refine gf_X8_finding C hG gk_0 wf_X8_57 dX8_status_1 ?_
  exact hr h rfl hG dX8_status_4
