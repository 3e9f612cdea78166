def f_X1_size_b (r_X1_size r_X1_mark : Mem → Int32 → Int32 → Option (Int32 × Mem)) (M : Mem) (x1 : Int32) (x2 : Int32) : Option (Int32 × Mem) :=
  if x2 ≤ (20 : Int32) then (
    if x1 = (1 : Int32) then (
      (f_X1_note M (11 : Int32)).bind fun q47 =>
      (r_X1_size q47 (0 : Int32) (x2 + (1 : Int32))).bind fun q55 =>
      (r_X1_mark q55.2 (q55.2 102 3) (x2 + (1 : Int32))).bind fun q68 =>
      some ((q55.1 + q68.1), q68.2)
    ) else (
    if x1 = (2 : Int32) then (
      (f_X1_note M (12 : Int32)).bind fun q76 =>
      (r_X1_size q76 (1 : Int32) (x2 + (1 : Int32))).bind fun q84 =>
      some ((-q84.1), q84.2)
    ) else (
    if x1 = (3 : Int32) then (
      (r_X1_size M (1 : Int32) (x2 + (1 : Int32))).bind fun q94 =>
      some (q94.1, q94.2)
    ) else (
    if x1 = (4 : Int32) then (
      (f_X1_note M (13 : Int32)).bind fun q101 =>
      (r_X1_size q101 (0 : Int32) (x2 + (1 : Int32))).bind fun q109 =>
      some ((q109.1 - (100 : Int32)), q109.2)
    ) else (
    if x1 = (5 : Int32) then (
      (f_X1_note M (14 : Int32)).bind fun q119 =>
      (r_X1_size q119 (4 : Int32) (x2 + (1 : Int32))).bind fun q128 =>
      some (((2 : Int32) * q128.1), q128.2)
    ) else (
      (f_X1_note M (10 : Int32)).bind fun q136 =>
      some ((q136 102 4), q136)
    )))))
  ) else (
    some ((0 : Int32), M)
  )
def f_X1_mark_b (r_X1_size r_X1_mark : Mem → Int32 → Int32 → Option (Int32 × Mem)) (M : Mem) (x1 : Int32) (x2 : Int32) : Option (Int32 × Mem) :=
  if x2 ≤ (20 : Int32) then (
    if x1 = (1 : Int32) then (
      (f_X1_note M (21 : Int32)).bind fun q47 =>
      (r_X1_mark q47 (0 : Int32) (x2 + (1 : Int32))).bind fun q55 =>
      some ((q55.1 + (q55.2 102 5)), q55.2)
    ) else (
    if x1 = (2 : Int32) then (
      (f_X1_note M (24 : Int32)).bind fun q67 =>
      (r_X1_mark q67 (1 : Int32) (x2 + (1 : Int32))).bind fun q76 =>
      some (((2 : Int32) * q76.1), q76.2)
    ) else (
    if x1 = (3 : Int32) then (
      (f_X1_note M (22 : Int32)).bind fun q84 =>
      (r_X1_mark q84 (1 : Int32) (x2 + (1 : Int32))).bind fun q92 =>
      some ((q92.1 - (1000 : Int32)), q92.2)
    ) else (
    if x1 = (4 : Int32) then (
      (f_X1_note M (23 : Int32)).bind fun q103 =>
      (r_X1_mark q103 (0 : Int32) (x2 + (1 : Int32))).bind fun q111 =>
      (r_X1_size q111.2 (q111.2 102 3) (x2 + (1 : Int32))).bind fun q124 =>
      some ((q111.1 - q124.1), q124.2)
    ) else (
    if x1 = (5 : Int32) then (
      (r_X1_mark M (4 : Int32) (x2 + (1 : Int32))).bind fun q134 =>
      some (q134.1, q134.2)
    ) else (
      (f_X1_note M (20 : Int32)).bind fun q141 =>
      some ((q141 102 2), q141)
    )))))
  ) else (
    some ((0 : Int32), M)
  )
def f_X1_sm : Nat → Bool → Mem → Int32 → Int32 → Option (Int32 × Mem)
  | 0, _, _, _, _ => none
  | n + 1, b, M, x1, x2 => if b = true then f_X1_mark_b (f_X1_sm n false) (f_X1_sm n true) M x1 x2 else f_X1_size_b (f_X1_sm n false) (f_X1_sm n true) M x1 x2
theorem rm_ok {d d' L : Nat} (h : d' < d) (hL : L ≤ 41) : d' + 1 ≤ (rmk d).frames ∧ 8 + (L + 11) + 60 * d' ≤ (rmk d).locals ∧ 0 ≤ (rmk d).cells ∧ 0 ≤ (rmk d).slots := ⟨h, by show 8 + (L + 11) + 60 * d' ≤ 60 * d; omega, Nat.zero_le _, Nat.zero_le _⟩
theorem e_X1_size : yX1_size.cls = RX1 ∧ yX1_size.cls ≠ "java/lang/invoke/MethodHandle" ∧ yX1_size.cls ≠ "java/lang/invoke/VarHandle" ∧ (parseMethodDescriptor yX1_size.desc).map (fun d => d.parameters.length) = some 2 := by decide +kernel
theorem e_X1_mark : yX1_mark.cls = RX1 ∧ yX1_mark.cls ≠ "java/lang/invoke/MethodHandle" ∧ yX1_mark.cls ≠ "java/lang/invoke/VarHandle" ∧ (parseMethodDescriptor yX1_mark.desc).map (fun d => d.parameters.length) = some 2 := by decide +kernel
set_option maxHeartbeats 4000000 in
set_option maxRecDepth 100000 in
theorem c_X1_sm (l : Launch) (D : va_G) (cs : Nat → ClassId) (ad : Nat → Nat) : ∀ n, (∀ (M : Mem) (x1 x2 : Int32) {z : Int32 × Mem}, f_X1_sm n false M x1 x2 = some z → CtI l yX1_size cX1_size 4 .int (n + 1) D cs ad [.ref (ad 102), .int x1, .int x2] M z.1 z.2) ∧ (∀ (M : Mem) (x1 x2 : Int32) {z : Int32 × Mem}, f_X1_sm n true M x1 x2 = some z → CtI l yX1_mark cX1_mark 4 .int (n + 1) D cs ad [.ref (ad 102), .int x1, .int x2] M z.1 z.2) := by
  intro n
  induction n with
  | zero => exact ⟨fun M x1 x2 z h => (by cases h), fun M x1 x2 z h => (by cases h)⟩
  | succ n ih =>
    obtain ⟨ih_X1_size, ih_X1_mark⟩ := ih
    refine ⟨fun M x1 x2 z h => ?_, fun M x1 x2 z h => ?_⟩
    · have h : f_X1_size_b (f_X1_sm n false) (f_X1_sm n true) M x1 x2 = some z := h
      refine ct_i (own := RX1) (by decide) rfl (Nat.le_of_ble_eq_true rfl) ?_
      intro p e s m args below meth c Q C hr
      have hx := C.1
      have hb := C.2.1
      have hown := C.2.2.2.1
      have hts := C.2.2.2.2.1
      intro H locs hG ls hl
      have hl : lv_has ls 4 [(0, .ref (ad 102)), (1, .int x1), (2, .int x2)] := hl
      unfold f_X1_size_b at h
      refine lv_iload_n hx hb dX1_size_0 rfl (lv_at hl 2 rfl) ?_
      refine lv_bipush (v := 20) hx hb dX1_size_1 (by decide) ?_
      refine lv_icmp_le (tgt := 8) hx hb dX1_size_3 (by decide) (fun c_3 => ?_) (fun c_3 => ?_)
      · have h := if_t c_3 h
        refine lv_iload_n hx hb dX1_size_8 rfl (lv_at hl 1 rfl) ?_
        by_cases c_9_1 : x1 = (1 : Int32)
        · have h := if_t c_9_1 h
          refine g_tsw (tgt := 44) (off := 35) hx hb dX1_size_9 (by rw [c_9_1]; rfl) (by decide) ?_
          refine lv_aload_n hx hb dX1_size_44 rfl (lv_at hl 0 rfl) ?_
          refine lv_bipush (v := 11) hx hb dX1_size_45 (by decide) ?_
          obtain ⟨q47, e_47, h⟩ := bd_e h
          refine g_cv hG (g_runV C hG (gR_1 gk_102) (c_X1_note l D cs ad M (11 : Int32) e_47) wm_X1_52 wi_X1_note ws_X1_note wz_X1 wc_X1_note e_X1_note (rm_ok (by omega) (by decide)) hl.1 (Nat.le_of_ble_eq_true rfl) dX1_size_47) (fun H locs hG => ?_)
          refine lv_aload_n hx hb dX1_size_50 rfl (lv_at hl 0 rfl) ?_
          refine lv_iconst (v := 0) hx hb dX1_size_51 (by decide) ?_
          refine lv_iload_n hx hb dX1_size_52 rfl (lv_at hl 2 rfl) ?_
          refine lv_iconst (v := 1) hx hb dX1_size_53 (by decide) ?_
          refine lv_iadd hx hb dX1_size_54 ?_
          obtain ⟨q55, e_55, h⟩ := bd_e h
          refine g_ci hG (g_runV C hG (gR_1 gk_102) (ih_X1_size q47 (0 : Int32) (x2 + (1 : Int32)) e_55) wm_X1_56 wi_X1_size ws_X1_size wz_X1 wc_X1_size e_X1_size (rm_ok (by omega) (by decide)) hl.1 (Nat.le_of_ble_eq_true rfl) dX1_size_55) (fun H locs hG => ?_)
          refine lv_istore_n (lv' := [(3, .int q55.1), (0, .ref (ad 102)), (1, .int x1), (2, .int x2)]) hx hb dX1_size_58 rfl hl (by decide) rfl (fun ls hl => ?_)
          refine lv_iload_n hx hb dX1_size_59 rfl (lv_at hl 0 rfl) ?_
          refine lv_aload_n hx hb dX1_size_60 rfl (lv_at hl 1 rfl) ?_
          refine lv_aload_n hx hb dX1_size_61 rfl (lv_at hl 1 rfl) ?_
          refine gf_X1_kind C hG gk_102 wf_X1_22 dX1_size_62 ?_
          refine lv_iload_n hx hb dX1_size_65 rfl (lv_at hl 3 rfl) ?_
          refine lv_iconst (v := 1) hx hb dX1_size_66 (by decide) ?_
          refine lv_iadd hx hb dX1_size_67 ?_
          obtain ⟨q68, e_68, h⟩ := bd_e h
          refine g_ci hG (g_runV C hG (gR_1 gk_102) (ih_X1_mark q55.2 (q55.2 102 3) (x2 + (1 : Int32)) e_68) wm_X1_60 wi_X1_mark ws_X1_mark wz_X1 wc_X1_mark e_X1_mark (rm_ok (by omega) (by decide)) hl.1 (Nat.le_of_ble_eq_true rfl) dX1_size_68) (fun H locs hG => ?_)
          refine lv_iadd hx hb dX1_size_71 ?_
          exact hr (pf1 (Option.some.inj h)) (pf2 (Option.some.inj h)) hG dX1_size_72
        have h := if_f c_9_1 h
        by_cases c_9_2 : x1 = (2 : Int32)
        · have h := if_t c_9_2 h
          refine g_tsw (tgt := 73) (off := 64) hx hb dX1_size_9 (by rw [c_9_2]; rfl) (by decide) ?_
          refine lv_aload_n hx hb dX1_size_73 rfl (lv_at hl 0 rfl) ?_
          refine lv_bipush (v := 12) hx hb dX1_size_74 (by decide) ?_
          obtain ⟨q76, e_76, h⟩ := bd_e h
          refine g_cv hG (g_runV C hG (gR_1 gk_102) (c_X1_note l D cs ad M (12 : Int32) e_76) wm_X1_52 wi_X1_note ws_X1_note wz_X1 wc_X1_note e_X1_note (rm_ok (by omega) (by decide)) hl.1 (Nat.le_of_ble_eq_true rfl) dX1_size_76) (fun H locs hG => ?_)
          refine lv_aload_n hx hb dX1_size_79 rfl (lv_at hl 0 rfl) ?_
          refine lv_iconst (v := 1) hx hb dX1_size_80 (by decide) ?_
          refine lv_iload_n hx hb dX1_size_81 rfl (lv_at hl 2 rfl) ?_
          refine lv_iconst (v := 1) hx hb dX1_size_82 (by decide) ?_
          refine lv_iadd hx hb dX1_size_83 ?_
          obtain ⟨q84, e_84, h⟩ := bd_e h
          refine g_ci hG (g_runV C hG (gR_1 gk_102) (ih_X1_size q76 (1 : Int32) (x2 + (1 : Int32)) e_84) wm_X1_56 wi_X1_size ws_X1_size wz_X1 wc_X1_size e_X1_size (rm_ok (by omega) (by decide)) hl.1 (Nat.le_of_ble_eq_true rfl) dX1_size_84) (fun H locs hG => ?_)
          refine lv_ineg hx hb dX1_size_87 ?_
          exact hr (pf1 (Option.some.inj h)) (pf2 (Option.some.inj h)) hG dX1_size_88
        have h := if_f c_9_2 h
        by_cases c_9_3 : x1 = (3 : Int32)
        · have h := if_t c_9_3 h
          refine g_tsw (tgt := 89) (off := 80) hx hb dX1_size_9 (by rw [c_9_3]; rfl) (by decide) ?_
          refine lv_aload_n hx hb dX1_size_89 rfl (lv_at hl 0 rfl) ?_
          refine lv_iconst (v := 1) hx hb dX1_size_90 (by decide) ?_
          refine lv_iload_n hx hb dX1_size_91 rfl (lv_at hl 2 rfl) ?_
          refine lv_iconst (v := 1) hx hb dX1_size_92 (by decide) ?_
          refine lv_iadd hx hb dX1_size_93 ?_
          obtain ⟨q94, e_94, h⟩ := bd_e h
          refine g_ci hG (g_runV C hG (gR_1 gk_102) (ih_X1_size M (1 : Int32) (x2 + (1 : Int32)) e_94) wm_X1_56 wi_X1_size ws_X1_size wz_X1 wc_X1_size e_X1_size (rm_ok (by omega) (by decide)) hl.1 (Nat.le_of_ble_eq_true rfl) dX1_size_94) (fun H locs hG => ?_)
          exact hr (pf1 (Option.some.inj h)) (pf2 (Option.some.inj h)) hG dX1_size_97
        have h := if_f c_9_3 h
        by_cases c_9_4 : x1 = (4 : Int32)
        · have h := if_t c_9_4 h
          refine g_tsw (tgt := 98) (off := 89) hx hb dX1_size_9 (by rw [c_9_4]; rfl) (by decide) ?_
          refine lv_aload_n hx hb dX1_size_98 rfl (lv_at hl 0 rfl) ?_
          refine lv_bipush (v := 13) hx hb dX1_size_99 (by decide) ?_
          obtain ⟨q101, e_101, h⟩ := bd_e h
          refine g_cv hG (g_runV C hG (gR_1 gk_102) (c_X1_note l D cs ad M (13 : Int32) e_101) wm_X1_52 wi_X1_note ws_X1_note wz_X1 wc_X1_note e_X1_note (rm_ok (by omega) (by decide)) hl.1 (Nat.le_of_ble_eq_true rfl) dX1_size_101) (fun H locs hG => ?_)
          refine lv_aload_n hx hb dX1_size_104 rfl (lv_at hl 0 rfl) ?_
          refine lv_iconst (v := 0) hx hb dX1_size_105 (by decide) ?_
          refine lv_iload_n hx hb dX1_size_106 rfl (lv_at hl 2 rfl) ?_
          refine lv_iconst (v := 1) hx hb dX1_size_107 (by decide) ?_
          refine lv_iadd hx hb dX1_size_108 ?_
          obtain ⟨q109, e_109, h⟩ := bd_e h
          refine g_ci hG (g_runV C hG (gR_1 gk_102) (ih_X1_size q101 (0 : Int32) (x2 + (1 : Int32)) e_109) wm_X1_56 wi_X1_size ws_X1_size wz_X1 wc_X1_size e_X1_size (rm_ok (by omega) (by decide)) hl.1 (Nat.le_of_ble_eq_true rfl) dX1_size_109) (fun H locs hG => ?_)
          refine lv_bipush (v := 100) hx hb dX1_size_112 (by decide) ?_
          refine lv_isub hx hb dX1_size_114 ?_
          exact hr (pf1 (Option.some.inj h)) (pf2 (Option.some.inj h)) hG dX1_size_115
        have h := if_f c_9_4 h
        by_cases c_9_5 : x1 = (5 : Int32)
        · have h := if_t c_9_5 h
          refine g_tsw (tgt := 116) (off := 107) hx hb dX1_size_9 (by rw [c_9_5]; rfl) (by decide) ?_
          refine lv_aload_n hx hb dX1_size_116 rfl (lv_at hl 0 rfl) ?_
          refine lv_bipush (v := 14) hx hb dX1_size_117 (by decide) ?_
          obtain ⟨q119, e_119, h⟩ := bd_e h
          refine g_cv hG (g_runV C hG (gR_1 gk_102) (c_X1_note l D cs ad M (14 : Int32) e_119) wm_X1_52 wi_X1_note ws_X1_note wz_X1 wc_X1_note e_X1_note (rm_ok (by omega) (by decide)) hl.1 (Nat.le_of_ble_eq_true rfl) dX1_size_119) (fun H locs hG => ?_)
          refine lv_iconst (v := 2) hx hb dX1_size_122 (by decide) ?_
          refine lv_aload_n hx hb dX1_size_123 rfl (lv_at hl 0 rfl) ?_
          refine lv_iconst (v := 4) hx hb dX1_size_124 (by decide) ?_
          refine lv_iload_n hx hb dX1_size_125 rfl (lv_at hl 2 rfl) ?_
          refine lv_iconst (v := 1) hx hb dX1_size_126 (by decide) ?_
          refine lv_iadd hx hb dX1_size_127 ?_
          obtain ⟨q128, e_128, h⟩ := bd_e h
          refine g_ci hG (g_runV C hG (gR_1 gk_102) (ih_X1_size q119 (4 : Int32) (x2 + (1 : Int32)) e_128) wm_X1_56 wi_X1_size ws_X1_size wz_X1 wc_X1_size e_X1_size (rm_ok (by omega) (by decide)) hl.1 (Nat.le_of_ble_eq_true rfl) dX1_size_128) (fun H locs hG => ?_)
          refine lv_imul hx hb dX1_size_131 ?_
          exact hr (pf1 (Option.some.inj h)) (pf2 (Option.some.inj h)) hG dX1_size_132
        have h := if_f c_9_5 h
        refine g_tsw (tgt := 133) (off := 124) hx hb dX1_size_9 ?_ (by decide) ?_
        · have n_1 := i32_ne c_9_1 (j := 1) rfl
          have n_2 := i32_ne c_9_2 (j := 2) rfl
          have n_3 := i32_ne c_9_3 (j := 3) rfl
          have n_4 := i32_ne c_9_4 (j := 4) rfl
          have n_5 := i32_ne c_9_5 (j := 5) rfl
          rcases (show (x1).toInt < 1 ∨ 5 < (x1).toInt by omega) with q | q
          · exact if_pos (Or.inl q)
          · exact if_pos (Or.inr q)
        · refine lv_aload_n hx hb dX1_size_133 rfl (lv_at hl 0 rfl) ?_
          refine lv_bipush (v := 10) hx hb dX1_size_134 (by decide) ?_
          obtain ⟨q136, e_136, h⟩ := bd_e h
          refine g_cv hG (g_runV C hG (gR_1 gk_102) (c_X1_note l D cs ad M (10 : Int32) e_136) wm_X1_52 wi_X1_note ws_X1_note wz_X1 wc_X1_note e_X1_note (rm_ok (by omega) (by decide)) hl.1 (Nat.le_of_ble_eq_true rfl) dX1_size_136) (fun H locs hG => ?_)
          refine lv_aload_n hx hb dX1_size_139 rfl (lv_at hl 0 rfl) ?_
          refine gf_X1_strong C hG gk_102 wf_X1_25 dX1_size_140 ?_
          exact hr (pf1 (Option.some.inj h)) (pf2 (Option.some.inj h)) hG dX1_size_143
      · have h := if_f c_3 h
        refine lv_iconst (v := 0) hx hb dX1_size_6 (by decide) ?_
        exact hr (pf1 (Option.some.inj h)) (pf2 (Option.some.inj h)) hG dX1_size_7
    · have h : f_X1_mark_b (f_X1_sm n false) (f_X1_sm n true) M x1 x2 = some z := h
      refine ct_i (own := RX1) (by decide) rfl (Nat.le_of_ble_eq_true rfl) ?_
      intro p e s m args below meth c Q C hr
      have hx := C.1
      have hb := C.2.1
      have hown := C.2.2.2.1
      have hts := C.2.2.2.2.1
      intro H locs hG ls hl
      have hl : lv_has ls 4 [(0, .ref (ad 102)), (1, .int x1), (2, .int x2)] := hl
      unfold f_X1_mark_b at h
      refine lv_iload_n hx hb dX1_mark_0 rfl (lv_at hl 2 rfl) ?_
      refine lv_bipush (v := 20) hx hb dX1_mark_1 (by decide) ?_
      refine lv_icmp_le (tgt := 8) hx hb dX1_mark_3 (by decide) (fun c_3 => ?_) (fun c_3 => ?_)
      · have h := if_t c_3 h
        refine lv_iload_n hx hb dX1_mark_8 rfl (lv_at hl 1 rfl) ?_
        by_cases c_9_1 : x1 = (1 : Int32)
        · have h := if_t c_9_1 h
          refine g_tsw (tgt := 44) (off := 35) hx hb dX1_mark_9 (by rw [c_9_1]; rfl) (by decide) ?_
          refine lv_aload_n hx hb dX1_mark_44 rfl (lv_at hl 0 rfl) ?_
          refine lv_bipush (v := 21) hx hb dX1_mark_45 (by decide) ?_
          obtain ⟨q47, e_47, h⟩ := bd_e h
          refine g_cv hG (g_runV C hG (gR_1 gk_102) (c_X1_note l D cs ad M (21 : Int32) e_47) wm_X1_52 wi_X1_note ws_X1_note wz_X1 wc_X1_note e_X1_note (rm_ok (by omega) (by decide)) hl.1 (Nat.le_of_ble_eq_true rfl) dX1_mark_47) (fun H locs hG => ?_)
          refine lv_aload_n hx hb dX1_mark_50 rfl (lv_at hl 0 rfl) ?_
          refine lv_iconst (v := 0) hx hb dX1_mark_51 (by decide) ?_
          refine lv_iload_n hx hb dX1_mark_52 rfl (lv_at hl 2 rfl) ?_
          refine lv_iconst (v := 1) hx hb dX1_mark_53 (by decide) ?_
          refine lv_iadd hx hb dX1_mark_54 ?_
          obtain ⟨q55, e_55, h⟩ := bd_e h
          refine g_ci hG (g_runV C hG (gR_1 gk_102) (ih_X1_mark q47 (0 : Int32) (x2 + (1 : Int32)) e_55) wm_X1_60 wi_X1_mark ws_X1_mark wz_X1 wc_X1_mark e_X1_mark (rm_ok (by omega) (by decide)) hl.1 (Nat.le_of_ble_eq_true rfl) dX1_mark_55) (fun H locs hG => ?_)
          refine lv_aload_n hx hb dX1_mark_58 rfl (lv_at hl 0 rfl) ?_
          refine gf_X1_leaves C hG gk_102 wf_X1_28 dX1_mark_59 ?_
          refine lv_iadd hx hb dX1_mark_62 ?_
          exact hr (pf1 (Option.some.inj h)) (pf2 (Option.some.inj h)) hG dX1_mark_63
        have h := if_f c_9_1 h
        by_cases c_9_2 : x1 = (2 : Int32)
        · have h := if_t c_9_2 h
          refine g_tsw (tgt := 64) (off := 55) hx hb dX1_mark_9 (by rw [c_9_2]; rfl) (by decide) ?_
          refine lv_aload_n hx hb dX1_mark_64 rfl (lv_at hl 0 rfl) ?_
          refine lv_bipush (v := 24) hx hb dX1_mark_65 (by decide) ?_
          obtain ⟨q67, e_67, h⟩ := bd_e h
          refine g_cv hG (g_runV C hG (gR_1 gk_102) (c_X1_note l D cs ad M (24 : Int32) e_67) wm_X1_52 wi_X1_note ws_X1_note wz_X1 wc_X1_note e_X1_note (rm_ok (by omega) (by decide)) hl.1 (Nat.le_of_ble_eq_true rfl) dX1_mark_67) (fun H locs hG => ?_)
          refine lv_iconst (v := 2) hx hb dX1_mark_70 (by decide) ?_
          refine lv_aload_n hx hb dX1_mark_71 rfl (lv_at hl 0 rfl) ?_
          refine lv_iconst (v := 1) hx hb dX1_mark_72 (by decide) ?_
          refine lv_iload_n hx hb dX1_mark_73 rfl (lv_at hl 2 rfl) ?_
          refine lv_iconst (v := 1) hx hb dX1_mark_74 (by decide) ?_
          refine lv_iadd hx hb dX1_mark_75 ?_
          obtain ⟨q76, e_76, h⟩ := bd_e h
          refine g_ci hG (g_runV C hG (gR_1 gk_102) (ih_X1_mark q67 (1 : Int32) (x2 + (1 : Int32)) e_76) wm_X1_60 wi_X1_mark ws_X1_mark wz_X1 wc_X1_mark e_X1_mark (rm_ok (by omega) (by decide)) hl.1 (Nat.le_of_ble_eq_true rfl) dX1_mark_76) (fun H locs hG => ?_)
          refine lv_imul hx hb dX1_mark_79 ?_
          exact hr (pf1 (Option.some.inj h)) (pf2 (Option.some.inj h)) hG dX1_mark_80
        have h := if_f c_9_2 h
        by_cases c_9_3 : x1 = (3 : Int32)
        · have h := if_t c_9_3 h
          refine g_tsw (tgt := 81) (off := 72) hx hb dX1_mark_9 (by rw [c_9_3]; rfl) (by decide) ?_
          refine lv_aload_n hx hb dX1_mark_81 rfl (lv_at hl 0 rfl) ?_
          refine lv_bipush (v := 22) hx hb dX1_mark_82 (by decide) ?_
          obtain ⟨q84, e_84, h⟩ := bd_e h
          refine g_cv hG (g_runV C hG (gR_1 gk_102) (c_X1_note l D cs ad M (22 : Int32) e_84) wm_X1_52 wi_X1_note ws_X1_note wz_X1 wc_X1_note e_X1_note (rm_ok (by omega) (by decide)) hl.1 (Nat.le_of_ble_eq_true rfl) dX1_mark_84) (fun H locs hG => ?_)
          refine lv_aload_n hx hb dX1_mark_87 rfl (lv_at hl 0 rfl) ?_
          refine lv_iconst (v := 1) hx hb dX1_mark_88 (by decide) ?_
          refine lv_iload_n hx hb dX1_mark_89 rfl (lv_at hl 2 rfl) ?_
          refine lv_iconst (v := 1) hx hb dX1_mark_90 (by decide) ?_
          refine lv_iadd hx hb dX1_mark_91 ?_
          obtain ⟨q92, e_92, h⟩ := bd_e h
          refine g_ci hG (g_runV C hG (gR_1 gk_102) (ih_X1_mark q84 (1 : Int32) (x2 + (1 : Int32)) e_92) wm_X1_60 wi_X1_mark ws_X1_mark wz_X1 wc_X1_mark e_X1_mark (rm_ok (by omega) (by decide)) hl.1 (Nat.le_of_ble_eq_true rfl) dX1_mark_92) (fun H locs hG => ?_)
          refine lv_sipush (v := 1000) hx hb dX1_mark_95 (by decide) ?_
          refine lv_isub hx hb dX1_mark_98 ?_
          exact hr (pf1 (Option.some.inj h)) (pf2 (Option.some.inj h)) hG dX1_mark_99
        have h := if_f c_9_3 h
        by_cases c_9_4 : x1 = (4 : Int32)
        · have h := if_t c_9_4 h
          refine g_tsw (tgt := 100) (off := 91) hx hb dX1_mark_9 (by rw [c_9_4]; rfl) (by decide) ?_
          refine lv_aload_n hx hb dX1_mark_100 rfl (lv_at hl 0 rfl) ?_
          refine lv_bipush (v := 23) hx hb dX1_mark_101 (by decide) ?_
          obtain ⟨q103, e_103, h⟩ := bd_e h
          refine g_cv hG (g_runV C hG (gR_1 gk_102) (c_X1_note l D cs ad M (23 : Int32) e_103) wm_X1_52 wi_X1_note ws_X1_note wz_X1 wc_X1_note e_X1_note (rm_ok (by omega) (by decide)) hl.1 (Nat.le_of_ble_eq_true rfl) dX1_mark_103) (fun H locs hG => ?_)
          refine lv_aload_n hx hb dX1_mark_106 rfl (lv_at hl 0 rfl) ?_
          refine lv_iconst (v := 0) hx hb dX1_mark_107 (by decide) ?_
          refine lv_iload_n hx hb dX1_mark_108 rfl (lv_at hl 2 rfl) ?_
          refine lv_iconst (v := 1) hx hb dX1_mark_109 (by decide) ?_
          refine lv_iadd hx hb dX1_mark_110 ?_
          obtain ⟨q111, e_111, h⟩ := bd_e h
          refine g_ci hG (g_runV C hG (gR_1 gk_102) (ih_X1_mark q103 (0 : Int32) (x2 + (1 : Int32)) e_111) wm_X1_60 wi_X1_mark ws_X1_mark wz_X1 wc_X1_mark e_X1_mark (rm_ok (by omega) (by decide)) hl.1 (Nat.le_of_ble_eq_true rfl) dX1_mark_111) (fun H locs hG => ?_)
          refine lv_istore_n (lv' := [(3, .int q111.1), (0, .ref (ad 102)), (1, .int x1), (2, .int x2)]) hx hb dX1_mark_114 rfl hl (by decide) rfl (fun ls hl => ?_)
          refine lv_iload_n hx hb dX1_mark_115 rfl (lv_at hl 0 rfl) ?_
          refine lv_aload_n hx hb dX1_mark_116 rfl (lv_at hl 1 rfl) ?_
          refine lv_aload_n hx hb dX1_mark_117 rfl (lv_at hl 1 rfl) ?_
          refine gf_X1_kind C hG gk_102 wf_X1_22 dX1_mark_118 ?_
          refine lv_iload_n hx hb dX1_mark_121 rfl (lv_at hl 3 rfl) ?_
          refine lv_iconst (v := 1) hx hb dX1_mark_122 (by decide) ?_
          refine lv_iadd hx hb dX1_mark_123 ?_
          obtain ⟨q124, e_124, h⟩ := bd_e h
          refine g_ci hG (g_runV C hG (gR_1 gk_102) (ih_X1_size q111.2 (q111.2 102 3) (x2 + (1 : Int32)) e_124) wm_X1_56 wi_X1_size ws_X1_size wz_X1 wc_X1_size e_X1_size (rm_ok (by omega) (by decide)) hl.1 (Nat.le_of_ble_eq_true rfl) dX1_mark_124) (fun H locs hG => ?_)
          refine lv_isub hx hb dX1_mark_127 ?_
          exact hr (pf1 (Option.some.inj h)) (pf2 (Option.some.inj h)) hG dX1_mark_128
        have h := if_f c_9_4 h
        by_cases c_9_5 : x1 = (5 : Int32)
        · have h := if_t c_9_5 h
          refine g_tsw (tgt := 129) (off := 120) hx hb dX1_mark_9 (by rw [c_9_5]; rfl) (by decide) ?_
          refine lv_aload_n hx hb dX1_mark_129 rfl (lv_at hl 0 rfl) ?_
          refine lv_iconst (v := 4) hx hb dX1_mark_130 (by decide) ?_
          refine lv_iload_n hx hb dX1_mark_131 rfl (lv_at hl 2 rfl) ?_
          refine lv_iconst (v := 1) hx hb dX1_mark_132 (by decide) ?_
          refine lv_iadd hx hb dX1_mark_133 ?_
          obtain ⟨q134, e_134, h⟩ := bd_e h
          refine g_ci hG (g_runV C hG (gR_1 gk_102) (ih_X1_mark M (4 : Int32) (x2 + (1 : Int32)) e_134) wm_X1_60 wi_X1_mark ws_X1_mark wz_X1 wc_X1_mark e_X1_mark (rm_ok (by omega) (by decide)) hl.1 (Nat.le_of_ble_eq_true rfl) dX1_mark_134) (fun H locs hG => ?_)
          exact hr (pf1 (Option.some.inj h)) (pf2 (Option.some.inj h)) hG dX1_mark_137
        have h := if_f c_9_5 h
        refine g_tsw (tgt := 138) (off := 129) hx hb dX1_mark_9 ?_ (by decide) ?_
        · have n_1 := i32_ne c_9_1 (j := 1) rfl
          have n_2 := i32_ne c_9_2 (j := 2) rfl
          have n_3 := i32_ne c_9_3 (j := 3) rfl
          have n_4 := i32_ne c_9_4 (j := 4) rfl
          have n_5 := i32_ne c_9_5 (j := 5) rfl
          rcases (show (x1).toInt < 1 ∨ 5 < (x1).toInt by omega) with q | q
          · exact if_pos (Or.inl q)
          · exact if_pos (Or.inr q)
        · refine lv_aload_n hx hb dX1_mark_138 rfl (lv_at hl 0 rfl) ?_
          refine lv_bipush (v := 20) hx hb dX1_mark_139 (by decide) ?_
          obtain ⟨q141, e_141, h⟩ := bd_e h
          refine g_cv hG (g_runV C hG (gR_1 gk_102) (c_X1_note l D cs ad M (20 : Int32) e_141) wm_X1_52 wi_X1_note ws_X1_note wz_X1 wc_X1_note e_X1_note (rm_ok (by omega) (by decide)) hl.1 (Nat.le_of_ble_eq_true rfl) dX1_mark_141) (fun H locs hG => ?_)
          refine lv_aload_n hx hb dX1_mark_144 rfl (lv_at hl 0 rfl) ?_
          refine gf_X1_number C hG gk_102 wf_X1_19 dX1_mark_145 ?_
          exact hr (pf1 (Option.some.inj h)) (pf2 (Option.some.inj h)) hG dX1_mark_148
      · have h := if_f c_3 h
        refine lv_iconst (v := 0) hx hb dX1_mark_6 (by decide) ?_
        exact hr (pf1 (Option.some.inj h)) (pf2 (Option.some.inj h)) hG dX1_mark_7
def f_X1_size (M : Mem) (x1 : Int32) (x2 : Int32) : Option (Int32 × Mem) := f_X1_sm 30 false M x1 x2
theorem c_X1_size (l : Launch) (D : va_G) (cs : Nat → ClassId) (ad : Nat → Nat) (M : Mem) (x1 : Int32) (x2 : Int32) {z : Int32 × Mem} (h : f_X1_size M x1 x2 = some z) : CtI l yX1_size cX1_size 4 .int 31 D cs ad [.ref (ad 102), .int x1, .int x2] M z.1 z.2 := (c_X1_sm l D cs ad 30).1 M x1 x2 h
def f_X1_mark (M : Mem) (x1 : Int32) (x2 : Int32) : Option (Int32 × Mem) := f_X1_sm 30 true M x1 x2
theorem c_X1_mark (l : Launch) (D : va_G) (cs : Nat → ClassId) (ad : Nat → Nat) (M : Mem) (x1 : Int32) (x2 : Int32) {z : Int32 × Mem} (h : f_X1_mark M x1 x2 = some z) : CtI l yX1_mark cX1_mark 4 .int 31 D cs ad [.ref (ad 102), .int x1, .int x2] M z.1 z.2 := (c_X1_sm l D cs ad 30).2 M x1 x2 h
def f_X8_ask (M : Mem) (x1 : Int32) (x2 : Int32) : Option (Int32 × Mem) :=
  if (f_X8_isBird M x1) = true then (
    if (f_X8_isWithin x2 (1 : Int32)) = true then (
      (f_X1_begin M 4 x1).bind fun q28 =>
      chk (ixb x1 6) <|
      nm ((q28 8 x1.toNatClampNeg)) fun x3_43 =>
      if x2 = (0 : Int32) then (
        (f_X1_size q28 x3_43 (0 : Int32)).bind fun q54 =>
        some (q54.1, q54.2)
      ) else (
        (f_X1_mark q28 x3_43 (0 : Int32)).bind fun q66 =>
        some (q66.1, q66.2)
      )
    ) else (
      some ((-1000001 : Int32), M)
    )
  ) else (
    some ((-1000001 : Int32), M)
  )
theorem e_X8_ask : yX8_ask.cls = RX8 ∧ yX8_ask.cls ≠ "java/lang/invoke/MethodHandle" ∧ yX8_ask.cls ≠ "java/lang/invoke/VarHandle" ∧ (parseMethodDescriptor yX8_ask.desc).map (fun d => d.parameters.length) = some 2 := by decide +kernel
set_option maxHeartbeats 4000000 in
set_option maxRecDepth 100000 in
theorem c_X8_ask (l : Launch) (D : va_G) (cs : Nat → ClassId) (ad : Nat → Nat) (M : Mem) (x1 : Int32) (x2 : Int32) {z : Int32 × Mem} (h : f_X8_ask M x1 x2 = some z) : CtI l yX8_ask cX8_ask 4 .int 32 D cs ad [.ref (ad 0), .int x1, .int x2] M z.1 z.2 := by
  refine ct_i (own := RX8) (by decide) rfl (Nat.le_of_ble_eq_true rfl) ?_
  intro p e s m args below meth c Q C hr
  have hx := C.1
  have hb := C.2.1
  have hown := C.2.2.2.1
  have hts := C.2.2.2.2.1
  intro H locs hG ls hl
  have hl : lv_has ls 4 [(0, .ref (ad 0)), (1, .int x1), (2, .int x2)] := hl
  unfold f_X8_ask at h
  refine lv_aload_n hx hb dX8_ask_0 rfl (lv_at hl 0 rfl) ?_
  refine lv_iload_n hx hb dX8_ask_1 rfl (lv_at hl 1 rfl) ?_
  refine g_ci hG (g_runV C hG (gR_8 gk_0) (c_X8_isBird l D cs ad M x1 rfl) wm_X8_162 wi_X8_isBird ws_X8_isBird wz_X8 wc_X8_isBird e_X8_isBird (by decide) hl.1 (Nat.le_of_ble_eq_true rfl) dX8_ask_2) (fun H locs hG => ?_)
  refine lv_if_eq (tgt := 16) hx hb dX8_ask_5 (by decide) (fun c_5 => ?_) (fun c_5 => ?_)
  · have h := if_f (bi_f c_5) h
    refine lv_ldc (v := -1000001) hx hb hown (hts _ wk_X8_70) dX8_ask_16 ?_
    exact hr (pf1 (Option.some.inj h)) (pf2 (Option.some.inj h)) hG dX8_ask_18
  · have h := if_t (bi_t c_5) h
    refine lv_iload_n hx hb dX8_ask_8 rfl (lv_at hl 2 rfl) ?_
    refine lv_iconst (v := 1) hx hb dX8_ask_9 (by decide) ?_
    refine g_ci hG (g_runS C hG (c_X8_isWithin l D cs ad M x2 (1 : Int32) rfl) wm_X8_66 wt_X8_isWithin wz_X8 wc_X8_isWithin e_X8_isWithin (by decide) hl.1 (Nat.le_of_ble_eq_true rfl) dX8_ask_10) (fun H locs hG => ?_)
    refine lv_if_ne (tgt := 19) hx hb dX8_ask_13 (by decide) (fun c_13 => ?_) (fun c_13 => ?_)
    · have h := if_t (bi_t c_13) h
      refine lv_aload_n hx hb dX8_ask_19 rfl (lv_at hl 0 rfl) ?_
      refine gf_X8_asks C hG gk_0 wf_X8_53 dX8_ask_20 ?_
      refine lv_aload_n hx hb dX8_ask_23 rfl (lv_at hl 0 rfl) ?_
      refine gf_X8_now C hG gk_0 wf_X8_25 dX8_ask_24 ?_
      refine lv_iload_n hx hb dX8_ask_27 rfl (lv_at hl 1 rfl) ?_
      obtain ⟨q28, e_28, h⟩ := bd_e h
      refine g_cv hG (g_runV C hG (gR_1 gk_102) (c_X1_begin l D cs ad M gk_4 x1 e_28) wm_X8_292 wi_X1_begin ws_X1_begin wz_X1 wc_X1_begin e_X1_begin (by decide) hl.1 (Nat.le_of_ble_eq_true rfl) dX8_ask_28) (fun H locs hG => ?_)
      refine lv_aload_n hx hb dX8_ask_31 rfl (lv_at hl 0 rfl) ?_
      refine gf_X8_now C hG gk_0 wf_X8_25 dX8_ask_32 ?_
      refine gf_X2_told (j := 5) C hG gk_4 rfl wf_X8_129 dX8_ask_35 ?_
      refine gf_X7_kinds (j := 8) C hG gk_5 rfl wf_X8_286 dX8_ask_38 ?_
      refine lv_iload_n hx hb dX8_ask_41 rfl (lv_at hl 1 rfl) ?_
      obtain ⟨hi_42, h⟩ := ix_e h
      refine g_al C hG gk_8 gl_8 hi_42 rfl dX8_ask_42 ?_
      refine lv_topi (fun x3_43 e3_43 => ?_)
      have h := nm_at e3_43 h
      refine lv_istore_n (lv' := [(3, .int x3_43), (0, .ref (ad 0)), (1, .int x1), (2, .int x2)]) hx hb dX8_ask_43 rfl hl (by decide) rfl (fun ls hl => ?_)
      refine lv_iload_n hx hb dX8_ask_44 rfl (lv_at hl 3 rfl) ?_
      refine lv_if_ne (tgt := 60) hx hb dX8_ask_45 (by decide) (fun c_45 => ?_) (fun c_45 => ?_)
      · have h := if_f c_45 h
        refine lv_aload_n hx hb dX8_ask_60 rfl (lv_at hl 1 rfl) ?_
        refine gf_X8_asks C hG gk_0 wf_X8_53 dX8_ask_61 ?_
        refine lv_iload_n hx hb dX8_ask_64 rfl (lv_at hl 0 rfl) ?_
        refine lv_iconst (v := 0) hx hb dX8_ask_65 (by decide) ?_
        obtain ⟨q66, e_66, h⟩ := bd_e h
        refine g_ci hG (g_runVN C hG (gR_1 gk_102) (c_X1_mark l D cs ad q28 x3_43 (0 : Int32) e_66) wn_X8_298 wi_X1_mark ws_X1_mark wz_X1 wc_X1_mark e_X1_mark.2 (by decide) hl.1 (Nat.le_of_ble_eq_true rfl) dX8_ask_66) (fun H locs hG => ?_)
        exact hr (pf1 (Option.some.inj h)) (pf2 (Option.some.inj h)) hG dX8_ask_69
      · have h := if_t c_45 h
        refine lv_aload_n hx hb dX8_ask_48 rfl (lv_at hl 1 rfl) ?_
        refine gf_X8_asks C hG gk_0 wf_X8_53 dX8_ask_49 ?_
        refine lv_iload_n hx hb dX8_ask_52 rfl (lv_at hl 0 rfl) ?_
        refine lv_iconst (v := 0) hx hb dX8_ask_53 (by decide) ?_
        obtain ⟨q54, e_54, h⟩ := bd_e h
        refine g_ci hG (g_runVN C hG (gR_1 gk_102) (c_X1_size l D cs ad q28 x3_43 (0 : Int32) e_54) wn_X8_295 wi_X1_size ws_X1_size wz_X1 wc_X1_size e_X1_size.2 (by decide) hl.1 (Nat.le_of_ble_eq_true rfl) dX8_ask_54) (fun H locs hG => ?_)
        refine lv_goto (tgt := 69) hx hb dX8_ask_57 (by decide) ?_
        exact hr (pf1 (Option.some.inj h)) (pf2 (Option.some.inj h)) hG dX8_ask_69
    · have h := if_f (bi_f c_13) h
      refine lv_ldc (v := -1000001) hx hb hown (hts _ wk_X8_70) dX8_ask_16 ?_
      exact hr (pf1 (Option.some.inj h)) (pf2 (Option.some.inj h)) hG dX8_ask_18
