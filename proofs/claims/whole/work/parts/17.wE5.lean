def f_X9_drawn_156 (r55 : (Mem × Int64 × Int32 × Int32 × Int32) → Option (Int32 × Mem)) (M : Mem) (x1 : Int32) (x3 : Int32) (x4 : Int64) (x6 : Int32) (x7 : Int32) (x8 : Int32) : Option (Int32 × Mem) :=
  (f_X9_ends M).bind fun q157 =>
  (f_X9_ones q157.1).bind fun q160 =>
  nm ((x6 + q160)) fun x6_170 =>
  if q160 ≤ (0 : Int32) then (
    nm ((x7 + (0 : Int32))) fun x7_185 =>
    nm (x8 + (1 : Int32)) fun x8_187 =>
    r55 (q157.2, x4, x6_170, x7_185, x8_187)
  ) else (
    nm ((x7 + (1 : Int32))) fun x7_185 =>
    nm (x8 + (1 : Int32)) fun x8_187 =>
    r55 (q157.2, x4, x6_170, x7_185, x8_187)
  )
def f_X9_drawn_136 (r55 : (Mem × Int64 × Int32 × Int32 × Int32) → Option (Int32 × Mem)) (M : Mem) (x1 : Int32) (x3 : Int32) (x4 : Int64) (x6 : Int32) (x7 : Int32) (x8 : Int32) (x9 : Int32) : Option (Int32 × Mem) :=
  if (lg_cmp (x4 - x4 / (3 : Int64) * (3 : Int64)) (1 : Int64)) = (0 : Int32) then (
    (f_X9_eats M 148 x9).bind fun q153 =>
    f_X9_drawn_156 r55 q153 x1 x3 x4 x6 x7 x8
  ) else (
    f_X9_drawn_156 r55 M x1 x3 x4 x6 x7 x8
  )
def f_X9_drawn_55 (x1 : Int32) (x3 : Int32) (r55 : (Mem × Int64 × Int32 × Int32 × Int32) → Option (Int32 × Mem)) (M : Mem) (x4 : Int64) (x6 : Int32) (x7 : Int32) (x8 : Int32) : Option (Int32 × Mem) :=
  if x1 ≤ x8 then (
    if x3 = (0 : Int32) then (
      some (x6, M)
    ) else (
      some (x7, M)
    )
  ) else (
    nm (((x4 * (16807 : Int64)) - (x4 * (16807 : Int64)) / (2147483647 : Int64) * (2147483647 : Int64))) fun x4_71 =>
    (f_X9_tries M).bind fun q74 =>
    if (q74 146 5) ≤ (0 : Int32) then (
      f_X9_drawn_156 r55 q74 x1 x3 x4_71 x6 x7 x8
    ) else (
      chk (decide (¬ ((q74 146 5)).toInt64 = 0)) <|
      nm (((x4_71 - x4_71 / ((q74 146 5)).toInt64 * ((q74 146 5)).toInt64)).toInt32) fun x9_97 =>
      if (lg_cmp (x4_71 - x4_71 / (3 : Int64) * (3 : Int64)) (0 : Int64)) = (0 : Int32) then (
        (f_X9_flies q74 148 x9_97).bind fun q116 =>
        if q116 = true then (
          (f_X9_turns q74 148 ((1 : Int32) <<< (x9_97 &&& 31))).bind fun q130 =>
          f_X9_drawn_156 r55 q130 x1 x3 x4_71 x6 x7 x8
        ) else (
          f_X9_drawn_136 r55 q74 x1 x3 x4_71 x6 x7 x8 x9_97
        )
      ) else (
        f_X9_drawn_136 r55 q74 x1 x3 x4_71 x6 x7 x8 x9_97
      )
    )
  )
def f_X9_drawn (M : Mem) (x1 : Int32) (x2 : Int32) (x3 : Int32) : Option (Int32 × Mem) :=
  if (f_X9_isFlight M) = true then (
    if (f_X9_in x1 (0 : Int32) (40 : Int32)) = true then (
      if (f_X9_in x2 (1 : Int32) (999999 : Int32)) = true then (
        if (f_X9_in x3 (0 : Int32) (1 : Int32)) = true then (
          nm ((x2).toInt64) fun x4_44 =>
          iter (fun rec a => f_X9_drawn_55 x1 x3 rec a.1 a.2.1 a.2.2.1 a.2.2.2.1 a.2.2.2.2) fuel (M, x4_44, (0 : Int32), (0 : Int32), (0 : Int32))
        ) else (
          some ((-1000001 : Int32), M)
        )
      ) else (
        some ((-1000001 : Int32), M)
      )
    ) else (
      some ((-1000001 : Int32), M)
    )
  ) else (
    some ((-1000002 : Int32), M)
  )
theorem e_X9_drawn : yX9_drawn.cls = RX9 ∧ yX9_drawn.cls ≠ "java/lang/invoke/MethodHandle" ∧ yX9_drawn.cls ≠ "java/lang/invoke/VarHandle" ∧ (parseMethodDescriptor yX9_drawn.desc).map (fun d => d.parameters.length) = some 3 := by decide +kernel
set_option maxHeartbeats 4000000 in
set_option maxRecDepth 100000 in
theorem c_X9_drawn (l : Launch) (D : va_G) (cs : Nat → ClassId) (ad : Nat → Nat) (M : Mem) (x1 : Int32) (x2 : Int32) (x3 : Int32) {z : Int32 × Mem} (h : f_X9_drawn M x1 x2 x3 = some z) : CtI l yX9_drawn cX9_drawn 10 .int 5 D cs ad [.ref (ad 140), .int x1, .int x2, .int x3] M z.1 z.2 := by
  refine ct_i (own := RX9) (by decide) rfl (Nat.le_of_ble_eq_true rfl) ?_
  intro p e s m args below meth c Q C hr
  have hx := C.1
  have hb := C.2.1
  have hown := C.2.2.2.1
  have hts := C.2.2.2.2.1
  have J_156 : ∀ (M : Mem) (x1 : Int32) (x3 : Int32) (x4 : Int64) (x6 : Int32) (x7 : Int32) (x8 : Int32) (r55 : (Mem × Int64 × Int32 × Int32 × Int32) → Option (Int32 × Mem)) (hr55 : ∀ a, r55 a = some z → GP p l e (rmk 5) s m args below meth c 0 0 Q D cs ad 10 55 [(0, .ref (ad 140)), (1, .int x1), (3, .int x3), (4, .long a.2.1), (6, .int a.2.2.1), (7, .int a.2.2.2.1), (8, .int a.2.2.2.2)] [] a.1), f_X9_drawn_156 r55 M x1 x3 x4 x6 x7 x8 = some z → GP p l e (rmk 5) s m args below meth c 0 0 Q D cs ad 10 156 [(0, .ref (ad 140)), (1, .int x1), (3, .int x3), (4, .long x4), (6, .int x6), (7, .int x7), (8, .int x8)] [] M := by
    intro M x1 x3 x4 x6 x7 x8 r55 hr55 h H locs hG ls hl
    unfold f_X9_drawn_156 at h
    refine lv_aload_n hx hb dX9_drawn_156 rfl (lv_at hl 0 rfl) ?_
    obtain ⟨q157, e_157, h⟩ := bd_e h
    refine g_ci hG (g_runV C hG (gR_9 gk_140) (c_X9_ends l D cs ad M e_157) wm_X9_199 wi_X9_ends ws_X9_ends wz_X9 wc_X9_ends e_X9_ends (by decide) hl.1 (Nat.le_of_ble_eq_true rfl) dX9_drawn_157) (fun H locs hG => ?_)
    obtain ⟨q160, e_160, h⟩ := bd_e h
    refine g_ci hG (g_runS C hG (c_X9_ones l D cs ad q157.2 q157.1 e_160) wm_X9_152 wt_X9_ones wz_X9 wc_X9_ones e_X9_ones (by decide) hl.1 (Nat.le_of_ble_eq_true rfl) dX9_drawn_160) (fun H locs hG => ?_)
    refine lv_istore (lv' := [(9, .int q160), (0, .ref (ad 140)), (1, .int x1), (3, .int x3), (4, .long x4), (6, .int x6), (7, .int x7), (8, .int x8)]) hx hb dX9_drawn_163 hl (by decide) rfl (fun ls hl => ?_)
    refine lv_iload hx hb dX9_drawn_165 (lv_at hl 5 rfl) ?_
    refine lv_iload hx hb dX9_drawn_167 (lv_at hl 0 rfl) ?_
    refine lv_iadd hx hb dX9_drawn_169 ?_
    refine lv_topi (fun x6_170 e6_170 => ?_)
    have h := nm_at e6_170 h
    refine lv_istore (lv' := [(6, .int x6_170), (9, .int q160), (0, .ref (ad 140)), (1, .int x1), (3, .int x3), (4, .long x4), (7, .int x7), (8, .int x8)]) hx hb dX9_drawn_170 hl (by decide) rfl (fun ls hl => ?_)
    refine lv_iload hx hb dX9_drawn_172 (lv_at hl 6 rfl) ?_
    refine lv_iload hx hb dX9_drawn_174 (lv_at hl 1 rfl) ?_
    refine lv_if_le (tgt := 183) hx hb dX9_drawn_176 (by decide) (fun c_176 => ?_) (fun c_176 => ?_)
    · have h := if_t c_176 h
      refine lv_iconst (v := 0) hx hb dX9_drawn_183 (by decide) ?_
      refine lv_iadd hx hb dX9_drawn_184 ?_
      refine lv_topi (fun x7_185 e7_185 => ?_)
      have h := nm_at e7_185 h
      refine lv_istore (lv' := [(7, .int x7_185), (6, .int x6_170), (9, .int q160), (0, .ref (ad 140)), (1, .int x1), (3, .int x3), (4, .long x4), (8, .int x8)]) hx hb dX9_drawn_185 hl (by decide) rfl (fun ls hl => ?_)
      obtain ⟨x8_187, e8_187⟩ : ∃ y : Int32, y = x8 + (1 : Int32) := ⟨_, rfl⟩
      have h := nm_at e8_187 h
      refine lv_iinc (v := x8_187) (lv' := [(8, .int x8_187), (7, .int x7_185), (6, .int x6_170), (9, .int q160), (0, .ref (ad 140)), (1, .int x1), (3, .int x3), (4, .long x4)]) hx hb dX9_drawn_187 hl (k := 7) rfl (by rw [e8_187]; rfl) (by decide) rfl (fun ls hl => ?_)
      refine lv_goto (tgt := 55) hx hb dX9_drawn_190 (by decide) ?_
      exact hr55 (q157.2, x4, x6_170, x7_185, x8_187) h H locs hG ls (lv_sub hl [4, 5, 6, 7, 2, 1, 0] rfl)
    · have h := if_f c_176 h
      refine lv_iconst (v := 1) hx hb dX9_drawn_179 (by decide) ?_
      refine lv_goto (tgt := 184) hx hb dX9_drawn_180 (by decide) ?_
      refine lv_iadd hx hb dX9_drawn_184 ?_
      refine lv_topi (fun x7_185 e7_185 => ?_)
      have h := nm_at e7_185 h
      refine lv_istore (lv' := [(7, .int x7_185), (6, .int x6_170), (9, .int q160), (0, .ref (ad 140)), (1, .int x1), (3, .int x3), (4, .long x4), (8, .int x8)]) hx hb dX9_drawn_185 hl (by decide) rfl (fun ls hl => ?_)
      obtain ⟨x8_187, e8_187⟩ : ∃ y : Int32, y = x8 + (1 : Int32) := ⟨_, rfl⟩
      have h := nm_at e8_187 h
      refine lv_iinc (v := x8_187) (lv' := [(8, .int x8_187), (7, .int x7_185), (6, .int x6_170), (9, .int q160), (0, .ref (ad 140)), (1, .int x1), (3, .int x3), (4, .long x4)]) hx hb dX9_drawn_187 hl (k := 7) rfl (by rw [e8_187]; rfl) (by decide) rfl (fun ls hl => ?_)
      refine lv_goto (tgt := 55) hx hb dX9_drawn_190 (by decide) ?_
      exact hr55 (q157.2, x4, x6_170, x7_185, x8_187) h H locs hG ls (lv_sub hl [4, 5, 6, 7, 2, 1, 0] rfl)
  have J_136 : ∀ (M : Mem) (x1 : Int32) (x3 : Int32) (x4 : Int64) (x6 : Int32) (x7 : Int32) (x8 : Int32) (x9 : Int32) (r55 : (Mem × Int64 × Int32 × Int32 × Int32) → Option (Int32 × Mem)) (hr55 : ∀ a, r55 a = some z → GP p l e (rmk 5) s m args below meth c 0 0 Q D cs ad 10 55 [(0, .ref (ad 140)), (1, .int x1), (3, .int x3), (4, .long a.2.1), (6, .int a.2.2.1), (7, .int a.2.2.2.1), (8, .int a.2.2.2.2)] [] a.1), f_X9_drawn_136 r55 M x1 x3 x4 x6 x7 x8 x9 = some z → GP p l e (rmk 5) s m args below meth c 0 0 Q D cs ad 10 136 [(0, .ref (ad 140)), (1, .int x1), (3, .int x3), (4, .long x4), (6, .int x6), (7, .int x7), (8, .int x8), (9, .int x9)] [] M := by
    intro M x1 x3 x4 x6 x7 x8 x9 r55 hr55 h H locs hG ls hl
    unfold f_X9_drawn_136 at h
    refine lv_lload hx hb dX9_drawn_136 (lv_at hl 3 rfl) ?_
    refine lv_ldc2 (v := 3) hx hb hown (hts _ wk_X9_217) dX9_drawn_138 ?_
    refine lv_lrem hx hb dX9_drawn_141 (by decide) ?_
    refine lv_lconst (v := 1) hx hb dX9_drawn_142 (by decide) ?_
    refine W.lcmp hx hb dX9_drawn_143 ?_
    refine lv_if_ne (tgt := 156) hx hb dX9_drawn_144 (by decide) (fun c_144 => ?_) (fun c_144 => ?_)
    · have h := if_f c_144 h
      exact J_156 M x1 x3 x4 x6 x7 x8 r55 hr55 h H locs hG ls (lv_sub hl [0, 1, 2, 3, 4, 5, 6] rfl)
    · have h := if_t c_144 h
      refine lv_aload_n hx hb dX9_drawn_147 rfl (lv_at hl 0 rfl) ?_
      refine gf_X9_tried C hG gk_140 wf_X9_31 dX9_drawn_148 ?_
      refine lv_iload hx hb dX9_drawn_151 (lv_at hl 7 rfl) ?_
      obtain ⟨q153, e_153, h⟩ := bd_e h
      refine g_cv hG (g_runS C hG (c_X9_eats l D cs ad M gk_148 gl_148 x9 e_153) wm_X9_190 wt_X9_eats wz_X9 wc_X9_eats e_X9_eats (by decide) hl.1 (Nat.le_of_ble_eq_true rfl) dX9_drawn_153) (fun H locs hG => ?_)
      exact J_156 q153 x1 x3 x4 x6 x7 x8 r55 hr55 h H locs hG ls (lv_sub hl [0, 1, 2, 3, 4, 5, 6] rfl)
  have J_55 : ∀ (x1 : Int32) (x3 : Int32) (n : Nat) (a : Mem × Int64 × Int32 × Int32 × Int32), iter (fun rec a => f_X9_drawn_55 x1 x3 rec a.1 a.2.1 a.2.2.1 a.2.2.2.1 a.2.2.2.2) n a = some z → GP p l e (rmk 5) s m args below meth c 0 0 Q D cs ad 10 55 [(0, .ref (ad 140)), (1, .int x1), (3, .int x3), (4, .long a.2.1), (6, .int a.2.2.1), (7, .int a.2.2.2.1), (8, .int a.2.2.2.2)] [] a.1 := by
    intro x1 x3
    refine iter_ind (fun r55 hr55 a h => ?_)
    obtain ⟨M, x4, x6, x7, x8⟩ := a
    have h : f_X9_drawn_55 x1 x3 r55 M x4 x6 x7 x8 = some z := h
    intro H locs hG ls hl
    have hG : GH D cs ad s M H locs := hG
    have hl : lv_has ls 10 [(0, .ref (ad 140)), (1, .int x1), (3, .int x3), (4, .long x4), (6, .int x6), (7, .int x7), (8, .int x8)] := hl
    unfold f_X9_drawn_55 at h
    refine lv_iload hx hb dX9_drawn_55 (lv_at hl 6 rfl) ?_
    refine lv_iload_n hx hb dX9_drawn_57 rfl (lv_at hl 1 rfl) ?_
    refine lv_icmp_ge (tgt := 193) hx hb dX9_drawn_58 (by decide) (fun c_58 => ?_) (fun c_58 => ?_)
    · have h := if_t c_58 h
      refine lv_iload_n hx hb dX9_drawn_193 rfl (lv_at hl 2 rfl) ?_
      refine lv_if_ne (tgt := 202) hx hb dX9_drawn_194 (by decide) (fun c_194 => ?_) (fun c_194 => ?_)
      · have h := if_f c_194 h
        refine lv_iload hx hb dX9_drawn_202 (lv_at hl 5 rfl) ?_
        exact hr (pf1 (Option.some.inj h)) (pf2 (Option.some.inj h)) hG dX9_drawn_204
      · have h := if_t c_194 h
        refine lv_iload hx hb dX9_drawn_197 (lv_at hl 4 rfl) ?_
        refine lv_goto (tgt := 204) hx hb dX9_drawn_199 (by decide) ?_
        exact hr (pf1 (Option.some.inj h)) (pf2 (Option.some.inj h)) hG dX9_drawn_204
    · have h := if_f c_58 h
      refine lv_lload hx hb dX9_drawn_61 (lv_at hl 3 rfl) ?_
      refine lv_ldc2 (v := 16807) hx hb hown (hts _ wk_X9_213) dX9_drawn_63 ?_
      refine lv_lmul hx hb dX9_drawn_66 ?_
      refine lv_ldc2 (v := 2147483647) hx hb hown (hts _ wk_X9_215) dX9_drawn_67 ?_
      refine lv_lrem hx hb dX9_drawn_70 (by decide) ?_
      refine lv_topl (fun x4_71 e4_71 => ?_)
      have h := nm_at e4_71 h
      refine lv_lstore (lv' := [(4, .long x4_71), (0, .ref (ad 140)), (1, .int x1), (3, .int x3), (6, .int x6), (7, .int x7), (8, .int x8)]) hx hb dX9_drawn_71 hl (by decide) rfl (fun ls hl => ?_)
      refine lv_aload_n hx hb dX9_drawn_73 rfl (lv_at hl 1 rfl) ?_
      obtain ⟨q74, e_74, h⟩ := bd_e h
      refine g_cv hG (g_runV C hG (gR_9 gk_140) (c_X9_tries l D cs ad M e_74) wm_X9_196 wi_X9_tries ws_X9_tries wz_X9 wc_X9_tries e_X9_tries (by decide) hl.1 (Nat.le_of_ble_eq_true rfl) dX9_drawn_74) (fun H locs hG => ?_)
      refine lv_aload_n hx hb dX9_drawn_77 rfl (lv_at hl 1 rfl) ?_
      refine gf_X9_now C hG gk_140 wf_X9_25 dX9_drawn_78 ?_
      refine lv_iconst (v := 5) hx hb dX9_drawn_81 (by decide) ?_
      refine g_al (j := 5) C hG gk_146 gl_146 (ixl rfl) (by decide) dX9_drawn_82 ?_
      refine lv_if_le (tgt := 156) hx hb dX9_drawn_83 (by decide) (fun c_83 => ?_) (fun c_83 => ?_)
      · have h := if_t c_83 h
        exact J_156 q74 x1 x3 x4_71 x6 x7 x8 r55 hr55 h H locs hG ls (lv_sub hl [1, 2, 3, 0, 4, 5, 6] rfl)
      · have h := if_f c_83 h
        refine lv_lload hx hb dX9_drawn_86 (lv_at hl 0 rfl) ?_
        refine lv_aload_n hx hb dX9_drawn_88 rfl (lv_at hl 1 rfl) ?_
        refine gf_X9_now C hG gk_140 wf_X9_25 dX9_drawn_89 ?_
        refine lv_iconst (v := 5) hx hb dX9_drawn_92 (by decide) ?_
        refine g_al (j := 5) C hG gk_146 gl_146 (ixl rfl) (by decide) dX9_drawn_93 ?_
        refine lv_i2l hx hb dX9_drawn_94 rfl ?_
        obtain ⟨hd_95, h⟩ := dn_e h
        refine lv_lrem hx hb dX9_drawn_95 hd_95 ?_
        refine lv_l2i hx hb dX9_drawn_96 rfl ?_
        refine lv_topi (fun x9_97 e9_97 => ?_)
        have h := nm_at e9_97 h
        refine lv_istore (lv' := [(9, .int x9_97), (4, .long x4_71), (0, .ref (ad 140)), (1, .int x1), (3, .int x3), (6, .int x6), (7, .int x7), (8, .int x8)]) hx hb dX9_drawn_97 hl (by decide) rfl (fun ls hl => ?_)
        refine lv_lload hx hb dX9_drawn_99 (lv_at hl 1 rfl) ?_
        refine lv_ldc2 (v := 3) hx hb hown (hts _ wk_X9_217) dX9_drawn_101 ?_
        refine lv_lrem hx hb dX9_drawn_104 (by decide) ?_
        refine lv_lconst (v := 0) hx hb dX9_drawn_105 (by decide) ?_
        refine W.lcmp hx hb dX9_drawn_106 ?_
        refine lv_if_ne (tgt := 136) hx hb dX9_drawn_107 (by decide) (fun c_107 => ?_) (fun c_107 => ?_)
        · have h := if_f c_107 h
          exact J_136 q74 x1 x3 x4_71 x6 x7 x8 x9_97 r55 hr55 h H locs hG ls (lv_sub hl [2, 3, 4, 1, 5, 6, 7, 0] rfl)
        · have h := if_t c_107 h
          refine lv_aload_n hx hb dX9_drawn_110 rfl (lv_at hl 2 rfl) ?_
          refine gf_X9_tried C hG gk_140 wf_X9_31 dX9_drawn_111 ?_
          refine lv_iload hx hb dX9_drawn_114 (lv_at hl 0 rfl) ?_
          obtain ⟨q116, e_116, h⟩ := bd_e h
          refine g_ci hG (g_runS C hG (c_X9_flies l D cs ad q74 gk_148 gl_148 x9_97 e_116) wm_X9_144 wt_X9_flies wz_X9 wc_X9_flies e_X9_flies (by decide) hl.1 (Nat.le_of_ble_eq_true rfl) dX9_drawn_116) (fun H locs hG => ?_)
          refine lv_if_eq (tgt := 136) hx hb dX9_drawn_119 (by decide) (fun c_119 => ?_) (fun c_119 => ?_)
          · have h := if_f (bi_f c_119) h
            exact J_136 q74 x1 x3 x4_71 x6 x7 x8 x9_97 r55 hr55 h H locs hG ls (lv_sub hl [2, 3, 4, 1, 5, 6, 7, 0] rfl)
          · have h := if_t (bi_t c_119) h
            refine lv_aload_n hx hb dX9_drawn_122 rfl (lv_at hl 2 rfl) ?_
            refine gf_X9_tried C hG gk_140 wf_X9_31 dX9_drawn_123 ?_
            refine lv_iconst (v := 1) hx hb dX9_drawn_126 (by decide) ?_
            refine lv_iload hx hb dX9_drawn_127 (lv_at hl 0 rfl) ?_
            refine lv_ishl hx hb dX9_drawn_129 ?_
            obtain ⟨q130, e_130, h⟩ := bd_e h
            refine g_cv hG (g_runS C hG (c_X9_turns l D cs ad q74 gk_148 gl_148 ((1 : Int32) <<< (x9_97 &&& 31)) e_130) wm_X9_162 wt_X9_turns wz_X9 wc_X9_turns e_X9_turns (by decide) hl.1 (Nat.le_of_ble_eq_true rfl) dX9_drawn_130) (fun H locs hG => ?_)
            refine lv_goto (tgt := 156) hx hb dX9_drawn_133 (by decide) ?_
            exact J_156 q130 x1 x3 x4_71 x6 x7 x8 r55 hr55 h H locs hG ls (lv_sub hl [2, 3, 4, 1, 5, 6, 7] rfl)
  intro H locs hG ls hl
  have hl : lv_has ls 10 [(0, .ref (ad 140)), (1, .int x1), (2, .int x2), (3, .int x3)] := hl
  unfold f_X9_drawn at h
  refine lv_aload_n hx hb dX9_drawn_0 rfl (lv_at hl 0 rfl) ?_
  refine g_ci hG (g_runV C hG (gR_9 gk_140) (c_X9_isFlight l D cs ad M rfl) wm_X9_180 wi_X9_isFlight ws_X9_isFlight wz_X9 wc_X9_isFlight e_X9_isFlight (by decide) hl.1 (Nat.le_of_ble_eq_true rfl) dX9_drawn_1) (fun H locs hG => ?_)
  refine lv_if_ne (tgt := 10) hx hb dX9_drawn_4 (by decide) (fun c_4 => ?_) (fun c_4 => ?_)
  · have h := if_t (bi_t c_4) h
    refine lv_iload_n hx hb dX9_drawn_10 rfl (lv_at hl 1 rfl) ?_
    refine lv_iconst (v := 0) hx hb dX9_drawn_11 (by decide) ?_
    refine lv_bipush (v := 40) hx hb dX9_drawn_12 (by decide) ?_
    refine g_ci hG (g_runS C hG (c_X9_in l D cs ad M x1 (0 : Int32) (40 : Int32) rfl) wm_X9_59 wt_X9_in wz_X9 wc_X9_in e_X9_in (by decide) hl.1 (Nat.le_of_ble_eq_true rfl) dX9_drawn_14) (fun H locs hG => ?_)
    refine lv_if_eq (tgt := 39) hx hb dX9_drawn_17 (by decide) (fun c_17 => ?_) (fun c_17 => ?_)
    · have h := if_f (bi_f c_17) h
      refine lv_ldc (v := -1000001) hx hb hown (hts _ wk_X9_67) dX9_drawn_39 ?_
      exact hr (pf1 (Option.some.inj h)) (pf2 (Option.some.inj h)) hG dX9_drawn_41
    · have h := if_t (bi_t c_17) h
      refine lv_iload_n hx hb dX9_drawn_20 rfl (lv_at hl 2 rfl) ?_
      refine lv_iconst (v := 1) hx hb dX9_drawn_21 (by decide) ?_
      refine lv_ldc (v := 999999) hx hb hown (hts _ wk_X9_212) dX9_drawn_22 ?_
      refine g_ci hG (g_runS C hG (c_X9_in l D cs ad M x2 (1 : Int32) (999999 : Int32) rfl) wm_X9_59 wt_X9_in wz_X9 wc_X9_in e_X9_in (by decide) hl.1 (Nat.le_of_ble_eq_true rfl) dX9_drawn_24) (fun H locs hG => ?_)
      refine lv_if_eq (tgt := 39) hx hb dX9_drawn_27 (by decide) (fun c_27 => ?_) (fun c_27 => ?_)
      · have h := if_f (bi_f c_27) h
        refine lv_ldc (v := -1000001) hx hb hown (hts _ wk_X9_67) dX9_drawn_39 ?_
        exact hr (pf1 (Option.some.inj h)) (pf2 (Option.some.inj h)) hG dX9_drawn_41
      · have h := if_t (bi_t c_27) h
        refine lv_iload_n hx hb dX9_drawn_30 rfl (lv_at hl 3 rfl) ?_
        refine lv_iconst (v := 0) hx hb dX9_drawn_31 (by decide) ?_
        refine lv_iconst (v := 1) hx hb dX9_drawn_32 (by decide) ?_
        refine g_ci hG (g_runS C hG (c_X9_in l D cs ad M x3 (0 : Int32) (1 : Int32) rfl) wm_X9_59 wt_X9_in wz_X9 wc_X9_in e_X9_in (by decide) hl.1 (Nat.le_of_ble_eq_true rfl) dX9_drawn_33) (fun H locs hG => ?_)
        refine lv_if_ne (tgt := 42) hx hb dX9_drawn_36 (by decide) (fun c_36 => ?_) (fun c_36 => ?_)
        · have h := if_t (bi_t c_36) h
          refine lv_iload_n hx hb dX9_drawn_42 rfl (lv_at hl 2 rfl) ?_
          refine lv_i2l hx hb dX9_drawn_43 rfl ?_
          refine lv_topl (fun x4_44 e4_44 => ?_)
          have h := nm_at e4_44 h
          refine lv_lstore (lv' := [(4, .long x4_44), (0, .ref (ad 140)), (1, .int x1), (2, .int x2), (3, .int x3)]) hx hb dX9_drawn_44 hl (by decide) rfl (fun ls hl => ?_)
          refine lv_iconst (v := 0) hx hb dX9_drawn_46 (by decide) ?_
          refine lv_istore (lv' := [(6, .int 0), (4, .long x4_44), (0, .ref (ad 140)), (1, .int x1), (2, .int x2), (3, .int x3)]) hx hb dX9_drawn_47 hl (by decide) rfl (fun ls hl => ?_)
          refine lv_iconst (v := 0) hx hb dX9_drawn_49 (by decide) ?_
          refine lv_istore (lv' := [(7, .int 0), (6, .int 0), (4, .long x4_44), (0, .ref (ad 140)), (1, .int x1), (2, .int x2), (3, .int x3)]) hx hb dX9_drawn_50 hl (by decide) rfl (fun ls hl => ?_)
          refine lv_iconst (v := 0) hx hb dX9_drawn_52 (by decide) ?_
          refine lv_istore (lv' := [(8, .int 0), (7, .int 0), (6, .int 0), (4, .long x4_44), (0, .ref (ad 140)), (1, .int x1), (2, .int x2), (3, .int x3)]) hx hb dX9_drawn_53 hl (by decide) rfl (fun ls hl => ?_)
          exact J_55 x1 x3 _ (M, x4_44, (0 : Int32), (0 : Int32), (0 : Int32)) h H locs hG ls (lv_sub hl [4, 5, 7, 3, 2, 1, 0] rfl)
        · have h := if_f (bi_f c_36) h
          refine lv_ldc (v := -1000001) hx hb hown (hts _ wk_X9_67) dX9_drawn_39 ?_
          exact hr (pf1 (Option.some.inj h)) (pf2 (Option.some.inj h)) hG dX9_drawn_41
  · have h := if_f (bi_f c_4) h
    refine lv_ldc (v := -1000002) hx hb hown (hts _ wk_X9_183) dX9_drawn_7 ?_
    exact hr (pf1 (Option.some.inj h)) (pf2 (Option.some.inj h)) hG dX9_drawn_9
def f_X9_image (M : Mem) (x1 : Int32) : Option (Int32 × Mem) :=
  if (f_X9_in x1 (0 : Int32) (1 : Int32)) = true then (
    if (f_X9_isFlight M) = true then (
      (f_X9_copies M 146 (0 : Int32) 150 ((57 : Int32) * x1)).bind fun q35 =>
      chk (ixb x1 2) <|
      nm (st q35 151 x1.toNatClampNeg (1 : Int32)) fun M44 =>
      some ((1 : Int32), M44)
    ) else (
      some ((-1000002 : Int32), M)
    )
  ) else (
    some ((-1000001 : Int32), M)
  )
theorem e_X9_image : yX9_image.cls = RX9 ∧ yX9_image.cls ≠ "java/lang/invoke/MethodHandle" ∧ yX9_image.cls ≠ "java/lang/invoke/VarHandle" ∧ (parseMethodDescriptor yX9_image.desc).map (fun d => d.parameters.length) = some 1 := by decide +kernel
set_option maxHeartbeats 4000000 in
set_option maxRecDepth 100000 in
theorem c_X9_image (l : Launch) (D : va_G) (cs : Nat → ClassId) (ad : Nat → Nat) (M : Mem) (x1 : Int32) {z : Int32 × Mem} (h : f_X9_image M x1 = some z) : CtI l yX9_image cX9_image 2 .int 1 D cs ad [.ref (ad 140), .int x1] M z.1 z.2 := by
  refine ct_i (own := RX9) (by decide) rfl (Nat.le_of_ble_eq_true rfl) ?_
  intro p e s m args below meth c Q C hr
  have hx := C.1
  have hb := C.2.1
  have hown := C.2.2.2.1
  have hts := C.2.2.2.2.1
  intro H locs hG ls hl
  have hl : lv_has ls 2 [(0, .ref (ad 140)), (1, .int x1)] := hl
  unfold f_X9_image at h
  refine lv_iload_n hx hb dX9_image_0 rfl (lv_at hl 1 rfl) ?_
  refine lv_iconst (v := 0) hx hb dX9_image_1 (by decide) ?_
  refine lv_iconst (v := 1) hx hb dX9_image_2 (by decide) ?_
  refine g_ci hG (g_runS C hG (c_X9_in l D cs ad M x1 (0 : Int32) (1 : Int32) rfl) wm_X9_59 wt_X9_in wz_X9 wc_X9_in e_X9_in (by decide) hl.1 (Nat.le_of_ble_eq_true rfl) dX9_image_3) (fun H locs hG => ?_)
  refine lv_if_ne (tgt := 12) hx hb dX9_image_6 (by decide) (fun c_6 => ?_) (fun c_6 => ?_)
  · have h := if_t (bi_t c_6) h
    refine lv_aload_n hx hb dX9_image_12 rfl (lv_at hl 0 rfl) ?_
    refine g_ci hG (g_runV C hG (gR_9 gk_140) (c_X9_isFlight l D cs ad M rfl) wm_X9_180 wi_X9_isFlight ws_X9_isFlight wz_X9 wc_X9_isFlight e_X9_isFlight (by decide) hl.1 (Nat.le_of_ble_eq_true rfl) dX9_image_13) (fun H locs hG => ?_)
    refine lv_if_ne (tgt := 22) hx hb dX9_image_16 (by decide) (fun c_16 => ?_) (fun c_16 => ?_)
    · have h := if_t (bi_t c_16) h
      refine lv_aload_n hx hb dX9_image_22 rfl (lv_at hl 0 rfl) ?_
      refine gf_X9_now C hG gk_140 wf_X9_25 dX9_image_23 ?_
      refine lv_iconst (v := 0) hx hb dX9_image_26 (by decide) ?_
      refine lv_aload_n hx hb dX9_image_27 rfl (lv_at hl 0 rfl) ?_
      refine gf_X9_images C hG gk_140 wf_X9_37 dX9_image_28 ?_
      refine lv_bipush (v := 57) hx hb dX9_image_31 (by decide) ?_
      refine lv_iload_n hx hb dX9_image_33 rfl (lv_at hl 1 rfl) ?_
      refine lv_imul hx hb dX9_image_34 ?_
      obtain ⟨q35, e_35, h⟩ := bd_e h
      refine g_cv hG (g_runS C hG (c_X9_copies l D cs ad M gk_146 (0 : Int32) gk_150 ((57 : Int32) * x1) e_35) wm_X9_137 wt_X9_copies wz_X9 wc_X9_copies e_X9_copies (by decide) hl.1 (Nat.le_of_ble_eq_true rfl) dX9_image_35) (fun H locs hG => ?_)
      refine lv_aload_n hx hb dX9_image_38 rfl (lv_at hl 0 rfl) ?_
      refine gf_X9_kept C hG gk_140 wf_X9_40 dX9_image_39 ?_
      refine lv_iload_n hx hb dX9_image_42 rfl (lv_at hl 1 rfl) ?_
      refine lv_iconst (v := 1) hx hb dX9_image_43 (by decide) ?_
      obtain ⟨hi_44, h⟩ := ix_e h
      refine g_zast C hG gk_151 gl_151 hi_44 (by decide) dX9_image_44 (fun M44 e_44 H locs hG => ?_)
      have h := nm_at e_44 h
      refine lv_iconst (v := 1) hx hb dX9_image_45 (by decide) ?_
      exact hr (pf1 (Option.some.inj h)) (pf2 (Option.some.inj h)) hG dX9_image_46
    · have h := if_f (bi_f c_16) h
      refine lv_ldc (v := -1000002) hx hb hown (hts _ wk_X9_183) dX9_image_19 ?_
      exact hr (pf1 (Option.some.inj h)) (pf2 (Option.some.inj h)) hG dX9_image_21
  · have h := if_f (bi_f c_6) h
    refine lv_ldc (v := -1000001) hx hb hown (hts _ wk_X9_67) dX9_image_9 ?_
    exact hr (pf1 (Option.some.inj h)) (pf2 (Option.some.inj h)) hG dX9_image_11
def f_X9_restore (M : Mem) (x1 : Int32) : Option (Int32 × Mem) :=
  if (f_X9_in x1 (0 : Int32) (1 : Int32)) = true then (
    chk (ixb x1 2) <|
    if (M 151 x1.toNatClampNeg) = (0 : Int32) then (
      some ((-1000002 : Int32), M)
    ) else (
      (f_X9_copies M 150 ((57 : Int32) * x1) 146 (0 : Int32)).bind fun q37 =>
      nm (st q37 140 17 (0 : Int32)) fun M42 =>
      some ((1 : Int32), M42)
    )
  ) else (
    some ((-1000001 : Int32), M)
  )
theorem e_X9_restore : yX9_restore.cls = RX9 ∧ yX9_restore.cls ≠ "java/lang/invoke/MethodHandle" ∧ yX9_restore.cls ≠ "java/lang/invoke/VarHandle" ∧ (parseMethodDescriptor yX9_restore.desc).map (fun d => d.parameters.length) = some 1 := by decide +kernel
set_option maxHeartbeats 4000000 in
set_option maxRecDepth 100000 in
theorem c_X9_restore (l : Launch) (D : va_G) (cs : Nat → ClassId) (ad : Nat → Nat) (M : Mem) (x1 : Int32) {z : Int32 × Mem} (h : f_X9_restore M x1 = some z) : CtI l yX9_restore cX9_restore 2 .int 1 D cs ad [.ref (ad 140), .int x1] M z.1 z.2 := by
  refine ct_i (own := RX9) (by decide) rfl (Nat.le_of_ble_eq_true rfl) ?_
  intro p e s m args below meth c Q C hr
  have hx := C.1
  have hb := C.2.1
  have hown := C.2.2.2.1
  have hts := C.2.2.2.2.1
  intro H locs hG ls hl
  have hl : lv_has ls 2 [(0, .ref (ad 140)), (1, .int x1)] := hl
  unfold f_X9_restore at h
  refine lv_iload_n hx hb dX9_restore_0 rfl (lv_at hl 1 rfl) ?_
  refine lv_iconst (v := 0) hx hb dX9_restore_1 (by decide) ?_
  refine lv_iconst (v := 1) hx hb dX9_restore_2 (by decide) ?_
  refine g_ci hG (g_runS C hG (c_X9_in l D cs ad M x1 (0 : Int32) (1 : Int32) rfl) wm_X9_59 wt_X9_in wz_X9 wc_X9_in e_X9_in (by decide) hl.1 (Nat.le_of_ble_eq_true rfl) dX9_restore_3) (fun H locs hG => ?_)
  refine lv_if_ne (tgt := 12) hx hb dX9_restore_6 (by decide) (fun c_6 => ?_) (fun c_6 => ?_)
  · have h := if_t (bi_t c_6) h
    refine lv_aload_n hx hb dX9_restore_12 rfl (lv_at hl 0 rfl) ?_
    refine gf_X9_kept C hG gk_140 wf_X9_40 dX9_restore_13 ?_
    refine lv_iload_n hx hb dX9_restore_16 rfl (lv_at hl 1 rfl) ?_
    obtain ⟨hi_17, h⟩ := ix_e h
    refine g_zald C hG gk_151 gl_151 hi_17 dX9_restore_17 ?_
    refine lv_if_ne (tgt := 24) hx hb dX9_restore_18 (by decide) (fun c_18 => ?_) (fun c_18 => ?_)
    · have h := if_f c_18 h
      refine lv_aload_n hx hb dX9_restore_24 rfl (lv_at hl 0 rfl) ?_
      refine gf_X9_images C hG gk_140 wf_X9_37 dX9_restore_25 ?_
      refine lv_bipush (v := 57) hx hb dX9_restore_28 (by decide) ?_
      refine lv_iload_n hx hb dX9_restore_30 rfl (lv_at hl 1 rfl) ?_
      refine lv_imul hx hb dX9_restore_31 ?_
      refine lv_aload_n hx hb dX9_restore_32 rfl (lv_at hl 0 rfl) ?_
      refine gf_X9_now C hG gk_140 wf_X9_25 dX9_restore_33 ?_
      refine lv_iconst (v := 0) hx hb dX9_restore_36 (by decide) ?_
      obtain ⟨q37, e_37, h⟩ := bd_e h
      refine g_cv hG (g_runS C hG (c_X9_copies l D cs ad M gk_150 ((57 : Int32) * x1) gk_146 (0 : Int32) e_37) wm_X9_137 wt_X9_copies wz_X9 wc_X9_copies e_X9_copies (by decide) hl.1 (Nat.le_of_ble_eq_true rfl) dX9_restore_37) (fun H locs hG => ?_)
      refine lv_aload_n hx hb dX9_restore_40 rfl (lv_at hl 0 rfl) ?_
      refine lv_iconst (v := 0) hx hb dX9_restore_41 (by decide) ?_
      refine gp_X9_acts C hG gk_140 wf_X9_141 dX9_restore_42 (fun M42 e_42 H locs hG => ?_)
      have h := nm_at e_42 h
      refine lv_iconst (v := 1) hx hb dX9_restore_45 (by decide) ?_
      exact hr (pf1 (Option.some.inj h)) (pf2 (Option.some.inj h)) hG dX9_restore_46
    · have h := if_t c_18 h
      refine lv_ldc (v := -1000002) hx hb hown (hts _ wk_X9_183) dX9_restore_21 ?_
      exact hr (pf1 (Option.some.inj h)) (pf2 (Option.some.inj h)) hG dX9_restore_23
  · have h := if_f (bi_f c_6) h
    refine lv_ldc (v := -1000001) hx hb hown (hts _ wk_X9_67) dX9_restore_9 ?_
    exact hr (pf1 (Option.some.inj h)) (pf2 (Option.some.inj h)) hG dX9_restore_11
def f_X9_kindIn (M : Mem) (x1 : Int32) : Option Int32 :=
  chk (ixb ((21 : Int32) + ((6 : Int32) * x1)) 57) <|
  some (M 146 ((21 : Int32) + ((6 : Int32) * x1)).toNatClampNeg)
theorem e_X9_kindIn : yX9_kindIn.cls = RX9 ∧ yX9_kindIn.cls ≠ "java/lang/invoke/MethodHandle" ∧ yX9_kindIn.cls ≠ "java/lang/invoke/VarHandle" ∧ (parseMethodDescriptor yX9_kindIn.desc).map (fun d => d.parameters.length) = some 1 := by decide +kernel
set_option maxHeartbeats 4000000 in
set_option maxRecDepth 100000 in
theorem c_X9_kindIn (l : Launch) (D : va_G) (cs : Nat → ClassId) (ad : Nat → Nat) (M : Mem) (x1 : Int32) {z : Int32} (h : f_X9_kindIn M x1 = some z) : CtI l yX9_kindIn cX9_kindIn 2 .int 0 D cs ad [.ref (ad 140), .int x1] M z M := by
  refine ct_i (own := RX9) (by decide) rfl (Nat.le_of_ble_eq_true rfl) ?_
  intro p e s m args below meth c Q C hr
  have hx := C.1
  have hb := C.2.1
  have hown := C.2.2.2.1
  have hts := C.2.2.2.2.1
  intro H locs hG ls hl
  have hl : lv_has ls 2 [(0, .ref (ad 140)), (1, .int x1)] := hl
  unfold f_X9_kindIn at h
  refine lv_aload_n hx hb dX9_kindIn_0 rfl (lv_at hl 0 rfl) ?_
  refine gf_X9_now C hG gk_140 wf_X9_25 dX9_kindIn_1 ?_
  refine lv_bipush (v := 21) hx hb dX9_kindIn_4 (by decide) ?_
  refine lv_bipush (v := 6) hx hb dX9_kindIn_6 (by decide) ?_
  refine lv_iload_n hx hb dX9_kindIn_8 rfl (lv_at hl 1 rfl) ?_
  refine lv_imul hx hb dX9_kindIn_9 ?_
  refine lv_iadd hx hb dX9_kindIn_10 ?_
  obtain ⟨hi_11, h⟩ := ix_e h
  refine g_al C hG gk_146 gl_146 hi_11 rfl dX9_kindIn_11 ?_
  exact hr (Option.some.inj h) rfl hG dX9_kindIn_12
def f_X9_kind (M : Mem) (x1 : Int32) : Option Int32 :=
  if (f_X9_isBird M x1) = true then (
    (f_X9_kindIn M x1).bind fun q10 =>
    some q10
  ) else (
    some (-1000001 : Int32)
  )
theorem e_X9_kind : yX9_kind.cls = RX9 ∧ yX9_kind.cls ≠ "java/lang/invoke/MethodHandle" ∧ yX9_kind.cls ≠ "java/lang/invoke/VarHandle" ∧ (parseMethodDescriptor yX9_kind.desc).map (fun d => d.parameters.length) = some 1 := by decide +kernel
set_option maxHeartbeats 4000000 in
set_option maxRecDepth 100000 in
theorem c_X9_kind (l : Launch) (D : va_G) (cs : Nat → ClassId) (ad : Nat → Nat) (M : Mem) (x1 : Int32) {z : Int32} (h : f_X9_kind M x1 = some z) : CtI l yX9_kind cX9_kind 2 .int 2 D cs ad [.ref (ad 140), .int x1] M z M := by
  refine ct_i (own := RX9) (by decide) rfl (Nat.le_of_ble_eq_true rfl) ?_
  intro p e s m args below meth c Q C hr
  have hx := C.1
  have hb := C.2.1
  have hown := C.2.2.2.1
  have hts := C.2.2.2.2.1
  intro H locs hG ls hl
  have hl : lv_has ls 2 [(0, .ref (ad 140)), (1, .int x1)] := hl
  unfold f_X9_kind at h
  refine lv_aload_n hx hb dX9_kind_0 rfl (lv_at hl 0 rfl) ?_
  refine lv_iload_n hx hb dX9_kind_1 rfl (lv_at hl 1 rfl) ?_
  refine g_ci hG (g_runV C hG (gR_9 gk_140) (c_X9_isBird l D cs ad M x1 rfl) wm_X9_187 wi_X9_isBird ws_X9_isBird wz_X9 wc_X9_isBird e_X9_isBird (by decide) hl.1 (Nat.le_of_ble_eq_true rfl) dX9_kind_2) (fun H locs hG => ?_)
  refine lv_if_eq (tgt := 16) hx hb dX9_kind_5 (by decide) (fun c_5 => ?_) (fun c_5 => ?_)
  · have h := if_f (bi_f c_5) h
    refine lv_ldc (v := -1000001) hx hb hown (hts _ wk_X9_67) dX9_kind_16 ?_
    exact hr (Option.some.inj h) rfl hG dX9_kind_18
  · have h := if_t (bi_t c_5) h
    refine lv_aload_n hx hb dX9_kind_8 rfl (lv_at hl 0 rfl) ?_
    refine lv_iload_n hx hb dX9_kind_9 rfl (lv_at hl 1 rfl) ?_
    obtain ⟨q10, e_10, h⟩ := bd_e h
    refine g_ci hG (g_runV C hG (gR_9 gk_140) (c_X9_kindIn l D cs ad M x1 e_10) wm_X9_219 wi_X9_kindIn ws_X9_kindIn wz_X9 wc_X9_kindIn e_X9_kindIn (by decide) hl.1 (Nat.le_of_ble_eq_true rfl) dX9_kind_10) (fun H locs hG => ?_)
    refine lv_goto (tgt := 18) hx hb dX9_kind_13 (by decide) ?_
    exact hr (Option.some.inj h) rfl hG dX9_kind_18
def f_X9_as_60 (M : Mem) (x1 : Int32) (s0 : Bool) : Option (Int32 × Mem) :=
  if s0 = true then (
    nm (f_X9_well M x1) fun q69 =>
    some (q69.1, q69.2)
  ) else (
    nm (f_X9_found M (3 : Int32)) fun q77 =>
    some (q77.1, q77.2)
  )
def f_X9_as_45 (M : Mem) (x1 : Int32) (x2 : Int32) (x3 : Int32) : Option (Int32 × Mem) :=
  if x2 = (4 : Int32) then (
    if x3 = (5 : Int32) then (
      f_X9_as_60 M x1 true
    ) else (
      f_X9_as_60 M x1 false
    )
  ) else (
    f_X9_as_60 M x1 false
  )
def f_X9_as (M : Mem) (x1 : Int32) (x2 : Int32) : Option (Int32 × Mem) :=
  if (f_X9_isBird M x1) = true then (
    if (f_X9_in x2 (0 : Int32) (5 : Int32)) = true then (
      (f_X9_kindIn M x1).bind fun q22 =>
      if x2 = (0 : Int32) then (
        f_X9_as_60 M x1 true
      ) else (
        if x2 = q22 then (
          f_X9_as_60 M x1 true
        ) else (
          if x2 = (1 : Int32) then (
            if q22 < (4 : Int32) then (
              f_X9_as_60 M x1 true
            ) else (
              f_X9_as_45 M x1 x2 q22
            )
          ) else (
            f_X9_as_45 M x1 x2 q22
          )
        )
      )
    ) else (
      some ((-1000001 : Int32), M)
    )
  ) else (
    some ((-1000001 : Int32), M)
  )
theorem e_X9_as : yX9_as.cls = RX9 ∧ yX9_as.cls ≠ "java/lang/invoke/MethodHandle" ∧ yX9_as.cls ≠ "java/lang/invoke/VarHandle" ∧ (parseMethodDescriptor yX9_as.desc).map (fun d => d.parameters.length) = some 2 := by decide +kernel
set_option maxHeartbeats 4000000 in
set_option maxRecDepth 100000 in
theorem c_X9_as (l : Launch) (D : va_G) (cs : Nat → ClassId) (ad : Nat → Nat) (M : Mem) (x1 : Int32) (x2 : Int32) {z : Int32 × Mem} (h : f_X9_as M x1 x2 = some z) : CtI l yX9_as cX9_as 5 .int 2 D cs ad [.ref (ad 140), .int x1, .int x2] M z.1 z.2 := by
  refine ct_i (own := RX9) (by decide) rfl (Nat.le_of_ble_eq_true rfl) ?_
  intro p e s m args below meth c Q C hr
  have hx := C.1
  have hb := C.2.1
  have hown := C.2.2.2.1
  have hts := C.2.2.2.2.1
  have J_60 : ∀ (M : Mem) (x1 : Int32) (s0 : Bool), f_X9_as_60 M x1 s0 = some z → GP p l e (rmk 2) s m args below meth c 0 0 Q D cs ad 5 60 [(0, .ref (ad 140)), (1, .int x1)] [.int (bi s0)] M := by
    intro M x1 s0 h H locs hG ls hl
    unfold f_X9_as_60 at h
    refine lv_istore (lv' := [(4, .int (bi s0)), (0, .ref (ad 140)), (1, .int x1)]) hx hb dX9_as_60 hl (by decide) rfl (fun ls hl => ?_)
    refine lv_iload hx hb dX9_as_62 (lv_at hl 0 rfl) ?_
    refine lv_if_eq (tgt := 75) hx hb dX9_as_64 (by decide) (fun c_64 => ?_) (fun c_64 => ?_)
    · have h := if_f (bi_f c_64) h
      refine lv_aload_n hx hb dX9_as_75 rfl (lv_at hl 1 rfl) ?_
      refine lv_iconst (v := 3) hx hb dX9_as_76 (by decide) ?_
      obtain ⟨q77, e_77⟩ : ∃ y, f_X9_found M (3 : Int32) = y := ⟨_, rfl⟩
      have h := nm_at e_77.symm h
      refine g_ci hG (g_runV C hG (gR_9 gk_140) (c_X9_found l D cs ad M (3 : Int32) e_77) wm_X9_68 wi_X9_found ws_X9_found wz_X9 wc_X9_found e_X9_found (by decide) hl.1 (Nat.le_of_ble_eq_true rfl) dX9_as_77) (fun H locs hG => ?_)
      exact hr (pf1 (Option.some.inj h)) (pf2 (Option.some.inj h)) hG dX9_as_80
    · have h := if_t (bi_t c_64) h
      refine lv_aload_n hx hb dX9_as_67 rfl (lv_at hl 1 rfl) ?_
      refine lv_iload_n hx hb dX9_as_68 rfl (lv_at hl 2 rfl) ?_
      obtain ⟨q69, e_69⟩ : ∃ y, f_X9_well M x1 = y := ⟨_, rfl⟩
      have h := nm_at e_69.symm h
      refine g_ci hG (g_runV C hG (gR_9 gk_140) (c_X9_well l D cs ad M x1 e_69) wm_X9_72 wi_X9_well ws_X9_well wz_X9 wc_X9_well e_X9_well (by decide) hl.1 (Nat.le_of_ble_eq_true rfl) dX9_as_69) (fun H locs hG => ?_)
      refine lv_goto (tgt := 80) hx hb dX9_as_72 (by decide) ?_
      exact hr (pf1 (Option.some.inj h)) (pf2 (Option.some.inj h)) hG dX9_as_80
  have J_45 : ∀ (M : Mem) (x1 : Int32) (x2 : Int32) (x3 : Int32), f_X9_as_45 M x1 x2 x3 = some z → GP p l e (rmk 2) s m args below meth c 0 0 Q D cs ad 5 45 [(0, .ref (ad 140)), (1, .int x1), (2, .int x2), (3, .int x3)] [] M := by
    intro M x1 x2 x3 h H locs hG ls hl
    unfold f_X9_as_45 at h
    refine lv_iload_n hx hb dX9_as_45 rfl (lv_at hl 2 rfl) ?_
    refine lv_iconst (v := 4) hx hb dX9_as_46 (by decide) ?_
    refine lv_icmp_ne (tgt := 59) hx hb dX9_as_47 (by decide) (fun c_47 => ?_) (fun c_47 => ?_)
    · have h := if_f c_47 h
      refine lv_iconst (v := 0) hx hb dX9_as_59 (by decide) ?_
      exact J_60 M x1 false h H locs hG ls (lv_sub hl [0, 1] rfl)
    · have h := if_t c_47 h
      refine lv_iload_n hx hb dX9_as_50 rfl (lv_at hl 3 rfl) ?_
      refine lv_iconst (v := 5) hx hb dX9_as_51 (by decide) ?_
      refine lv_icmp_ne (tgt := 59) hx hb dX9_as_52 (by decide) (fun c_52 => ?_) (fun c_52 => ?_)
      · have h := if_f c_52 h
        refine lv_iconst (v := 0) hx hb dX9_as_59 (by decide) ?_
        exact J_60 M x1 false h H locs hG ls (lv_sub hl [0, 1] rfl)
      · have h := if_t c_52 h
        refine lv_iconst (v := 1) hx hb dX9_as_55 (by decide) ?_
        refine lv_goto (tgt := 60) hx hb dX9_as_56 (by decide) ?_
        exact J_60 M x1 true h H locs hG ls (lv_sub hl [0, 1] rfl)
  intro H locs hG ls hl
  have hl : lv_has ls 5 [(0, .ref (ad 140)), (1, .int x1), (2, .int x2)] := hl
  unfold f_X9_as at h
  refine lv_aload_n hx hb dX9_as_0 rfl (lv_at hl 0 rfl) ?_
  refine lv_iload_n hx hb dX9_as_1 rfl (lv_at hl 1 rfl) ?_
  refine g_ci hG (g_runV C hG (gR_9 gk_140) (c_X9_isBird l D cs ad M x1 rfl) wm_X9_187 wi_X9_isBird ws_X9_isBird wz_X9 wc_X9_isBird e_X9_isBird (by decide) hl.1 (Nat.le_of_ble_eq_true rfl) dX9_as_2) (fun H locs hG => ?_)
  refine lv_if_eq (tgt := 17) hx hb dX9_as_5 (by decide) (fun c_5 => ?_) (fun c_5 => ?_)
  · have h := if_f (bi_f c_5) h
    refine lv_ldc (v := -1000001) hx hb hown (hts _ wk_X9_67) dX9_as_17 ?_
    exact hr (pf1 (Option.some.inj h)) (pf2 (Option.some.inj h)) hG dX9_as_19
  · have h := if_t (bi_t c_5) h
    refine lv_iload_n hx hb dX9_as_8 rfl (lv_at hl 2 rfl) ?_
    refine lv_iconst (v := 0) hx hb dX9_as_9 (by decide) ?_
    refine lv_iconst (v := 5) hx hb dX9_as_10 (by decide) ?_
    refine g_ci hG (g_runS C hG (c_X9_in l D cs ad M x2 (0 : Int32) (5 : Int32) rfl) wm_X9_59 wt_X9_in wz_X9 wc_X9_in e_X9_in (by decide) hl.1 (Nat.le_of_ble_eq_true rfl) dX9_as_11) (fun H locs hG => ?_)
    refine lv_if_ne (tgt := 20) hx hb dX9_as_14 (by decide) (fun c_14 => ?_) (fun c_14 => ?_)
    · have h := if_t (bi_t c_14) h
      refine lv_aload_n hx hb dX9_as_20 rfl (lv_at hl 0 rfl) ?_
      refine lv_iload_n hx hb dX9_as_21 rfl (lv_at hl 1 rfl) ?_
      obtain ⟨q22, e_22, h⟩ := bd_e h
      refine g_ci hG (g_runV C hG (gR_9 gk_140) (c_X9_kindIn l D cs ad M x1 e_22) wm_X9_219 wi_X9_kindIn ws_X9_kindIn wz_X9 wc_X9_kindIn e_X9_kindIn (by decide) hl.1 (Nat.le_of_ble_eq_true rfl) dX9_as_22) (fun H locs hG => ?_)
      refine lv_istore_n (lv' := [(3, .int q22), (0, .ref (ad 140)), (1, .int x1), (2, .int x2)]) hx hb dX9_as_25 rfl hl (by decide) rfl (fun ls hl => ?_)
      refine lv_iload_n hx hb dX9_as_26 rfl (lv_at hl 3 rfl) ?_
      refine lv_if_eq (tgt := 55) hx hb dX9_as_27 (by decide) (fun c_27 => ?_) (fun c_27 => ?_)
      · have h := if_t c_27 h
        refine lv_iconst (v := 1) hx hb dX9_as_55 (by decide) ?_
        refine lv_goto (tgt := 60) hx hb dX9_as_56 (by decide) ?_
        exact J_60 M x1 true h H locs hG ls (lv_sub hl [1, 2] rfl)
      · have h := if_f c_27 h
        refine lv_iload_n hx hb dX9_as_30 rfl (lv_at hl 3 rfl) ?_
        refine lv_iload_n hx hb dX9_as_31 rfl (lv_at hl 0 rfl) ?_
        refine lv_icmp_eq (tgt := 55) hx hb dX9_as_32 (by decide) (fun c_32 => ?_) (fun c_32 => ?_)
        · have h := if_t c_32 h
          refine lv_iconst (v := 1) hx hb dX9_as_55 (by decide) ?_
          refine lv_goto (tgt := 60) hx hb dX9_as_56 (by decide) ?_
          exact J_60 M x1 true h H locs hG ls (lv_sub hl [1, 2] rfl)
        · have h := if_f c_32 h
          refine lv_iload_n hx hb dX9_as_35 rfl (lv_at hl 3 rfl) ?_
          refine lv_iconst (v := 1) hx hb dX9_as_36 (by decide) ?_
          refine lv_icmp_ne (tgt := 45) hx hb dX9_as_37 (by decide) (fun c_37 => ?_) (fun c_37 => ?_)
          · have h := if_f c_37 h
            exact J_45 M x1 x2 q22 h H locs hG ls (lv_sub hl [1, 2, 3, 0] rfl)
          · have h := if_t c_37 h
            refine lv_iload_n hx hb dX9_as_40 rfl (lv_at hl 0 rfl) ?_
            refine lv_iconst (v := 4) hx hb dX9_as_41 (by decide) ?_
            refine lv_icmp_lt (tgt := 55) hx hb dX9_as_42 (by decide) (fun c_42 => ?_) (fun c_42 => ?_)
            · have h := if_t c_42 h
              refine lv_iconst (v := 1) hx hb dX9_as_55 (by decide) ?_
              refine lv_goto (tgt := 60) hx hb dX9_as_56 (by decide) ?_
              exact J_60 M x1 true h H locs hG ls (lv_sub hl [1, 2] rfl)
            · have h := if_f c_42 h
              exact J_45 M x1 x2 q22 h H locs hG ls (lv_sub hl [1, 2, 3, 0] rfl)
    · have h := if_f (bi_f c_14) h
      refine lv_ldc (v := -1000001) hx hb hown (hts _ wk_X9_67) dX9_as_17 ?_
      exact hr (pf1 (Option.some.inj h)) (pf2 (Option.some.inj h)) hG dX9_as_19
def f_X9_begins (M : Mem) (x1 : Int32) : Option Mem :=
  if (16 : Int32) ≤ (M 140 23) then (
    some M
  ) else (
    chk (ixb (M 140 23) 16) <|
    nm (st M 154 ((M 140 23).toNatClampNeg) x1) fun M18 =>
    nm (st M18 140 23 ((M18 140 23) + (1 : Int32))) fun M26 =>
    some M26
  )
theorem e_X9_begins : yX9_begins.cls = RX9 ∧ yX9_begins.cls ≠ "java/lang/invoke/MethodHandle" ∧ yX9_begins.cls ≠ "java/lang/invoke/VarHandle" ∧ (parseMethodDescriptor yX9_begins.desc).map (fun d => d.parameters.length) = some 1 := by decide +kernel
set_option maxHeartbeats 4000000 in
set_option maxRecDepth 100000 in
theorem c_X9_begins (l : Launch) (D : va_G) (cs : Nat → ClassId) (ad : Nat → Nat) (M : Mem) (x1 : Int32) {z : Mem} (h : f_X9_begins M x1 = some z) : CtV l yX9_begins cX9_begins 2 0 D cs ad [.ref (ad 140), .int x1] M z := by
  refine ct_v (own := RX9) (by decide) rfl (Nat.le_of_ble_eq_true rfl) ?_
  intro p e s m args below meth c Q C hr
  have hx := C.1
  have hb := C.2.1
  have hown := C.2.2.2.1
  have hts := C.2.2.2.2.1
  intro H locs hG ls hl
  have hl : lv_has ls 2 [(0, .ref (ad 140)), (1, .int x1)] := hl
  unfold f_X9_begins at h
  refine lv_aload_n hx hb dX9_begins_0 rfl (lv_at hl 0 rfl) ?_
  refine gf_X9_traced C hG gk_140 wf_X9_222 dX9_begins_1 ?_
  refine lv_bipush (v := 16) hx hb dX9_begins_4 (by decide) ?_
  refine lv_icmp_ge (tgt := 29) hx hb dX9_begins_6 (by decide) (fun c_6 => ?_) (fun c_6 => ?_)
  · have h := if_t c_6 h
    exact hr (Option.some.inj h) hG dX9_begins_29
  · have h := if_f c_6 h
    refine lv_aload_n hx hb dX9_begins_9 rfl (lv_at hl 0 rfl) ?_
    refine gf_X9_trace C hG gk_140 wf_X9_50 dX9_begins_10 ?_
    refine lv_aload_n hx hb dX9_begins_13 rfl (lv_at hl 0 rfl) ?_
    refine gf_X9_traced C hG gk_140 wf_X9_222 dX9_begins_14 ?_
    refine lv_iload_n hx hb dX9_begins_17 rfl (lv_at hl 1 rfl) ?_
    obtain ⟨hi_18, h⟩ := ix_e h
    refine g_as C hG gk_154 gl_154 hi_18 rfl dX9_begins_18 (fun M18 e_18 H locs hG => ?_)
    have h := nm_at e_18 h
    refine lv_aload_n hx hb dX9_begins_19 rfl (lv_at hl 0 rfl) ?_
    refine lv_dup hx hb dX9_begins_20 rfl ?_
    refine gf_X9_traced C hG gk_140 wf_X9_222 dX9_begins_21 ?_
    refine lv_iconst (v := 1) hx hb dX9_begins_24 (by decide) ?_
    refine lv_iadd hx hb dX9_begins_25 ?_
    refine gp_X9_traced C hG gk_140 wf_X9_222 dX9_begins_26 (fun M26 e_26 H locs hG => ?_)
    have h := nm_at e_26 h
    exact hr (Option.some.inj h) hG dX9_begins_29
def f_X9_nightSize_25 (M : Mem) (x1 : Int32) (x2 : Bool) : Option (Int32 × Mem) :=
  (f_X9_begins M (13 : Int32)).bind fun q28 =>
  (f_X9_begins q28 (10 : Int32)).bind fun q34 =>
  chk (ixb (((21 : Int32) + ((6 : Int32) * x1)) + (1 : Int32)) 57) <|
  nm (((q34 146 (((21 : Int32) + ((6 : Int32) * x1)) + (1 : Int32)).toNatClampNeg) - (100 : Int32))) fun x3_54 =>
  if x2 = true then (
    some (((2 : Int32) * x3_54), q34)
  ) else (
    some (x3_54, q34)
  )
def f_X9_nightSize (M : Mem) (x1 : Int32) : Option (Int32 × Mem) :=
  (f_X9_kindIn M x1).bind fun q2 =>
  if q2 = (5 : Int32) then (
    if (1 : Int32) = (0 : Int32) then (
      f_X9_nightSize_25 M x1 true
    ) else (
      (f_X9_begins M (14 : Int32)).bind fun q22 =>
      f_X9_nightSize_25 q22 x1 true
    )
  ) else (
    if (0 : Int32) = (0 : Int32) then (
      f_X9_nightSize_25 M x1 false
    ) else (
      (f_X9_begins M (14 : Int32)).bind fun q22 =>
      f_X9_nightSize_25 q22 x1 false
    )
  )
theorem e_X9_nightSize : yX9_nightSize.cls = RX9 ∧ yX9_nightSize.cls ≠ "java/lang/invoke/MethodHandle" ∧ yX9_nightSize.cls ≠ "java/lang/invoke/VarHandle" ∧ (parseMethodDescriptor yX9_nightSize.desc).map (fun d => d.parameters.length) = some 1 := by decide +kernel
set_option maxHeartbeats 4000000 in
set_option maxRecDepth 100000 in
theorem c_X9_nightSize (l : Launch) (D : va_G) (cs : Nat → ClassId) (ad : Nat → Nat) (M : Mem) (x1 : Int32) {z : Int32 × Mem} (h : f_X9_nightSize M x1 = some z) : CtI l yX9_nightSize cX9_nightSize 4 .int 1 D cs ad [.ref (ad 140), .int x1] M z.1 z.2 := by
  refine ct_i (own := RX9) (by decide) rfl (Nat.le_of_ble_eq_true rfl) ?_
  intro p e s m args below meth c Q C hr
  have hx := C.1
  have hb := C.2.1
  have hown := C.2.2.2.1
  have hts := C.2.2.2.2.1
  have J_25 : ∀ (M : Mem) (x1 : Int32) (x2 : Bool), f_X9_nightSize_25 M x1 x2 = some z → GP p l e (rmk 1) s m args below meth c 0 0 Q D cs ad 4 25 [(0, .ref (ad 140)), (1, .int x1), (2, .int (bi x2))] [] M := by
    intro M x1 x2 h H locs hG ls hl
    unfold f_X9_nightSize_25 at h
    refine lv_aload_n hx hb dX9_nightSize_25 rfl (lv_at hl 0 rfl) ?_
    refine lv_bipush (v := 13) hx hb dX9_nightSize_26 (by decide) ?_
    obtain ⟨q28, e_28, h⟩ := bd_e h
    refine g_cv hG (g_runV C hG (gR_9 gk_140) (c_X9_begins l D cs ad M (13 : Int32) e_28) wm_X9_225 wi_X9_begins ws_X9_begins wz_X9 wc_X9_begins e_X9_begins (by decide) hl.1 (Nat.le_of_ble_eq_true rfl) dX9_nightSize_28) (fun H locs hG => ?_)
    refine lv_aload_n hx hb dX9_nightSize_31 rfl (lv_at hl 0 rfl) ?_
    refine lv_bipush (v := 10) hx hb dX9_nightSize_32 (by decide) ?_
    obtain ⟨q34, e_34, h⟩ := bd_e h
    refine g_cv hG (g_runV C hG (gR_9 gk_140) (c_X9_begins l D cs ad q28 (10 : Int32) e_34) wm_X9_225 wi_X9_begins ws_X9_begins wz_X9 wc_X9_begins e_X9_begins (by decide) hl.1 (Nat.le_of_ble_eq_true rfl) dX9_nightSize_34) (fun H locs hG => ?_)
    refine lv_aload_n hx hb dX9_nightSize_37 rfl (lv_at hl 0 rfl) ?_
    refine gf_X9_now C hG gk_140 wf_X9_25 dX9_nightSize_38 ?_
    refine lv_bipush (v := 21) hx hb dX9_nightSize_41 (by decide) ?_
    refine lv_bipush (v := 6) hx hb dX9_nightSize_43 (by decide) ?_
    refine lv_iload_n hx hb dX9_nightSize_45 rfl (lv_at hl 1 rfl) ?_
    refine lv_imul hx hb dX9_nightSize_46 ?_
    refine lv_iadd hx hb dX9_nightSize_47 ?_
    refine lv_iconst (v := 1) hx hb dX9_nightSize_48 (by decide) ?_
    refine lv_iadd hx hb dX9_nightSize_49 ?_
    obtain ⟨hi_50, h⟩ := ix_e h
    refine g_al C hG gk_146 gl_146 hi_50 rfl dX9_nightSize_50 ?_
    refine lv_bipush (v := 100) hx hb dX9_nightSize_51 (by decide) ?_
    refine lv_isub hx hb dX9_nightSize_53 ?_
    refine lv_topi (fun x3_54 e3_54 => ?_)
    have h := nm_at e3_54 h
    refine lv_istore_n (lv' := [(3, .int x3_54), (0, .ref (ad 140)), (1, .int x1), (2, .int (bi x2))]) hx hb dX9_nightSize_54 rfl hl (by decide) rfl (fun ls hl => ?_)
    refine lv_iload_n hx hb dX9_nightSize_55 rfl (lv_at hl 3 rfl) ?_
    refine lv_if_eq (tgt := 65) hx hb dX9_nightSize_56 (by decide) (fun c_56 => ?_) (fun c_56 => ?_)
    · have h := if_f (bi_f c_56) h
      refine lv_iload_n hx hb dX9_nightSize_65 rfl (lv_at hl 0 rfl) ?_
      exact hr (pf1 (Option.some.inj h)) (pf2 (Option.some.inj h)) hG dX9_nightSize_66
    · have h := if_t (bi_t c_56) h
      refine lv_iconst (v := 2) hx hb dX9_nightSize_59 (by decide) ?_
      refine lv_iload_n hx hb dX9_nightSize_60 rfl (lv_at hl 0 rfl) ?_
      refine lv_imul hx hb dX9_nightSize_61 ?_
      refine lv_goto (tgt := 66) hx hb dX9_nightSize_62 (by decide) ?_
      exact hr (pf1 (Option.some.inj h)) (pf2 (Option.some.inj h)) hG dX9_nightSize_66
  intro H locs hG ls hl
  have hl : lv_has ls 4 [(0, .ref (ad 140)), (1, .int x1)] := hl
  unfold f_X9_nightSize at h
  refine lv_aload_n hx hb dX9_nightSize_0 rfl (lv_at hl 0 rfl) ?_
  refine lv_iload_n hx hb dX9_nightSize_1 rfl (lv_at hl 1 rfl) ?_
  obtain ⟨q2, e_2, h⟩ := bd_e h
  refine g_ci hG (g_runV C hG (gR_9 gk_140) (c_X9_kindIn l D cs ad M x1 e_2) wm_X9_219 wi_X9_kindIn ws_X9_kindIn wz_X9 wc_X9_kindIn e_X9_kindIn (by decide) hl.1 (Nat.le_of_ble_eq_true rfl) dX9_nightSize_2) (fun H locs hG => ?_)
  refine lv_iconst (v := 5) hx hb dX9_nightSize_5 (by decide) ?_
  refine lv_icmp_ne (tgt := 13) hx hb dX9_nightSize_6 (by decide) (fun c_6 => ?_) (fun c_6 => ?_)
  · have h := if_f c_6 h
    refine lv_iconst (v := 0) hx hb dX9_nightSize_13 (by decide) ?_
    refine lv_istore_n (lv' := [(2, .int 0), (0, .ref (ad 140)), (1, .int x1)]) hx hb dX9_nightSize_14 rfl hl (by decide) rfl (fun ls hl => ?_)
    refine lv_iload_n hx hb dX9_nightSize_15 rfl (lv_at hl 0 rfl) ?_
    refine lv_if_eq (tgt := 25) hx hb dX9_nightSize_16 (by decide) (fun c_16 => ?_) (fun c_16 => ?_)
    · have h := if_t c_16 h
      exact J_25 M x1 false h H locs hG ls (lv_sub hl [1, 2, 0] rfl)
    · have h := if_f c_16 h
      refine lv_aload_n hx hb dX9_nightSize_19 rfl (lv_at hl 1 rfl) ?_
      refine lv_bipush (v := 14) hx hb dX9_nightSize_20 (by decide) ?_
      obtain ⟨q22, e_22, h⟩ := bd_e h
      refine g_cv hG (g_runV C hG (gR_9 gk_140) (c_X9_begins l D cs ad M (14 : Int32) e_22) wm_X9_225 wi_X9_begins ws_X9_begins wz_X9 wc_X9_begins e_X9_begins (by decide) hl.1 (Nat.le_of_ble_eq_true rfl) dX9_nightSize_22) (fun H locs hG => ?_)
      exact J_25 q22 x1 false h H locs hG ls (lv_sub hl [1, 2, 0] rfl)
  · have h := if_t c_6 h
    refine lv_iconst (v := 1) hx hb dX9_nightSize_9 (by decide) ?_
    refine lv_goto (tgt := 14) hx hb dX9_nightSize_10 (by decide) ?_
    refine lv_istore_n (lv' := [(2, .int 1), (0, .ref (ad 140)), (1, .int x1)]) hx hb dX9_nightSize_14 rfl hl (by decide) rfl (fun ls hl => ?_)
    refine lv_iload_n hx hb dX9_nightSize_15 rfl (lv_at hl 0 rfl) ?_
    refine lv_if_eq (tgt := 25) hx hb dX9_nightSize_16 (by decide) (fun c_16 => ?_) (fun c_16 => ?_)
    · have h := if_t c_16 h
      exact J_25 M x1 true h H locs hG ls (lv_sub hl [1, 2, 0] rfl)
    · have h := if_f c_16 h
      refine lv_aload_n hx hb dX9_nightSize_19 rfl (lv_at hl 1 rfl) ?_
      refine lv_bipush (v := 14) hx hb dX9_nightSize_20 (by decide) ?_
      obtain ⟨q22, e_22, h⟩ := bd_e h
      refine g_cv hG (g_runV C hG (gR_9 gk_140) (c_X9_begins l D cs ad M (14 : Int32) e_22) wm_X9_225 wi_X9_begins ws_X9_begins wz_X9 wc_X9_begins e_X9_begins (by decide) hl.1 (Nat.le_of_ble_eq_true rfl) dX9_nightSize_22) (fun H locs hG => ?_)
      exact J_25 q22 x1 true h H locs hG ls (lv_sub hl [1, 2, 0] rfl)
def f_X9_hawkMark_27 (M : Mem) (x1 : Int32) (x2 : Int32) : Option (Int32 × Mem) :=
  (f_X9_begins M (21 : Int32)).bind fun q30 =>
  (f_X9_begins q30 (20 : Int32)).bind fun q36 =>
  chk (ixb (((21 : Int32) + ((6 : Int32) * x1)) + (2 : Int32)) 57) <|
  nm ((x1 + (q36 146 (((21 : Int32) + ((6 : Int32) * x1)) + (2 : Int32)).toNatClampNeg))) fun x3_55 =>
  if x2 = (2 : Int32) then (
    some (((2 : Int32) * x3_55), q36)
  ) else (
    if x2 = (3 : Int32) then (
      some ((x3_55 - (1000 : Int32)), q36)
    ) else (
      some (x3_55, q36)
    )
  )
def f_X9_hawkMark (M : Mem) (x1 : Int32) : Option (Int32 × Mem) :=
  (f_X9_kindIn M x1).bind fun q2 =>
  if q2 = (1 : Int32) then (
    f_X9_hawkMark_27 M x1 q2
  ) else (
    if q2 = (2 : Int32) then (
      (f_X9_begins M (24 : Int32)).bind fun q24 =>
      f_X9_hawkMark_27 q24 x1 q2
    ) else (
      (f_X9_begins M (22 : Int32)).bind fun q24 =>
      f_X9_hawkMark_27 q24 x1 q2
    )
  )
theorem e_X9_hawkMark : yX9_hawkMark.cls = RX9 ∧ yX9_hawkMark.cls ≠ "java/lang/invoke/MethodHandle" ∧ yX9_hawkMark.cls ≠ "java/lang/invoke/VarHandle" ∧ (parseMethodDescriptor yX9_hawkMark.desc).map (fun d => d.parameters.length) = some 1 := by decide +kernel
set_option maxHeartbeats 4000000 in
set_option maxRecDepth 100000 in
theorem c_X9_hawkMark (l : Launch) (D : va_G) (cs : Nat → ClassId) (ad : Nat → Nat) (M : Mem) (x1 : Int32) {z : Int32 × Mem} (h : f_X9_hawkMark M x1 = some z) : CtI l yX9_hawkMark cX9_hawkMark 4 .int 1 D cs ad [.ref (ad 140), .int x1] M z.1 z.2 := by
  refine ct_i (own := RX9) (by decide) rfl (Nat.le_of_ble_eq_true rfl) ?_
  intro p e s m args below meth c Q C hr
  have hx := C.1
  have hb := C.2.1
  have hown := C.2.2.2.1
  have hts := C.2.2.2.2.1
  have J_27 : ∀ (M : Mem) (x1 : Int32) (x2 : Int32), f_X9_hawkMark_27 M x1 x2 = some z → GP p l e (rmk 1) s m args below meth c 0 0 Q D cs ad 4 27 [(0, .ref (ad 140)), (1, .int x1), (2, .int x2)] [] M := by
    intro M x1 x2 h H locs hG ls hl
    unfold f_X9_hawkMark_27 at h
    refine lv_aload_n hx hb dX9_hawkMark_27 rfl (lv_at hl 0 rfl) ?_
    refine lv_bipush (v := 21) hx hb dX9_hawkMark_28 (by decide) ?_
    obtain ⟨q30, e_30, h⟩ := bd_e h
    refine g_cv hG (g_runV C hG (gR_9 gk_140) (c_X9_begins l D cs ad M (21 : Int32) e_30) wm_X9_225 wi_X9_begins ws_X9_begins wz_X9 wc_X9_begins e_X9_begins (by decide) hl.1 (Nat.le_of_ble_eq_true rfl) dX9_hawkMark_30) (fun H locs hG => ?_)
    refine lv_aload_n hx hb dX9_hawkMark_33 rfl (lv_at hl 0 rfl) ?_
    refine lv_bipush (v := 20) hx hb dX9_hawkMark_34 (by decide) ?_
    obtain ⟨q36, e_36, h⟩ := bd_e h
    refine g_cv hG (g_runV C hG (gR_9 gk_140) (c_X9_begins l D cs ad q30 (20 : Int32) e_36) wm_X9_225 wi_X9_begins ws_X9_begins wz_X9 wc_X9_begins e_X9_begins (by decide) hl.1 (Nat.le_of_ble_eq_true rfl) dX9_hawkMark_36) (fun H locs hG => ?_)
    refine lv_iload_n hx hb dX9_hawkMark_39 rfl (lv_at hl 1 rfl) ?_
    refine lv_aload_n hx hb dX9_hawkMark_40 rfl (lv_at hl 0 rfl) ?_
    refine gf_X9_now C hG gk_140 wf_X9_25 dX9_hawkMark_41 ?_
    refine lv_bipush (v := 21) hx hb dX9_hawkMark_44 (by decide) ?_
    refine lv_bipush (v := 6) hx hb dX9_hawkMark_46 (by decide) ?_
    refine lv_iload_n hx hb dX9_hawkMark_48 rfl (lv_at hl 1 rfl) ?_
    refine lv_imul hx hb dX9_hawkMark_49 ?_
    refine lv_iadd hx hb dX9_hawkMark_50 ?_
    refine lv_iconst (v := 2) hx hb dX9_hawkMark_51 (by decide) ?_
    refine lv_iadd hx hb dX9_hawkMark_52 ?_
    obtain ⟨hi_53, h⟩ := ix_e h
    refine g_al C hG gk_146 gl_146 hi_53 rfl dX9_hawkMark_53 ?_
    refine lv_iadd hx hb dX9_hawkMark_54 ?_
    refine lv_topi (fun x3_55 e3_55 => ?_)
    have h := nm_at e3_55 h
    refine lv_istore_n (lv' := [(3, .int x3_55), (0, .ref (ad 140)), (1, .int x1), (2, .int x2)]) hx hb dX9_hawkMark_55 rfl hl (by decide) rfl (fun ls hl => ?_)
    refine lv_iload_n hx hb dX9_hawkMark_56 rfl (lv_at hl 3 rfl) ?_
    refine lv_iconst (v := 2) hx hb dX9_hawkMark_57 (by decide) ?_
    refine lv_icmp_ne (tgt := 67) hx hb dX9_hawkMark_58 (by decide) (fun c_58 => ?_) (fun c_58 => ?_)
    · have h := if_f c_58 h
      refine lv_iload_n hx hb dX9_hawkMark_67 rfl (lv_at hl 3 rfl) ?_
      refine lv_iconst (v := 3) hx hb dX9_hawkMark_68 (by decide) ?_
      refine lv_icmp_ne (tgt := 80) hx hb dX9_hawkMark_69 (by decide) (fun c_69 => ?_) (fun c_69 => ?_)
      · have h := if_f c_69 h
        refine lv_iload_n hx hb dX9_hawkMark_80 rfl (lv_at hl 0 rfl) ?_
        exact hr (pf1 (Option.some.inj h)) (pf2 (Option.some.inj h)) hG dX9_hawkMark_81
      · have h := if_t c_69 h
        refine lv_iload_n hx hb dX9_hawkMark_72 rfl (lv_at hl 0 rfl) ?_
        refine lv_sipush (v := 1000) hx hb dX9_hawkMark_73 (by decide) ?_
        refine lv_isub hx hb dX9_hawkMark_76 ?_
        refine lv_goto (tgt := 81) hx hb dX9_hawkMark_77 (by decide) ?_
        exact hr (pf1 (Option.some.inj h)) (pf2 (Option.some.inj h)) hG dX9_hawkMark_81
    · have h := if_t c_58 h
      refine lv_iconst (v := 2) hx hb dX9_hawkMark_61 (by decide) ?_
      refine lv_iload_n hx hb dX9_hawkMark_62 rfl (lv_at hl 0 rfl) ?_
      refine lv_imul hx hb dX9_hawkMark_63 ?_
      refine lv_goto (tgt := 81) hx hb dX9_hawkMark_64 (by decide) ?_
      exact hr (pf1 (Option.some.inj h)) (pf2 (Option.some.inj h)) hG dX9_hawkMark_81
  intro H locs hG ls hl
  have hl : lv_has ls 4 [(0, .ref (ad 140)), (1, .int x1)] := hl
  unfold f_X9_hawkMark at h
  refine lv_aload_n hx hb dX9_hawkMark_0 rfl (lv_at hl 0 rfl) ?_
  refine lv_iload_n hx hb dX9_hawkMark_1 rfl (lv_at hl 1 rfl) ?_
  obtain ⟨q2, e_2, h⟩ := bd_e h
  refine g_ci hG (g_runV C hG (gR_9 gk_140) (c_X9_kindIn l D cs ad M x1 e_2) wm_X9_219 wi_X9_kindIn ws_X9_kindIn wz_X9 wc_X9_kindIn e_X9_kindIn (by decide) hl.1 (Nat.le_of_ble_eq_true rfl) dX9_hawkMark_2) (fun H locs hG => ?_)
  refine lv_istore_n (lv' := [(2, .int q2), (0, .ref (ad 140)), (1, .int x1)]) hx hb dX9_hawkMark_5 rfl hl (by decide) rfl (fun ls hl => ?_)
  refine lv_iload_n hx hb dX9_hawkMark_6 rfl (lv_at hl 0 rfl) ?_
  refine lv_iconst (v := 1) hx hb dX9_hawkMark_7 (by decide) ?_
  refine lv_icmp_eq (tgt := 27) hx hb dX9_hawkMark_8 (by decide) (fun c_8 => ?_) (fun c_8 => ?_)
  · have h := if_t c_8 h
    exact J_27 M x1 q2 h H locs hG ls (lv_sub hl [1, 2, 0] rfl)
  · have h := if_f c_8 h
    refine lv_aload_n hx hb dX9_hawkMark_11 rfl (lv_at hl 1 rfl) ?_
    refine lv_iload_n hx hb dX9_hawkMark_12 rfl (lv_at hl 0 rfl) ?_
    refine lv_iconst (v := 2) hx hb dX9_hawkMark_13 (by decide) ?_
    refine lv_icmp_ne (tgt := 22) hx hb dX9_hawkMark_14 (by decide) (fun c_14 => ?_) (fun c_14 => ?_)
    · have h := if_f c_14 h
      refine lv_bipush (v := 22) hx hb dX9_hawkMark_22 (by decide) ?_
      obtain ⟨q24, e_24, h⟩ := bd_e h
      refine g_cv hG (g_runV C hG (gR_9 gk_140) (c_X9_begins l D cs ad M (22 : Int32) e_24) wm_X9_225 wi_X9_begins ws_X9_begins wz_X9 wc_X9_begins e_X9_begins (by decide) hl.1 (Nat.le_of_ble_eq_true rfl) dX9_hawkMark_24) (fun H locs hG => ?_)
      exact J_27 q24 x1 q2 h H locs hG ls (lv_sub hl [1, 2, 0] rfl)
    · have h := if_t c_14 h
      refine lv_bipush (v := 24) hx hb dX9_hawkMark_17 (by decide) ?_
      refine lv_goto (tgt := 24) hx hb dX9_hawkMark_19 (by decide) ?_
      obtain ⟨q24, e_24, h⟩ := bd_e h
      refine g_cv hG (g_runV C hG (gR_9 gk_140) (c_X9_begins l D cs ad M (24 : Int32) e_24) wm_X9_225 wi_X9_begins ws_X9_begins wz_X9 wc_X9_begins e_X9_begins (by decide) hl.1 (Nat.le_of_ble_eq_true rfl) dX9_hawkMark_24) (fun H locs hG => ?_)
      exact J_27 q24 x1 q2 h H locs hG ls (lv_sub hl [1, 2, 0] rfl)
def f_X9_hawkSize_25 (M : Mem) (x1 : Int32) (x2 : Bool) : Option (Int32 × Mem) :=
  (f_X9_begins M (11 : Int32)).bind fun q28 =>
  (f_X9_begins q28 (10 : Int32)).bind fun q34 =>
  chk (ixb (((21 : Int32) + ((6 : Int32) * x1)) + (1 : Int32)) 57) <|
  (f_X9_hawkMark q34 x1).bind fun q53 =>
  nm (((q34 146 (((21 : Int32) + ((6 : Int32) * x1)) + (1 : Int32)).toNatClampNeg) + q53.1)) fun x3_57 =>
  if x2 = true then (
    some ((-x3_57), q53.2)
  ) else (
    some (x3_57, q53.2)
  )
def f_X9_hawkSize (M : Mem) (x1 : Int32) : Option (Int32 × Mem) :=
  (f_X9_kindIn M x1).bind fun q2 =>
  if q2 = (2 : Int32) then (
    if (1 : Int32) = (0 : Int32) then (
      f_X9_hawkSize_25 M x1 true
    ) else (
      (f_X9_begins M (12 : Int32)).bind fun q22 =>
      f_X9_hawkSize_25 q22 x1 true
    )
  ) else (
    if (0 : Int32) = (0 : Int32) then (
      f_X9_hawkSize_25 M x1 false
    ) else (
      (f_X9_begins M (12 : Int32)).bind fun q22 =>
      f_X9_hawkSize_25 q22 x1 false
    )
  )
theorem e_X9_hawkSize : yX9_hawkSize.cls = RX9 ∧ yX9_hawkSize.cls ≠ "java/lang/invoke/MethodHandle" ∧ yX9_hawkSize.cls ≠ "java/lang/invoke/VarHandle" ∧ (parseMethodDescriptor yX9_hawkSize.desc).map (fun d => d.parameters.length) = some 1 := by decide +kernel
set_option maxHeartbeats 4000000 in
set_option maxRecDepth 100000 in
theorem c_X9_hawkSize (l : Launch) (D : va_G) (cs : Nat → ClassId) (ad : Nat → Nat) (M : Mem) (x1 : Int32) {z : Int32 × Mem} (h : f_X9_hawkSize M x1 = some z) : CtI l yX9_hawkSize cX9_hawkSize 4 .int 2 D cs ad [.ref (ad 140), .int x1] M z.1 z.2 := by
  refine ct_i (own := RX9) (by decide) rfl (Nat.le_of_ble_eq_true rfl) ?_
  intro p e s m args below meth c Q C hr
  have hx := C.1
  have hb := C.2.1
  have hown := C.2.2.2.1
  have hts := C.2.2.2.2.1
  have J_25 : ∀ (M : Mem) (x1 : Int32) (x2 : Bool), f_X9_hawkSize_25 M x1 x2 = some z → GP p l e (rmk 2) s m args below meth c 0 0 Q D cs ad 4 25 [(0, .ref (ad 140)), (1, .int x1), (2, .int (bi x2))] [] M := by
    intro M x1 x2 h H locs hG ls hl
    unfold f_X9_hawkSize_25 at h
    refine lv_aload_n hx hb dX9_hawkSize_25 rfl (lv_at hl 0 rfl) ?_
    refine lv_bipush (v := 11) hx hb dX9_hawkSize_26 (by decide) ?_
    obtain ⟨q28, e_28, h⟩ := bd_e h
    refine g_cv hG (g_runV C hG (gR_9 gk_140) (c_X9_begins l D cs ad M (11 : Int32) e_28) wm_X9_225 wi_X9_begins ws_X9_begins wz_X9 wc_X9_begins e_X9_begins (by decide) hl.1 (Nat.le_of_ble_eq_true rfl) dX9_hawkSize_28) (fun H locs hG => ?_)
    refine lv_aload_n hx hb dX9_hawkSize_31 rfl (lv_at hl 0 rfl) ?_
    refine lv_bipush (v := 10) hx hb dX9_hawkSize_32 (by decide) ?_
    obtain ⟨q34, e_34, h⟩ := bd_e h
    refine g_cv hG (g_runV C hG (gR_9 gk_140) (c_X9_begins l D cs ad q28 (10 : Int32) e_34) wm_X9_225 wi_X9_begins ws_X9_begins wz_X9 wc_X9_begins e_X9_begins (by decide) hl.1 (Nat.le_of_ble_eq_true rfl) dX9_hawkSize_34) (fun H locs hG => ?_)
    refine lv_aload_n hx hb dX9_hawkSize_37 rfl (lv_at hl 0 rfl) ?_
    refine gf_X9_now C hG gk_140 wf_X9_25 dX9_hawkSize_38 ?_
    refine lv_bipush (v := 21) hx hb dX9_hawkSize_41 (by decide) ?_
    refine lv_bipush (v := 6) hx hb dX9_hawkSize_43 (by decide) ?_
    refine lv_iload_n hx hb dX9_hawkSize_45 rfl (lv_at hl 1 rfl) ?_
    refine lv_imul hx hb dX9_hawkSize_46 ?_
    refine lv_iadd hx hb dX9_hawkSize_47 ?_
    refine lv_iconst (v := 1) hx hb dX9_hawkSize_48 (by decide) ?_
    refine lv_iadd hx hb dX9_hawkSize_49 ?_
    obtain ⟨hi_50, h⟩ := ix_e h
    refine g_al C hG gk_146 gl_146 hi_50 rfl dX9_hawkSize_50 ?_
    refine lv_aload_n hx hb dX9_hawkSize_51 rfl (lv_at hl 0 rfl) ?_
    refine lv_iload_n hx hb dX9_hawkSize_52 rfl (lv_at hl 1 rfl) ?_
    obtain ⟨q53, e_53, h⟩ := bd_e h
    refine g_ci hG (g_runV C hG (gR_9 gk_140) (c_X9_hawkMark l D cs ad q34 x1 e_53) wm_X9_229 wi_X9_hawkMark ws_X9_hawkMark wz_X9 wc_X9_hawkMark e_X9_hawkMark (by decide) hl.1 (Nat.le_of_ble_eq_true rfl) dX9_hawkSize_53) (fun H locs hG => ?_)
    refine lv_iadd hx hb dX9_hawkSize_56 ?_
    refine lv_topi (fun x3_57 e3_57 => ?_)
    have h := nm_at e3_57 h
    refine lv_istore_n (lv' := [(3, .int x3_57), (0, .ref (ad 140)), (1, .int x1), (2, .int (bi x2))]) hx hb dX9_hawkSize_57 rfl hl (by decide) rfl (fun ls hl => ?_)
    refine lv_iload_n hx hb dX9_hawkSize_58 rfl (lv_at hl 3 rfl) ?_
    refine lv_if_eq (tgt := 67) hx hb dX9_hawkSize_59 (by decide) (fun c_59 => ?_) (fun c_59 => ?_)
    · have h := if_f (bi_f c_59) h
      refine lv_iload_n hx hb dX9_hawkSize_67 rfl (lv_at hl 0 rfl) ?_
      exact hr (pf1 (Option.some.inj h)) (pf2 (Option.some.inj h)) hG dX9_hawkSize_68
    · have h := if_t (bi_t c_59) h
      refine lv_iload_n hx hb dX9_hawkSize_62 rfl (lv_at hl 0 rfl) ?_
      refine lv_ineg hx hb dX9_hawkSize_63 ?_
      refine lv_goto (tgt := 68) hx hb dX9_hawkSize_64 (by decide) ?_
      exact hr (pf1 (Option.some.inj h)) (pf2 (Option.some.inj h)) hG dX9_hawkSize_68
  intro H locs hG ls hl
  have hl : lv_has ls 4 [(0, .ref (ad 140)), (1, .int x1)] := hl
  unfold f_X9_hawkSize at h
  refine lv_aload_n hx hb dX9_hawkSize_0 rfl (lv_at hl 0 rfl) ?_
  refine lv_iload_n hx hb dX9_hawkSize_1 rfl (lv_at hl 1 rfl) ?_
  obtain ⟨q2, e_2, h⟩ := bd_e h
  refine g_ci hG (g_runV C hG (gR_9 gk_140) (c_X9_kindIn l D cs ad M x1 e_2) wm_X9_219 wi_X9_kindIn ws_X9_kindIn wz_X9 wc_X9_kindIn e_X9_kindIn (by decide) hl.1 (Nat.le_of_ble_eq_true rfl) dX9_hawkSize_2) (fun H locs hG => ?_)
  refine lv_iconst (v := 2) hx hb dX9_hawkSize_5 (by decide) ?_
  refine lv_icmp_ne (tgt := 13) hx hb dX9_hawkSize_6 (by decide) (fun c_6 => ?_) (fun c_6 => ?_)
  · have h := if_f c_6 h
    refine lv_iconst (v := 0) hx hb dX9_hawkSize_13 (by decide) ?_
    refine lv_istore_n (lv' := [(2, .int 0), (0, .ref (ad 140)), (1, .int x1)]) hx hb dX9_hawkSize_14 rfl hl (by decide) rfl (fun ls hl => ?_)
    refine lv_iload_n hx hb dX9_hawkSize_15 rfl (lv_at hl 0 rfl) ?_
    refine lv_if_eq (tgt := 25) hx hb dX9_hawkSize_16 (by decide) (fun c_16 => ?_) (fun c_16 => ?_)
    · have h := if_t c_16 h
      exact J_25 M x1 false h H locs hG ls (lv_sub hl [1, 2, 0] rfl)
    · have h := if_f c_16 h
      refine lv_aload_n hx hb dX9_hawkSize_19 rfl (lv_at hl 1 rfl) ?_
      refine lv_bipush (v := 12) hx hb dX9_hawkSize_20 (by decide) ?_
      obtain ⟨q22, e_22, h⟩ := bd_e h
      refine g_cv hG (g_runV C hG (gR_9 gk_140) (c_X9_begins l D cs ad M (12 : Int32) e_22) wm_X9_225 wi_X9_begins ws_X9_begins wz_X9 wc_X9_begins e_X9_begins (by decide) hl.1 (Nat.le_of_ble_eq_true rfl) dX9_hawkSize_22) (fun H locs hG => ?_)
      exact J_25 q22 x1 false h H locs hG ls (lv_sub hl [1, 2, 0] rfl)
  · have h := if_t c_6 h
    refine lv_iconst (v := 1) hx hb dX9_hawkSize_9 (by decide) ?_
    refine lv_goto (tgt := 14) hx hb dX9_hawkSize_10 (by decide) ?_
    refine lv_istore_n (lv' := [(2, .int 1), (0, .ref (ad 140)), (1, .int x1)]) hx hb dX9_hawkSize_14 rfl hl (by decide) rfl (fun ls hl => ?_)
    refine lv_iload_n hx hb dX9_hawkSize_15 rfl (lv_at hl 0 rfl) ?_
    refine lv_if_eq (tgt := 25) hx hb dX9_hawkSize_16 (by decide) (fun c_16 => ?_) (fun c_16 => ?_)
    · have h := if_t c_16 h
      exact J_25 M x1 true h H locs hG ls (lv_sub hl [1, 2, 0] rfl)
    · have h := if_f c_16 h
      refine lv_aload_n hx hb dX9_hawkSize_19 rfl (lv_at hl 1 rfl) ?_
      refine lv_bipush (v := 12) hx hb dX9_hawkSize_20 (by decide) ?_
      obtain ⟨q22, e_22, h⟩ := bd_e h
      refine g_cv hG (g_runV C hG (gR_9 gk_140) (c_X9_begins l D cs ad M (12 : Int32) e_22) wm_X9_225 wi_X9_begins ws_X9_begins wz_X9 wc_X9_begins e_X9_begins (by decide) hl.1 (Nat.le_of_ble_eq_true rfl) dX9_hawkSize_22) (fun H locs hG => ?_)
      exact J_25 q22 x1 true h H locs hG ls (lv_sub hl [1, 2, 0] rfl)
def f_X9_nightMark (M : Mem) (x1 : Int32) : Option (Int32 × Mem) :=
  (f_X9_begins M (23 : Int32)).bind fun q3 =>
  (f_X9_begins q3 (20 : Int32)).bind fun q9 =>
  (f_X9_nightSize q9 x1).bind fun q15 =>
  some ((x1 - q15.1), q15.2)
theorem e_X9_nightMark : yX9_nightMark.cls = RX9 ∧ yX9_nightMark.cls ≠ "java/lang/invoke/MethodHandle" ∧ yX9_nightMark.cls ≠ "java/lang/invoke/VarHandle" ∧ (parseMethodDescriptor yX9_nightMark.desc).map (fun d => d.parameters.length) = some 1 := by decide +kernel
set_option maxHeartbeats 4000000 in
set_option maxRecDepth 100000 in
theorem c_X9_nightMark (l : Launch) (D : va_G) (cs : Nat → ClassId) (ad : Nat → Nat) (M : Mem) (x1 : Int32) {z : Int32 × Mem} (h : f_X9_nightMark M x1 = some z) : CtI l yX9_nightMark cX9_nightMark 2 .int 2 D cs ad [.ref (ad 140), .int x1] M z.1 z.2 := by
  refine ct_i (own := RX9) (by decide) rfl (Nat.le_of_ble_eq_true rfl) ?_
  intro p e s m args below meth c Q C hr
  have hx := C.1
  have hb := C.2.1
  have hown := C.2.2.2.1
  have hts := C.2.2.2.2.1
  intro H locs hG ls hl
  have hl : lv_has ls 2 [(0, .ref (ad 140)), (1, .int x1)] := hl
  unfold f_X9_nightMark at h
  refine lv_aload_n hx hb dX9_nightMark_0 rfl (lv_at hl 0 rfl) ?_
  refine lv_bipush (v := 23) hx hb dX9_nightMark_1 (by decide) ?_
  obtain ⟨q3, e_3, h⟩ := bd_e h
  refine g_cv hG (g_runV C hG (gR_9 gk_140) (c_X9_begins l D cs ad M (23 : Int32) e_3) wm_X9_225 wi_X9_begins ws_X9_begins wz_X9 wc_X9_begins e_X9_begins (by decide) hl.1 (Nat.le_of_ble_eq_true rfl) dX9_nightMark_3) (fun H locs hG => ?_)
  refine lv_aload_n hx hb dX9_nightMark_6 rfl (lv_at hl 0 rfl) ?_
  refine lv_bipush (v := 20) hx hb dX9_nightMark_7 (by decide) ?_
  obtain ⟨q9, e_9, h⟩ := bd_e h
  refine g_cv hG (g_runV C hG (gR_9 gk_140) (c_X9_begins l D cs ad q3 (20 : Int32) e_9) wm_X9_225 wi_X9_begins ws_X9_begins wz_X9 wc_X9_begins e_X9_begins (by decide) hl.1 (Nat.le_of_ble_eq_true rfl) dX9_nightMark_9) (fun H locs hG => ?_)
  refine lv_iload_n hx hb dX9_nightMark_12 rfl (lv_at hl 1 rfl) ?_
  refine lv_aload_n hx hb dX9_nightMark_13 rfl (lv_at hl 0 rfl) ?_
  refine lv_iload_n hx hb dX9_nightMark_14 rfl (lv_at hl 1 rfl) ?_
  obtain ⟨q15, e_15, h⟩ := bd_e h
  refine g_ci hG (g_runV C hG (gR_9 gk_140) (c_X9_nightSize l D cs ad q9 x1 e_15) wm_X9_232 wi_X9_nightSize ws_X9_nightSize wz_X9 wc_X9_nightSize e_X9_nightSize (by decide) hl.1 (Nat.le_of_ble_eq_true rfl) dX9_nightMark_15) (fun H locs hG => ?_)
  refine lv_isub hx hb dX9_nightMark_18 ?_
  exact hr (pf1 (Option.some.inj h)) (pf2 (Option.some.inj h)) hG dX9_nightMark_19
def f_X9_ask_39 (M : Mem) (x1 : Int32) (x2 : Int32) (s0 : Bool) : Option (Int32 × Mem) :=
  if x2 = (0 : Int32) then (
    if s0 = true then (
      (f_X9_nightSize M x1).bind fun q50 =>
      some (q50.1, q50.2)
    ) else (
      (f_X9_hawkSize M x1).bind fun q58 =>
      some (q58.1, q58.2)
    )
  ) else (
    if s0 = true then (
      (f_X9_nightMark M x1).bind fun q68 =>
      some (q68.1, q68.2)
    ) else (
      (f_X9_hawkMark M x1).bind fun q76 =>
      some (q76.1, q76.2)
    )
  )
def f_X9_ask (M : Mem) (x1 : Int32) (x2 : Int32) : Option (Int32 × Mem) :=
  if (f_X9_isBird M x1) = true then (
    if (f_X9_in x2 (0 : Int32) (1 : Int32)) = true then (
      nm (st M 140 23 (0 : Int32)) fun M22 =>
      (f_X9_kindIn M22 x1).bind fun q27 =>
      if q27 < (4 : Int32) then (
        f_X9_ask_39 M22 x1 x2 false
      ) else (
        f_X9_ask_39 M22 x1 x2 true
      )
    ) else (
      some ((-1000001 : Int32), M)
    )
  ) else (
    some ((-1000001 : Int32), M)
  )
theorem e_X9_ask : yX9_ask.cls = RX9 ∧ yX9_ask.cls ≠ "java/lang/invoke/MethodHandle" ∧ yX9_ask.cls ≠ "java/lang/invoke/VarHandle" ∧ (parseMethodDescriptor yX9_ask.desc).map (fun d => d.parameters.length) = some 2 := by decide +kernel
set_option maxHeartbeats 4000000 in
set_option maxRecDepth 100000 in
theorem c_X9_ask (l : Launch) (D : va_G) (cs : Nat → ClassId) (ad : Nat → Nat) (M : Mem) (x1 : Int32) (x2 : Int32) {z : Int32 × Mem} (h : f_X9_ask M x1 x2 = some z) : CtI l yX9_ask cX9_ask 4 .int 3 D cs ad [.ref (ad 140), .int x1, .int x2] M z.1 z.2 := by
  refine ct_i (own := RX9) (by decide) rfl (Nat.le_of_ble_eq_true rfl) ?_
  intro p e s m args below meth c Q C hr
  have hx := C.1
  have hb := C.2.1
  have hown := C.2.2.2.1
  have hts := C.2.2.2.2.1
  have J_39 : ∀ (M : Mem) (x1 : Int32) (x2 : Int32) (s0 : Bool), f_X9_ask_39 M x1 x2 s0 = some z → GP p l e (rmk 3) s m args below meth c 0 0 Q D cs ad 4 39 [(0, .ref (ad 140)), (1, .int x1), (2, .int x2)] [.int (bi s0)] M := by
    intro M x1 x2 s0 h H locs hG ls hl
    unfold f_X9_ask_39 at h
    refine lv_istore_n (lv' := [(3, .int (bi s0)), (0, .ref (ad 140)), (1, .int x1), (2, .int x2)]) hx hb dX9_ask_39 rfl hl (by decide) rfl (fun ls hl => ?_)
    refine lv_iload_n hx hb dX9_ask_40 rfl (lv_at hl 3 rfl) ?_
    refine lv_if_ne (tgt := 62) hx hb dX9_ask_41 (by decide) (fun c_41 => ?_) (fun c_41 => ?_)
    · have h := if_f c_41 h
      refine lv_iload_n hx hb dX9_ask_62 rfl (lv_at hl 0 rfl) ?_
      refine lv_if_eq (tgt := 74) hx hb dX9_ask_63 (by decide) (fun c_63 => ?_) (fun c_63 => ?_)
      · have h := if_f (bi_f c_63) h
        refine lv_aload_n hx hb dX9_ask_74 rfl (lv_at hl 1 rfl) ?_
        refine lv_iload_n hx hb dX9_ask_75 rfl (lv_at hl 2 rfl) ?_
        obtain ⟨q76, e_76, h⟩ := bd_e h
        refine g_ci hG (g_runV C hG (gR_9 gk_140) (c_X9_hawkMark l D cs ad M x1 e_76) wm_X9_229 wi_X9_hawkMark ws_X9_hawkMark wz_X9 wc_X9_hawkMark e_X9_hawkMark (by decide) hl.1 (Nat.le_of_ble_eq_true rfl) dX9_ask_76) (fun H locs hG => ?_)
        exact hr (pf1 (Option.some.inj h)) (pf2 (Option.some.inj h)) hG dX9_ask_79
      · have h := if_t (bi_t c_63) h
        refine lv_aload_n hx hb dX9_ask_66 rfl (lv_at hl 1 rfl) ?_
        refine lv_iload_n hx hb dX9_ask_67 rfl (lv_at hl 2 rfl) ?_
        obtain ⟨q68, e_68, h⟩ := bd_e h
        refine g_ci hG (g_runV C hG (gR_9 gk_140) (c_X9_nightMark l D cs ad M x1 e_68) wm_X9_238 wi_X9_nightMark ws_X9_nightMark wz_X9 wc_X9_nightMark e_X9_nightMark (by decide) hl.1 (Nat.le_of_ble_eq_true rfl) dX9_ask_68) (fun H locs hG => ?_)
        refine lv_goto (tgt := 79) hx hb dX9_ask_71 (by decide) ?_
        exact hr (pf1 (Option.some.inj h)) (pf2 (Option.some.inj h)) hG dX9_ask_79
    · have h := if_t c_41 h
      refine lv_iload_n hx hb dX9_ask_44 rfl (lv_at hl 0 rfl) ?_
      refine lv_if_eq (tgt := 56) hx hb dX9_ask_45 (by decide) (fun c_45 => ?_) (fun c_45 => ?_)
      · have h := if_f (bi_f c_45) h
        refine lv_aload_n hx hb dX9_ask_56 rfl (lv_at hl 1 rfl) ?_
        refine lv_iload_n hx hb dX9_ask_57 rfl (lv_at hl 2 rfl) ?_
        obtain ⟨q58, e_58, h⟩ := bd_e h
        refine g_ci hG (g_runV C hG (gR_9 gk_140) (c_X9_hawkSize l D cs ad M x1 e_58) wm_X9_235 wi_X9_hawkSize ws_X9_hawkSize wz_X9 wc_X9_hawkSize e_X9_hawkSize (by decide) hl.1 (Nat.le_of_ble_eq_true rfl) dX9_ask_58) (fun H locs hG => ?_)
        exact hr (pf1 (Option.some.inj h)) (pf2 (Option.some.inj h)) hG dX9_ask_61
      · have h := if_t (bi_t c_45) h
        refine lv_aload_n hx hb dX9_ask_48 rfl (lv_at hl 1 rfl) ?_
        refine lv_iload_n hx hb dX9_ask_49 rfl (lv_at hl 2 rfl) ?_
        obtain ⟨q50, e_50, h⟩ := bd_e h
        refine g_ci hG (g_runV C hG (gR_9 gk_140) (c_X9_nightSize l D cs ad M x1 e_50) wm_X9_232 wi_X9_nightSize ws_X9_nightSize wz_X9 wc_X9_nightSize e_X9_nightSize (by decide) hl.1 (Nat.le_of_ble_eq_true rfl) dX9_ask_50) (fun H locs hG => ?_)
        refine lv_goto (tgt := 61) hx hb dX9_ask_53 (by decide) ?_
        exact hr (pf1 (Option.some.inj h)) (pf2 (Option.some.inj h)) hG dX9_ask_61
  intro H locs hG ls hl
  have hl : lv_has ls 4 [(0, .ref (ad 140)), (1, .int x1), (2, .int x2)] := hl
  unfold f_X9_ask at h
  refine lv_aload_n hx hb dX9_ask_0 rfl (lv_at hl 0 rfl) ?_
  refine lv_iload_n hx hb dX9_ask_1 rfl (lv_at hl 1 rfl) ?_
  refine g_ci hG (g_runV C hG (gR_9 gk_140) (c_X9_isBird l D cs ad M x1 rfl) wm_X9_187 wi_X9_isBird ws_X9_isBird wz_X9 wc_X9_isBird e_X9_isBird (by decide) hl.1 (Nat.le_of_ble_eq_true rfl) dX9_ask_2) (fun H locs hG => ?_)
  refine lv_if_eq (tgt := 17) hx hb dX9_ask_5 (by decide) (fun c_5 => ?_) (fun c_5 => ?_)
  · have h := if_f (bi_f c_5) h
    refine lv_ldc (v := -1000001) hx hb hown (hts _ wk_X9_67) dX9_ask_17 ?_
    exact hr (pf1 (Option.some.inj h)) (pf2 (Option.some.inj h)) hG dX9_ask_19
  · have h := if_t (bi_t c_5) h
    refine lv_iload_n hx hb dX9_ask_8 rfl (lv_at hl 2 rfl) ?_
    refine lv_iconst (v := 0) hx hb dX9_ask_9 (by decide) ?_
    refine lv_iconst (v := 1) hx hb dX9_ask_10 (by decide) ?_
    refine g_ci hG (g_runS C hG (c_X9_in l D cs ad M x2 (0 : Int32) (1 : Int32) rfl) wm_X9_59 wt_X9_in wz_X9 wc_X9_in e_X9_in (by decide) hl.1 (Nat.le_of_ble_eq_true rfl) dX9_ask_11) (fun H locs hG => ?_)
    refine lv_if_ne (tgt := 20) hx hb dX9_ask_14 (by decide) (fun c_14 => ?_) (fun c_14 => ?_)
    · have h := if_t (bi_t c_14) h
      refine lv_aload_n hx hb dX9_ask_20 rfl (lv_at hl 0 rfl) ?_
      refine lv_iconst (v := 0) hx hb dX9_ask_21 (by decide) ?_
      refine gp_X9_traced C hG gk_140 wf_X9_222 dX9_ask_22 (fun M22 e_22 H locs hG => ?_)
      have h := nm_at e_22 h
      refine lv_aload_n hx hb dX9_ask_25 rfl (lv_at hl 0 rfl) ?_
      refine lv_iload_n hx hb dX9_ask_26 rfl (lv_at hl 1 rfl) ?_
      obtain ⟨q27, e_27, h⟩ := bd_e h
      refine g_ci hG (g_runV C hG (gR_9 gk_140) (c_X9_kindIn l D cs ad M22 x1 e_27) wm_X9_219 wi_X9_kindIn ws_X9_kindIn wz_X9 wc_X9_kindIn e_X9_kindIn (by decide) hl.1 (Nat.le_of_ble_eq_true rfl) dX9_ask_27) (fun H locs hG => ?_)
      refine lv_iconst (v := 4) hx hb dX9_ask_30 (by decide) ?_
      refine lv_icmp_lt (tgt := 38) hx hb dX9_ask_31 (by decide) (fun c_31 => ?_) (fun c_31 => ?_)
      · have h := if_t c_31 h
        refine lv_iconst (v := 0) hx hb dX9_ask_38 (by decide) ?_
        exact J_39 M22 x1 x2 false h H locs hG ls (lv_sub hl [0, 1, 2] rfl)
      · have h := if_f c_31 h
        refine lv_iconst (v := 1) hx hb dX9_ask_34 (by decide) ?_
        refine lv_goto (tgt := 39) hx hb dX9_ask_35 (by decide) ?_
        exact J_39 M22 x1 x2 true h H locs hG ls (lv_sub hl [0, 1, 2] rfl)
    · have h := if_f (bi_f c_14) h
      refine lv_ldc (v := -1000001) hx hb hown (hts _ wk_X9_67) dX9_ask_17 ?_
      exact hr (pf1 (Option.some.inj h)) (pf2 (Option.some.inj h)) hG dX9_ask_19
def f_X9_trace (M : Mem) (x1 : Int32) : Option Int32 :=
  if (f_X9_in x1 (0 : Int32) ((M 140 23) - (1 : Int32))) = true then (
    chk (ixb x1 16) <|
    some (M 154 x1.toNatClampNeg)
  ) else (
    some (-1000000 : Int32)
  )
theorem e_X9_trace : yX9_trace.cls = RX9 ∧ yX9_trace.cls ≠ "java/lang/invoke/MethodHandle" ∧ yX9_trace.cls ≠ "java/lang/invoke/VarHandle" ∧ (parseMethodDescriptor yX9_trace.desc).map (fun d => d.parameters.length) = some 1 := by decide +kernel
set_option maxHeartbeats 4000000 in
set_option maxRecDepth 100000 in
theorem c_X9_trace (l : Launch) (D : va_G) (cs : Nat → ClassId) (ad : Nat → Nat) (M : Mem) (x1 : Int32) {z : Int32} (h : f_X9_trace M x1 = some z) : CtI l yX9_trace cX9_trace 2 .int 1 D cs ad [.ref (ad 140), .int x1] M z M := by
  refine ct_i (own := RX9) (by decide) rfl (Nat.le_of_ble_eq_true rfl) ?_
  intro p e s m args below meth c Q C hr
  have hx := C.1
  have hb := C.2.1
  have hown := C.2.2.2.1
  have hts := C.2.2.2.2.1
  intro H locs hG ls hl
  have hl : lv_has ls 2 [(0, .ref (ad 140)), (1, .int x1)] := hl
  unfold f_X9_trace at h
  refine lv_iload_n hx hb dX9_trace_0 rfl (lv_at hl 1 rfl) ?_
  refine lv_iconst (v := 0) hx hb dX9_trace_1 (by decide) ?_
  refine lv_aload_n hx hb dX9_trace_2 rfl (lv_at hl 0 rfl) ?_
  refine gf_X9_traced C hG gk_140 wf_X9_222 dX9_trace_3 ?_
  refine lv_iconst (v := 1) hx hb dX9_trace_6 (by decide) ?_
  refine lv_isub hx hb dX9_trace_7 ?_
  refine g_ci hG (g_runS C hG (c_X9_in l D cs ad M x1 (0 : Int32) ((M 140 23) - (1 : Int32)) rfl) wm_X9_59 wt_X9_in wz_X9 wc_X9_in e_X9_in (by decide) hl.1 (Nat.le_of_ble_eq_true rfl) dX9_trace_8) (fun H locs hG => ?_)
  refine lv_if_eq (tgt := 23) hx hb dX9_trace_11 (by decide) (fun c_11 => ?_) (fun c_11 => ?_)
  · have h := if_f (bi_f c_11) h
    refine lv_ldc (v := -1000000) hx hb hown (hts _ wk_X9_53) dX9_trace_23 ?_
    exact hr (Option.some.inj h) rfl hG dX9_trace_25
  · have h := if_t (bi_t c_11) h
    refine lv_aload_n hx hb dX9_trace_14 rfl (lv_at hl 0 rfl) ?_
    refine gf_X9_trace C hG gk_140 wf_X9_50 dX9_trace_15 ?_
    refine lv_iload_n hx hb dX9_trace_18 rfl (lv_at hl 1 rfl) ?_
    obtain ⟨hi_19, h⟩ := ix_e h
    refine g_al C hG gk_154 gl_154 hi_19 rfl dX9_trace_19 ?_
    refine lv_goto (tgt := 25) hx hb dX9_trace_20 (by decide) ?_
    exact hr (Option.some.inj h) rfl hG dX9_trace_25
def f_X9_count_50 (M : Mem) (r50 : (Int32 × Int32) → Option Int32) (x2 : Int32) (x3 : Int32) : Option Int32 :=
  if (8 : Int32) ≤ x3 then (
    some x2
  ) else (
    (f_X9_isMissing M x3).bind fun q59 =>
    if q59 = true then (
      nm ((x2 + (0 : Int32))) fun x2_71 =>
      nm (x3 + (1 : Int32)) fun x3_72 =>
      r50 (x2_71, x3_72)
    ) else (
      nm ((x2 + (1 : Int32))) fun x2_71 =>
      nm (x3 + (1 : Int32)) fun x3_72 =>
      r50 (x2_71, x3_72)
    )
  )
def f_X9_count (M : Mem) (x1 : Int32) : Option Int32 :=
  if x1 = (0 : Int32) then (
    iter (fun rec a => f_X9_count_50 M rec a.1 a.2) fuel ((0 : Int32), (0 : Int32))
  ) else (
  if x1 = (1 : Int32) then (
    some (M 146 2)
  ) else (
  if x1 = (2 : Int32) then (
    some (M 146 5)
  ) else (
  if x1 = (3 : Int32) then (
    some (M 146 3)
  ) else (
  if x1 = (4 : Int32) then (
    (f_X9_flying M 146).bind fun q105 =>
    some q105
  ) else (
  if x1 = (5 : Int32) then (
    some (M 146 4)
  ) else (
  if x1 = (6 : Int32) then (
    some (M 140 17)
  ) else (
  if x1 = (7 : Int32) then (
    some (M 140 6)
  ) else (
    some (-1000001 : Int32)
  ))))))))
theorem e_X9_count : yX9_count.cls = RX9 ∧ yX9_count.cls ≠ "java/lang/invoke/MethodHandle" ∧ yX9_count.cls ≠ "java/lang/invoke/VarHandle" ∧ (parseMethodDescriptor yX9_count.desc).map (fun d => d.parameters.length) = some 1 := by decide +kernel
set_option maxHeartbeats 4000000 in
set_option maxRecDepth 100000 in
theorem c_X9_count (l : Launch) (D : va_G) (cs : Nat → ClassId) (ad : Nat → Nat) (M : Mem) (x1 : Int32) {z : Int32} (h : f_X9_count M x1 = some z) : CtI l yX9_count cX9_count 4 .int 1 D cs ad [.ref (ad 140), .int x1] M z M := by
  refine ct_i (own := RX9) (by decide) rfl (Nat.le_of_ble_eq_true rfl) ?_
  intro p e s m args below meth c Q C hr
  have hx := C.1
  have hb := C.2.1
  have hown := C.2.2.2.1
  have hts := C.2.2.2.2.1
  have J_50 : ∀ (n : Nat) (a : Int32 × Int32), iter (fun rec a => f_X9_count_50 M rec a.1 a.2) n a = some z → GP p l e (rmk 1) s m args below meth c 0 0 Q D cs ad 4 50 [(0, .ref (ad 140)), (2, .int a.1), (3, .int a.2)] [] M := by
    refine iter_ind (fun r50 hr50 a h => ?_)
    obtain ⟨x2, x3⟩ := a
    have h : f_X9_count_50 M r50 x2 x3 = some z := h
    intro H locs hG ls hl
    have hG : GH D cs ad s M H locs := hG
    have hl : lv_has ls 4 [(0, .ref (ad 140)), (2, .int x2), (3, .int x3)] := hl
    unfold f_X9_count_50 at h
    refine lv_iload_n hx hb dX9_count_50 rfl (lv_at hl 2 rfl) ?_
    refine lv_bipush (v := 8) hx hb dX9_count_51 (by decide) ?_
    refine lv_icmp_ge (tgt := 78) hx hb dX9_count_53 (by decide) (fun c_53 => ?_) (fun c_53 => ?_)
    · have h := if_t c_53 h
      refine lv_iload_n hx hb dX9_count_78 rfl (lv_at hl 1 rfl) ?_
      exact hr (Option.some.inj h) rfl hG dX9_count_79
    · have h := if_f c_53 h
      refine lv_iload_n hx hb dX9_count_56 rfl (lv_at hl 1 rfl) ?_
      refine lv_aload_n hx hb dX9_count_57 rfl (lv_at hl 0 rfl) ?_
      refine lv_iload_n hx hb dX9_count_58 rfl (lv_at hl 2 rfl) ?_
      obtain ⟨q59, e_59, h⟩ := bd_e h
      refine g_ci hG (g_runV C hG (gR_9 gk_140) (c_X9_isMissing l D cs ad M x3 e_59) wm_X9_75 wi_X9_isMissing ws_X9_isMissing wz_X9 wc_X9_isMissing e_X9_isMissing (by decide) hl.1 (Nat.le_of_ble_eq_true rfl) dX9_count_59) (fun H locs hG => ?_)
      refine lv_if_eq (tgt := 69) hx hb dX9_count_62 (by decide) (fun c_62 => ?_) (fun c_62 => ?_)
      · have h := if_f (bi_f c_62) h
        refine lv_iconst (v := 1) hx hb dX9_count_69 (by decide) ?_
        refine lv_iadd hx hb dX9_count_70 ?_
        refine lv_topi (fun x2_71 e2_71 => ?_)
        have h := nm_at e2_71 h
        refine lv_istore_n (lv' := [(2, .int x2_71), (0, .ref (ad 140)), (3, .int x3)]) hx hb dX9_count_71 rfl hl (by decide) rfl (fun ls hl => ?_)
        obtain ⟨x3_72, e3_72⟩ : ∃ y : Int32, y = x3 + (1 : Int32) := ⟨_, rfl⟩
        have h := nm_at e3_72 h
        refine lv_iinc (v := x3_72) (lv' := [(3, .int x3_72), (2, .int x2_71), (0, .ref (ad 140))]) hx hb dX9_count_72 hl (k := 2) rfl (by rw [e3_72]; rfl) (by decide) rfl (fun ls hl => ?_)
        refine lv_goto (tgt := 50) hx hb dX9_count_75 (by decide) ?_
        exact hr50 (x2_71, x3_72) h H locs hG ls (lv_sub hl [2, 1, 0] rfl)
      · have h := if_t (bi_t c_62) h
        refine lv_iconst (v := 0) hx hb dX9_count_65 (by decide) ?_
        refine lv_goto (tgt := 70) hx hb dX9_count_66 (by decide) ?_
        refine lv_iadd hx hb dX9_count_70 ?_
        refine lv_topi (fun x2_71 e2_71 => ?_)
        have h := nm_at e2_71 h
        refine lv_istore_n (lv' := [(2, .int x2_71), (0, .ref (ad 140)), (3, .int x3)]) hx hb dX9_count_71 rfl hl (by decide) rfl (fun ls hl => ?_)
        obtain ⟨x3_72, e3_72⟩ : ∃ y : Int32, y = x3 + (1 : Int32) := ⟨_, rfl⟩
        have h := nm_at e3_72 h
        refine lv_iinc (v := x3_72) (lv' := [(3, .int x3_72), (2, .int x2_71), (0, .ref (ad 140))]) hx hb dX9_count_72 hl (k := 2) rfl (by rw [e3_72]; rfl) (by decide) rfl (fun ls hl => ?_)
        refine lv_goto (tgt := 50) hx hb dX9_count_75 (by decide) ?_
        exact hr50 (x2_71, x3_72) h H locs hG ls (lv_sub hl [2, 1, 0] rfl)
  intro H locs hG ls hl
  have hl : lv_has ls 4 [(0, .ref (ad 140)), (1, .int x1)] := hl
  unfold f_X9_count at h
  refine lv_iconst (v := 0) hx hb dX9_count_0 (by decide) ?_
  refine lv_istore_n (lv' := [(2, .int 0), (0, .ref (ad 140)), (1, .int x1)]) hx hb dX9_count_1 rfl hl (by decide) rfl (fun ls hl => ?_)
  refine lv_iload_n hx hb dX9_count_2 rfl (lv_at hl 2 rfl) ?_
  by_cases c_3_0 : x1 = (0 : Int32)
  · have h := if_t c_3_0 h
    refine g_tsw (tgt := 48) (off := 45) hx hb dX9_count_3 (by rw [c_3_0]; rfl) (by decide) ?_
    refine lv_iconst (v := 0) hx hb dX9_count_48 (by decide) ?_
    refine lv_istore_n (lv' := [(3, .int 0), (2, .int 0), (0, .ref (ad 140)), (1, .int x1)]) hx hb dX9_count_49 rfl hl (by decide) rfl (fun ls hl => ?_)
    exact J_50 _ ((0 : Int32), (0 : Int32)) h H locs hG ls (lv_sub hl [2, 1, 0] rfl)
  have h := if_f c_3_0 h
  by_cases c_3_1 : x1 = (1 : Int32)
  · have h := if_t c_3_1 h
    refine g_tsw (tgt := 80) (off := 77) hx hb dX9_count_3 (by rw [c_3_1]; rfl) (by decide) ?_
    refine lv_aload_n hx hb dX9_count_80 rfl (lv_at hl 1 rfl) ?_
    refine gf_X9_now C hG gk_140 wf_X9_25 dX9_count_81 ?_
    refine lv_iconst (v := 2) hx hb dX9_count_84 (by decide) ?_
    refine g_al (j := 2) C hG gk_146 gl_146 (ixl rfl) (by decide) dX9_count_85 ?_
    exact hr (Option.some.inj h) rfl hG dX9_count_86
  have h := if_f c_3_1 h
  by_cases c_3_2 : x1 = (2 : Int32)
  · have h := if_t c_3_2 h
    refine g_tsw (tgt := 87) (off := 84) hx hb dX9_count_3 (by rw [c_3_2]; rfl) (by decide) ?_
    refine lv_aload_n hx hb dX9_count_87 rfl (lv_at hl 1 rfl) ?_
    refine gf_X9_now C hG gk_140 wf_X9_25 dX9_count_88 ?_
    refine lv_iconst (v := 5) hx hb dX9_count_91 (by decide) ?_
    refine g_al (j := 5) C hG gk_146 gl_146 (ixl rfl) (by decide) dX9_count_92 ?_
    exact hr (Option.some.inj h) rfl hG dX9_count_93
  have h := if_f c_3_2 h
  by_cases c_3_3 : x1 = (3 : Int32)
  · have h := if_t c_3_3 h
    refine g_tsw (tgt := 94) (off := 91) hx hb dX9_count_3 (by rw [c_3_3]; rfl) (by decide) ?_
    refine lv_aload_n hx hb dX9_count_94 rfl (lv_at hl 1 rfl) ?_
    refine gf_X9_now C hG gk_140 wf_X9_25 dX9_count_95 ?_
    refine lv_iconst (v := 3) hx hb dX9_count_98 (by decide) ?_
    refine g_al (j := 3) C hG gk_146 gl_146 (ixl rfl) (by decide) dX9_count_99 ?_
    exact hr (Option.some.inj h) rfl hG dX9_count_100
  have h := if_f c_3_3 h
  by_cases c_3_4 : x1 = (4 : Int32)
  · have h := if_t c_3_4 h
    refine g_tsw (tgt := 101) (off := 98) hx hb dX9_count_3 (by rw [c_3_4]; rfl) (by decide) ?_
    refine lv_aload_n hx hb dX9_count_101 rfl (lv_at hl 1 rfl) ?_
    refine gf_X9_now C hG gk_140 wf_X9_25 dX9_count_102 ?_
    obtain ⟨q105, e_105, h⟩ := bd_e h
    refine g_ci hG (g_runS C hG (c_X9_flying l D cs ad M gk_146 gl_146 e_105) wm_X9_177 wt_X9_flying wz_X9 wc_X9_flying e_X9_flying (by decide) hl.1 (Nat.le_of_ble_eq_true rfl) dX9_count_105) (fun H locs hG => ?_)
    exact hr (Option.some.inj h) rfl hG dX9_count_108
  have h := if_f c_3_4 h
  by_cases c_3_5 : x1 = (5 : Int32)
  · have h := if_t c_3_5 h
    refine g_tsw (tgt := 109) (off := 106) hx hb dX9_count_3 (by rw [c_3_5]; rfl) (by decide) ?_
    refine lv_aload_n hx hb dX9_count_109 rfl (lv_at hl 1 rfl) ?_
    refine gf_X9_now C hG gk_140 wf_X9_25 dX9_count_110 ?_
    refine lv_iconst (v := 4) hx hb dX9_count_113 (by decide) ?_
    refine g_al (j := 4) C hG gk_146 gl_146 (ixl rfl) (by decide) dX9_count_114 ?_
    exact hr (Option.some.inj h) rfl hG dX9_count_115
  have h := if_f c_3_5 h
  by_cases c_3_6 : x1 = (6 : Int32)
  · have h := if_t c_3_6 h
    refine g_tsw (tgt := 116) (off := 113) hx hb dX9_count_3 (by rw [c_3_6]; rfl) (by decide) ?_
    refine lv_aload_n hx hb dX9_count_116 rfl (lv_at hl 1 rfl) ?_
    refine gf_X9_acts C hG gk_140 wf_X9_141 dX9_count_117 ?_
    exact hr (Option.some.inj h) rfl hG dX9_count_120
  have h := if_f c_3_6 h
  by_cases c_3_7 : x1 = (7 : Int32)
  · have h := if_t c_3_7 h
    refine g_tsw (tgt := 121) (off := 118) hx hb dX9_count_3 (by rw [c_3_7]; rfl) (by decide) ?_
    refine lv_aload_n hx hb dX9_count_121 rfl (lv_at hl 1 rfl) ?_
    refine gf_X9_taped C hG gk_140 wf_X9_85 dX9_count_122 ?_
    exact hr (Option.some.inj h) rfl hG dX9_count_125
  have h := if_f c_3_7 h
  refine g_tsw (tgt := 126) (off := 123) hx hb dX9_count_3 ?_ (by decide) ?_
  · have n_0 := i32_ne c_3_0 (j := 0) rfl
    have n_1 := i32_ne c_3_1 (j := 1) rfl
    have n_2 := i32_ne c_3_2 (j := 2) rfl
    have n_3 := i32_ne c_3_3 (j := 3) rfl
    have n_4 := i32_ne c_3_4 (j := 4) rfl
    have n_5 := i32_ne c_3_5 (j := 5) rfl
    have n_6 := i32_ne c_3_6 (j := 6) rfl
    have n_7 := i32_ne c_3_7 (j := 7) rfl
    rcases (show (x1).toInt < 0 ∨ 7 < (x1).toInt by omega) with q | q
    · exact if_pos (Or.inl q)
    · exact if_pos (Or.inr q)
  · refine lv_ldc (v := -1000001) hx hb hown (hts _ wk_X9_67) dX9_count_126 ?_
    exact hr (Option.some.inj h) rfl hG dX9_count_128
def f_X9_status (M : Mem) : Int32 :=
  (M 140 4)
theorem e_X9_status : yX9_status.cls = RX9 ∧ yX9_status.cls ≠ "java/lang/invoke/MethodHandle" ∧ yX9_status.cls ≠ "java/lang/invoke/VarHandle" ∧ (parseMethodDescriptor yX9_status.desc).map (fun d => d.parameters.length) = some 0 := by decide +kernel
set_option maxHeartbeats 4000000 in
set_option maxRecDepth 100000 in
theorem c_X9_status (l : Launch) (D : va_G) (cs : Nat → ClassId) (ad : Nat → Nat) (M : Mem) {z : Int32} (h : f_X9_status M = z) : CtI l yX9_status cX9_status 1 .int 0 D cs ad [.ref (ad 140)] M z M := by
  refine ct_i (own := RX9) (by decide) rfl (Nat.le_of_ble_eq_true rfl) ?_
  intro p e s m args below meth c Q C hr
  have hx := C.1
  have hb := C.2.1
  have hown := C.2.2.2.1
  have hts := C.2.2.2.2.1
  intro H locs hG ls hl
  have hl : lv_has ls 1 [(0, .ref (ad 140))] := hl
  unfold f_X9_status at h
  refine lv_aload_n hx hb dX9_status_0 rfl (lv_at hl 0 rfl) ?_
  refine gf_X9_status C hG gk_140 wf_X9_54 dX9_status_1 ?_
  exact hr h rfl hG dX9_status_4
