def f_X9_copies_3 (i0 : Nat) (i2 : Nat) (x1 : Int32) (x3 : Int32) (r3 : (Mem × Int32) → Option Mem) (M : Mem) (x4 : Int32) : Option Mem :=
  if (57 : Int32) ≤ x4 then (
    some M
  ) else (
    chk (ixb (x1 + x4) (gL i0)) <|
    chk (ixb (x3 + x4) (gL i2)) <|
    nm (st M i2 ((x3 + x4).toNatClampNeg) (M i0 (x1 + x4).toNatClampNeg)) fun M21 =>
    nm (x4 + (1 : Int32)) fun x4_22 =>
    r3 (M21, x4_22)
  )
def f_X9_copies (M : Mem) (i0 : Nat) (x1 : Int32) (i2 : Nat) (x3 : Int32) : Option Mem :=
  iter (fun rec a => f_X9_copies_3 i0 i2 x1 x3 rec a.1 a.2) fuel (M, (0 : Int32))
theorem e_X9_copies : yX9_copies.cls ≠ "java/lang/invoke/MethodHandle" ∧ yX9_copies.cls ≠ "java/lang/invoke/VarHandle" ∧ (parseMethodDescriptor yX9_copies.desc).map (fun d => d.parameters.length) = some 4 := by decide +kernel
set_option maxHeartbeats 4000000 in
set_option maxRecDepth 100000 in
theorem c_X9_copies (l : Launch) (D : va_G) (cs : Nat → ClassId) (ad : Nat → Nat) (M : Mem) {i0 : Nat} (k_i0 : gK i0 = 10) (x1 : Int32) {i2 : Nat} (k_i2 : gK i2 = 10) (x3 : Int32) {z : Mem} (h : f_X9_copies M i0 x1 i2 x3 = some z) : CtV l yX9_copies cX9_copies 5 0 D cs ad [.ref (ad i0), .int x1, .ref (ad i2), .int x3] M z := by
  refine ct_v (own := RX9) (by decide) rfl (Nat.le_of_ble_eq_true rfl) ?_
  intro p e s m args below meth c Q C hr
  have hx := C.1
  have hb := C.2.1
  have hown := C.2.2.2.1
  have hts := C.2.2.2.2.1
  have J_3 : ∀ (x1 : Int32) (x3 : Int32) (n : Nat) (a : Mem × Int32), iter (fun rec a => f_X9_copies_3 i0 i2 x1 x3 rec a.1 a.2) n a = some z → GP p l e (rmk 0) s m args below meth c 0 0 Q D cs ad 5 3 [(0, .ref (ad i0)), (1, .int x1), (2, .ref (ad i2)), (3, .int x3), (4, .int a.2)] [] a.1 := by
    intro x1 x3
    refine iter_ind (fun r3 hr3 a h => ?_)
    obtain ⟨M, x4⟩ := a
    have h : f_X9_copies_3 i0 i2 x1 x3 r3 M x4 = some z := h
    intro H locs hG ls hl
    have hG : GH D cs ad s M H locs := hG
    have hl : lv_has ls 5 [(0, .ref (ad i0)), (1, .int x1), (2, .ref (ad i2)), (3, .int x3), (4, .int x4)] := hl
    unfold f_X9_copies_3 at h
    refine lv_iload hx hb dX9_copies_3 (lv_at hl 4 rfl) ?_
    refine lv_bipush (v := 57) hx hb dX9_copies_5 (by decide) ?_
    refine lv_icmp_ge (tgt := 28) hx hb dX9_copies_7 (by decide) (fun c_7 => ?_) (fun c_7 => ?_)
    · have h := if_t c_7 h
      exact hr (Option.some.inj h) hG dX9_copies_28
    · have h := if_f c_7 h
      refine lv_aload_n hx hb dX9_copies_10 rfl (lv_at hl 2 rfl) ?_
      refine lv_iload_n hx hb dX9_copies_11 rfl (lv_at hl 3 rfl) ?_
      refine lv_iload hx hb dX9_copies_12 (lv_at hl 4 rfl) ?_
      refine lv_iadd hx hb dX9_copies_14 ?_
      refine lv_aload_n hx hb dX9_copies_15 rfl (lv_at hl 0 rfl) ?_
      refine lv_iload_n hx hb dX9_copies_16 rfl (lv_at hl 1 rfl) ?_
      refine lv_iload hx hb dX9_copies_17 (lv_at hl 4 rfl) ?_
      refine lv_iadd hx hb dX9_copies_19 ?_
      obtain ⟨hi_20, h⟩ := ix_e h
      refine g_al C hG k_i0 rfl hi_20 rfl dX9_copies_20 ?_
      obtain ⟨hi_21, h⟩ := ix_e h
      refine g_as C hG k_i2 rfl hi_21 rfl dX9_copies_21 (fun M21 e_21 H locs hG => ?_)
      have h := nm_at e_21 h
      obtain ⟨x4_22, e4_22⟩ : ∃ y : Int32, y = x4 + (1 : Int32) := ⟨_, rfl⟩
      have h := nm_at e4_22 h
      refine lv_iinc (v := x4_22) (lv' := [(4, .int x4_22), (0, .ref (ad i0)), (1, .int x1), (2, .ref (ad i2)), (3, .int x3)]) hx hb dX9_copies_22 hl (k := 4) rfl (by rw [e4_22]; rfl) (by decide) rfl (fun ls hl => ?_)
      refine lv_goto (tgt := 3) hx hb dX9_copies_25 (by decide) ?_
      exact hr3 (M21, x4_22) h H locs hG ls (lv_sub hl [1, 2, 3, 4, 0] rfl)
  intro H locs hG ls hl
  have hl : lv_has ls 5 [(0, .ref (ad i0)), (1, .int x1), (2, .ref (ad i2)), (3, .int x3)] := hl
  unfold f_X9_copies at h
  refine lv_iconst (v := 0) hx hb dX9_copies_0 (by decide) ?_
  refine lv_istore (lv' := [(4, .int 0), (0, .ref (ad i0)), (1, .int x1), (2, .ref (ad i2)), (3, .int x3)]) hx hb dX9_copies_1 hl (by decide) rfl (fun ls hl => ?_)
  exact J_3 x1 x3 _ (M, (0 : Int32)) h H locs hG ls (lv_sub hl [1, 2, 3, 4, 0] rfl)
def f_X9_flight_210 (M : Mem) : Option (Int32 × Mem) :=
  nm (st M 140 6 (0 : Int32)) fun M212 =>
  if (f_X9_isWell M212) = true then (
    nm (st M212 147 1 (1 : Int32)) fun M236 =>
    (f_X9_copies M236 147 (0 : Int32) 146 (0 : Int32)).bind fun q247 =>
    nm (st q247 140 17 (0 : Int32)) fun M252 =>
    some ((M252 146 5), M252)
  ) else (
    some (((-1000100 : Int32) - (M212 140 8)), M212)
  )
def f_X9_flight_189 (M : Mem) : Option (Int32 × Mem) :=
  if (f_X9_isWell M) = true then (
    if (M 140 11) = (0 : Int32) then (
      f_X9_flight_210 M
    ) else (
      (f_X9_takes M false (1 : Int32)).bind fun q206 =>
      f_X9_flight_210 q206.2
    )
  ) else (
    f_X9_flight_210 M
  )
def f_X9_flight_157 (r157 : Mem → Option (Int32 × Mem)) (M : Mem) : Option (Int32 × Mem) :=
  if (f_X9_isWell M) = true then (
    if (M 140 11) = (1 : Int32) then (
      if (f_X9_kindOf (M 140 12)) ≤ (0 : Int32) then (
        f_X9_flight_189 M
      ) else (
        (f_X9_readsBird M).bind fun q183 =>
        r157 q183
      )
    ) else (
      f_X9_flight_189 M
    )
  ) else (
    f_X9_flight_189 M
  )
def f_X9_flight_126 (r126 : Mem → Option (Int32 × Mem)) (M : Mem) : Option (Int32 × Mem) :=
  if (f_X9_isWell M) = true then (
    if (M 140 11) = (1 : Int32) then (
      if (M 140 12) = (118 : Int32) then (
        (f_X9_readsValley M).bind fun q151 =>
        r126 q151
      ) else (
        iter (fun rec a => f_X9_flight_157 rec a) fuel M
      )
    ) else (
      iter (fun rec a => f_X9_flight_157 rec a) fuel M
    )
  ) else (
    iter (fun rec a => f_X9_flight_157 rec a) fuel M
  )
def f_X9_flight_90 (M : Mem) (s1 : Bool) : Option (Int32 × Mem) :=
  (f_X9_takes M s1 (1 : Int32)).bind fun q91 =>
  if (f_X9_isWell q91.2) = true then (
    if (q91.2 140 11) = (1 : Int32) then (
      if (q91.2 140 12) = (118 : Int32) then (
        iter (fun rec a => f_X9_flight_126 rec a) fuel q91.2
      ) else (
        (f_X9_takes q91.2 false (1 : Int32)).bind fun q122 =>
        iter (fun rec a => f_X9_flight_126 rec a) fuel q122.2
      )
    ) else (
      (f_X9_takes q91.2 false (1 : Int32)).bind fun q122 =>
      iter (fun rec a => f_X9_flight_126 rec a) fuel q122.2
    )
  ) else (
    iter (fun rec a => f_X9_flight_126 rec a) fuel q91.2
  )
def f_X9_flight_58 (M : Mem) (s1 : Bool) : Option (Int32 × Mem) :=
  (f_X9_takes M s1 (1 : Int32)).bind fun q59 =>
  (f_X9_figure q59.2 (0 : Int32) (9 : Int32)).bind fun q72 =>
  nm (st q72.2 147 0 q72.1) fun M75 =>
  if (M75 140 11) = (4 : Int32) then (
    f_X9_flight_90 M75 true
  ) else (
    f_X9_flight_90 M75 false
  )
def f_X9_flight_2 (r2 : (Mem × Int32) → Option (Int32 × Mem)) (M : Mem) (x1 : Int32) : Option (Int32 × Mem) :=
  if (57 : Int32) ≤ x1 then (
    nm (st M 140 9 (0 : Int32)) fun M23 =>
    nm (st M23 140 8 (-1 : Int32)) fun M28 =>
    (f_X9_advances M28).bind fun q32 =>
    if (q32 140 11) = (1 : Int32) then (
      if (q32 140 12) = (102 : Int32) then (
        f_X9_flight_58 q32 true
      ) else (
        f_X9_flight_58 q32 false
      )
    ) else (
      f_X9_flight_58 q32 false
    )
  ) else (
    chk (ixb x1 57) <|
    nm (st M 147 x1.toNatClampNeg (0 : Int32)) fun M14 =>
    nm (x1 + (1 : Int32)) fun x1_15 =>
    r2 (M14, x1_15)
  )
def f_X9_flight (M : Mem) : Option (Int32 × Mem) :=
  iter (fun rec a => f_X9_flight_2 rec a.1 a.2) fuel (M, (0 : Int32))
theorem e_X9_flight : yX9_flight.cls = RX9 ∧ yX9_flight.cls ≠ "java/lang/invoke/MethodHandle" ∧ yX9_flight.cls ≠ "java/lang/invoke/VarHandle" ∧ (parseMethodDescriptor yX9_flight.desc).map (fun d => d.parameters.length) = some 0 := by decide +kernel
set_option maxHeartbeats 4000000 in
set_option maxRecDepth 100000 in
theorem c_X9_flight (l : Launch) (D : va_G) (cs : Nat → ClassId) (ad : Nat → Nat) (M : Mem) {z : Int32 × Mem} (h : f_X9_flight M = some z) : CtI l yX9_flight cX9_flight 2 .int 6 D cs ad [.ref (ad 140)] M z.1 z.2 := by
  refine ct_i (own := RX9) (by decide) rfl (Nat.le_of_ble_eq_true rfl) ?_
  intro p e s m args below meth c Q C hr
  have hx := C.1
  have hb := C.2.1
  have hown := C.2.2.2.1
  have hts := C.2.2.2.2.1
  have J_210 : ∀ (M : Mem), f_X9_flight_210 M = some z → GP p l e (rmk 6) s m args below meth c 0 0 Q D cs ad 2 210 [(0, .ref (ad 140))] [] M := by
    intro M h H locs hG ls hl
    unfold f_X9_flight_210 at h
    refine lv_aload_n hx hb dX9_flight_210 rfl (lv_at hl 0 rfl) ?_
    refine lv_iconst (v := 0) hx hb dX9_flight_211 (by decide) ?_
    refine gp_X9_taped C hG gk_140 wf_X9_85 dX9_flight_212 (fun M212 e_212 H locs hG => ?_)
    have h := nm_at e_212 h
    refine lv_aload_n hx hb dX9_flight_215 rfl (lv_at hl 0 rfl) ?_
    refine g_ci hG (g_runV C hG (gR_9 gk_140) (c_X9_isWell l D cs ad M212 rfl) wm_X9_107 wi_X9_isWell ws_X9_isWell wz_X9 wc_X9_isWell e_X9_isWell (by decide) hl.1 (Nat.le_of_ble_eq_true rfl) dX9_flight_216) (fun H locs hG => ?_)
    refine lv_if_ne (tgt := 230) hx hb dX9_flight_219 (by decide) (fun c_219 => ?_) (fun c_219 => ?_)
    · have h := if_t (bi_t c_219) h
      refine lv_aload_n hx hb dX9_flight_230 rfl (lv_at hl 0 rfl) ?_
      refine gf_X9_draft C hG gk_140 wf_X9_28 dX9_flight_231 ?_
      refine lv_iconst (v := 1) hx hb dX9_flight_234 (by decide) ?_
      refine lv_iconst (v := 1) hx hb dX9_flight_235 (by decide) ?_
      refine g_as (j := 1) C hG gk_147 gl_147 (ixl rfl) (by decide) dX9_flight_236 (fun M236 e_236 H locs hG => ?_)
      have h := nm_at e_236 h
      refine lv_aload_n hx hb dX9_flight_237 rfl (lv_at hl 0 rfl) ?_
      refine gf_X9_draft C hG gk_140 wf_X9_28 dX9_flight_238 ?_
      refine lv_iconst (v := 0) hx hb dX9_flight_241 (by decide) ?_
      refine lv_aload_n hx hb dX9_flight_242 rfl (lv_at hl 0 rfl) ?_
      refine gf_X9_now C hG gk_140 wf_X9_25 dX9_flight_243 ?_
      refine lv_iconst (v := 0) hx hb dX9_flight_246 (by decide) ?_
      obtain ⟨q247, e_247, h⟩ := bd_e h
      refine g_cv hG (g_runS C hG (c_X9_copies l D cs ad M236 gk_147 (0 : Int32) gk_146 (0 : Int32) e_247) wm_X9_137 wt_X9_copies wz_X9 wc_X9_copies e_X9_copies (by decide) hl.1 (Nat.le_of_ble_eq_true rfl) dX9_flight_247) (fun H locs hG => ?_)
      refine lv_aload_n hx hb dX9_flight_250 rfl (lv_at hl 0 rfl) ?_
      refine lv_iconst (v := 0) hx hb dX9_flight_251 (by decide) ?_
      refine gp_X9_acts C hG gk_140 wf_X9_141 dX9_flight_252 (fun M252 e_252 H locs hG => ?_)
      have h := nm_at e_252 h
      refine lv_aload_n hx hb dX9_flight_255 rfl (lv_at hl 0 rfl) ?_
      refine gf_X9_now C hG gk_140 wf_X9_25 dX9_flight_256 ?_
      refine lv_iconst (v := 5) hx hb dX9_flight_259 (by decide) ?_
      refine g_al (j := 5) C hG gk_146 gl_146 (ixl rfl) (by decide) dX9_flight_260 ?_
      exact hr (pf1 (Option.some.inj h)) (pf2 (Option.some.inj h)) hG dX9_flight_261
    · have h := if_f (bi_f c_219) h
      refine lv_ldc (v := -1000100) hx hb hown (hts _ wk_X9_136) dX9_flight_222 ?_
      refine lv_aload_n hx hb dX9_flight_224 rfl (lv_at hl 0 rfl) ?_
      refine gf_X9_faultPlace C hG gk_140 wf_X9_104 dX9_flight_225 ?_
      refine lv_isub hx hb dX9_flight_228 ?_
      exact hr (pf1 (Option.some.inj h)) (pf2 (Option.some.inj h)) hG dX9_flight_229
  have J_189 : ∀ (M : Mem), f_X9_flight_189 M = some z → GP p l e (rmk 6) s m args below meth c 0 0 Q D cs ad 2 189 [(0, .ref (ad 140))] [] M := by
    intro M h H locs hG ls hl
    unfold f_X9_flight_189 at h
    refine lv_aload_n hx hb dX9_flight_189 rfl (lv_at hl 0 rfl) ?_
    refine g_ci hG (g_runV C hG (gR_9 gk_140) (c_X9_isWell l D cs ad M rfl) wm_X9_107 wi_X9_isWell ws_X9_isWell wz_X9 wc_X9_isWell e_X9_isWell (by decide) hl.1 (Nat.le_of_ble_eq_true rfl) dX9_flight_190) (fun H locs hG => ?_)
    refine lv_if_eq (tgt := 210) hx hb dX9_flight_193 (by decide) (fun c_193 => ?_) (fun c_193 => ?_)
    · have h := if_f (bi_f c_193) h
      exact J_210 M h H locs hG ls (lv_sub hl [0] rfl)
    · have h := if_t (bi_t c_193) h
      refine lv_aload_n hx hb dX9_flight_196 rfl (lv_at hl 0 rfl) ?_
      refine gf_X9_token C hG gk_140 wf_X9_101 dX9_flight_197 ?_
      refine lv_if_eq (tgt := 210) hx hb dX9_flight_200 (by decide) (fun c_200 => ?_) (fun c_200 => ?_)
      · have h := if_t c_200 h
        exact J_210 M h H locs hG ls (lv_sub hl [0] rfl)
      · have h := if_f c_200 h
        refine lv_aload_n hx hb dX9_flight_203 rfl (lv_at hl 0 rfl) ?_
        refine lv_iconst (v := 0) hx hb dX9_flight_204 (by decide) ?_
        refine lv_iconst (v := 1) hx hb dX9_flight_205 (by decide) ?_
        obtain ⟨q206, e_206, h⟩ := bd_e h
        refine g_ci hG (g_runV C hG (gR_9 gk_140) (c_X9_takes l D cs ad M false (1 : Int32) e_206) wm_X9_117 wi_X9_takes ws_X9_takes wz_X9 wc_X9_takes e_X9_takes (by decide) hl.1 (Nat.le_of_ble_eq_true rfl) dX9_flight_206) (fun H locs hG => ?_)
        refine lv_pop hx hb dX9_flight_209 rfl ?_
        exact J_210 q206.2 h H locs hG ls (lv_sub hl [0] rfl)
  have J_157 : ∀ (n : Nat) (a : Mem), iter (fun rec a => f_X9_flight_157 rec a) n a = some z → GP p l e (rmk 6) s m args below meth c 0 0 Q D cs ad 2 157 [(0, .ref (ad 140))] [] a := by
    refine iter_ind (fun r157 hr157 a h => ?_)
    obtain ⟨M, rfl⟩ : ∃ y, y = a := ⟨_, rfl⟩
    have h : f_X9_flight_157 r157 M = some z := h
    intro H locs hG ls hl
    have hG : GH D cs ad s M H locs := hG
    have hl : lv_has ls 2 [(0, .ref (ad 140))] := hl
    unfold f_X9_flight_157 at h
    refine lv_aload_n hx hb dX9_flight_157 rfl (lv_at hl 0 rfl) ?_
    refine g_ci hG (g_runV C hG (gR_9 gk_140) (c_X9_isWell l D cs ad M rfl) wm_X9_107 wi_X9_isWell ws_X9_isWell wz_X9 wc_X9_isWell e_X9_isWell (by decide) hl.1 (Nat.le_of_ble_eq_true rfl) dX9_flight_158) (fun H locs hG => ?_)
    refine lv_if_eq (tgt := 189) hx hb dX9_flight_161 (by decide) (fun c_161 => ?_) (fun c_161 => ?_)
    · have h := if_f (bi_f c_161) h
      exact J_189 M h H locs hG ls (lv_sub hl [0] rfl)
    · have h := if_t (bi_t c_161) h
      refine lv_aload_n hx hb dX9_flight_164 rfl (lv_at hl 0 rfl) ?_
      refine gf_X9_token C hG gk_140 wf_X9_101 dX9_flight_165 ?_
      refine lv_iconst (v := 1) hx hb dX9_flight_168 (by decide) ?_
      refine lv_icmp_ne (tgt := 189) hx hb dX9_flight_169 (by decide) (fun c_169 => ?_) (fun c_169 => ?_)
      · have h := if_f c_169 h
        exact J_189 M h H locs hG ls (lv_sub hl [0] rfl)
      · have h := if_t c_169 h
        refine lv_aload_n hx hb dX9_flight_172 rfl (lv_at hl 0 rfl) ?_
        refine gf_X9_value C hG gk_140 wf_X9_98 dX9_flight_173 ?_
        refine g_ci hG (g_runS C hG (c_X9_kindOf l D cs ad M (M 140 12) rfl) wm_X9_127 wt_X9_kindOf wz_X9 wc_X9_kindOf e_X9_kindOf (by decide) hl.1 (Nat.le_of_ble_eq_true rfl) dX9_flight_176) (fun H locs hG => ?_)
        refine lv_if_le (tgt := 189) hx hb dX9_flight_179 (by decide) (fun c_179 => ?_) (fun c_179 => ?_)
        · have h := if_t c_179 h
          exact J_189 M h H locs hG ls (lv_sub hl [0] rfl)
        · have h := if_f c_179 h
          refine lv_aload_n hx hb dX9_flight_182 rfl (lv_at hl 0 rfl) ?_
          obtain ⟨q183, e_183, h⟩ := bd_e h
          refine g_cv hG (g_runV C hG (gR_9 gk_140) (c_X9_readsBird l D cs ad M e_183) wm_X9_133 wi_X9_readsBird ws_X9_readsBird wz_X9 wc_X9_readsBird e_X9_readsBird (by decide) hl.1 (Nat.le_of_ble_eq_true rfl) dX9_flight_183) (fun H locs hG => ?_)
          refine lv_goto (tgt := 157) hx hb dX9_flight_186 (by decide) ?_
          exact hr157 q183 h H locs hG ls (lv_sub hl [0] rfl)
  have J_126 : ∀ (n : Nat) (a : Mem), iter (fun rec a => f_X9_flight_126 rec a) n a = some z → GP p l e (rmk 6) s m args below meth c 0 0 Q D cs ad 2 126 [(0, .ref (ad 140))] [] a := by
    refine iter_ind (fun r126 hr126 a h => ?_)
    obtain ⟨M, rfl⟩ : ∃ y, y = a := ⟨_, rfl⟩
    have h : f_X9_flight_126 r126 M = some z := h
    intro H locs hG ls hl
    have hG : GH D cs ad s M H locs := hG
    have hl : lv_has ls 2 [(0, .ref (ad 140))] := hl
    unfold f_X9_flight_126 at h
    refine lv_aload_n hx hb dX9_flight_126 rfl (lv_at hl 0 rfl) ?_
    refine g_ci hG (g_runV C hG (gR_9 gk_140) (c_X9_isWell l D cs ad M rfl) wm_X9_107 wi_X9_isWell ws_X9_isWell wz_X9 wc_X9_isWell e_X9_isWell (by decide) hl.1 (Nat.le_of_ble_eq_true rfl) dX9_flight_127) (fun H locs hG => ?_)
    refine lv_if_eq (tgt := 157) hx hb dX9_flight_130 (by decide) (fun c_130 => ?_) (fun c_130 => ?_)
    · have h := if_f (bi_f c_130) h
      exact J_157 _ M h H locs hG ls (lv_sub hl [0] rfl)
    · have h := if_t (bi_t c_130) h
      refine lv_aload_n hx hb dX9_flight_133 rfl (lv_at hl 0 rfl) ?_
      refine gf_X9_token C hG gk_140 wf_X9_101 dX9_flight_134 ?_
      refine lv_iconst (v := 1) hx hb dX9_flight_137 (by decide) ?_
      refine lv_icmp_ne (tgt := 157) hx hb dX9_flight_138 (by decide) (fun c_138 => ?_) (fun c_138 => ?_)
      · have h := if_f c_138 h
        exact J_157 _ M h H locs hG ls (lv_sub hl [0] rfl)
      · have h := if_t c_138 h
        refine lv_aload_n hx hb dX9_flight_141 rfl (lv_at hl 0 rfl) ?_
        refine gf_X9_value C hG gk_140 wf_X9_98 dX9_flight_142 ?_
        refine lv_bipush (v := 118) hx hb dX9_flight_145 (by decide) ?_
        refine lv_icmp_ne (tgt := 157) hx hb dX9_flight_147 (by decide) (fun c_147 => ?_) (fun c_147 => ?_)
        · have h := if_f c_147 h
          exact J_157 _ M h H locs hG ls (lv_sub hl [0] rfl)
        · have h := if_t c_147 h
          refine lv_aload_n hx hb dX9_flight_150 rfl (lv_at hl 0 rfl) ?_
          obtain ⟨q151, e_151, h⟩ := bd_e h
          refine g_cv hG (g_runV C hG (gR_9 gk_140) (c_X9_readsValley l D cs ad M e_151) wm_X9_130 wi_X9_readsValley ws_X9_readsValley wz_X9 wc_X9_readsValley e_X9_readsValley (by decide) hl.1 (Nat.le_of_ble_eq_true rfl) dX9_flight_151) (fun H locs hG => ?_)
          refine lv_goto (tgt := 126) hx hb dX9_flight_154 (by decide) ?_
          exact hr126 q151 h H locs hG ls (lv_sub hl [0] rfl)
  have J_90 : ∀ (M : Mem) (s1 : Bool), f_X9_flight_90 M s1 = some z → GP p l e (rmk 6) s m args below meth c 0 0 Q D cs ad 2 90 [(0, .ref (ad 140))] [.int (bi s1), .ref (ad 140)] M := by
    intro M s1 h H locs hG ls hl
    unfold f_X9_flight_90 at h
    refine lv_iconst (v := 1) hx hb dX9_flight_90 (by decide) ?_
    obtain ⟨q91, e_91, h⟩ := bd_e h
    refine g_ci hG (g_runV C hG (gR_9 gk_140) (c_X9_takes l D cs ad M s1 (1 : Int32) e_91) wm_X9_117 wi_X9_takes ws_X9_takes wz_X9 wc_X9_takes e_X9_takes (by decide) hl.1 (Nat.le_of_ble_eq_true rfl) dX9_flight_91) (fun H locs hG => ?_)
    refine lv_pop hx hb dX9_flight_94 rfl ?_
    refine lv_aload_n hx hb dX9_flight_95 rfl (lv_at hl 0 rfl) ?_
    refine g_ci hG (g_runV C hG (gR_9 gk_140) (c_X9_isWell l D cs ad q91.2 rfl) wm_X9_107 wi_X9_isWell ws_X9_isWell wz_X9 wc_X9_isWell e_X9_isWell (by decide) hl.1 (Nat.le_of_ble_eq_true rfl) dX9_flight_96) (fun H locs hG => ?_)
    refine lv_if_eq (tgt := 126) hx hb dX9_flight_99 (by decide) (fun c_99 => ?_) (fun c_99 => ?_)
    · have h := if_f (bi_f c_99) h
      exact J_126 _ q91.2 h H locs hG ls (lv_sub hl [0] rfl)
    · have h := if_t (bi_t c_99) h
      refine lv_aload_n hx hb dX9_flight_102 rfl (lv_at hl 0 rfl) ?_
      refine gf_X9_token C hG gk_140 wf_X9_101 dX9_flight_103 ?_
      refine lv_iconst (v := 1) hx hb dX9_flight_106 (by decide) ?_
      refine lv_icmp_ne (tgt := 119) hx hb dX9_flight_107 (by decide) (fun c_107 => ?_) (fun c_107 => ?_)
      · have h := if_f c_107 h
        refine lv_aload_n hx hb dX9_flight_119 rfl (lv_at hl 0 rfl) ?_
        refine lv_iconst (v := 0) hx hb dX9_flight_120 (by decide) ?_
        refine lv_iconst (v := 1) hx hb dX9_flight_121 (by decide) ?_
        obtain ⟨q122, e_122, h⟩ := bd_e h
        refine g_ci hG (g_runV C hG (gR_9 gk_140) (c_X9_takes l D cs ad q91.2 false (1 : Int32) e_122) wm_X9_117 wi_X9_takes ws_X9_takes wz_X9 wc_X9_takes e_X9_takes (by decide) hl.1 (Nat.le_of_ble_eq_true rfl) dX9_flight_122) (fun H locs hG => ?_)
        refine lv_pop hx hb dX9_flight_125 rfl ?_
        exact J_126 _ q122.2 h H locs hG ls (lv_sub hl [0] rfl)
      · have h := if_t c_107 h
        refine lv_aload_n hx hb dX9_flight_110 rfl (lv_at hl 0 rfl) ?_
        refine gf_X9_value C hG gk_140 wf_X9_98 dX9_flight_111 ?_
        refine lv_bipush (v := 118) hx hb dX9_flight_114 (by decide) ?_
        refine lv_icmp_eq (tgt := 126) hx hb dX9_flight_116 (by decide) (fun c_116 => ?_) (fun c_116 => ?_)
        · have h := if_t c_116 h
          exact J_126 _ q91.2 h H locs hG ls (lv_sub hl [0] rfl)
        · have h := if_f c_116 h
          refine lv_aload_n hx hb dX9_flight_119 rfl (lv_at hl 0 rfl) ?_
          refine lv_iconst (v := 0) hx hb dX9_flight_120 (by decide) ?_
          refine lv_iconst (v := 1) hx hb dX9_flight_121 (by decide) ?_
          obtain ⟨q122, e_122, h⟩ := bd_e h
          refine g_ci hG (g_runV C hG (gR_9 gk_140) (c_X9_takes l D cs ad q91.2 false (1 : Int32) e_122) wm_X9_117 wi_X9_takes ws_X9_takes wz_X9 wc_X9_takes e_X9_takes (by decide) hl.1 (Nat.le_of_ble_eq_true rfl) dX9_flight_122) (fun H locs hG => ?_)
          refine lv_pop hx hb dX9_flight_125 rfl ?_
          exact J_126 _ q122.2 h H locs hG ls (lv_sub hl [0] rfl)
  have J_58 : ∀ (M : Mem) (s1 : Bool), f_X9_flight_58 M s1 = some z → GP p l e (rmk 6) s m args below meth c 0 0 Q D cs ad 2 58 [(0, .ref (ad 140))] [.int (bi s1), .ref (ad 140)] M := by
    intro M s1 h H locs hG ls hl
    unfold f_X9_flight_58 at h
    refine lv_iconst (v := 1) hx hb dX9_flight_58 (by decide) ?_
    obtain ⟨q59, e_59, h⟩ := bd_e h
    refine g_ci hG (g_runV C hG (gR_9 gk_140) (c_X9_takes l D cs ad M s1 (1 : Int32) e_59) wm_X9_117 wi_X9_takes ws_X9_takes wz_X9 wc_X9_takes e_X9_takes (by decide) hl.1 (Nat.le_of_ble_eq_true rfl) dX9_flight_59) (fun H locs hG => ?_)
    refine lv_pop hx hb dX9_flight_62 rfl ?_
    refine lv_aload_n hx hb dX9_flight_63 rfl (lv_at hl 0 rfl) ?_
    refine gf_X9_draft C hG gk_140 wf_X9_28 dX9_flight_64 ?_
    refine lv_iconst (v := 0) hx hb dX9_flight_67 (by decide) ?_
    refine lv_aload_n hx hb dX9_flight_68 rfl (lv_at hl 0 rfl) ?_
    refine lv_iconst (v := 0) hx hb dX9_flight_69 (by decide) ?_
    refine lv_bipush (v := 9) hx hb dX9_flight_70 (by decide) ?_
    obtain ⟨q72, e_72, h⟩ := bd_e h
    refine g_ci hG (g_runV C hG (gR_9 gk_140) (c_X9_figure l D cs ad q59.2 (0 : Int32) (9 : Int32) e_72) wm_X9_121 wi_X9_figure ws_X9_figure wz_X9 wc_X9_figure e_X9_figure (by decide) hl.1 (Nat.le_of_ble_eq_true rfl) dX9_flight_72) (fun H locs hG => ?_)
    refine g_as (j := 0) C hG gk_147 gl_147 (ixl rfl) (by decide) dX9_flight_75 (fun M75 e_75 H locs hG => ?_)
    have h := nm_at e_75 h
    refine lv_aload_n hx hb dX9_flight_76 rfl (lv_at hl 0 rfl) ?_
    refine lv_aload_n hx hb dX9_flight_77 rfl (lv_at hl 0 rfl) ?_
    refine gf_X9_token C hG gk_140 wf_X9_101 dX9_flight_78 ?_
    refine lv_iconst (v := 4) hx hb dX9_flight_81 (by decide) ?_
    refine lv_icmp_ne (tgt := 89) hx hb dX9_flight_82 (by decide) (fun c_82 => ?_) (fun c_82 => ?_)
    · have h := if_f c_82 h
      refine lv_iconst (v := 0) hx hb dX9_flight_89 (by decide) ?_
      exact J_90 M75 false h H locs hG ls (lv_sub hl [0] rfl)
    · have h := if_t c_82 h
      refine lv_iconst (v := 1) hx hb dX9_flight_85 (by decide) ?_
      refine lv_goto (tgt := 90) hx hb dX9_flight_86 (by decide) ?_
      exact J_90 M75 true h H locs hG ls (lv_sub hl [0] rfl)
  have J_2 : ∀ (n : Nat) (a : Mem × Int32), iter (fun rec a => f_X9_flight_2 rec a.1 a.2) n a = some z → GP p l e (rmk 6) s m args below meth c 0 0 Q D cs ad 2 2 [(0, .ref (ad 140)), (1, .int a.2)] [] a.1 := by
    refine iter_ind (fun r2 hr2 a h => ?_)
    obtain ⟨M, x1⟩ := a
    have h : f_X9_flight_2 r2 M x1 = some z := h
    intro H locs hG ls hl
    have hG : GH D cs ad s M H locs := hG
    have hl : lv_has ls 2 [(0, .ref (ad 140)), (1, .int x1)] := hl
    unfold f_X9_flight_2 at h
    refine lv_iload_n hx hb dX9_flight_2 rfl (lv_at hl 1 rfl) ?_
    refine lv_bipush (v := 57) hx hb dX9_flight_3 (by decide) ?_
    refine lv_icmp_ge (tgt := 21) hx hb dX9_flight_5 (by decide) (fun c_5 => ?_) (fun c_5 => ?_)
    · have h := if_t c_5 h
      refine lv_aload_n hx hb dX9_flight_21 rfl (lv_at hl 0 rfl) ?_
      refine lv_iconst (v := 0) hx hb dX9_flight_22 (by decide) ?_
      refine gp_X9_at C hG gk_140 wf_X9_89 dX9_flight_23 (fun M23 e_23 H locs hG => ?_)
      have h := nm_at e_23 h
      refine lv_aload_n hx hb dX9_flight_26 rfl (lv_at hl 0 rfl) ?_
      refine lv_iconst (v := -1) hx hb dX9_flight_27 (by decide) ?_
      refine gp_X9_faultPlace C hG gk_140 wf_X9_104 dX9_flight_28 (fun M28 e_28 H locs hG => ?_)
      have h := nm_at e_28 h
      refine lv_aload_n hx hb dX9_flight_31 rfl (lv_at hl 0 rfl) ?_
      obtain ⟨q32, e_32, h⟩ := bd_e h
      refine g_cv hG (g_runV C hG (gR_9 gk_140) (c_X9_advances l D cs ad M28 e_32) wm_X9_114 wi_X9_advances ws_X9_advances wz_X9 wc_X9_advances e_X9_advances (by decide) hl.1 (Nat.le_of_ble_eq_true rfl) dX9_flight_32) (fun H locs hG => ?_)
      refine lv_aload_n hx hb dX9_flight_35 rfl (lv_at hl 0 rfl) ?_
      refine lv_aload_n hx hb dX9_flight_36 rfl (lv_at hl 0 rfl) ?_
      refine gf_X9_token C hG gk_140 wf_X9_101 dX9_flight_37 ?_
      refine lv_iconst (v := 1) hx hb dX9_flight_40 (by decide) ?_
      refine lv_icmp_ne (tgt := 57) hx hb dX9_flight_41 (by decide) (fun c_41 => ?_) (fun c_41 => ?_)
      · have h := if_f c_41 h
        refine lv_iconst (v := 0) hx hb dX9_flight_57 (by decide) ?_
        exact J_58 q32 false h H locs hG ls (lv_sub hl [0] rfl)
      · have h := if_t c_41 h
        refine lv_aload_n hx hb dX9_flight_44 rfl (lv_at hl 0 rfl) ?_
        refine gf_X9_value C hG gk_140 wf_X9_98 dX9_flight_45 ?_
        refine lv_bipush (v := 102) hx hb dX9_flight_48 (by decide) ?_
        refine lv_icmp_ne (tgt := 57) hx hb dX9_flight_50 (by decide) (fun c_50 => ?_) (fun c_50 => ?_)
        · have h := if_f c_50 h
          refine lv_iconst (v := 0) hx hb dX9_flight_57 (by decide) ?_
          exact J_58 q32 false h H locs hG ls (lv_sub hl [0] rfl)
        · have h := if_t c_50 h
          refine lv_iconst (v := 1) hx hb dX9_flight_53 (by decide) ?_
          refine lv_goto (tgt := 58) hx hb dX9_flight_54 (by decide) ?_
          exact J_58 q32 true h H locs hG ls (lv_sub hl [0] rfl)
    · have h := if_f c_5 h
      refine lv_aload_n hx hb dX9_flight_8 rfl (lv_at hl 0 rfl) ?_
      refine gf_X9_draft C hG gk_140 wf_X9_28 dX9_flight_9 ?_
      refine lv_iload_n hx hb dX9_flight_12 rfl (lv_at hl 1 rfl) ?_
      refine lv_iconst (v := 0) hx hb dX9_flight_13 (by decide) ?_
      obtain ⟨hi_14, h⟩ := ix_e h
      refine g_as C hG gk_147 gl_147 hi_14 rfl dX9_flight_14 (fun M14 e_14 H locs hG => ?_)
      have h := nm_at e_14 h
      obtain ⟨x1_15, e1_15⟩ : ∃ y : Int32, y = x1 + (1 : Int32) := ⟨_, rfl⟩
      have h := nm_at e1_15 h
      refine lv_iinc (v := x1_15) (lv' := [(1, .int x1_15), (0, .ref (ad 140))]) hx hb dX9_flight_15 hl (k := 1) rfl (by rw [e1_15]; rfl) (by decide) rfl (fun ls hl => ?_)
      refine lv_goto (tgt := 2) hx hb dX9_flight_18 (by decide) ?_
      exact hr2 (M14, x1_15) h H locs hG ls (lv_sub hl [1, 0] rfl)
  intro H locs hG ls hl
  have hl : lv_has ls 2 [(0, .ref (ad 140))] := hl
  unfold f_X9_flight at h
  refine lv_iconst (v := 0) hx hb dX9_flight_0 (by decide) ?_
  refine lv_istore_n (lv' := [(1, .int 0), (0, .ref (ad 140))]) hx hb dX9_flight_1 rfl hl (by decide) rfl (fun ls hl => ?_)
  exact J_2 _ (M, (0 : Int32)) h H locs hG ls (lv_sub hl [1, 0] rfl)
def f_X9_fault (M : Mem) : Int32 :=
  (M 140 7)
theorem e_X9_fault : yX9_fault.cls = RX9 ∧ yX9_fault.cls ≠ "java/lang/invoke/MethodHandle" ∧ yX9_fault.cls ≠ "java/lang/invoke/VarHandle" ∧ (parseMethodDescriptor yX9_fault.desc).map (fun d => d.parameters.length) = some 0 := by decide +kernel
set_option maxHeartbeats 4000000 in
set_option maxRecDepth 100000 in
theorem c_X9_fault (l : Launch) (D : va_G) (cs : Nat → ClassId) (ad : Nat → Nat) (M : Mem) {z : Int32} (h : f_X9_fault M = z) : CtI l yX9_fault cX9_fault 1 .int 0 D cs ad [.ref (ad 140)] M z M := by
  refine ct_i (own := RX9) (by decide) rfl (Nat.le_of_ble_eq_true rfl) ?_
  intro p e s m args below meth c Q C hr
  have hx := C.1
  have hb := C.2.1
  have hown := C.2.2.2.1
  have hts := C.2.2.2.2.1
  intro H locs hG ls hl
  have hl : lv_has ls 1 [(0, .ref (ad 140))] := hl
  unfold f_X9_fault at h
  refine lv_aload_n hx hb dX9_fault_0 rfl (lv_at hl 0 rfl) ?_
  refine gf_X9_faultKind C hG gk_140 wf_X9_111 dX9_fault_1 ?_
  exact hr h rfl hG dX9_fault_4
def f_X9_isFlight (M : Mem) : Bool :=
  if (M 146 1) = (1 : Int32) then (
    true
  ) else (
    false
  )
theorem e_X9_isFlight : yX9_isFlight.cls = RX9 ∧ yX9_isFlight.cls ≠ "java/lang/invoke/MethodHandle" ∧ yX9_isFlight.cls ≠ "java/lang/invoke/VarHandle" ∧ (parseMethodDescriptor yX9_isFlight.desc).map (fun d => d.parameters.length) = some 0 := by decide +kernel
set_option maxHeartbeats 4000000 in
set_option maxRecDepth 100000 in
theorem c_X9_isFlight (l : Launch) (D : va_G) (cs : Nat → ClassId) (ad : Nat → Nat) (M : Mem) {z : Bool} (h : f_X9_isFlight M = z) : CtI l yX9_isFlight cX9_isFlight 1 .boolean 0 D cs ad [.ref (ad 140)] M (bi z) M := by
  refine ct_z (own := RX9) (by decide) rfl (Nat.le_of_ble_eq_true rfl) ?_
  intro p e s m args below meth c Q C hr
  have hx := C.1
  have hb := C.2.1
  have hown := C.2.2.2.1
  have hts := C.2.2.2.2.1
  intro H locs hG ls hl
  have hl : lv_has ls 1 [(0, .ref (ad 140))] := hl
  unfold f_X9_isFlight at h
  refine lv_aload_n hx hb dX9_isFlight_0 rfl (lv_at hl 0 rfl) ?_
  refine gf_X9_now C hG gk_140 wf_X9_25 dX9_isFlight_1 ?_
  refine lv_iconst (v := 1) hx hb dX9_isFlight_4 (by decide) ?_
  refine g_al (j := 1) C hG gk_146 gl_146 (ixl rfl) (by decide) dX9_isFlight_5 ?_
  refine lv_iconst (v := 1) hx hb dX9_isFlight_6 (by decide) ?_
  refine lv_icmp_ne (tgt := 14) hx hb dX9_isFlight_7 (by decide) (fun c_7 => ?_) (fun c_7 => ?_)
  · have h := if_f c_7 h
    refine lv_iconst (v := 0) hx hb dX9_isFlight_14 (by decide) ?_
    exact hr (congrArg bi h) rfl hG dX9_isFlight_15
  · have h := if_t c_7 h
    refine lv_iconst (v := 1) hx hb dX9_isFlight_10 (by decide) ?_
    refine lv_goto (tgt := 15) hx hb dX9_isFlight_11 (by decide) ?_
    exact hr (congrArg bi h) rfl hG dX9_isFlight_15
def f_X9_left (M : Mem) (i0 : Nat) : Int32 :=
  ((M i0 2) - (M i0 3))
theorem e_X9_left : yX9_left.cls ≠ "java/lang/invoke/MethodHandle" ∧ yX9_left.cls ≠ "java/lang/invoke/VarHandle" ∧ (parseMethodDescriptor yX9_left.desc).map (fun d => d.parameters.length) = some 1 := by decide +kernel
set_option maxHeartbeats 4000000 in
set_option maxRecDepth 100000 in
theorem c_X9_left (l : Launch) (D : va_G) (cs : Nat → ClassId) (ad : Nat → Nat) (M : Mem) {i0 : Nat} (k_i0 : gK i0 = 10) (l_i0 : gL i0 = 57) {z : Int32} (h : f_X9_left M i0 = z) : CtI l yX9_left cX9_left 1 .int 0 D cs ad [.ref (ad i0)] M z M := by
  refine ct_i (own := RX9) (by decide) rfl (Nat.le_of_ble_eq_true rfl) ?_
  intro p e s m args below meth c Q C hr
  have hx := C.1
  have hb := C.2.1
  have hown := C.2.2.2.1
  have hts := C.2.2.2.2.1
  intro H locs hG ls hl
  have hl : lv_has ls 1 [(0, .ref (ad i0))] := hl
  unfold f_X9_left at h
  refine lv_aload_n hx hb dX9_left_0 rfl (lv_at hl 0 rfl) ?_
  refine lv_iconst (v := 2) hx hb dX9_left_1 (by decide) ?_
  refine g_al (j := 2) C hG k_i0 l_i0 (ixl rfl) (by decide) dX9_left_2 ?_
  refine lv_aload_n hx hb dX9_left_3 rfl (lv_at hl 0 rfl) ?_
  refine lv_iconst (v := 3) hx hb dX9_left_4 (by decide) ?_
  refine g_al (j := 3) C hG k_i0 l_i0 (ixl rfl) (by decide) dX9_left_5 ?_
  refine lv_isub hx hb dX9_left_6 ?_
  exact hr h rfl hG dX9_left_7
def f_X9_notes_49 (M : Mem) : Option Mem :=
  (f_X9_copies M 146 (0 : Int32) 149 ((57 : Int32) * (M 140 17))).bind fun q65 =>
  nm (st q65 140 17 ((q65 140 17) + (1 : Int32))) fun M75 =>
  some M75
def f_X9_notes_11 (r11 : (Mem × Int32) → Option Mem) (M : Mem) (x1 : Int32) : Option Mem :=
  if (1311 : Int32) ≤ x1 then (
    nm (st M 140 17 ((M 140 17) - (1 : Int32))) fun M46 =>
    f_X9_notes_49 M46
  ) else (
    chk (ixb (x1 + (57 : Int32)) 1368) <|
    chk (ixb x1 1368) <|
    nm (st M 149 x1.toNatClampNeg (M 149 (x1 + (57 : Int32)).toNatClampNeg)) fun M32 =>
    nm (x1 + (1 : Int32)) fun x1_33 =>
    r11 (M32, x1_33)
  )
def f_X9_notes (M : Mem) : Option Mem :=
  if (M 140 17) = (24 : Int32) then (
    iter (fun rec a => f_X9_notes_11 rec a.1 a.2) fuel (M, (0 : Int32))
  ) else (
    f_X9_notes_49 M
  )
theorem e_X9_notes : yX9_notes.cls = RX9 ∧ yX9_notes.cls ≠ "java/lang/invoke/MethodHandle" ∧ yX9_notes.cls ≠ "java/lang/invoke/VarHandle" ∧ (parseMethodDescriptor yX9_notes.desc).map (fun d => d.parameters.length) = some 0 := by decide +kernel
set_option maxHeartbeats 4000000 in
set_option maxRecDepth 100000 in
theorem c_X9_notes (l : Launch) (D : va_G) (cs : Nat → ClassId) (ad : Nat → Nat) (M : Mem) {z : Mem} (h : f_X9_notes M = some z) : CtV l yX9_notes cX9_notes 2 1 D cs ad [.ref (ad 140)] M z := by
  refine ct_v (own := RX9) (by decide) rfl (Nat.le_of_ble_eq_true rfl) ?_
  intro p e s m args below meth c Q C hr
  have hx := C.1
  have hb := C.2.1
  have hown := C.2.2.2.1
  have hts := C.2.2.2.2.1
  have J_49 : ∀ (M : Mem), f_X9_notes_49 M = some z → GP p l e (rmk 1) s m args below meth c 0 0 Q D cs ad 2 49 [(0, .ref (ad 140))] [] M := by
    intro M h H locs hG ls hl
    unfold f_X9_notes_49 at h
    refine lv_aload_n hx hb dX9_notes_49 rfl (lv_at hl 0 rfl) ?_
    refine gf_X9_now C hG gk_140 wf_X9_25 dX9_notes_50 ?_
    refine lv_iconst (v := 0) hx hb dX9_notes_53 (by decide) ?_
    refine lv_aload_n hx hb dX9_notes_54 rfl (lv_at hl 0 rfl) ?_
    refine gf_X9_past C hG gk_140 wf_X9_34 dX9_notes_55 ?_
    refine lv_bipush (v := 57) hx hb dX9_notes_58 (by decide) ?_
    refine lv_aload_n hx hb dX9_notes_60 rfl (lv_at hl 0 rfl) ?_
    refine gf_X9_acts C hG gk_140 wf_X9_141 dX9_notes_61 ?_
    refine lv_imul hx hb dX9_notes_64 ?_
    obtain ⟨q65, e_65, h⟩ := bd_e h
    refine g_cv hG (g_runS C hG (c_X9_copies l D cs ad M gk_146 (0 : Int32) gk_149 ((57 : Int32) * (M 140 17)) e_65) wm_X9_137 wt_X9_copies wz_X9 wc_X9_copies e_X9_copies (by decide) hl.1 (Nat.le_of_ble_eq_true rfl) dX9_notes_65) (fun H locs hG => ?_)
    refine lv_aload_n hx hb dX9_notes_68 rfl (lv_at hl 0 rfl) ?_
    refine lv_dup hx hb dX9_notes_69 rfl ?_
    refine gf_X9_acts C hG gk_140 wf_X9_141 dX9_notes_70 ?_
    refine lv_iconst (v := 1) hx hb dX9_notes_73 (by decide) ?_
    refine lv_iadd hx hb dX9_notes_74 ?_
    refine gp_X9_acts C hG gk_140 wf_X9_141 dX9_notes_75 (fun M75 e_75 H locs hG => ?_)
    have h := nm_at e_75 h
    exact hr (Option.some.inj h) hG dX9_notes_78
  have J_11 : ∀ (n : Nat) (a : Mem × Int32), iter (fun rec a => f_X9_notes_11 rec a.1 a.2) n a = some z → GP p l e (rmk 1) s m args below meth c 0 0 Q D cs ad 2 11 [(0, .ref (ad 140)), (1, .int a.2)] [] a.1 := by
    refine iter_ind (fun r11 hr11 a h => ?_)
    obtain ⟨M, x1⟩ := a
    have h : f_X9_notes_11 r11 M x1 = some z := h
    intro H locs hG ls hl
    have hG : GH D cs ad s M H locs := hG
    have hl : lv_has ls 2 [(0, .ref (ad 140)), (1, .int x1)] := hl
    unfold f_X9_notes_11 at h
    refine lv_iload_n hx hb dX9_notes_11 rfl (lv_at hl 1 rfl) ?_
    refine lv_sipush (v := 1311) hx hb dX9_notes_12 (by decide) ?_
    refine lv_icmp_ge (tgt := 39) hx hb dX9_notes_15 (by decide) (fun c_15 => ?_) (fun c_15 => ?_)
    · have h := if_t c_15 h
      refine lv_aload_n hx hb dX9_notes_39 rfl (lv_at hl 0 rfl) ?_
      refine lv_dup hx hb dX9_notes_40 rfl ?_
      refine gf_X9_acts C hG gk_140 wf_X9_141 dX9_notes_41 ?_
      refine lv_iconst (v := 1) hx hb dX9_notes_44 (by decide) ?_
      refine lv_isub hx hb dX9_notes_45 ?_
      refine gp_X9_acts C hG gk_140 wf_X9_141 dX9_notes_46 (fun M46 e_46 H locs hG => ?_)
      have h := nm_at e_46 h
      exact J_49 M46 h H locs hG ls (lv_sub hl [0] rfl)
    · have h := if_f c_15 h
      refine lv_aload_n hx hb dX9_notes_18 rfl (lv_at hl 0 rfl) ?_
      refine gf_X9_past C hG gk_140 wf_X9_34 dX9_notes_19 ?_
      refine lv_iload_n hx hb dX9_notes_22 rfl (lv_at hl 1 rfl) ?_
      refine lv_aload_n hx hb dX9_notes_23 rfl (lv_at hl 0 rfl) ?_
      refine gf_X9_past C hG gk_140 wf_X9_34 dX9_notes_24 ?_
      refine lv_iload_n hx hb dX9_notes_27 rfl (lv_at hl 1 rfl) ?_
      refine lv_bipush (v := 57) hx hb dX9_notes_28 (by decide) ?_
      refine lv_iadd hx hb dX9_notes_30 ?_
      obtain ⟨hi_31, h⟩ := ix_e h
      refine g_al C hG gk_149 gl_149 hi_31 rfl dX9_notes_31 ?_
      obtain ⟨hi_32, h⟩ := ix_e h
      refine g_as C hG gk_149 gl_149 hi_32 rfl dX9_notes_32 (fun M32 e_32 H locs hG => ?_)
      have h := nm_at e_32 h
      obtain ⟨x1_33, e1_33⟩ : ∃ y : Int32, y = x1 + (1 : Int32) := ⟨_, rfl⟩
      have h := nm_at e1_33 h
      refine lv_iinc (v := x1_33) (lv' := [(1, .int x1_33), (0, .ref (ad 140))]) hx hb dX9_notes_33 hl (k := 1) rfl (by rw [e1_33]; rfl) (by decide) rfl (fun ls hl => ?_)
      refine lv_goto (tgt := 11) hx hb dX9_notes_36 (by decide) ?_
      exact hr11 (M32, x1_33) h H locs hG ls (lv_sub hl [1, 0] rfl)
  intro H locs hG ls hl
  have hl : lv_has ls 2 [(0, .ref (ad 140))] := hl
  unfold f_X9_notes at h
  refine lv_aload_n hx hb dX9_notes_0 rfl (lv_at hl 0 rfl) ?_
  refine gf_X9_acts C hG gk_140 wf_X9_141 dX9_notes_1 ?_
  refine lv_bipush (v := 24) hx hb dX9_notes_4 (by decide) ?_
  refine lv_icmp_ne (tgt := 49) hx hb dX9_notes_6 (by decide) (fun c_6 => ?_) (fun c_6 => ?_)
  · have h := if_f c_6 h
    exact J_49 M h H locs hG ls (lv_sub hl [0] rfl)
  · have h := if_t c_6 h
    refine lv_iconst (v := 0) hx hb dX9_notes_9 (by decide) ?_
    refine lv_istore_n (lv' := [(1, .int 0), (0, .ref (ad 140))]) hx hb dX9_notes_10 rfl hl (by decide) rfl (fun ls hl => ?_)
    exact J_11 _ (M, (0 : Int32)) h H locs hG ls (lv_sub hl [1, 0] rfl)
def f_X9_flies (M : Mem) (i0 : Nat) (x1 : Int32) : Option Bool :=
  if (M i0 5) ≤ x1 then (
    some false
  ) else (
    chk (ixb (((21 : Int32) + ((6 : Int32) * x1)) + (4 : Int32)) 57) <|
    if (M i0 (((21 : Int32) + ((6 : Int32) * x1)) + (4 : Int32)).toNatClampNeg) = (1 : Int32) then (
      some true
    ) else (
      some false
    )
  )
theorem e_X9_flies : yX9_flies.cls ≠ "java/lang/invoke/MethodHandle" ∧ yX9_flies.cls ≠ "java/lang/invoke/VarHandle" ∧ (parseMethodDescriptor yX9_flies.desc).map (fun d => d.parameters.length) = some 2 := by decide +kernel
set_option maxHeartbeats 4000000 in
set_option maxRecDepth 100000 in
theorem c_X9_flies (l : Launch) (D : va_G) (cs : Nat → ClassId) (ad : Nat → Nat) (M : Mem) {i0 : Nat} (k_i0 : gK i0 = 10) (l_i0 : gL i0 = 57) (x1 : Int32) {z : Bool} (h : f_X9_flies M i0 x1 = some z) : CtI l yX9_flies cX9_flies 2 .boolean 0 D cs ad [.ref (ad i0), .int x1] M (bi z) M := by
  refine ct_z (own := RX9) (by decide) rfl (Nat.le_of_ble_eq_true rfl) ?_
  intro p e s m args below meth c Q C hr
  have hx := C.1
  have hb := C.2.1
  have hown := C.2.2.2.1
  have hts := C.2.2.2.2.1
  intro H locs hG ls hl
  have hl : lv_has ls 2 [(0, .ref (ad i0)), (1, .int x1)] := hl
  unfold f_X9_flies at h
  refine lv_iload_n hx hb dX9_flies_0 rfl (lv_at hl 1 rfl) ?_
  refine lv_aload_n hx hb dX9_flies_1 rfl (lv_at hl 0 rfl) ?_
  refine lv_iconst (v := 5) hx hb dX9_flies_2 (by decide) ?_
  refine g_al (j := 5) C hG k_i0 l_i0 (ixl rfl) (by decide) dX9_flies_3 ?_
  refine lv_icmp_ge (tgt := 26) hx hb dX9_flies_4 (by decide) (fun c_4 => ?_) (fun c_4 => ?_)
  · have h := if_t c_4 h
    refine lv_iconst (v := 0) hx hb dX9_flies_26 (by decide) ?_
    exact hr (congrArg bi (Option.some.inj h)) rfl hG dX9_flies_27
  · have h := if_f c_4 h
    refine lv_aload_n hx hb dX9_flies_7 rfl (lv_at hl 0 rfl) ?_
    refine lv_bipush (v := 21) hx hb dX9_flies_8 (by decide) ?_
    refine lv_bipush (v := 6) hx hb dX9_flies_10 (by decide) ?_
    refine lv_iload_n hx hb dX9_flies_12 rfl (lv_at hl 1 rfl) ?_
    refine lv_imul hx hb dX9_flies_13 ?_
    refine lv_iadd hx hb dX9_flies_14 ?_
    refine lv_iconst (v := 4) hx hb dX9_flies_15 (by decide) ?_
    refine lv_iadd hx hb dX9_flies_16 ?_
    obtain ⟨hi_17, h⟩ := ix_e h
    refine g_al C hG k_i0 l_i0 hi_17 rfl dX9_flies_17 ?_
    refine lv_iconst (v := 1) hx hb dX9_flies_18 (by decide) ?_
    refine lv_icmp_ne (tgt := 26) hx hb dX9_flies_19 (by decide) (fun c_19 => ?_) (fun c_19 => ?_)
    · have h := if_f c_19 h
      refine lv_iconst (v := 0) hx hb dX9_flies_26 (by decide) ?_
      exact hr (congrArg bi (Option.some.inj h)) rfl hG dX9_flies_27
    · have h := if_t c_19 h
      refine lv_iconst (v := 1) hx hb dX9_flies_22 (by decide) ?_
      refine lv_goto (tgt := 27) hx hb dX9_flies_23 (by decide) ?_
      exact hr (congrArg bi (Option.some.inj h)) rfl hG dX9_flies_27
def f_X9_takesOf (M : Mem) (i0 : Nat) (x1 : Int32) : Option Int32 :=
  nm (((21 : Int32) + ((6 : Int32) * x1))) fun x2_7 =>
  chk (ixb ((6 : Int32) + (M i0 3)) 57) <|
  chk (ixb ((16 : Int32) + (M i0 ((6 : Int32) + (M i0 3)).toNatClampNeg)) 57) <|
  nm ((M i0 ((16 : Int32) + (M i0 ((6 : Int32) + (M i0 3)).toNatClampNeg)).toNatClampNeg)) fun x3_21 =>
  chk (ixb (x2_7 + (3 : Int32)) 57) <|
  (f_X9_flies M i0 (M i0 (x2_7 + (3 : Int32)).toNatClampNeg)).bind fun q28 =>
  chk (ixb x2_7 57) <|
  if (M i0 x2_7.toNatClampNeg) = (1 : Int32) then (
    some x3_21
  ) else (
  if (M i0 x2_7.toNatClampNeg) = (2 : Int32) then (
    some (x3_21 + (M i0 4))
  ) else (
  if (M i0 x2_7.toNatClampNeg) = (3 : Int32) then (
    some ((2 : Int32) * x3_21)
  ) else (
  if (M i0 x2_7.toNatClampNeg) = (4 : Int32) then (
    if q28 = true then (
      some (0 : Int32)
    ) else (
      some x3_21
    )
  ) else (
    if q28 = true then (
      some (0 : Int32)
    ) else (
      some (3 : Int32)
    )
  ))))
theorem e_X9_takesOf : yX9_takesOf.cls ≠ "java/lang/invoke/MethodHandle" ∧ yX9_takesOf.cls ≠ "java/lang/invoke/VarHandle" ∧ (parseMethodDescriptor yX9_takesOf.desc).map (fun d => d.parameters.length) = some 2 := by decide +kernel
set_option maxHeartbeats 4000000 in
set_option maxRecDepth 100000 in
theorem c_X9_takesOf (l : Launch) (D : va_G) (cs : Nat → ClassId) (ad : Nat → Nat) (M : Mem) {i0 : Nat} (k_i0 : gK i0 = 10) (l_i0 : gL i0 = 57) (x1 : Int32) {z : Int32} (h : f_X9_takesOf M i0 x1 = some z) : CtI l yX9_takesOf cX9_takesOf 5 .int 1 D cs ad [.ref (ad i0), .int x1] M z M := by
  refine ct_i (own := RX9) (by decide) rfl (Nat.le_of_ble_eq_true rfl) ?_
  intro p e s m args below meth c Q C hr
  have hx := C.1
  have hb := C.2.1
  have hown := C.2.2.2.1
  have hts := C.2.2.2.2.1
  intro H locs hG ls hl
  have hl : lv_has ls 5 [(0, .ref (ad i0)), (1, .int x1)] := hl
  unfold f_X9_takesOf at h
  refine lv_bipush (v := 21) hx hb dX9_takesOf_0 (by decide) ?_
  refine lv_bipush (v := 6) hx hb dX9_takesOf_2 (by decide) ?_
  refine lv_iload_n hx hb dX9_takesOf_4 rfl (lv_at hl 1 rfl) ?_
  refine lv_imul hx hb dX9_takesOf_5 ?_
  refine lv_iadd hx hb dX9_takesOf_6 ?_
  refine lv_topi (fun x2_7 e2_7 => ?_)
  have h := nm_at e2_7 h
  refine lv_istore_n (lv' := [(2, .int x2_7), (0, .ref (ad i0)), (1, .int x1)]) hx hb dX9_takesOf_7 rfl hl (by decide) rfl (fun ls hl => ?_)
  refine lv_aload_n hx hb dX9_takesOf_8 rfl (lv_at hl 1 rfl) ?_
  refine lv_bipush (v := 16) hx hb dX9_takesOf_9 (by decide) ?_
  refine lv_aload_n hx hb dX9_takesOf_11 rfl (lv_at hl 1 rfl) ?_
  refine lv_bipush (v := 6) hx hb dX9_takesOf_12 (by decide) ?_
  refine lv_aload_n hx hb dX9_takesOf_14 rfl (lv_at hl 1 rfl) ?_
  refine lv_iconst (v := 3) hx hb dX9_takesOf_15 (by decide) ?_
  refine g_al (j := 3) C hG k_i0 l_i0 (ixl rfl) (by decide) dX9_takesOf_16 ?_
  refine lv_iadd hx hb dX9_takesOf_17 ?_
  obtain ⟨hi_18, h⟩ := ix_e h
  refine g_al C hG k_i0 l_i0 hi_18 rfl dX9_takesOf_18 ?_
  refine lv_iadd hx hb dX9_takesOf_19 ?_
  obtain ⟨hi_20, h⟩ := ix_e h
  refine g_al C hG k_i0 l_i0 hi_20 rfl dX9_takesOf_20 ?_
  refine lv_topi (fun x3_21 e3_21 => ?_)
  have h := nm_at e3_21 h
  refine lv_istore_n (lv' := [(3, .int x3_21), (2, .int x2_7), (0, .ref (ad i0)), (1, .int x1)]) hx hb dX9_takesOf_21 rfl hl (by decide) rfl (fun ls hl => ?_)
  refine lv_aload_n hx hb dX9_takesOf_22 rfl (lv_at hl 2 rfl) ?_
  refine lv_aload_n hx hb dX9_takesOf_23 rfl (lv_at hl 2 rfl) ?_
  refine lv_iload_n hx hb dX9_takesOf_24 rfl (lv_at hl 1 rfl) ?_
  refine lv_iconst (v := 3) hx hb dX9_takesOf_25 (by decide) ?_
  refine lv_iadd hx hb dX9_takesOf_26 ?_
  obtain ⟨hi_27, h⟩ := ix_e h
  refine g_al C hG k_i0 l_i0 hi_27 rfl dX9_takesOf_27 ?_
  obtain ⟨q28, e_28, h⟩ := bd_e h
  refine g_ci hG (g_runS C hG (c_X9_flies l D cs ad M k_i0 l_i0 (M i0 (x2_7 + (3 : Int32)).toNatClampNeg) e_28) wm_X9_144 wt_X9_flies wz_X9 wc_X9_flies e_X9_flies (by decide) hl.1 (Nat.le_of_ble_eq_true rfl) dX9_takesOf_28) (fun H locs hG => ?_)
  refine lv_istore (lv' := [(4, .int (bi q28)), (3, .int x3_21), (2, .int x2_7), (0, .ref (ad i0)), (1, .int x1)]) hx hb dX9_takesOf_31 hl (by decide) rfl (fun ls hl => ?_)
  refine lv_aload_n hx hb dX9_takesOf_33 rfl (lv_at hl 3 rfl) ?_
  refine lv_iload_n hx hb dX9_takesOf_34 rfl (lv_at hl 2 rfl) ?_
  obtain ⟨hi_35, h⟩ := ix_e h
  refine g_al C hG k_i0 l_i0 hi_35 rfl dX9_takesOf_35 ?_
  by_cases c_36_1 : (M i0 x2_7.toNatClampNeg) = (1 : Int32)
  · have h := if_t c_36_1 h
    refine g_tsw (tgt := 68) (off := 32) hx hb dX9_takesOf_36 (by rw [c_36_1]; rfl) (by decide) ?_
    refine lv_iload_n hx hb dX9_takesOf_68 rfl (lv_at hl 1 rfl) ?_
    exact hr (Option.some.inj h) rfl hG dX9_takesOf_69
  have h := if_f c_36_1 h
  by_cases c_36_2 : (M i0 x2_7.toNatClampNeg) = (2 : Int32)
  · have h := if_t c_36_2 h
    refine g_tsw (tgt := 70) (off := 34) hx hb dX9_takesOf_36 (by rw [c_36_2]; rfl) (by decide) ?_
    refine lv_iload_n hx hb dX9_takesOf_70 rfl (lv_at hl 1 rfl) ?_
    refine lv_aload_n hx hb dX9_takesOf_71 rfl (lv_at hl 3 rfl) ?_
    refine lv_iconst (v := 4) hx hb dX9_takesOf_72 (by decide) ?_
    refine g_al (j := 4) C hG k_i0 l_i0 (ixl rfl) (by decide) dX9_takesOf_73 ?_
    refine lv_iadd hx hb dX9_takesOf_74 ?_
    exact hr (Option.some.inj h) rfl hG dX9_takesOf_75
  have h := if_f c_36_2 h
  by_cases c_36_3 : (M i0 x2_7.toNatClampNeg) = (3 : Int32)
  · have h := if_t c_36_3 h
    refine g_tsw (tgt := 76) (off := 40) hx hb dX9_takesOf_36 (by rw [c_36_3]; rfl) (by decide) ?_
    refine lv_iconst (v := 2) hx hb dX9_takesOf_76 (by decide) ?_
    refine lv_iload_n hx hb dX9_takesOf_77 rfl (lv_at hl 1 rfl) ?_
    refine lv_imul hx hb dX9_takesOf_78 ?_
    exact hr (Option.some.inj h) rfl hG dX9_takesOf_79
  have h := if_f c_36_3 h
  by_cases c_36_4 : (M i0 x2_7.toNatClampNeg) = (4 : Int32)
  · have h := if_t c_36_4 h
    refine g_tsw (tgt := 80) (off := 44) hx hb dX9_takesOf_36 (by rw [c_36_4]; rfl) (by decide) ?_
    refine lv_iload hx hb dX9_takesOf_80 (lv_at hl 0 rfl) ?_
    refine lv_if_eq (tgt := 89) hx hb dX9_takesOf_82 (by decide) (fun c_82 => ?_) (fun c_82 => ?_)
    · have h := if_f (bi_f c_82) h
      refine lv_iload_n hx hb dX9_takesOf_89 rfl (lv_at hl 1 rfl) ?_
      exact hr (Option.some.inj h) rfl hG dX9_takesOf_90
    · have h := if_t (bi_t c_82) h
      refine lv_iconst (v := 0) hx hb dX9_takesOf_85 (by decide) ?_
      refine lv_goto (tgt := 90) hx hb dX9_takesOf_86 (by decide) ?_
      exact hr (Option.some.inj h) rfl hG dX9_takesOf_90
  have h := if_f c_36_4 h
  refine g_tsw (tgt := 91) (off := 55) hx hb dX9_takesOf_36 ?_ (by decide) ?_
  · have n_1 := i32_ne c_36_1 (j := 1) rfl
    have n_2 := i32_ne c_36_2 (j := 2) rfl
    have n_3 := i32_ne c_36_3 (j := 3) rfl
    have n_4 := i32_ne c_36_4 (j := 4) rfl
    rcases (show ((M i0 x2_7.toNatClampNeg)).toInt < 1 ∨ 4 < ((M i0 x2_7.toNatClampNeg)).toInt by omega) with q | q
    · exact if_pos (Or.inl q)
    · exact if_pos (Or.inr q)
  · refine lv_iload hx hb dX9_takesOf_91 (lv_at hl 0 rfl) ?_
    refine lv_if_eq (tgt := 100) hx hb dX9_takesOf_93 (by decide) (fun c_93 => ?_) (fun c_93 => ?_)
    · have h := if_f (bi_f c_93) h
      refine lv_iconst (v := 3) hx hb dX9_takesOf_100 (by decide) ?_
      exact hr (Option.some.inj h) rfl hG dX9_takesOf_101
    · have h := if_t (bi_t c_93) h
      refine lv_iconst (v := 0) hx hb dX9_takesOf_96 (by decide) ?_
      refine lv_goto (tgt := 101) hx hb dX9_takesOf_97 (by decide) ?_
      exact hr (Option.some.inj h) rfl hG dX9_takesOf_101
def f_X9_isLoose (M : Mem) (i0 : Nat) (x1 : Int32) : Option Bool :=
  (f_X9_flies M i0 x1).bind fun q2 =>
  if q2 = true then (
    chk (ixb (((21 : Int32) + ((6 : Int32) * x1)) + (5 : Int32)) 57) <|
    if (M i0 (((21 : Int32) + ((6 : Int32) * x1)) + (5 : Int32)).toNatClampNeg) = (0 : Int32) then (
      some true
    ) else (
      some false
    )
  ) else (
    some false
  )
theorem e_X9_isLoose : yX9_isLoose.cls ≠ "java/lang/invoke/MethodHandle" ∧ yX9_isLoose.cls ≠ "java/lang/invoke/VarHandle" ∧ (parseMethodDescriptor yX9_isLoose.desc).map (fun d => d.parameters.length) = some 2 := by decide +kernel
set_option maxHeartbeats 4000000 in
set_option maxRecDepth 100000 in
theorem c_X9_isLoose (l : Launch) (D : va_G) (cs : Nat → ClassId) (ad : Nat → Nat) (M : Mem) {i0 : Nat} (k_i0 : gK i0 = 10) (l_i0 : gL i0 = 57) (x1 : Int32) {z : Bool} (h : f_X9_isLoose M i0 x1 = some z) : CtI l yX9_isLoose cX9_isLoose 2 .boolean 1 D cs ad [.ref (ad i0), .int x1] M (bi z) M := by
  refine ct_z (own := RX9) (by decide) rfl (Nat.le_of_ble_eq_true rfl) ?_
  intro p e s m args below meth c Q C hr
  have hx := C.1
  have hb := C.2.1
  have hown := C.2.2.2.1
  have hts := C.2.2.2.2.1
  intro H locs hG ls hl
  have hl : lv_has ls 2 [(0, .ref (ad i0)), (1, .int x1)] := hl
  unfold f_X9_isLoose at h
  refine lv_aload_n hx hb dX9_isLoose_0 rfl (lv_at hl 0 rfl) ?_
  refine lv_iload_n hx hb dX9_isLoose_1 rfl (lv_at hl 1 rfl) ?_
  obtain ⟨q2, e_2, h⟩ := bd_e h
  refine g_ci hG (g_runS C hG (c_X9_flies l D cs ad M k_i0 l_i0 x1 e_2) wm_X9_144 wt_X9_flies wz_X9 wc_X9_flies e_X9_flies (by decide) hl.1 (Nat.le_of_ble_eq_true rfl) dX9_isLoose_2) (fun H locs hG => ?_)
  refine lv_if_eq (tgt := 26) hx hb dX9_isLoose_5 (by decide) (fun c_5 => ?_) (fun c_5 => ?_)
  · have h := if_f (bi_f c_5) h
    refine lv_iconst (v := 0) hx hb dX9_isLoose_26 (by decide) ?_
    exact hr (congrArg bi (Option.some.inj h)) rfl hG dX9_isLoose_27
  · have h := if_t (bi_t c_5) h
    refine lv_aload_n hx hb dX9_isLoose_8 rfl (lv_at hl 0 rfl) ?_
    refine lv_bipush (v := 21) hx hb dX9_isLoose_9 (by decide) ?_
    refine lv_bipush (v := 6) hx hb dX9_isLoose_11 (by decide) ?_
    refine lv_iload_n hx hb dX9_isLoose_13 rfl (lv_at hl 1 rfl) ?_
    refine lv_imul hx hb dX9_isLoose_14 ?_
    refine lv_iadd hx hb dX9_isLoose_15 ?_
    refine lv_iconst (v := 5) hx hb dX9_isLoose_16 (by decide) ?_
    refine lv_iadd hx hb dX9_isLoose_17 ?_
    obtain ⟨hi_18, h⟩ := ix_e h
    refine g_al C hG k_i0 l_i0 hi_18 rfl dX9_isLoose_18 ?_
    refine lv_if_ne (tgt := 26) hx hb dX9_isLoose_19 (by decide) (fun c_19 => ?_) (fun c_19 => ?_)
    · have h := if_f c_19 h
      refine lv_iconst (v := 0) hx hb dX9_isLoose_26 (by decide) ?_
      exact hr (congrArg bi (Option.some.inj h)) rfl hG dX9_isLoose_27
    · have h := if_t c_19 h
      refine lv_iconst (v := 1) hx hb dX9_isLoose_22 (by decide) ?_
      refine lv_goto (tgt := 27) hx hb dX9_isLoose_23 (by decide) ?_
      exact hr (congrArg bi (Option.some.inj h)) rfl hG dX9_isLoose_27
def f_X9_has (x0 : Int32) (x1 : Int32) : Bool :=
  if ((x0 >>> (x1 &&& 31)) &&& (1 : Int32)) = (1 : Int32) then (
    true
  ) else (
    false
  )
theorem e_X9_has : yX9_has.cls ≠ "java/lang/invoke/MethodHandle" ∧ yX9_has.cls ≠ "java/lang/invoke/VarHandle" ∧ (parseMethodDescriptor yX9_has.desc).map (fun d => d.parameters.length) = some 2 := by decide +kernel
set_option maxHeartbeats 4000000 in
set_option maxRecDepth 100000 in
theorem c_X9_has (l : Launch) (D : va_G) (cs : Nat → ClassId) (ad : Nat → Nat) (M : Mem) (x0 : Int32) (x1 : Int32) {z : Bool} (h : f_X9_has x0 x1 = z) : CtI l yX9_has cX9_has 2 .boolean 0 D cs ad [.int x0, .int x1] M (bi z) M := by
  refine ct_z (own := RX9) (by decide) rfl (Nat.le_of_ble_eq_true rfl) ?_
  intro p e s m args below meth c Q C hr
  have hx := C.1
  have hb := C.2.1
  have hown := C.2.2.2.1
  have hts := C.2.2.2.2.1
  intro H locs hG ls hl
  have hl : lv_has ls 2 [(0, .int x0), (1, .int x1)] := hl
  unfold f_X9_has at h
  refine lv_iload_n hx hb dX9_has_0 rfl (lv_at hl 0 rfl) ?_
  refine lv_iload_n hx hb dX9_has_1 rfl (lv_at hl 1 rfl) ?_
  refine lv_ishr hx hb dX9_has_2 ?_
  refine lv_iconst (v := 1) hx hb dX9_has_3 (by decide) ?_
  refine lv_iand hx hb dX9_has_4 ?_
  refine lv_iconst (v := 1) hx hb dX9_has_5 (by decide) ?_
  refine lv_icmp_ne (tgt := 13) hx hb dX9_has_6 (by decide) (fun c_6 => ?_) (fun c_6 => ?_)
  · have h := if_f c_6 h
    refine lv_iconst (v := 0) hx hb dX9_has_13 (by decide) ?_
    exact hr (congrArg bi h) rfl hG dX9_has_14
  · have h := if_t c_6 h
    refine lv_iconst (v := 1) hx hb dX9_has_9 (by decide) ?_
    refine lv_goto (tgt := 14) hx hb dX9_has_10 (by decide) ?_
    exact hr (congrArg bi h) rfl hG dX9_has_14
def f_X9_ones_4 (x0 : Int32) (r4 : (Int32 × Int32) → Option Int32) (x1 : Int32) (x2 : Int32) : Option Int32 :=
  if (8 : Int32) ≤ x2 then (
    some x1
  ) else (
    nm ((x1 + ((x0 >>> (x2 &&& 31)) &&& (1 : Int32)))) fun x1_17 =>
    nm (x2 + (1 : Int32)) fun x2_18 =>
    r4 (x1_17, x2_18)
  )
def f_X9_ones (x0 : Int32) : Option Int32 :=
  iter (fun rec a => f_X9_ones_4 x0 rec a.1 a.2) fuel ((0 : Int32), (0 : Int32))
theorem e_X9_ones : yX9_ones.cls ≠ "java/lang/invoke/MethodHandle" ∧ yX9_ones.cls ≠ "java/lang/invoke/VarHandle" ∧ (parseMethodDescriptor yX9_ones.desc).map (fun d => d.parameters.length) = some 1 := by decide +kernel
set_option maxHeartbeats 4000000 in
set_option maxRecDepth 100000 in
theorem c_X9_ones (l : Launch) (D : va_G) (cs : Nat → ClassId) (ad : Nat → Nat) (M : Mem) (x0 : Int32) {z : Int32} (h : f_X9_ones x0 = some z) : CtI l yX9_ones cX9_ones 3 .int 0 D cs ad [.int x0] M z M := by
  refine ct_i (own := RX9) (by decide) rfl (Nat.le_of_ble_eq_true rfl) ?_
  intro p e s m args below meth c Q C hr
  have hx := C.1
  have hb := C.2.1
  have hown := C.2.2.2.1
  have hts := C.2.2.2.2.1
  have J_4 : ∀ (x0 : Int32) (n : Nat) (a : Int32 × Int32), iter (fun rec a => f_X9_ones_4 x0 rec a.1 a.2) n a = some z → GP p l e (rmk 0) s m args below meth c 0 0 Q D cs ad 3 4 [(0, .int x0), (1, .int a.1), (2, .int a.2)] [] M := by
    intro x0
    refine iter_ind (fun r4 hr4 a h => ?_)
    obtain ⟨x1, x2⟩ := a
    have h : f_X9_ones_4 x0 r4 x1 x2 = some z := h
    intro H locs hG ls hl
    have hG : GH D cs ad s M H locs := hG
    have hl : lv_has ls 3 [(0, .int x0), (1, .int x1), (2, .int x2)] := hl
    unfold f_X9_ones_4 at h
    refine lv_iload_n hx hb dX9_ones_4 rfl (lv_at hl 2 rfl) ?_
    refine lv_bipush (v := 8) hx hb dX9_ones_5 (by decide) ?_
    refine lv_icmp_ge (tgt := 24) hx hb dX9_ones_7 (by decide) (fun c_7 => ?_) (fun c_7 => ?_)
    · have h := if_t c_7 h
      refine lv_iload_n hx hb dX9_ones_24 rfl (lv_at hl 1 rfl) ?_
      exact hr (Option.some.inj h) rfl hG dX9_ones_25
    · have h := if_f c_7 h
      refine lv_iload_n hx hb dX9_ones_10 rfl (lv_at hl 1 rfl) ?_
      refine lv_iload_n hx hb dX9_ones_11 rfl (lv_at hl 0 rfl) ?_
      refine lv_iload_n hx hb dX9_ones_12 rfl (lv_at hl 2 rfl) ?_
      refine lv_ishr hx hb dX9_ones_13 ?_
      refine lv_iconst (v := 1) hx hb dX9_ones_14 (by decide) ?_
      refine lv_iand hx hb dX9_ones_15 ?_
      refine lv_iadd hx hb dX9_ones_16 ?_
      refine lv_topi (fun x1_17 e1_17 => ?_)
      have h := nm_at e1_17 h
      refine lv_istore_n (lv' := [(1, .int x1_17), (0, .int x0), (2, .int x2)]) hx hb dX9_ones_17 rfl hl (by decide) rfl (fun ls hl => ?_)
      obtain ⟨x2_18, e2_18⟩ : ∃ y : Int32, y = x2 + (1 : Int32) := ⟨_, rfl⟩
      have h := nm_at e2_18 h
      refine lv_iinc (v := x2_18) (lv' := [(2, .int x2_18), (1, .int x1_17), (0, .int x0)]) hx hb dX9_ones_18 hl (k := 2) rfl (by rw [e2_18]; rfl) (by decide) rfl (fun ls hl => ?_)
      refine lv_goto (tgt := 4) hx hb dX9_ones_21 (by decide) ?_
      exact hr4 (x1_17, x2_18) h H locs hG ls (lv_sub hl [2, 1, 0] rfl)
  intro H locs hG ls hl
  have hl : lv_has ls 3 [(0, .int x0)] := hl
  unfold f_X9_ones at h
  refine lv_iconst (v := 0) hx hb dX9_ones_0 (by decide) ?_
  refine lv_istore_n (lv' := [(1, .int 0), (0, .int x0)]) hx hb dX9_ones_1 rfl hl (by decide) rfl (fun ls hl => ?_)
  refine lv_iconst (v := 0) hx hb dX9_ones_2 (by decide) ?_
  refine lv_istore_n (lv' := [(2, .int 0), (1, .int 0), (0, .int x0)]) hx hb dX9_ones_3 rfl hl (by decide) rfl (fun ls hl => ?_)
  exact J_4 x0 _ ((0 : Int32), (0 : Int32)) h H locs hG ls (lv_sub hl [2, 1, 0] rfl)
def f_X9_turns_2 (i0 : Nat) (x1 : Int32) (r2 : (Mem × Int32) → Option Mem) (M : Mem) (x2 : Int32) : Option Mem :=
  if (M i0 5) ≤ x2 then (
    (f_X9_ones x1).bind fun q54 =>
    nm (st M i0 4 ((M i0 4) + q54)) fun M58 =>
    some M58
  ) else (
    if (f_X9_has x1 x2) = true then (
      chk (ixb (((21 : Int32) + ((6 : Int32) * x2)) + (4 : Int32)) 57) <|
      nm (st M i0 ((((21 : Int32) + ((6 : Int32) * x2)) + (4 : Int32)).toNatClampNeg) (0 : Int32)) fun M42 =>
      nm (x2 + (1 : Int32)) fun x2_43 =>
      r2 (M42, x2_43)
    ) else (
      chk (ixb (((21 : Int32) + ((6 : Int32) * x2)) + (4 : Int32)) 57) <|
      nm (st M i0 ((((21 : Int32) + ((6 : Int32) * x2)) + (4 : Int32)).toNatClampNeg) (M i0 (((21 : Int32) + ((6 : Int32) * x2)) + (4 : Int32)).toNatClampNeg)) fun M42 =>
      nm (x2 + (1 : Int32)) fun x2_43 =>
      r2 (M42, x2_43)
    )
  )
def f_X9_turns (M : Mem) (i0 : Nat) (x1 : Int32) : Option Mem :=
  iter (fun rec a => f_X9_turns_2 i0 x1 rec a.1 a.2) fuel (M, (0 : Int32))
theorem e_X9_turns : yX9_turns.cls ≠ "java/lang/invoke/MethodHandle" ∧ yX9_turns.cls ≠ "java/lang/invoke/VarHandle" ∧ (parseMethodDescriptor yX9_turns.desc).map (fun d => d.parameters.length) = some 2 := by decide +kernel
set_option maxHeartbeats 4000000 in
set_option maxRecDepth 100000 in
theorem c_X9_turns (l : Launch) (D : va_G) (cs : Nat → ClassId) (ad : Nat → Nat) (M : Mem) {i0 : Nat} (k_i0 : gK i0 = 10) (l_i0 : gL i0 = 57) (x1 : Int32) {z : Mem} (h : f_X9_turns M i0 x1 = some z) : CtV l yX9_turns cX9_turns 3 1 D cs ad [.ref (ad i0), .int x1] M z := by
  refine ct_v (own := RX9) (by decide) rfl (Nat.le_of_ble_eq_true rfl) ?_
  intro p e s m args below meth c Q C hr
  have hx := C.1
  have hb := C.2.1
  have hown := C.2.2.2.1
  have hts := C.2.2.2.2.1
  have J_2 : ∀ (x1 : Int32) (n : Nat) (a : Mem × Int32), iter (fun rec a => f_X9_turns_2 i0 x1 rec a.1 a.2) n a = some z → GP p l e (rmk 1) s m args below meth c 0 0 Q D cs ad 3 2 [(0, .ref (ad i0)), (1, .int x1), (2, .int a.2)] [] a.1 := by
    intro x1
    refine iter_ind (fun r2 hr2 a h => ?_)
    obtain ⟨M, x2⟩ := a
    have h : f_X9_turns_2 i0 x1 r2 M x2 = some z := h
    intro H locs hG ls hl
    have hG : GH D cs ad s M H locs := hG
    have hl : lv_has ls 3 [(0, .ref (ad i0)), (1, .int x1), (2, .int x2)] := hl
    unfold f_X9_turns_2 at h
    refine lv_iload_n hx hb dX9_turns_2 rfl (lv_at hl 2 rfl) ?_
    refine lv_aload_n hx hb dX9_turns_3 rfl (lv_at hl 0 rfl) ?_
    refine lv_iconst (v := 5) hx hb dX9_turns_4 (by decide) ?_
    refine g_al (j := 5) C hG k_i0 l_i0 (ixl rfl) (by decide) dX9_turns_5 ?_
    refine lv_icmp_ge (tgt := 49) hx hb dX9_turns_6 (by decide) (fun c_6 => ?_) (fun c_6 => ?_)
    · have h := if_t c_6 h
      refine lv_aload_n hx hb dX9_turns_49 rfl (lv_at hl 0 rfl) ?_
      refine lv_iconst (v := 4) hx hb dX9_turns_50 (by decide) ?_
      refine lv_dup2_11 hx hb dX9_turns_51 rfl rfl ?_
      refine g_al (j := 4) C hG k_i0 l_i0 (ixl rfl) (by decide) dX9_turns_52 ?_
      refine lv_iload_n hx hb dX9_turns_53 rfl (lv_at hl 1 rfl) ?_
      obtain ⟨q54, e_54, h⟩ := bd_e h
      refine g_ci hG (g_runS C hG (c_X9_ones l D cs ad M x1 e_54) wm_X9_152 wt_X9_ones wz_X9 wc_X9_ones e_X9_ones (by decide) hl.1 (Nat.le_of_ble_eq_true rfl) dX9_turns_54) (fun H locs hG => ?_)
      refine lv_iadd hx hb dX9_turns_57 ?_
      refine g_as (j := 4) C hG k_i0 l_i0 (ixl rfl) (by decide) dX9_turns_58 (fun M58 e_58 H locs hG => ?_)
      have h := nm_at e_58 h
      exact hr (Option.some.inj h) hG dX9_turns_59
    · have h := if_f c_6 h
      refine lv_aload_n hx hb dX9_turns_9 rfl (lv_at hl 0 rfl) ?_
      refine lv_bipush (v := 21) hx hb dX9_turns_10 (by decide) ?_
      refine lv_bipush (v := 6) hx hb dX9_turns_12 (by decide) ?_
      refine lv_iload_n hx hb dX9_turns_14 rfl (lv_at hl 2 rfl) ?_
      refine lv_imul hx hb dX9_turns_15 ?_
      refine lv_iadd hx hb dX9_turns_16 ?_
      refine lv_iconst (v := 4) hx hb dX9_turns_17 (by decide) ?_
      refine lv_iadd hx hb dX9_turns_18 ?_
      refine lv_iload_n hx hb dX9_turns_19 rfl (lv_at hl 1 rfl) ?_
      refine lv_iload_n hx hb dX9_turns_20 rfl (lv_at hl 2 rfl) ?_
      refine g_ci hG (g_runS C hG (c_X9_has l D cs ad M x1 x2 rfl) wm_X9_148 wt_X9_has wz_X9 wc_X9_has e_X9_has (by decide) hl.1 (Nat.le_of_ble_eq_true rfl) dX9_turns_21) (fun H locs hG => ?_)
      refine lv_if_eq (tgt := 31) hx hb dX9_turns_24 (by decide) (fun c_24 => ?_) (fun c_24 => ?_)
      · have h := if_f (bi_f c_24) h
        refine lv_aload_n hx hb dX9_turns_31 rfl (lv_at hl 0 rfl) ?_
        refine lv_bipush (v := 21) hx hb dX9_turns_32 (by decide) ?_
        refine lv_bipush (v := 6) hx hb dX9_turns_34 (by decide) ?_
        refine lv_iload_n hx hb dX9_turns_36 rfl (lv_at hl 2 rfl) ?_
        refine lv_imul hx hb dX9_turns_37 ?_
        refine lv_iadd hx hb dX9_turns_38 ?_
        refine lv_iconst (v := 4) hx hb dX9_turns_39 (by decide) ?_
        refine lv_iadd hx hb dX9_turns_40 ?_
        obtain ⟨hi_41, h⟩ := ix_e h
        refine g_al C hG k_i0 l_i0 hi_41 rfl dX9_turns_41 ?_
        refine g_as C hG k_i0 l_i0 hi_41 rfl dX9_turns_42 (fun M42 e_42 H locs hG => ?_)
        have h := nm_at e_42 h
        obtain ⟨x2_43, e2_43⟩ : ∃ y : Int32, y = x2 + (1 : Int32) := ⟨_, rfl⟩
        have h := nm_at e2_43 h
        refine lv_iinc (v := x2_43) (lv' := [(2, .int x2_43), (0, .ref (ad i0)), (1, .int x1)]) hx hb dX9_turns_43 hl (k := 2) rfl (by rw [e2_43]; rfl) (by decide) rfl (fun ls hl => ?_)
        refine lv_goto (tgt := 2) hx hb dX9_turns_46 (by decide) ?_
        exact hr2 (M42, x2_43) h H locs hG ls (lv_sub hl [1, 2, 0] rfl)
      · have h := if_t (bi_t c_24) h
        refine lv_iconst (v := 0) hx hb dX9_turns_27 (by decide) ?_
        refine lv_goto (tgt := 42) hx hb dX9_turns_28 (by decide) ?_
        obtain ⟨hi_42, h⟩ := ix_e h
        refine g_as C hG k_i0 l_i0 hi_42 rfl dX9_turns_42 (fun M42 e_42 H locs hG => ?_)
        have h := nm_at e_42 h
        obtain ⟨x2_43, e2_43⟩ : ∃ y : Int32, y = x2 + (1 : Int32) := ⟨_, rfl⟩
        have h := nm_at e2_43 h
        refine lv_iinc (v := x2_43) (lv' := [(2, .int x2_43), (0, .ref (ad i0)), (1, .int x1)]) hx hb dX9_turns_43 hl (k := 2) rfl (by rw [e2_43]; rfl) (by decide) rfl (fun ls hl => ?_)
        refine lv_goto (tgt := 2) hx hb dX9_turns_46 (by decide) ?_
        exact hr2 (M42, x2_43) h H locs hG ls (lv_sub hl [1, 2, 0] rfl)
  intro H locs hG ls hl
  have hl : lv_has ls 3 [(0, .ref (ad i0)), (1, .int x1)] := hl
  unfold f_X9_turns at h
  refine lv_iconst (v := 0) hx hb dX9_turns_0 (by decide) ?_
  refine lv_istore_n (lv' := [(2, .int 0), (0, .ref (ad i0)), (1, .int x1)]) hx hb dX9_turns_1 rfl hl (by decide) rfl (fun ls hl => ?_)
  exact J_2 x1 _ (M, (0 : Int32)) h H locs hG ls (lv_sub hl [1, 2, 0] rfl)
def f_X9_leavers_4 (i0 : Nat) (M : Mem) (r4 : (Int32 × Int32) → Option Int32) (x1 : Int32) (x2 : Int32) : Option Int32 :=
  if (M i0 5) ≤ x2 then (
    some x1
  ) else (
    chk (ixb (((21 : Int32) + ((6 : Int32) * x2)) + (2 : Int32)) 57) <|
    nm ((M i0 (((21 : Int32) + ((6 : Int32) * x2)) + (2 : Int32)).toNatClampNeg)) fun x3_22 =>
    (f_X9_isLoose M i0 x2).bind fun q26 =>
    if q26 = true then (
      if x3_22 ≤ (0 : Int32) then (
        nm ((x1 ||| (0 : Int32))) fun x1_51 =>
        nm (x2 + (1 : Int32)) fun x2_52 =>
        r4 (x1_51, x2_52)
      ) else (
        if (M i0 4) < x3_22 then (
          nm ((x1 ||| (0 : Int32))) fun x1_51 =>
          nm (x2 + (1 : Int32)) fun x2_52 =>
          r4 (x1_51, x2_52)
        ) else (
          nm ((x1 ||| ((1 : Int32) <<< (x2 &&& 31)))) fun x1_51 =>
          nm (x2 + (1 : Int32)) fun x2_52 =>
          r4 (x1_51, x2_52)
        )
      )
    ) else (
      nm ((x1 ||| (0 : Int32))) fun x1_51 =>
      nm (x2 + (1 : Int32)) fun x2_52 =>
      r4 (x1_51, x2_52)
    )
  )
def f_X9_leavers (M : Mem) (i0 : Nat) : Option Int32 :=
  iter (fun rec a => f_X9_leavers_4 i0 M rec a.1 a.2) fuel ((0 : Int32), (0 : Int32))
theorem e_X9_leavers : yX9_leavers.cls ≠ "java/lang/invoke/MethodHandle" ∧ yX9_leavers.cls ≠ "java/lang/invoke/VarHandle" ∧ (parseMethodDescriptor yX9_leavers.desc).map (fun d => d.parameters.length) = some 1 := by decide +kernel
set_option maxHeartbeats 4000000 in
set_option maxRecDepth 100000 in
theorem c_X9_leavers (l : Launch) (D : va_G) (cs : Nat → ClassId) (ad : Nat → Nat) (M : Mem) {i0 : Nat} (k_i0 : gK i0 = 10) (l_i0 : gL i0 = 57) {z : Int32} (h : f_X9_leavers M i0 = some z) : CtI l yX9_leavers cX9_leavers 4 .int 2 D cs ad [.ref (ad i0)] M z M := by
  refine ct_i (own := RX9) (by decide) rfl (Nat.le_of_ble_eq_true rfl) ?_
  intro p e s m args below meth c Q C hr
  have hx := C.1
  have hb := C.2.1
  have hown := C.2.2.2.1
  have hts := C.2.2.2.2.1
  have J_4 : ∀ (n : Nat) (a : Int32 × Int32), iter (fun rec a => f_X9_leavers_4 i0 M rec a.1 a.2) n a = some z → GP p l e (rmk 2) s m args below meth c 0 0 Q D cs ad 4 4 [(0, .ref (ad i0)), (1, .int a.1), (2, .int a.2)] [] M := by
    refine iter_ind (fun r4 hr4 a h => ?_)
    obtain ⟨x1, x2⟩ := a
    have h : f_X9_leavers_4 i0 M r4 x1 x2 = some z := h
    intro H locs hG ls hl
    have hG : GH D cs ad s M H locs := hG
    have hl : lv_has ls 4 [(0, .ref (ad i0)), (1, .int x1), (2, .int x2)] := hl
    unfold f_X9_leavers_4 at h
    refine lv_iload_n hx hb dX9_leavers_4 rfl (lv_at hl 2 rfl) ?_
    refine lv_aload_n hx hb dX9_leavers_5 rfl (lv_at hl 0 rfl) ?_
    refine lv_iconst (v := 5) hx hb dX9_leavers_6 (by decide) ?_
    refine g_al (j := 5) C hG k_i0 l_i0 (ixl rfl) (by decide) dX9_leavers_7 ?_
    refine lv_icmp_ge (tgt := 58) hx hb dX9_leavers_8 (by decide) (fun c_8 => ?_) (fun c_8 => ?_)
    · have h := if_t c_8 h
      refine lv_iload_n hx hb dX9_leavers_58 rfl (lv_at hl 1 rfl) ?_
      exact hr (Option.some.inj h) rfl hG dX9_leavers_59
    · have h := if_f c_8 h
      refine lv_aload_n hx hb dX9_leavers_11 rfl (lv_at hl 0 rfl) ?_
      refine lv_bipush (v := 21) hx hb dX9_leavers_12 (by decide) ?_
      refine lv_bipush (v := 6) hx hb dX9_leavers_14 (by decide) ?_
      refine lv_iload_n hx hb dX9_leavers_16 rfl (lv_at hl 2 rfl) ?_
      refine lv_imul hx hb dX9_leavers_17 ?_
      refine lv_iadd hx hb dX9_leavers_18 ?_
      refine lv_iconst (v := 2) hx hb dX9_leavers_19 (by decide) ?_
      refine lv_iadd hx hb dX9_leavers_20 ?_
      obtain ⟨hi_21, h⟩ := ix_e h
      refine g_al C hG k_i0 l_i0 hi_21 rfl dX9_leavers_21 ?_
      refine lv_topi (fun x3_22 e3_22 => ?_)
      have h := nm_at e3_22 h
      refine lv_istore_n (lv' := [(3, .int x3_22), (0, .ref (ad i0)), (1, .int x1), (2, .int x2)]) hx hb dX9_leavers_22 rfl hl (by decide) rfl (fun ls hl => ?_)
      refine lv_iload_n hx hb dX9_leavers_23 rfl (lv_at hl 2 rfl) ?_
      refine lv_aload_n hx hb dX9_leavers_24 rfl (lv_at hl 1 rfl) ?_
      refine lv_iload_n hx hb dX9_leavers_25 rfl (lv_at hl 3 rfl) ?_
      obtain ⟨q26, e_26, h⟩ := bd_e h
      refine g_ci hG (g_runS C hG (c_X9_isLoose l D cs ad M k_i0 l_i0 x2 e_26) wm_X9_155 wt_X9_isLoose wz_X9 wc_X9_isLoose e_X9_isLoose (by decide) hl.1 (Nat.le_of_ble_eq_true rfl) dX9_leavers_26) (fun H locs hG => ?_)
      refine lv_if_eq (tgt := 49) hx hb dX9_leavers_29 (by decide) (fun c_29 => ?_) (fun c_29 => ?_)
      · have h := if_f (bi_f c_29) h
        refine lv_iconst (v := 0) hx hb dX9_leavers_49 (by decide) ?_
        refine lv_ior hx hb dX9_leavers_50 ?_
        refine lv_topi (fun x1_51 e1_51 => ?_)
        have h := nm_at e1_51 h
        refine lv_istore_n (lv' := [(1, .int x1_51), (3, .int x3_22), (0, .ref (ad i0)), (2, .int x2)]) hx hb dX9_leavers_51 rfl hl (by decide) rfl (fun ls hl => ?_)
        obtain ⟨x2_52, e2_52⟩ : ∃ y : Int32, y = x2 + (1 : Int32) := ⟨_, rfl⟩
        have h := nm_at e2_52 h
        refine lv_iinc (v := x2_52) (lv' := [(2, .int x2_52), (1, .int x1_51), (3, .int x3_22), (0, .ref (ad i0))]) hx hb dX9_leavers_52 hl (k := 3) rfl (by rw [e2_52]; rfl) (by decide) rfl (fun ls hl => ?_)
        refine lv_goto (tgt := 4) hx hb dX9_leavers_55 (by decide) ?_
        exact hr4 (x1_51, x2_52) h H locs hG ls (lv_sub hl [3, 1, 0] rfl)
      · have h := if_t (bi_t c_29) h
        refine lv_iload_n hx hb dX9_leavers_32 rfl (lv_at hl 0 rfl) ?_
        refine lv_if_le (tgt := 49) hx hb dX9_leavers_33 (by decide) (fun c_33 => ?_) (fun c_33 => ?_)
        · have h := if_t c_33 h
          refine lv_iconst (v := 0) hx hb dX9_leavers_49 (by decide) ?_
          refine lv_ior hx hb dX9_leavers_50 ?_
          refine lv_topi (fun x1_51 e1_51 => ?_)
          have h := nm_at e1_51 h
          refine lv_istore_n (lv' := [(1, .int x1_51), (3, .int x3_22), (0, .ref (ad i0)), (2, .int x2)]) hx hb dX9_leavers_51 rfl hl (by decide) rfl (fun ls hl => ?_)
          obtain ⟨x2_52, e2_52⟩ : ∃ y : Int32, y = x2 + (1 : Int32) := ⟨_, rfl⟩
          have h := nm_at e2_52 h
          refine lv_iinc (v := x2_52) (lv' := [(2, .int x2_52), (1, .int x1_51), (3, .int x3_22), (0, .ref (ad i0))]) hx hb dX9_leavers_52 hl (k := 3) rfl (by rw [e2_52]; rfl) (by decide) rfl (fun ls hl => ?_)
          refine lv_goto (tgt := 4) hx hb dX9_leavers_55 (by decide) ?_
          exact hr4 (x1_51, x2_52) h H locs hG ls (lv_sub hl [3, 1, 0] rfl)
        · have h := if_f c_33 h
          refine lv_iload_n hx hb dX9_leavers_36 rfl (lv_at hl 0 rfl) ?_
          refine lv_aload_n hx hb dX9_leavers_37 rfl (lv_at hl 1 rfl) ?_
          refine lv_iconst (v := 4) hx hb dX9_leavers_38 (by decide) ?_
          refine g_al (j := 4) C hG k_i0 l_i0 (ixl rfl) (by decide) dX9_leavers_39 ?_
          refine lv_icmp_gt (tgt := 49) hx hb dX9_leavers_40 (by decide) (fun c_40 => ?_) (fun c_40 => ?_)
          · have h := if_t c_40 h
            refine lv_iconst (v := 0) hx hb dX9_leavers_49 (by decide) ?_
            refine lv_ior hx hb dX9_leavers_50 ?_
            refine lv_topi (fun x1_51 e1_51 => ?_)
            have h := nm_at e1_51 h
            refine lv_istore_n (lv' := [(1, .int x1_51), (3, .int x3_22), (0, .ref (ad i0)), (2, .int x2)]) hx hb dX9_leavers_51 rfl hl (by decide) rfl (fun ls hl => ?_)
            obtain ⟨x2_52, e2_52⟩ : ∃ y : Int32, y = x2 + (1 : Int32) := ⟨_, rfl⟩
            have h := nm_at e2_52 h
            refine lv_iinc (v := x2_52) (lv' := [(2, .int x2_52), (1, .int x1_51), (3, .int x3_22), (0, .ref (ad i0))]) hx hb dX9_leavers_52 hl (k := 3) rfl (by rw [e2_52]; rfl) (by decide) rfl (fun ls hl => ?_)
            refine lv_goto (tgt := 4) hx hb dX9_leavers_55 (by decide) ?_
            exact hr4 (x1_51, x2_52) h H locs hG ls (lv_sub hl [3, 1, 0] rfl)
          · have h := if_f c_40 h
            refine lv_iconst (v := 1) hx hb dX9_leavers_43 (by decide) ?_
            refine lv_iload_n hx hb dX9_leavers_44 rfl (lv_at hl 3 rfl) ?_
            refine lv_ishl hx hb dX9_leavers_45 ?_
            refine lv_goto (tgt := 50) hx hb dX9_leavers_46 (by decide) ?_
            refine lv_ior hx hb dX9_leavers_50 ?_
            refine lv_topi (fun x1_51 e1_51 => ?_)
            have h := nm_at e1_51 h
            refine lv_istore_n (lv' := [(1, .int x1_51), (3, .int x3_22), (0, .ref (ad i0)), (2, .int x2)]) hx hb dX9_leavers_51 rfl hl (by decide) rfl (fun ls hl => ?_)
            obtain ⟨x2_52, e2_52⟩ : ∃ y : Int32, y = x2 + (1 : Int32) := ⟨_, rfl⟩
            have h := nm_at e2_52 h
            refine lv_iinc (v := x2_52) (lv' := [(2, .int x2_52), (1, .int x1_51), (3, .int x3_22), (0, .ref (ad i0))]) hx hb dX9_leavers_52 hl (k := 3) rfl (by rw [e2_52]; rfl) (by decide) rfl (fun ls hl => ?_)
            refine lv_goto (tgt := 4) hx hb dX9_leavers_55 (by decide) ?_
            exact hr4 (x1_51, x2_52) h H locs hG ls (lv_sub hl [3, 1, 0] rfl)
  intro H locs hG ls hl
  have hl : lv_has ls 4 [(0, .ref (ad i0))] := hl
  unfold f_X9_leavers at h
  refine lv_iconst (v := 0) hx hb dX9_leavers_0 (by decide) ?_
  refine lv_istore_n (lv' := [(1, .int 0), (0, .ref (ad i0))]) hx hb dX9_leavers_1 rfl hl (by decide) rfl (fun ls hl => ?_)
  refine lv_iconst (v := 0) hx hb dX9_leavers_2 (by decide) ?_
  refine lv_istore_n (lv' := [(2, .int 0), (1, .int 0), (0, .ref (ad i0))]) hx hb dX9_leavers_3 rfl hl (by decide) rfl (fun ls hl => ?_)
  exact J_4 _ ((0 : Int32), (0 : Int32)) h H locs hG ls (lv_sub hl [2, 1, 0] rfl)
def f_X9_passes_82 (i0 : Nat) (r18 : (Mem × Int32 × Int32) → Option Mem) (M : Mem) (x1 : Int32) (x2 : Int32) (x3 : Int32) (s1 : Int32) (s2 : Int32) : Option Mem :=
  chk (ixb s1 57) <|
  nm (st M i0 s1.toNatClampNeg s2) fun M82 =>
  (f_X9_isLoose M82 i0 x3).bind fun q86 =>
  if q86 = true then (
    chk (ixb (((21 : Int32) + ((6 : Int32) * x3)) + (1 : Int32)) 57) <|
    if x2 ≤ (M82 i0 (((21 : Int32) + ((6 : Int32) * x3)) + (1 : Int32)).toNatClampNeg) then (
      nm ((x1 ||| (0 : Int32))) fun x1_115 =>
      nm (x3 + (1 : Int32)) fun x3_116 =>
      r18 (M82, x1_115, x3_116)
    ) else (
      nm ((x1 ||| ((1 : Int32) <<< (x3 &&& 31)))) fun x1_115 =>
      nm (x3 + (1 : Int32)) fun x3_116 =>
      r18 (M82, x1_115, x3_116)
    )
  ) else (
    nm ((x1 ||| (0 : Int32))) fun x1_115 =>
    nm (x3 + (1 : Int32)) fun x3_116 =>
    r18 (M82, x1_115, x3_116)
  )
def f_X9_passes_59 (i0 : Nat) (r18 : (Mem × Int32 × Int32) → Option Mem) (M : Mem) (x1 : Int32) (x2 : Int32) (x3 : Int32) (s0 : Int32) : Option Mem :=
  if (0 : Int32) ≤ s0 then (
    f_X9_passes_82 i0 r18 M x1 x2 x3 (((21 : Int32) + ((6 : Int32) * x3)) + (1 : Int32)) s0
  ) else (
    f_X9_passes_82 i0 r18 M x1 x2 x3 (((21 : Int32) + ((6 : Int32) * x3)) + (1 : Int32)) (0 : Int32)
  )
def f_X9_passes_132 (i0 : Nat) (r132 : (Mem × Int32) → Option Mem) (M : Mem) (x3 : Int32) : Option Mem :=
  if x3 = (0 : Int32) then (
    nm (st M i0 3 ((M i0 3) + (1 : Int32))) fun M155 =>
    some M155
  ) else (
    (f_X9_turns M i0 x3).bind fun q138 =>
    (f_X9_leavers q138 i0).bind fun q142 =>
    r132 (q138, q142)
  )
def f_X9_passes_18 (i0 : Nat) (x2 : Int32) (r18 : (Mem × Int32 × Int32) → Option Mem) (M : Mem) (x1 : Int32) (x3 : Int32) : Option Mem :=
  if (M i0 5) ≤ x3 then (
    (f_X9_turns M i0 x1).bind fun q124 =>
    (f_X9_leavers q124 i0).bind fun q128 =>
    iter (fun rec a => f_X9_passes_132 i0 rec a.1 a.2) fuel (q124, q128)
  ) else (
    chk (ixb (((21 : Int32) + ((6 : Int32) * x3)) + (1 : Int32)) 57) <|
    nm ((M i0 (((21 : Int32) + ((6 : Int32) * x3)) + (1 : Int32)).toNatClampNeg)) fun x4_36 =>
    (f_X9_flies M i0 x3).bind fun q40 =>
    if q40 = true then (
      (f_X9_takesOf M i0 x3).bind fun q50 =>
      f_X9_passes_59 i0 r18 M x1 x2 x3 (x4_36 - q50)
    ) else (
      f_X9_passes_59 i0 r18 M x1 x2 x3 x4_36
    )
  )
def f_X9_passes (M : Mem) (i0 : Nat) : Option Mem :=
  chk (ixb ((6 : Int32) + (M i0 3)) 57) <|
  chk (ixb ((11 : Int32) + (M i0 ((6 : Int32) + (M i0 3)).toNatClampNeg)) 57) <|
  nm ((M i0 ((11 : Int32) + (M i0 ((6 : Int32) + (M i0 3)).toNatClampNeg)).toNatClampNeg)) fun x2_15 =>
  iter (fun rec a => f_X9_passes_18 i0 x2_15 rec a.1 a.2.1 a.2.2) fuel (M, (0 : Int32), (0 : Int32))
theorem e_X9_passes : yX9_passes.cls ≠ "java/lang/invoke/MethodHandle" ∧ yX9_passes.cls ≠ "java/lang/invoke/VarHandle" ∧ (parseMethodDescriptor yX9_passes.desc).map (fun d => d.parameters.length) = some 1 := by decide +kernel
set_option maxHeartbeats 4000000 in
set_option maxRecDepth 100000 in
theorem c_X9_passes (l : Launch) (D : va_G) (cs : Nat → ClassId) (ad : Nat → Nat) (M : Mem) {i0 : Nat} (k_i0 : gK i0 = 10) (l_i0 : gL i0 = 57) {z : Mem} (h : f_X9_passes M i0 = some z) : CtV l yX9_passes cX9_passes 6 3 D cs ad [.ref (ad i0)] M z := by
  refine ct_v (own := RX9) (by decide) rfl (Nat.le_of_ble_eq_true rfl) ?_
  intro p e s m args below meth c Q C hr
  have hx := C.1
  have hb := C.2.1
  have hown := C.2.2.2.1
  have hts := C.2.2.2.2.1
  have J_82 : ∀ (M : Mem) (x1 : Int32) (x2 : Int32) (x3 : Int32) (s1 : Int32) (s2 : Int32) (r18 : (Mem × Int32 × Int32) → Option Mem) (hr18 : ∀ a, r18 a = some z → GP p l e (rmk 3) s m args below meth c 0 0 Q D cs ad 6 18 [(0, .ref (ad i0)), (1, .int a.2.1), (2, .int x2), (3, .int a.2.2)] [] a.1), f_X9_passes_82 i0 r18 M x1 x2 x3 s1 s2 = some z → GP p l e (rmk 3) s m args below meth c 0 0 Q D cs ad 6 82 [(0, .ref (ad i0)), (1, .int x1), (2, .int x2), (3, .int x3)] [.int s2, .int s1, .ref (ad i0)] M := by
    intro M x1 x2 x3 s1 s2 r18 hr18 h H locs hG ls hl
    unfold f_X9_passes_82 at h
    obtain ⟨hi_82, h⟩ := ix_e h
    refine g_as C hG k_i0 l_i0 hi_82 rfl dX9_passes_82 (fun M82 e_82 H locs hG => ?_)
    have h := nm_at e_82 h
    refine lv_iload_n hx hb dX9_passes_83 rfl (lv_at hl 1 rfl) ?_
    refine lv_aload_n hx hb dX9_passes_84 rfl (lv_at hl 0 rfl) ?_
    refine lv_iload_n hx hb dX9_passes_85 rfl (lv_at hl 3 rfl) ?_
    obtain ⟨q86, e_86, h⟩ := bd_e h
    refine g_ci hG (g_runS C hG (c_X9_isLoose l D cs ad M82 k_i0 l_i0 x3 e_86) wm_X9_155 wt_X9_isLoose wz_X9 wc_X9_isLoose e_X9_isLoose (by decide) hl.1 (Nat.le_of_ble_eq_true rfl) dX9_passes_86) (fun H locs hG => ?_)
    refine lv_if_eq (tgt := 113) hx hb dX9_passes_89 (by decide) (fun c_89 => ?_) (fun c_89 => ?_)
    · have h := if_f (bi_f c_89) h
      refine lv_iconst (v := 0) hx hb dX9_passes_113 (by decide) ?_
      refine lv_ior hx hb dX9_passes_114 ?_
      refine lv_topi (fun x1_115 e1_115 => ?_)
      have h := nm_at e1_115 h
      refine lv_istore_n (lv' := [(1, .int x1_115), (0, .ref (ad i0)), (2, .int x2), (3, .int x3)]) hx hb dX9_passes_115 rfl hl (by decide) rfl (fun ls hl => ?_)
      obtain ⟨x3_116, e3_116⟩ : ∃ y : Int32, y = x3 + (1 : Int32) := ⟨_, rfl⟩
      have h := nm_at e3_116 h
      refine lv_iinc (v := x3_116) (lv' := [(3, .int x3_116), (1, .int x1_115), (0, .ref (ad i0)), (2, .int x2)]) hx hb dX9_passes_116 hl (k := 3) rfl (by rw [e3_116]; rfl) (by decide) rfl (fun ls hl => ?_)
      refine lv_goto (tgt := 18) hx hb dX9_passes_119 (by decide) ?_
      exact hr18 (M82, x1_115, x3_116) h H locs hG ls (lv_sub hl [2, 1, 3, 0] rfl)
    · have h := if_t (bi_t c_89) h
      refine lv_aload_n hx hb dX9_passes_92 rfl (lv_at hl 0 rfl) ?_
      refine lv_bipush (v := 21) hx hb dX9_passes_93 (by decide) ?_
      refine lv_bipush (v := 6) hx hb dX9_passes_95 (by decide) ?_
      refine lv_iload_n hx hb dX9_passes_97 rfl (lv_at hl 3 rfl) ?_
      refine lv_imul hx hb dX9_passes_98 ?_
      refine lv_iadd hx hb dX9_passes_99 ?_
      refine lv_iconst (v := 1) hx hb dX9_passes_100 (by decide) ?_
      refine lv_iadd hx hb dX9_passes_101 ?_
      obtain ⟨hi_102, h⟩ := ix_e h
      refine g_al C hG k_i0 l_i0 hi_102 rfl dX9_passes_102 ?_
      refine lv_iload_n hx hb dX9_passes_103 rfl (lv_at hl 2 rfl) ?_
      refine lv_icmp_ge (tgt := 113) hx hb dX9_passes_104 (by decide) (fun c_104 => ?_) (fun c_104 => ?_)
      · have h := if_t c_104 h
        refine lv_iconst (v := 0) hx hb dX9_passes_113 (by decide) ?_
        refine lv_ior hx hb dX9_passes_114 ?_
        refine lv_topi (fun x1_115 e1_115 => ?_)
        have h := nm_at e1_115 h
        refine lv_istore_n (lv' := [(1, .int x1_115), (0, .ref (ad i0)), (2, .int x2), (3, .int x3)]) hx hb dX9_passes_115 rfl hl (by decide) rfl (fun ls hl => ?_)
        obtain ⟨x3_116, e3_116⟩ : ∃ y : Int32, y = x3 + (1 : Int32) := ⟨_, rfl⟩
        have h := nm_at e3_116 h
        refine lv_iinc (v := x3_116) (lv' := [(3, .int x3_116), (1, .int x1_115), (0, .ref (ad i0)), (2, .int x2)]) hx hb dX9_passes_116 hl (k := 3) rfl (by rw [e3_116]; rfl) (by decide) rfl (fun ls hl => ?_)
        refine lv_goto (tgt := 18) hx hb dX9_passes_119 (by decide) ?_
        exact hr18 (M82, x1_115, x3_116) h H locs hG ls (lv_sub hl [2, 1, 3, 0] rfl)
      · have h := if_f c_104 h
        refine lv_iconst (v := 1) hx hb dX9_passes_107 (by decide) ?_
        refine lv_iload_n hx hb dX9_passes_108 rfl (lv_at hl 3 rfl) ?_
        refine lv_ishl hx hb dX9_passes_109 ?_
        refine lv_goto (tgt := 114) hx hb dX9_passes_110 (by decide) ?_
        refine lv_ior hx hb dX9_passes_114 ?_
        refine lv_topi (fun x1_115 e1_115 => ?_)
        have h := nm_at e1_115 h
        refine lv_istore_n (lv' := [(1, .int x1_115), (0, .ref (ad i0)), (2, .int x2), (3, .int x3)]) hx hb dX9_passes_115 rfl hl (by decide) rfl (fun ls hl => ?_)
        obtain ⟨x3_116, e3_116⟩ : ∃ y : Int32, y = x3 + (1 : Int32) := ⟨_, rfl⟩
        have h := nm_at e3_116 h
        refine lv_iinc (v := x3_116) (lv' := [(3, .int x3_116), (1, .int x1_115), (0, .ref (ad i0)), (2, .int x2)]) hx hb dX9_passes_116 hl (k := 3) rfl (by rw [e3_116]; rfl) (by decide) rfl (fun ls hl => ?_)
        refine lv_goto (tgt := 18) hx hb dX9_passes_119 (by decide) ?_
        exact hr18 (M82, x1_115, x3_116) h H locs hG ls (lv_sub hl [2, 1, 3, 0] rfl)
  have J_59 : ∀ (M : Mem) (x1 : Int32) (x2 : Int32) (x3 : Int32) (s0 : Int32) (r18 : (Mem × Int32 × Int32) → Option Mem) (hr18 : ∀ a, r18 a = some z → GP p l e (rmk 3) s m args below meth c 0 0 Q D cs ad 6 18 [(0, .ref (ad i0)), (1, .int a.2.1), (2, .int x2), (3, .int a.2.2)] [] a.1), f_X9_passes_59 i0 r18 M x1 x2 x3 s0 = some z → GP p l e (rmk 3) s m args below meth c 0 0 Q D cs ad 6 59 [(0, .ref (ad i0)), (1, .int x1), (2, .int x2), (3, .int x3)] [.int s0] M := by
    intro M x1 x2 x3 s0 r18 hr18 h H locs hG ls hl
    unfold f_X9_passes_59 at h
    refine lv_istore (lv' := [(5, .int s0), (0, .ref (ad i0)), (1, .int x1), (2, .int x2), (3, .int x3)]) hx hb dX9_passes_59 hl (by decide) rfl (fun ls hl => ?_)
    refine lv_aload_n hx hb dX9_passes_61 rfl (lv_at hl 1 rfl) ?_
    refine lv_bipush (v := 21) hx hb dX9_passes_62 (by decide) ?_
    refine lv_bipush (v := 6) hx hb dX9_passes_64 (by decide) ?_
    refine lv_iload_n hx hb dX9_passes_66 rfl (lv_at hl 4 rfl) ?_
    refine lv_imul hx hb dX9_passes_67 ?_
    refine lv_iadd hx hb dX9_passes_68 ?_
    refine lv_iconst (v := 1) hx hb dX9_passes_69 (by decide) ?_
    refine lv_iadd hx hb dX9_passes_70 ?_
    refine lv_iload hx hb dX9_passes_71 (lv_at hl 0 rfl) ?_
    refine lv_if_ge (tgt := 80) hx hb dX9_passes_73 (by decide) (fun c_73 => ?_) (fun c_73 => ?_)
    · have h := if_t c_73 h
      refine lv_iload hx hb dX9_passes_80 (lv_at hl 0 rfl) ?_
      exact J_82 M x1 x2 x3 (((21 : Int32) + ((6 : Int32) * x3)) + (1 : Int32)) s0 r18 hr18 h H locs hG ls (lv_sub hl [1, 2, 3, 4] rfl)
    · have h := if_f c_73 h
      refine lv_iconst (v := 0) hx hb dX9_passes_76 (by decide) ?_
      refine lv_goto (tgt := 82) hx hb dX9_passes_77 (by decide) ?_
      exact J_82 M x1 x2 x3 (((21 : Int32) + ((6 : Int32) * x3)) + (1 : Int32)) (0 : Int32) r18 hr18 h H locs hG ls (lv_sub hl [1, 2, 3, 4] rfl)
  have J_132 : ∀ (n : Nat) (a : Mem × Int32), iter (fun rec a => f_X9_passes_132 i0 rec a.1 a.2) n a = some z → GP p l e (rmk 3) s m args below meth c 0 0 Q D cs ad 6 132 [(0, .ref (ad i0)), (3, .int a.2)] [] a.1 := by
    refine iter_ind (fun r132 hr132 a h => ?_)
    obtain ⟨M, x3⟩ := a
    have h : f_X9_passes_132 i0 r132 M x3 = some z := h
    intro H locs hG ls hl
    have hG : GH D cs ad s M H locs := hG
    have hl : lv_has ls 6 [(0, .ref (ad i0)), (3, .int x3)] := hl
    unfold f_X9_passes_132 at h
    refine lv_iload_n hx hb dX9_passes_132 rfl (lv_at hl 1 rfl) ?_
    refine lv_if_eq (tgt := 149) hx hb dX9_passes_133 (by decide) (fun c_133 => ?_) (fun c_133 => ?_)
    · have h := if_t c_133 h
      refine lv_aload_n hx hb dX9_passes_149 rfl (lv_at hl 0 rfl) ?_
      refine lv_iconst (v := 3) hx hb dX9_passes_150 (by decide) ?_
      refine lv_dup2_11 hx hb dX9_passes_151 rfl rfl ?_
      refine g_al (j := 3) C hG k_i0 l_i0 (ixl rfl) (by decide) dX9_passes_152 ?_
      refine lv_iconst (v := 1) hx hb dX9_passes_153 (by decide) ?_
      refine lv_iadd hx hb dX9_passes_154 ?_
      refine g_as (j := 3) C hG k_i0 l_i0 (ixl rfl) (by decide) dX9_passes_155 (fun M155 e_155 H locs hG => ?_)
      have h := nm_at e_155 h
      exact hr (Option.some.inj h) hG dX9_passes_156
    · have h := if_f c_133 h
      refine lv_aload_n hx hb dX9_passes_136 rfl (lv_at hl 0 rfl) ?_
      refine lv_iload_n hx hb dX9_passes_137 rfl (lv_at hl 1 rfl) ?_
      obtain ⟨q138, e_138, h⟩ := bd_e h
      refine g_cv hG (g_runS C hG (c_X9_turns l D cs ad M k_i0 l_i0 x3 e_138) wm_X9_162 wt_X9_turns wz_X9 wc_X9_turns e_X9_turns (by decide) hl.1 (Nat.le_of_ble_eq_true rfl) dX9_passes_138) (fun H locs hG => ?_)
      refine lv_aload_n hx hb dX9_passes_141 rfl (lv_at hl 0 rfl) ?_
      obtain ⟨q142, e_142, h⟩ := bd_e h
      refine g_ci hG (g_runS C hG (c_X9_leavers l D cs ad q138 k_i0 l_i0 e_142) wm_X9_166 wt_X9_leavers wz_X9 wc_X9_leavers e_X9_leavers (by decide) hl.1 (Nat.le_of_ble_eq_true rfl) dX9_passes_142) (fun H locs hG => ?_)
      refine lv_istore_n (lv' := [(3, .int q142), (0, .ref (ad i0))]) hx hb dX9_passes_145 rfl hl (by decide) rfl (fun ls hl => ?_)
      refine lv_goto (tgt := 132) hx hb dX9_passes_146 (by decide) ?_
      exact hr132 (q138, q142) h H locs hG ls (lv_sub hl [1, 0] rfl)
  have J_18 : ∀ (x2 : Int32) (n : Nat) (a : Mem × Int32 × Int32), iter (fun rec a => f_X9_passes_18 i0 x2 rec a.1 a.2.1 a.2.2) n a = some z → GP p l e (rmk 3) s m args below meth c 0 0 Q D cs ad 6 18 [(0, .ref (ad i0)), (1, .int a.2.1), (2, .int x2), (3, .int a.2.2)] [] a.1 := by
    intro x2
    refine iter_ind (fun r18 hr18 a h => ?_)
    obtain ⟨M, x1, x3⟩ := a
    have h : f_X9_passes_18 i0 x2 r18 M x1 x3 = some z := h
    intro H locs hG ls hl
    have hG : GH D cs ad s M H locs := hG
    have hl : lv_has ls 6 [(0, .ref (ad i0)), (1, .int x1), (2, .int x2), (3, .int x3)] := hl
    unfold f_X9_passes_18 at h
    refine lv_iload_n hx hb dX9_passes_18 rfl (lv_at hl 3 rfl) ?_
    refine lv_aload_n hx hb dX9_passes_19 rfl (lv_at hl 0 rfl) ?_
    refine lv_iconst (v := 5) hx hb dX9_passes_20 (by decide) ?_
    refine g_al (j := 5) C hG k_i0 l_i0 (ixl rfl) (by decide) dX9_passes_21 ?_
    refine lv_icmp_ge (tgt := 122) hx hb dX9_passes_22 (by decide) (fun c_22 => ?_) (fun c_22 => ?_)
    · have h := if_t c_22 h
      refine lv_aload_n hx hb dX9_passes_122 rfl (lv_at hl 0 rfl) ?_
      refine lv_iload_n hx hb dX9_passes_123 rfl (lv_at hl 1 rfl) ?_
      obtain ⟨q124, e_124, h⟩ := bd_e h
      refine g_cv hG (g_runS C hG (c_X9_turns l D cs ad M k_i0 l_i0 x1 e_124) wm_X9_162 wt_X9_turns wz_X9 wc_X9_turns e_X9_turns (by decide) hl.1 (Nat.le_of_ble_eq_true rfl) dX9_passes_124) (fun H locs hG => ?_)
      refine lv_aload_n hx hb dX9_passes_127 rfl (lv_at hl 0 rfl) ?_
      obtain ⟨q128, e_128, h⟩ := bd_e h
      refine g_ci hG (g_runS C hG (c_X9_leavers l D cs ad q124 k_i0 l_i0 e_128) wm_X9_166 wt_X9_leavers wz_X9 wc_X9_leavers e_X9_leavers (by decide) hl.1 (Nat.le_of_ble_eq_true rfl) dX9_passes_128) (fun H locs hG => ?_)
      refine lv_istore_n (lv' := [(3, .int q128), (0, .ref (ad i0)), (1, .int x1), (2, .int x2)]) hx hb dX9_passes_131 rfl hl (by decide) rfl (fun ls hl => ?_)
      exact J_132 _ (q124, q128) h H locs hG ls (lv_sub hl [1, 0] rfl)
    · have h := if_f c_22 h
      refine lv_aload_n hx hb dX9_passes_25 rfl (lv_at hl 0 rfl) ?_
      refine lv_bipush (v := 21) hx hb dX9_passes_26 (by decide) ?_
      refine lv_bipush (v := 6) hx hb dX9_passes_28 (by decide) ?_
      refine lv_iload_n hx hb dX9_passes_30 rfl (lv_at hl 3 rfl) ?_
      refine lv_imul hx hb dX9_passes_31 ?_
      refine lv_iadd hx hb dX9_passes_32 ?_
      refine lv_iconst (v := 1) hx hb dX9_passes_33 (by decide) ?_
      refine lv_iadd hx hb dX9_passes_34 ?_
      obtain ⟨hi_35, h⟩ := ix_e h
      refine g_al C hG k_i0 l_i0 hi_35 rfl dX9_passes_35 ?_
      refine lv_topi (fun x4_36 e4_36 => ?_)
      have h := nm_at e4_36 h
      refine lv_istore (lv' := [(4, .int x4_36), (0, .ref (ad i0)), (1, .int x1), (2, .int x2), (3, .int x3)]) hx hb dX9_passes_36 hl (by decide) rfl (fun ls hl => ?_)
      refine lv_aload_n hx hb dX9_passes_38 rfl (lv_at hl 1 rfl) ?_
      refine lv_iload_n hx hb dX9_passes_39 rfl (lv_at hl 4 rfl) ?_
      obtain ⟨q40, e_40, h⟩ := bd_e h
      refine g_ci hG (g_runS C hG (c_X9_flies l D cs ad M k_i0 l_i0 x3 e_40) wm_X9_144 wt_X9_flies wz_X9 wc_X9_flies e_X9_flies (by decide) hl.1 (Nat.le_of_ble_eq_true rfl) dX9_passes_40) (fun H locs hG => ?_)
      refine lv_if_eq (tgt := 57) hx hb dX9_passes_43 (by decide) (fun c_43 => ?_) (fun c_43 => ?_)
      · have h := if_f (bi_f c_43) h
        refine lv_iload hx hb dX9_passes_57 (lv_at hl 0 rfl) ?_
        exact J_59 M x1 x2 x3 x4_36 r18 hr18 h H locs hG ls (lv_sub hl [1, 2, 3, 4] rfl)
      · have h := if_t (bi_t c_43) h
        refine lv_iload hx hb dX9_passes_46 (lv_at hl 0 rfl) ?_
        refine lv_aload_n hx hb dX9_passes_48 rfl (lv_at hl 1 rfl) ?_
        refine lv_iload_n hx hb dX9_passes_49 rfl (lv_at hl 4 rfl) ?_
        obtain ⟨q50, e_50, h⟩ := bd_e h
        refine g_ci hG (g_runS C hG (c_X9_takesOf l D cs ad M k_i0 l_i0 x3 e_50) wm_X9_158 wt_X9_takesOf wz_X9 wc_X9_takesOf e_X9_takesOf (by decide) hl.1 (Nat.le_of_ble_eq_true rfl) dX9_passes_50) (fun H locs hG => ?_)
        refine lv_isub hx hb dX9_passes_53 ?_
        refine lv_goto (tgt := 59) hx hb dX9_passes_54 (by decide) ?_
        exact J_59 M x1 x2 x3 (x4_36 - q50) r18 hr18 h H locs hG ls (lv_sub hl [1, 2, 3, 4] rfl)
  intro H locs hG ls hl
  have hl : lv_has ls 6 [(0, .ref (ad i0))] := hl
  unfold f_X9_passes at h
  refine lv_iconst (v := 0) hx hb dX9_passes_0 (by decide) ?_
  refine lv_istore_n (lv' := [(1, .int 0), (0, .ref (ad i0))]) hx hb dX9_passes_1 rfl hl (by decide) rfl (fun ls hl => ?_)
  refine lv_aload_n hx hb dX9_passes_2 rfl (lv_at hl 1 rfl) ?_
  refine lv_bipush (v := 11) hx hb dX9_passes_3 (by decide) ?_
  refine lv_aload_n hx hb dX9_passes_5 rfl (lv_at hl 1 rfl) ?_
  refine lv_bipush (v := 6) hx hb dX9_passes_6 (by decide) ?_
  refine lv_aload_n hx hb dX9_passes_8 rfl (lv_at hl 1 rfl) ?_
  refine lv_iconst (v := 3) hx hb dX9_passes_9 (by decide) ?_
  refine g_al (j := 3) C hG k_i0 l_i0 (ixl rfl) (by decide) dX9_passes_10 ?_
  refine lv_iadd hx hb dX9_passes_11 ?_
  obtain ⟨hi_12, h⟩ := ix_e h
  refine g_al C hG k_i0 l_i0 hi_12 rfl dX9_passes_12 ?_
  refine lv_iadd hx hb dX9_passes_13 ?_
  obtain ⟨hi_14, h⟩ := ix_e h
  refine g_al C hG k_i0 l_i0 hi_14 rfl dX9_passes_14 ?_
  refine lv_topi (fun x2_15 e2_15 => ?_)
  have h := nm_at e2_15 h
  refine lv_istore_n (lv' := [(2, .int x2_15), (1, .int 0), (0, .ref (ad i0))]) hx hb dX9_passes_15 rfl hl (by decide) rfl (fun ls hl => ?_)
  refine lv_iconst (v := 0) hx hb dX9_passes_16 (by decide) ?_
  refine lv_istore_n (lv' := [(3, .int 0), (2, .int x2_15), (1, .int 0), (0, .ref (ad i0))]) hx hb dX9_passes_17 rfl hl (by decide) rfl (fun ls hl => ?_)
  exact J_18 x2_15 _ (M, (0 : Int32), (0 : Int32)) h H locs hG ls (lv_sub hl [3, 2, 1, 0] rfl)
def f_X9_flying_4 (i0 : Nat) (M : Mem) (r4 : (Int32 × Int32) → Option Int32) (x1 : Int32) (x2 : Int32) : Option Int32 :=
  if (M i0 5) ≤ x2 then (
    some x1
  ) else (
    chk (ixb (((21 : Int32) + ((6 : Int32) * x2)) + (4 : Int32)) 57) <|
    nm ((x1 ||| ((M i0 (((21 : Int32) + ((6 : Int32) * x2)) + (4 : Int32)).toNatClampNeg) <<< (x2 &&& 31)))) fun x1_26 =>
    nm (x2 + (1 : Int32)) fun x2_27 =>
    r4 (x1_26, x2_27)
  )
def f_X9_flying (M : Mem) (i0 : Nat) : Option Int32 :=
  iter (fun rec a => f_X9_flying_4 i0 M rec a.1 a.2) fuel ((0 : Int32), (0 : Int32))
theorem e_X9_flying : yX9_flying.cls ≠ "java/lang/invoke/MethodHandle" ∧ yX9_flying.cls ≠ "java/lang/invoke/VarHandle" ∧ (parseMethodDescriptor yX9_flying.desc).map (fun d => d.parameters.length) = some 1 := by decide +kernel
set_option maxHeartbeats 4000000 in
set_option maxRecDepth 100000 in
theorem c_X9_flying (l : Launch) (D : va_G) (cs : Nat → ClassId) (ad : Nat → Nat) (M : Mem) {i0 : Nat} (k_i0 : gK i0 = 10) (l_i0 : gL i0 = 57) {z : Int32} (h : f_X9_flying M i0 = some z) : CtI l yX9_flying cX9_flying 3 .int 0 D cs ad [.ref (ad i0)] M z M := by
  refine ct_i (own := RX9) (by decide) rfl (Nat.le_of_ble_eq_true rfl) ?_
  intro p e s m args below meth c Q C hr
  have hx := C.1
  have hb := C.2.1
  have hown := C.2.2.2.1
  have hts := C.2.2.2.2.1
  have J_4 : ∀ (n : Nat) (a : Int32 × Int32), iter (fun rec a => f_X9_flying_4 i0 M rec a.1 a.2) n a = some z → GP p l e (rmk 0) s m args below meth c 0 0 Q D cs ad 3 4 [(0, .ref (ad i0)), (1, .int a.1), (2, .int a.2)] [] M := by
    refine iter_ind (fun r4 hr4 a h => ?_)
    obtain ⟨x1, x2⟩ := a
    have h : f_X9_flying_4 i0 M r4 x1 x2 = some z := h
    intro H locs hG ls hl
    have hG : GH D cs ad s M H locs := hG
    have hl : lv_has ls 3 [(0, .ref (ad i0)), (1, .int x1), (2, .int x2)] := hl
    unfold f_X9_flying_4 at h
    refine lv_iload_n hx hb dX9_flying_4 rfl (lv_at hl 2 rfl) ?_
    refine lv_aload_n hx hb dX9_flying_5 rfl (lv_at hl 0 rfl) ?_
    refine lv_iconst (v := 5) hx hb dX9_flying_6 (by decide) ?_
    refine g_al (j := 5) C hG k_i0 l_i0 (ixl rfl) (by decide) dX9_flying_7 ?_
    refine lv_icmp_ge (tgt := 33) hx hb dX9_flying_8 (by decide) (fun c_8 => ?_) (fun c_8 => ?_)
    · have h := if_t c_8 h
      refine lv_iload_n hx hb dX9_flying_33 rfl (lv_at hl 1 rfl) ?_
      exact hr (Option.some.inj h) rfl hG dX9_flying_34
    · have h := if_f c_8 h
      refine lv_iload_n hx hb dX9_flying_11 rfl (lv_at hl 1 rfl) ?_
      refine lv_aload_n hx hb dX9_flying_12 rfl (lv_at hl 0 rfl) ?_
      refine lv_bipush (v := 21) hx hb dX9_flying_13 (by decide) ?_
      refine lv_bipush (v := 6) hx hb dX9_flying_15 (by decide) ?_
      refine lv_iload_n hx hb dX9_flying_17 rfl (lv_at hl 2 rfl) ?_
      refine lv_imul hx hb dX9_flying_18 ?_
      refine lv_iadd hx hb dX9_flying_19 ?_
      refine lv_iconst (v := 4) hx hb dX9_flying_20 (by decide) ?_
      refine lv_iadd hx hb dX9_flying_21 ?_
      obtain ⟨hi_22, h⟩ := ix_e h
      refine g_al C hG k_i0 l_i0 hi_22 rfl dX9_flying_22 ?_
      refine lv_iload_n hx hb dX9_flying_23 rfl (lv_at hl 2 rfl) ?_
      refine lv_ishl hx hb dX9_flying_24 ?_
      refine lv_ior hx hb dX9_flying_25 ?_
      refine lv_topi (fun x1_26 e1_26 => ?_)
      have h := nm_at e1_26 h
      refine lv_istore_n (lv' := [(1, .int x1_26), (0, .ref (ad i0)), (2, .int x2)]) hx hb dX9_flying_26 rfl hl (by decide) rfl (fun ls hl => ?_)
      obtain ⟨x2_27, e2_27⟩ : ∃ y : Int32, y = x2 + (1 : Int32) := ⟨_, rfl⟩
      have h := nm_at e2_27 h
      refine lv_iinc (v := x2_27) (lv' := [(2, .int x2_27), (1, .int x1_26), (0, .ref (ad i0))]) hx hb dX9_flying_27 hl (k := 2) rfl (by rw [e2_27]; rfl) (by decide) rfl (fun ls hl => ?_)
      refine lv_goto (tgt := 4) hx hb dX9_flying_30 (by decide) ?_
      exact hr4 (x1_26, x2_27) h H locs hG ls (lv_sub hl [2, 1, 0] rfl)
  intro H locs hG ls hl
  have hl : lv_has ls 3 [(0, .ref (ad i0))] := hl
  unfold f_X9_flying at h
  refine lv_iconst (v := 0) hx hb dX9_flying_0 (by decide) ?_
  refine lv_istore_n (lv' := [(1, .int 0), (0, .ref (ad i0))]) hx hb dX9_flying_1 rfl hl (by decide) rfl (fun ls hl => ?_)
  refine lv_iconst (v := 0) hx hb dX9_flying_2 (by decide) ?_
  refine lv_istore_n (lv' := [(2, .int 0), (1, .int 0), (0, .ref (ad i0))]) hx hb dX9_flying_3 rfl hl (by decide) rfl (fun ls hl => ?_)
  exact J_4 _ ((0 : Int32), (0 : Int32)) h H locs hG ls (lv_sub hl [2, 1, 0] rfl)
def f_X9_fly (M : Mem) : Option (Int32 × Mem) :=
  if (f_X9_isFlight M) = true then (
    if (f_X9_left M 146) = (0 : Int32) then (
      some ((-1000002 : Int32), M)
    ) else (
      (f_X9_notes M).bind fun q21 =>
      (f_X9_passes q21 146).bind fun q28 =>
      (f_X9_flying q28 146).bind fun q35 =>
      some (q35, q28)
    )
  ) else (
    some ((-1000002 : Int32), M)
  )
theorem e_X9_fly : yX9_fly.cls = RX9 ∧ yX9_fly.cls ≠ "java/lang/invoke/MethodHandle" ∧ yX9_fly.cls ≠ "java/lang/invoke/VarHandle" ∧ (parseMethodDescriptor yX9_fly.desc).map (fun d => d.parameters.length) = some 0 := by decide +kernel
set_option maxHeartbeats 4000000 in
set_option maxRecDepth 100000 in
theorem c_X9_fly (l : Launch) (D : va_G) (cs : Nat → ClassId) (ad : Nat → Nat) (M : Mem) {z : Int32 × Mem} (h : f_X9_fly M = some z) : CtI l yX9_fly cX9_fly 1 .int 4 D cs ad [.ref (ad 140)] M z.1 z.2 := by
  refine ct_i (own := RX9) (by decide) rfl (Nat.le_of_ble_eq_true rfl) ?_
  intro p e s m args below meth c Q C hr
  have hx := C.1
  have hb := C.2.1
  have hown := C.2.2.2.1
  have hts := C.2.2.2.2.1
  intro H locs hG ls hl
  have hl : lv_has ls 1 [(0, .ref (ad 140))] := hl
  unfold f_X9_fly at h
  refine lv_aload_n hx hb dX9_fly_0 rfl (lv_at hl 0 rfl) ?_
  refine g_ci hG (g_runV C hG (gR_9 gk_140) (c_X9_isFlight l D cs ad M rfl) wm_X9_180 wi_X9_isFlight ws_X9_isFlight wz_X9 wc_X9_isFlight e_X9_isFlight (by decide) hl.1 (Nat.le_of_ble_eq_true rfl) dX9_fly_1) (fun H locs hG => ?_)
  refine lv_if_eq (tgt := 17) hx hb dX9_fly_4 (by decide) (fun c_4 => ?_) (fun c_4 => ?_)
  · have h := if_f (bi_f c_4) h
    refine lv_ldc (v := -1000002) hx hb hown (hts _ wk_X9_183) dX9_fly_17 ?_
    exact hr (pf1 (Option.some.inj h)) (pf2 (Option.some.inj h)) hG dX9_fly_19
  · have h := if_t (bi_t c_4) h
    refine lv_aload_n hx hb dX9_fly_7 rfl (lv_at hl 0 rfl) ?_
    refine gf_X9_now C hG gk_140 wf_X9_25 dX9_fly_8 ?_
    refine g_ci hG (g_runS C hG (c_X9_left l D cs ad M gk_146 gl_146 rfl) wm_X9_170 wt_X9_left wz_X9 wc_X9_left e_X9_left (by decide) hl.1 (Nat.le_of_ble_eq_true rfl) dX9_fly_11) (fun H locs hG => ?_)
    refine lv_if_ne (tgt := 20) hx hb dX9_fly_14 (by decide) (fun c_14 => ?_) (fun c_14 => ?_)
    · have h := if_f c_14 h
      refine lv_aload_n hx hb dX9_fly_20 rfl (lv_at hl 0 rfl) ?_
      obtain ⟨q21, e_21, h⟩ := bd_e h
      refine g_cv hG (g_runV C hG (gR_9 gk_140) (c_X9_notes l D cs ad M e_21) wm_X9_184 wi_X9_notes ws_X9_notes wz_X9 wc_X9_notes e_X9_notes (by decide) hl.1 (Nat.le_of_ble_eq_true rfl) dX9_fly_21) (fun H locs hG => ?_)
      refine lv_aload_n hx hb dX9_fly_24 rfl (lv_at hl 0 rfl) ?_
      refine gf_X9_now C hG gk_140 wf_X9_25 dX9_fly_25 ?_
      obtain ⟨q28, e_28, h⟩ := bd_e h
      refine g_cv hG (g_runS C hG (c_X9_passes l D cs ad q21 gk_146 gl_146 e_28) wm_X9_173 wt_X9_passes wz_X9 wc_X9_passes e_X9_passes (by decide) hl.1 (Nat.le_of_ble_eq_true rfl) dX9_fly_28) (fun H locs hG => ?_)
      refine lv_aload_n hx hb dX9_fly_31 rfl (lv_at hl 0 rfl) ?_
      refine gf_X9_now C hG gk_140 wf_X9_25 dX9_fly_32 ?_
      obtain ⟨q35, e_35, h⟩ := bd_e h
      refine g_ci hG (g_runS C hG (c_X9_flying l D cs ad q28 gk_146 gl_146 e_35) wm_X9_177 wt_X9_flying wz_X9 wc_X9_flying e_X9_flying (by decide) hl.1 (Nat.le_of_ble_eq_true rfl) dX9_fly_35) (fun H locs hG => ?_)
      exact hr (pf1 (Option.some.inj h)) (pf2 (Option.some.inj h)) hG dX9_fly_38
    · have h := if_t c_14 h
      refine lv_ldc (v := -1000002) hx hb hown (hts _ wk_X9_183) dX9_fly_17 ?_
      exact hr (pf1 (Option.some.inj h)) (pf2 (Option.some.inj h)) hG dX9_fly_19
def f_X9_isBird (M : Mem) (x1 : Int32) : Bool :=
  (f_X9_in x1 (0 : Int32) ((M 146 5) - (1 : Int32)))
theorem e_X9_isBird : yX9_isBird.cls = RX9 ∧ yX9_isBird.cls ≠ "java/lang/invoke/MethodHandle" ∧ yX9_isBird.cls ≠ "java/lang/invoke/VarHandle" ∧ (parseMethodDescriptor yX9_isBird.desc).map (fun d => d.parameters.length) = some 1 := by decide +kernel
set_option maxHeartbeats 4000000 in
set_option maxRecDepth 100000 in
theorem c_X9_isBird (l : Launch) (D : va_G) (cs : Nat → ClassId) (ad : Nat → Nat) (M : Mem) (x1 : Int32) {z : Bool} (h : f_X9_isBird M x1 = z) : CtI l yX9_isBird cX9_isBird 2 .boolean 1 D cs ad [.ref (ad 140), .int x1] M (bi z) M := by
  refine ct_z (own := RX9) (by decide) rfl (Nat.le_of_ble_eq_true rfl) ?_
  intro p e s m args below meth c Q C hr
  have hx := C.1
  have hb := C.2.1
  have hown := C.2.2.2.1
  have hts := C.2.2.2.2.1
  intro H locs hG ls hl
  have hl : lv_has ls 2 [(0, .ref (ad 140)), (1, .int x1)] := hl
  unfold f_X9_isBird at h
  refine lv_iload_n hx hb dX9_isBird_0 rfl (lv_at hl 1 rfl) ?_
  refine lv_iconst (v := 0) hx hb dX9_isBird_1 (by decide) ?_
  refine lv_aload_n hx hb dX9_isBird_2 rfl (lv_at hl 0 rfl) ?_
  refine gf_X9_now C hG gk_140 wf_X9_25 dX9_isBird_3 ?_
  refine lv_iconst (v := 5) hx hb dX9_isBird_6 (by decide) ?_
  refine g_al (j := 5) C hG gk_146 gl_146 (ixl rfl) (by decide) dX9_isBird_7 ?_
  refine lv_iconst (v := 1) hx hb dX9_isBird_8 (by decide) ?_
  refine lv_isub hx hb dX9_isBird_9 ?_
  refine g_ci hG (g_runS C hG (c_X9_in l D cs ad M x1 (0 : Int32) ((M 146 5) - (1 : Int32)) rfl) wm_X9_59 wt_X9_in wz_X9 wc_X9_in e_X9_in (by decide) hl.1 (Nat.le_of_ble_eq_true rfl) dX9_isBird_10) (fun H locs hG => ?_)
  exact hr (congrArg bi h) rfl hG dX9_isBird_13
def f_X9_eats (M : Mem) (i0 : Nat) (x1 : Int32) : Option Mem :=
  chk (ixb (((21 : Int32) + ((6 : Int32) * x1)) + (1 : Int32)) 57) <|
  nm (((M i0 (((21 : Int32) + ((6 : Int32) * x1)) + (1 : Int32)).toNatClampNeg) + (M i0 0))) fun x2_15 =>
  if x2_15 ≤ (30 : Int32) then (
    nm (st M i0 ((((21 : Int32) + ((6 : Int32) * x1)) + (1 : Int32)).toNatClampNeg) x2_15) fun M38 =>
    some M38
  ) else (
    nm (st M i0 ((((21 : Int32) + ((6 : Int32) * x1)) + (1 : Int32)).toNatClampNeg) (30 : Int32)) fun M38 =>
    some M38
  )
theorem e_X9_eats : yX9_eats.cls ≠ "java/lang/invoke/MethodHandle" ∧ yX9_eats.cls ≠ "java/lang/invoke/VarHandle" ∧ (parseMethodDescriptor yX9_eats.desc).map (fun d => d.parameters.length) = some 2 := by decide +kernel
set_option maxHeartbeats 4000000 in
set_option maxRecDepth 100000 in
theorem c_X9_eats (l : Launch) (D : va_G) (cs : Nat → ClassId) (ad : Nat → Nat) (M : Mem) {i0 : Nat} (k_i0 : gK i0 = 10) (l_i0 : gL i0 = 57) (x1 : Int32) {z : Mem} (h : f_X9_eats M i0 x1 = some z) : CtV l yX9_eats cX9_eats 3 0 D cs ad [.ref (ad i0), .int x1] M z := by
  refine ct_v (own := RX9) (by decide) rfl (Nat.le_of_ble_eq_true rfl) ?_
  intro p e s m args below meth c Q C hr
  have hx := C.1
  have hb := C.2.1
  have hown := C.2.2.2.1
  have hts := C.2.2.2.2.1
  intro H locs hG ls hl
  have hl : lv_has ls 3 [(0, .ref (ad i0)), (1, .int x1)] := hl
  unfold f_X9_eats at h
  refine lv_aload_n hx hb dX9_eats_0 rfl (lv_at hl 0 rfl) ?_
  refine lv_bipush (v := 21) hx hb dX9_eats_1 (by decide) ?_
  refine lv_bipush (v := 6) hx hb dX9_eats_3 (by decide) ?_
  refine lv_iload_n hx hb dX9_eats_5 rfl (lv_at hl 1 rfl) ?_
  refine lv_imul hx hb dX9_eats_6 ?_
  refine lv_iadd hx hb dX9_eats_7 ?_
  refine lv_iconst (v := 1) hx hb dX9_eats_8 (by decide) ?_
  refine lv_iadd hx hb dX9_eats_9 ?_
  obtain ⟨hi_10, h⟩ := ix_e h
  refine g_al C hG k_i0 l_i0 hi_10 rfl dX9_eats_10 ?_
  refine lv_aload_n hx hb dX9_eats_11 rfl (lv_at hl 0 rfl) ?_
  refine lv_iconst (v := 0) hx hb dX9_eats_12 (by decide) ?_
  refine g_al (j := 0) C hG k_i0 l_i0 (ixl rfl) (by decide) dX9_eats_13 ?_
  refine lv_iadd hx hb dX9_eats_14 ?_
  refine lv_topi (fun x2_15 e2_15 => ?_)
  have h := nm_at e2_15 h
  refine lv_istore_n (lv' := [(2, .int x2_15), (0, .ref (ad i0)), (1, .int x1)]) hx hb dX9_eats_15 rfl hl (by decide) rfl (fun ls hl => ?_)
  refine lv_aload_n hx hb dX9_eats_16 rfl (lv_at hl 1 rfl) ?_
  refine lv_bipush (v := 21) hx hb dX9_eats_17 (by decide) ?_
  refine lv_bipush (v := 6) hx hb dX9_eats_19 (by decide) ?_
  refine lv_iload_n hx hb dX9_eats_21 rfl (lv_at hl 2 rfl) ?_
  refine lv_imul hx hb dX9_eats_22 ?_
  refine lv_iadd hx hb dX9_eats_23 ?_
  refine lv_iconst (v := 1) hx hb dX9_eats_24 (by decide) ?_
  refine lv_iadd hx hb dX9_eats_25 ?_
  refine lv_iload_n hx hb dX9_eats_26 rfl (lv_at hl 0 rfl) ?_
  refine lv_bipush (v := 30) hx hb dX9_eats_27 (by decide) ?_
  refine lv_icmp_le (tgt := 37) hx hb dX9_eats_29 (by decide) (fun c_29 => ?_) (fun c_29 => ?_)
  · have h := if_t c_29 h
    refine lv_iload_n hx hb dX9_eats_37 rfl (lv_at hl 0 rfl) ?_
    refine g_as C hG k_i0 l_i0 hi_10 rfl dX9_eats_38 (fun M38 e_38 H locs hG => ?_)
    have h := nm_at e_38 h
    exact hr (Option.some.inj h) hG dX9_eats_39
  · have h := if_f c_29 h
    refine lv_bipush (v := 30) hx hb dX9_eats_32 (by decide) ?_
    refine lv_goto (tgt := 38) hx hb dX9_eats_34 (by decide) ?_
    refine g_as C hG k_i0 l_i0 hi_10 rfl dX9_eats_38 (fun M38 e_38 H locs hG => ?_)
    have h := nm_at e_38 h
    exact hr (Option.some.inj h) hG dX9_eats_39
def f_X9_eat (M : Mem) (x1 : Int32) : Option (Int32 × Mem) :=
  if (f_X9_isBird M x1) = true then (
    (f_X9_notes M).bind fun q12 =>
    (f_X9_eats q12 146 x1).bind fun q20 =>
    chk (ixb (((21 : Int32) + ((6 : Int32) * x1)) + (1 : Int32)) 57) <|
    some ((q20 146 (((21 : Int32) + ((6 : Int32) * x1)) + (1 : Int32)).toNatClampNeg), q20)
  ) else (
    some ((-1000001 : Int32), M)
  )
theorem e_X9_eat : yX9_eat.cls = RX9 ∧ yX9_eat.cls ≠ "java/lang/invoke/MethodHandle" ∧ yX9_eat.cls ≠ "java/lang/invoke/VarHandle" ∧ (parseMethodDescriptor yX9_eat.desc).map (fun d => d.parameters.length) = some 1 := by decide +kernel
set_option maxHeartbeats 4000000 in
set_option maxRecDepth 100000 in
theorem c_X9_eat (l : Launch) (D : va_G) (cs : Nat → ClassId) (ad : Nat → Nat) (M : Mem) (x1 : Int32) {z : Int32 × Mem} (h : f_X9_eat M x1 = some z) : CtI l yX9_eat cX9_eat 2 .int 2 D cs ad [.ref (ad 140), .int x1] M z.1 z.2 := by
  refine ct_i (own := RX9) (by decide) rfl (Nat.le_of_ble_eq_true rfl) ?_
  intro p e s m args below meth c Q C hr
  have hx := C.1
  have hb := C.2.1
  have hown := C.2.2.2.1
  have hts := C.2.2.2.2.1
  intro H locs hG ls hl
  have hl : lv_has ls 2 [(0, .ref (ad 140)), (1, .int x1)] := hl
  unfold f_X9_eat at h
  refine lv_aload_n hx hb dX9_eat_0 rfl (lv_at hl 0 rfl) ?_
  refine lv_iload_n hx hb dX9_eat_1 rfl (lv_at hl 1 rfl) ?_
  refine g_ci hG (g_runV C hG (gR_9 gk_140) (c_X9_isBird l D cs ad M x1 rfl) wm_X9_187 wi_X9_isBird ws_X9_isBird wz_X9 wc_X9_isBird e_X9_isBird (by decide) hl.1 (Nat.le_of_ble_eq_true rfl) dX9_eat_2) (fun H locs hG => ?_)
  refine lv_if_ne (tgt := 11) hx hb dX9_eat_5 (by decide) (fun c_5 => ?_) (fun c_5 => ?_)
  · have h := if_t (bi_t c_5) h
    refine lv_aload_n hx hb dX9_eat_11 rfl (lv_at hl 0 rfl) ?_
    obtain ⟨q12, e_12, h⟩ := bd_e h
    refine g_cv hG (g_runV C hG (gR_9 gk_140) (c_X9_notes l D cs ad M e_12) wm_X9_184 wi_X9_notes ws_X9_notes wz_X9 wc_X9_notes e_X9_notes (by decide) hl.1 (Nat.le_of_ble_eq_true rfl) dX9_eat_12) (fun H locs hG => ?_)
    refine lv_aload_n hx hb dX9_eat_15 rfl (lv_at hl 0 rfl) ?_
    refine gf_X9_now C hG gk_140 wf_X9_25 dX9_eat_16 ?_
    refine lv_iload_n hx hb dX9_eat_19 rfl (lv_at hl 1 rfl) ?_
    obtain ⟨q20, e_20, h⟩ := bd_e h
    refine g_cv hG (g_runS C hG (c_X9_eats l D cs ad q12 gk_146 gl_146 x1 e_20) wm_X9_190 wt_X9_eats wz_X9 wc_X9_eats e_X9_eats (by decide) hl.1 (Nat.le_of_ble_eq_true rfl) dX9_eat_20) (fun H locs hG => ?_)
    refine lv_aload_n hx hb dX9_eat_23 rfl (lv_at hl 0 rfl) ?_
    refine gf_X9_now C hG gk_140 wf_X9_25 dX9_eat_24 ?_
    refine lv_bipush (v := 21) hx hb dX9_eat_27 (by decide) ?_
    refine lv_bipush (v := 6) hx hb dX9_eat_29 (by decide) ?_
    refine lv_iload_n hx hb dX9_eat_31 rfl (lv_at hl 1 rfl) ?_
    refine lv_imul hx hb dX9_eat_32 ?_
    refine lv_iadd hx hb dX9_eat_33 ?_
    refine lv_iconst (v := 1) hx hb dX9_eat_34 (by decide) ?_
    refine lv_iadd hx hb dX9_eat_35 ?_
    obtain ⟨hi_36, h⟩ := ix_e h
    refine g_al C hG gk_146 gl_146 hi_36 rfl dX9_eat_36 ?_
    exact hr (pf1 (Option.some.inj h)) (pf2 (Option.some.inj h)) hG dX9_eat_37
  · have h := if_f (bi_f c_5) h
    refine lv_ldc (v := -1000001) hx hb hown (hts _ wk_X9_67) dX9_eat_8 ?_
    exact hr (pf1 (Option.some.inj h)) (pf2 (Option.some.inj h)) hG dX9_eat_10
def f_X9_keptIn_4 (i0 : Nat) (M : Mem) (r4 : (Int32 × Int32) → Option Int32) (x1 : Int32) (x2 : Int32) : Option Int32 :=
  if (M i0 5) ≤ x2 then (
    some x1
  ) else (
    chk (ixb (((21 : Int32) + ((6 : Int32) * x2)) + (5 : Int32)) 57) <|
    nm ((x1 ||| ((M i0 (((21 : Int32) + ((6 : Int32) * x2)) + (5 : Int32)).toNatClampNeg) <<< (x2 &&& 31)))) fun x1_26 =>
    nm (x2 + (1 : Int32)) fun x2_27 =>
    r4 (x1_26, x2_27)
  )
def f_X9_keptIn (M : Mem) (i0 : Nat) : Option Int32 :=
  iter (fun rec a => f_X9_keptIn_4 i0 M rec a.1 a.2) fuel ((0 : Int32), (0 : Int32))
theorem e_X9_keptIn : yX9_keptIn.cls ≠ "java/lang/invoke/MethodHandle" ∧ yX9_keptIn.cls ≠ "java/lang/invoke/VarHandle" ∧ (parseMethodDescriptor yX9_keptIn.desc).map (fun d => d.parameters.length) = some 1 := by decide +kernel
set_option maxHeartbeats 4000000 in
set_option maxRecDepth 100000 in
theorem c_X9_keptIn (l : Launch) (D : va_G) (cs : Nat → ClassId) (ad : Nat → Nat) (M : Mem) {i0 : Nat} (k_i0 : gK i0 = 10) (l_i0 : gL i0 = 57) {z : Int32} (h : f_X9_keptIn M i0 = some z) : CtI l yX9_keptIn cX9_keptIn 3 .int 0 D cs ad [.ref (ad i0)] M z M := by
  refine ct_i (own := RX9) (by decide) rfl (Nat.le_of_ble_eq_true rfl) ?_
  intro p e s m args below meth c Q C hr
  have hx := C.1
  have hb := C.2.1
  have hown := C.2.2.2.1
  have hts := C.2.2.2.2.1
  have J_4 : ∀ (n : Nat) (a : Int32 × Int32), iter (fun rec a => f_X9_keptIn_4 i0 M rec a.1 a.2) n a = some z → GP p l e (rmk 0) s m args below meth c 0 0 Q D cs ad 3 4 [(0, .ref (ad i0)), (1, .int a.1), (2, .int a.2)] [] M := by
    refine iter_ind (fun r4 hr4 a h => ?_)
    obtain ⟨x1, x2⟩ := a
    have h : f_X9_keptIn_4 i0 M r4 x1 x2 = some z := h
    intro H locs hG ls hl
    have hG : GH D cs ad s M H locs := hG
    have hl : lv_has ls 3 [(0, .ref (ad i0)), (1, .int x1), (2, .int x2)] := hl
    unfold f_X9_keptIn_4 at h
    refine lv_iload_n hx hb dX9_keptIn_4 rfl (lv_at hl 2 rfl) ?_
    refine lv_aload_n hx hb dX9_keptIn_5 rfl (lv_at hl 0 rfl) ?_
    refine lv_iconst (v := 5) hx hb dX9_keptIn_6 (by decide) ?_
    refine g_al (j := 5) C hG k_i0 l_i0 (ixl rfl) (by decide) dX9_keptIn_7 ?_
    refine lv_icmp_ge (tgt := 33) hx hb dX9_keptIn_8 (by decide) (fun c_8 => ?_) (fun c_8 => ?_)
    · have h := if_t c_8 h
      refine lv_iload_n hx hb dX9_keptIn_33 rfl (lv_at hl 1 rfl) ?_
      exact hr (Option.some.inj h) rfl hG dX9_keptIn_34
    · have h := if_f c_8 h
      refine lv_iload_n hx hb dX9_keptIn_11 rfl (lv_at hl 1 rfl) ?_
      refine lv_aload_n hx hb dX9_keptIn_12 rfl (lv_at hl 0 rfl) ?_
      refine lv_bipush (v := 21) hx hb dX9_keptIn_13 (by decide) ?_
      refine lv_bipush (v := 6) hx hb dX9_keptIn_15 (by decide) ?_
      refine lv_iload_n hx hb dX9_keptIn_17 rfl (lv_at hl 2 rfl) ?_
      refine lv_imul hx hb dX9_keptIn_18 ?_
      refine lv_iadd hx hb dX9_keptIn_19 ?_
      refine lv_iconst (v := 5) hx hb dX9_keptIn_20 (by decide) ?_
      refine lv_iadd hx hb dX9_keptIn_21 ?_
      obtain ⟨hi_22, h⟩ := ix_e h
      refine g_al C hG k_i0 l_i0 hi_22 rfl dX9_keptIn_22 ?_
      refine lv_iload_n hx hb dX9_keptIn_23 rfl (lv_at hl 2 rfl) ?_
      refine lv_ishl hx hb dX9_keptIn_24 ?_
      refine lv_ior hx hb dX9_keptIn_25 ?_
      refine lv_topi (fun x1_26 e1_26 => ?_)
      have h := nm_at e1_26 h
      refine lv_istore_n (lv' := [(1, .int x1_26), (0, .ref (ad i0)), (2, .int x2)]) hx hb dX9_keptIn_26 rfl hl (by decide) rfl (fun ls hl => ?_)
      obtain ⟨x2_27, e2_27⟩ : ∃ y : Int32, y = x2 + (1 : Int32) := ⟨_, rfl⟩
      have h := nm_at e2_27 h
      refine lv_iinc (v := x2_27) (lv' := [(2, .int x2_27), (1, .int x1_26), (0, .ref (ad i0))]) hx hb dX9_keptIn_27 hl (k := 2) rfl (by rw [e2_27]; rfl) (by decide) rfl (fun ls hl => ?_)
      refine lv_goto (tgt := 4) hx hb dX9_keptIn_30 (by decide) ?_
      exact hr4 (x1_26, x2_27) h H locs hG ls (lv_sub hl [2, 1, 0] rfl)
  intro H locs hG ls hl
  have hl : lv_has ls 3 [(0, .ref (ad i0))] := hl
  unfold f_X9_keptIn at h
  refine lv_iconst (v := 0) hx hb dX9_keptIn_0 (by decide) ?_
  refine lv_istore_n (lv' := [(1, .int 0), (0, .ref (ad i0))]) hx hb dX9_keptIn_1 rfl hl (by decide) rfl (fun ls hl => ?_)
  refine lv_iconst (v := 0) hx hb dX9_keptIn_2 (by decide) ?_
  refine lv_istore_n (lv' := [(2, .int 0), (1, .int 0), (0, .ref (ad i0))]) hx hb dX9_keptIn_3 rfl hl (by decide) rfl (fun ls hl => ?_)
  exact J_4 _ ((0 : Int32), (0 : Int32)) h H locs hG ls (lv_sub hl [2, 1, 0] rfl)
def f_X9_keep (M : Mem) (x1 : Int32) (x2 : Int32) : Option (Int32 × Mem) :=
  if (f_X9_isBird M x1) = true then (
    if (f_X9_in x2 (0 : Int32) (1 : Int32)) = true then (
      chk (ixb (((21 : Int32) + ((6 : Int32) * x1)) + (5 : Int32)) 57) <|
      if (M 146 (((21 : Int32) + ((6 : Int32) * x1)) + (5 : Int32)).toNatClampNeg) = x2 then (
        some ((-1000002 : Int32), M)
      ) else (
        (f_X9_notes M).bind fun q42 =>
        nm (st q42 146 ((((21 : Int32) + ((6 : Int32) * x1)) + (5 : Int32)).toNatClampNeg) x2) fun M59 =>
        (f_X9_keptIn M59 146).bind fun q64 =>
        some (q64, M59)
      )
    ) else (
      some ((-1000001 : Int32), M)
    )
  ) else (
    some ((-1000001 : Int32), M)
  )
theorem e_X9_keep : yX9_keep.cls = RX9 ∧ yX9_keep.cls ≠ "java/lang/invoke/MethodHandle" ∧ yX9_keep.cls ≠ "java/lang/invoke/VarHandle" ∧ (parseMethodDescriptor yX9_keep.desc).map (fun d => d.parameters.length) = some 2 := by decide +kernel
set_option maxHeartbeats 4000000 in
set_option maxRecDepth 100000 in
theorem c_X9_keep (l : Launch) (D : va_G) (cs : Nat → ClassId) (ad : Nat → Nat) (M : Mem) (x1 : Int32) (x2 : Int32) {z : Int32 × Mem} (h : f_X9_keep M x1 x2 = some z) : CtI l yX9_keep cX9_keep 3 .int 2 D cs ad [.ref (ad 140), .int x1, .int x2] M z.1 z.2 := by
  refine ct_i (own := RX9) (by decide) rfl (Nat.le_of_ble_eq_true rfl) ?_
  intro p e s m args below meth c Q C hr
  have hx := C.1
  have hb := C.2.1
  have hown := C.2.2.2.1
  have hts := C.2.2.2.2.1
  intro H locs hG ls hl
  have hl : lv_has ls 3 [(0, .ref (ad 140)), (1, .int x1), (2, .int x2)] := hl
  unfold f_X9_keep at h
  refine lv_aload_n hx hb dX9_keep_0 rfl (lv_at hl 0 rfl) ?_
  refine lv_iload_n hx hb dX9_keep_1 rfl (lv_at hl 1 rfl) ?_
  refine g_ci hG (g_runV C hG (gR_9 gk_140) (c_X9_isBird l D cs ad M x1 rfl) wm_X9_187 wi_X9_isBird ws_X9_isBird wz_X9 wc_X9_isBird e_X9_isBird (by decide) hl.1 (Nat.le_of_ble_eq_true rfl) dX9_keep_2) (fun H locs hG => ?_)
  refine lv_if_eq (tgt := 17) hx hb dX9_keep_5 (by decide) (fun c_5 => ?_) (fun c_5 => ?_)
  · have h := if_f (bi_f c_5) h
    refine lv_ldc (v := -1000001) hx hb hown (hts _ wk_X9_67) dX9_keep_17 ?_
    exact hr (pf1 (Option.some.inj h)) (pf2 (Option.some.inj h)) hG dX9_keep_19
  · have h := if_t (bi_t c_5) h
    refine lv_iload_n hx hb dX9_keep_8 rfl (lv_at hl 2 rfl) ?_
    refine lv_iconst (v := 0) hx hb dX9_keep_9 (by decide) ?_
    refine lv_iconst (v := 1) hx hb dX9_keep_10 (by decide) ?_
    refine g_ci hG (g_runS C hG (c_X9_in l D cs ad M x2 (0 : Int32) (1 : Int32) rfl) wm_X9_59 wt_X9_in wz_X9 wc_X9_in e_X9_in (by decide) hl.1 (Nat.le_of_ble_eq_true rfl) dX9_keep_11) (fun H locs hG => ?_)
    refine lv_if_ne (tgt := 20) hx hb dX9_keep_14 (by decide) (fun c_14 => ?_) (fun c_14 => ?_)
    · have h := if_t (bi_t c_14) h
      refine lv_aload_n hx hb dX9_keep_20 rfl (lv_at hl 0 rfl) ?_
      refine gf_X9_now C hG gk_140 wf_X9_25 dX9_keep_21 ?_
      refine lv_bipush (v := 21) hx hb dX9_keep_24 (by decide) ?_
      refine lv_bipush (v := 6) hx hb dX9_keep_26 (by decide) ?_
      refine lv_iload_n hx hb dX9_keep_28 rfl (lv_at hl 1 rfl) ?_
      refine lv_imul hx hb dX9_keep_29 ?_
      refine lv_iadd hx hb dX9_keep_30 ?_
      refine lv_iconst (v := 5) hx hb dX9_keep_31 (by decide) ?_
      refine lv_iadd hx hb dX9_keep_32 ?_
      obtain ⟨hi_33, h⟩ := ix_e h
      refine g_al C hG gk_146 gl_146 hi_33 rfl dX9_keep_33 ?_
      refine lv_iload_n hx hb dX9_keep_34 rfl (lv_at hl 2 rfl) ?_
      refine lv_icmp_ne (tgt := 41) hx hb dX9_keep_35 (by decide) (fun c_35 => ?_) (fun c_35 => ?_)
      · have h := if_f c_35 h
        refine lv_aload_n hx hb dX9_keep_41 rfl (lv_at hl 0 rfl) ?_
        obtain ⟨q42, e_42, h⟩ := bd_e h
        refine g_cv hG (g_runV C hG (gR_9 gk_140) (c_X9_notes l D cs ad M e_42) wm_X9_184 wi_X9_notes ws_X9_notes wz_X9 wc_X9_notes e_X9_notes (by decide) hl.1 (Nat.le_of_ble_eq_true rfl) dX9_keep_42) (fun H locs hG => ?_)
        refine lv_aload_n hx hb dX9_keep_45 rfl (lv_at hl 0 rfl) ?_
        refine gf_X9_now C hG gk_140 wf_X9_25 dX9_keep_46 ?_
        refine lv_bipush (v := 21) hx hb dX9_keep_49 (by decide) ?_
        refine lv_bipush (v := 6) hx hb dX9_keep_51 (by decide) ?_
        refine lv_iload_n hx hb dX9_keep_53 rfl (lv_at hl 1 rfl) ?_
        refine lv_imul hx hb dX9_keep_54 ?_
        refine lv_iadd hx hb dX9_keep_55 ?_
        refine lv_iconst (v := 5) hx hb dX9_keep_56 (by decide) ?_
        refine lv_iadd hx hb dX9_keep_57 ?_
        refine lv_iload_n hx hb dX9_keep_58 rfl (lv_at hl 2 rfl) ?_
        refine g_as C hG gk_146 gl_146 hi_33 rfl dX9_keep_59 (fun M59 e_59 H locs hG => ?_)
        have h := nm_at e_59 h
        refine lv_aload_n hx hb dX9_keep_60 rfl (lv_at hl 0 rfl) ?_
        refine gf_X9_now C hG gk_140 wf_X9_25 dX9_keep_61 ?_
        obtain ⟨q64, e_64, h⟩ := bd_e h
        refine g_ci hG (g_runS C hG (c_X9_keptIn l D cs ad M59 gk_146 gl_146 e_64) wm_X9_193 wt_X9_keptIn wz_X9 wc_X9_keptIn e_X9_keptIn (by decide) hl.1 (Nat.le_of_ble_eq_true rfl) dX9_keep_64) (fun H locs hG => ?_)
        exact hr (pf1 (Option.some.inj h)) (pf2 (Option.some.inj h)) hG dX9_keep_67
      · have h := if_t c_35 h
        refine lv_ldc (v := -1000002) hx hb hown (hts _ wk_X9_183) dX9_keep_38 ?_
        exact hr (pf1 (Option.some.inj h)) (pf2 (Option.some.inj h)) hG dX9_keep_40
    · have h := if_f (bi_f c_14) h
      refine lv_ldc (v := -1000001) hx hb hown (hts _ wk_X9_67) dX9_keep_17 ?_
      exact hr (pf1 (Option.some.inj h)) (pf2 (Option.some.inj h)) hG dX9_keep_19
