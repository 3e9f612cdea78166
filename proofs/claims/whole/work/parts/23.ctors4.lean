theorem k_ia {p : Program} {l : Launch} {e : Env} {R : Room} {s : State} {m : MethodId} {args : Array Value} {below : List Frame} {meth : Method} {c : Code} {H : Heap} {locs : List Loc} {cells slots : Nat} {Q : State → Prop} {D : va_G} {cs : Nat → ClassId} {a0 : Nat} {N : Nat → Nat} {M : Mem} {n : Nat} {cc : ByteArray} {nL pc : Nat} {own : String} {ls : Array Slot} {rest : List Value} (C : CC p s m args c D cs cc nL own) (hG : CH D cs a0 s N M n H locs) {a L : Nat} (hi : a < n) (ha : gK a = 10) (hL : gL a = L) {i x : Int32} (hin : vp_in i L) (hdg : decode cc pc = .ok (.iastore, 1))
    (kk : ∀ (H1 : Heap) (locs1 : List Loc), CH D cs a0 s N (st M a i.toNatClampNeg x) n H1 locs1 → W p l e R s m args below meth c H1 locs1 cells slots Q (F0 m (pc + 1) ls rest)) : W p l e R s m args below meth c H locs cells slots Q (F0 m pc ls (.int x :: .int i :: .ref (a0 + a) :: rest)) := by
  have hw : (cWs cs a0 N M n)[a]? = some (a0 + a, .inl (cs 0, gL a, .inl (M a))) := (cWs_get hi).trans (by rw [cE_10 ha])
  refine W.iast C.1 C.2.1 (hG.1 a _ hw) ((C.2.2.2.2.2.1.2 0 _ rfl).1 (gL a) (fun j => .int (M a j))) (fun q => by cases q) (by show ¬ (i < 0 ∨ (arrV _ _ _).slots.size ≤ _); rw [arrV_size, hL]; exact hin) rfl rfl hdg fun H1 e z oq => ?_
  refine kk H1 _ ⟨?_, hG.2.1.put z oq (cWs_D.2 a _ hw), z.trans hG.2.2.1, hG.2.2.2⟩
  rw [← cWs_set (M' := st M a i.toNatClampNeg x) (N' := N) hi rfl (fun _ _ => rfl) (fun j hj => st_ne hj)]
  refine hG.1.set cWs_D hw ?_ oq
  rw [cE_10 ha, st_i]
  show H1[a0 + a]? = some (vp_cell _ _)
  rw [e]
  rw [vp_cell_i, vp_cell_i, arrV_store]
  congr 2
  funext q
  by_cases hq : q = i.toNatClampNeg
  · subst hq
    simp [updV, upd]
  · simp [updV, upd, hq]
/-- the reference's rows are missing -/
def lnf (j : Nat) : Nat → Int32 := fun k => if k < j then -1000000 else 0
def Mln (j : Nat) : Mem := stA Z0 141 (lnf j)
theorem Mln_0 : Mln 0 = Z0 := by
  funext a k
  unfold Mln stA lnf
  by_cases q : a = 141
  · rw [if_pos q]; rfl
  · rw [if_neg q]
theorem Mln_s (j : Nat) : st (Mln j) 141 j (-1000000) = Mln (j + 1) := by
  funext a
  unfold Mln st
  by_cases q : a = 141
  · subst q
    rw [stA_i, stA_i, stA_i]
    funext k
    unfold upd lnf
    by_cases q1 : k = j
    · rw [if_pos q1, if_pos (by omega)]
    · rw [if_neg q1]
      by_cases q2 : k < j
      · rw [if_pos q2, if_pos (by omega)]
      · rw [if_neg q2, if_neg (by omega)]
  · rw [stA_ne q, stA_ne q, stA_ne q]
set_option maxHeartbeats 4000000 in
set_option maxRecDepth 100000 in
theorem c_X9_init (l : Launch) (D : va_G) (cs : Nat → ClassId) (a0 : Nat) {N : Nat → Nat} (hN : ∀ t, 140 ≤ t → N t = 0) : CtC l yX9_init cX9_init 2 1 14 2177 D cs a0 140 N Z0 141 (fill N 140 155) (Mln 8) 155 := by
  refine ct_c (own := RX9) (by decide) rfl rfl (by decide) ?_
  intro p e s m args below meth c Q C hin hr H locs hG ls hl
  have hx := C.1
  have hb := C.2.1
  have hown := C.2.2.2.1
  have hts := C.2.2.2.2.1
  have hk : gK 140 = 9 := gk_140
  have o0 : N 140 = 0 := hN 140 (Nat.le_refl _)
  have l0 : ∀ t, t ≠ 140 → N t = N t := fun _ _ => rfl
  have loop : ∀ {N2 : Nat → Nat}, N2 140 = 23 → (∀ t, t ≠ 140 → N2 t = N t) → ∀ (k j : Nat), j + k = 8 → ∀ (H : Heap) (locs : List Loc), CH D cs a0 s N2 (Mln j) 155 H locs → ∀ ls : Array Slot, lv_has ls 2 [(1, .int (nI j)), (0, .ref (a0 + 140))] → W p l e (rmc 1 14 2177) s m args below meth c H locs 14 2177 Q (F0 m 117 ls []) := by
    intro N2 o2 l2 k
    induction k with
    | zero =>
      intro j hj H locs hG ls hl
      have hj : j = 8 := by omega
      subst hj
      refine lv_iload_n hx hb dX9_init_117 rfl (lv_at hl 0 rfl) ?_
      refine lv_bipush (v := 8) hx hb dX9_init_118 (by decide) ?_
      refine lv_icmp_ge (tgt := 137) hx hb dX9_init_120 (by decide) (fun _ => ?_) (fun q => absurd (by decide) q)
      refine hr (Nat.le_refl _) (Nat.le_refl _) (hG.as (fin_as (fun t ht => l2 t (by omega)) (fun t h1 h2 => ?_))) dX9_init_137
      have hg : gK t < 12 := (by decide +kernel : ∀ d, d < 15 → gK (140 + d) < 12) (t - 140) (by omega) |> fun z => by rw [show 140 + (t - 140) = t by omega] at z; exact z
      refine ⟨hg, ?_⟩
      by_cases q : t = 140
      · rw [q, o2, hk]
        decide
      · have : clim (gK t) = 0 := (by decide +kernel : ∀ d, d < 14 → clim (gK (141 + d)) = 0) (t - 141) (by omega) |> fun z => by rw [show 141 + (t - 141) = t by omega] at z; exact z
        rw [this]
        exact Nat.zero_le _
    | succ k ih =>
      intro j hj H locs hG ls hl
      have hjc : j < 8 := by omega
      refine lv_iload_n hx hb dX9_init_117 rfl (lv_at hl 0 rfl) ?_
      refine lv_bipush (v := 8) hx hb dX9_init_118 (by decide) ?_
      refine lv_icmp_ge (tgt := 137) hx hb dX9_init_120 (by decide) (fun q => absurd q (nI_ge hjc (by decide))) (fun _ => ?_)
      refine lv_aload_n hx hb dX9_init_123 rfl (lv_at hl 1 rfl) ?_
      refine k_get (v := .ref (a0 + 141)) C hG (by omega) (cE_9 hk) rfl gn_X9 0 (by decide) wf_X9_7 (by simp [rfn, o2]) dX9_init_124 ?_
      refine lv_iload_n hx hb dX9_init_127 rfl (lv_at hl 0 rfl) ?_
      refine lv_ldc (v := -1000000) hx hb hown (hts _ wk_X9_53) dX9_init_128 ?_
      refine k_ia C hG (by decide) gk_141 gl_141 (vp_in_nI hjc (by decide)) dX9_init_130 (fun H locs hG => ?_)
      rw [nI_clamp (by omega), Mln_s] at hG
      obtain ⟨x1, ex1⟩ : ∃ y : Int32, y = nI (j + 1) := ⟨_, rfl⟩
      refine lv_iinc (v := x1) (lv' := [(1, .int x1), (0, .ref (a0 + 140))]) hx hb dX9_init_131 hl (k := 0) rfl (by rw [ex1]; exact nI_1 j) (by decide) rfl (fun ls hl => ?_)
      refine lv_goto (tgt := 117) hx hb dX9_init_134 (by decide) ?_
      rw [ex1] at hl
      exact ih (j + 1) (by omega) H locs hG ls hl
  refine lv_aload_n hx hb dX9_init_0 rfl (lv_at hl 0 rfl) ?_
  refine k_obj C hl.1 wm_X9_1 (by decide) (Nat.le_of_ble_eq_true rfl) dX9_init_1 ?_
  refine lv_aload_n hx hb dX9_init_4 rfl (lv_at hl 0 rfl) ?_
  refine lv_bipush (v := 8) hx hb dX9_init_5 (by decide) ?_
  refine k_newa C hG gk_141 gl_141 rfl (by decide) (by decide) (by decide) (by decide) (by decide) dX9_init_7 (fun H hG => ?_)
  have hG : CH D cs a0 s N Z0 142 H locs := hG
  refine k_putR (k2 := 1) (ty := .array .int) C hG (by decide) (cE_9 hk) rfl gn_X9 tyX9 tyX9_ok nmX9 0 (by decide) (by show 0 < 24; decide) rfl hin rfl (by decide +kernel) (by rw [cE_9 hk]; simp [up, rfn, o0]) rfl rfl wf_X9_7 dX9_init_9 (fun H locs hG => ?_)
  obtain ⟨N1, e1⟩ : ∃ y, y = up N 140 1 := ⟨_, rfl⟩
  rw [← e1] at hG
  have o1 : N1 140 = 1 := by rw [e1]; exact if_pos rfl
  have l1 : ∀ t, t ≠ 140 → N1 t = N t := fun t ht => by rw [e1]; exact (if_neg ht).trans (l0 t ht)
  refine lv_aload_n hx hb dX9_init_12 rfl (lv_at hl 0 rfl) ?_
  refine lv_bipush (v := 8) hx hb dX9_init_13 (by decide) ?_
  refine k_newa C hG gk_142 gl_142 rfl (by decide) (by decide) (by decide) (by decide) (by decide) dX9_init_15 (fun H hG => ?_)
  have hG : CH D cs a0 s N1 Z0 143 H locs := hG
  refine k_putR (k2 := 2) (ty := .array .int) C hG (by decide) (cE_9 hk) rfl gn_X9 tyX9 tyX9_ok nmX9 1 (by decide) (by show 1 < 24; decide) rfl hin rfl (by decide +kernel) (by rw [cE_9 hk]; simp [up, rfn, o1]) rfl rfl wf_X9_13 dX9_init_17 (fun H locs hG => ?_)
  obtain ⟨N2, e2⟩ : ∃ y, y = up N1 140 2 := ⟨_, rfl⟩
  rw [← e2] at hG
  have o2 : N2 140 = 2 := by rw [e2]; exact if_pos rfl
  have l2 : ∀ t, t ≠ 140 → N2 t = N t := fun t ht => by rw [e2]; exact (if_neg ht).trans (l1 t ht)
  refine lv_aload_n hx hb dX9_init_20 rfl (lv_at hl 0 rfl) ?_
  refine lv_sipush (v := 320) hx hb dX9_init_21 (by decide) ?_
  refine k_newa C hG gk_143 gl_143 rfl (by decide) (by decide) (by decide) (by decide) (by decide) dX9_init_24 (fun H hG => ?_)
  have hG : CH D cs a0 s N2 Z0 144 H locs := hG
  refine k_putR (k2 := 3) (ty := .array .int) C hG (by decide) (cE_9 hk) rfl gn_X9 tyX9 tyX9_ok nmX9 2 (by decide) (by show 2 < 24; decide) rfl hin rfl (by decide +kernel) (by rw [cE_9 hk]; simp [up, rfn, o2]) rfl rfl wf_X9_16 dX9_init_26 (fun H locs hG => ?_)
  obtain ⟨N3, e3⟩ : ∃ y, y = up N2 140 3 := ⟨_, rfl⟩
  rw [← e3] at hG
  have o3 : N3 140 = 3 := by rw [e3]; exact if_pos rfl
  have l3 : ∀ t, t ≠ 140 → N3 t = N t := fun t ht => by rw [e3]; exact (if_neg ht).trans (l2 t ht)
  refine lv_aload_n hx hb dX9_init_29 rfl (lv_at hl 0 rfl) ?_
  refine lv_bipush (v := 40) hx hb dX9_init_30 (by decide) ?_
  refine k_newa C hG gk_144 gl_144 rfl (by decide) (by decide) (by decide) (by decide) (by decide) dX9_init_32 (fun H hG => ?_)
  have hG : CH D cs a0 s N3 Z0 145 H locs := hG
  refine k_putR (k2 := 4) (ty := .array .int) C hG (by decide) (cE_9 hk) rfl gn_X9 tyX9 tyX9_ok nmX9 3 (by decide) (by show 3 < 24; decide) rfl hin rfl (by decide +kernel) (by rw [cE_9 hk]; simp [up, rfn, o3]) rfl rfl wf_X9_19 dX9_init_34 (fun H locs hG => ?_)
  obtain ⟨N4, e4⟩ : ∃ y, y = up N3 140 4 := ⟨_, rfl⟩
  rw [← e4] at hG
  have o4 : N4 140 = 4 := by rw [e4]; exact if_pos rfl
  have l4 : ∀ t, t ≠ 140 → N4 t = N t := fun t ht => by rw [e4]; exact (if_neg ht).trans (l3 t ht)
  refine lv_aload_n hx hb dX9_init_37 rfl (lv_at hl 0 rfl) ?_
  refine lv_bipush (v := 120) hx hb dX9_init_38 (by decide) ?_
  refine k_newa C hG gk_145 gl_145 rfl (by decide) (by decide) (by decide) (by decide) (by decide) dX9_init_40 (fun H hG => ?_)
  have hG : CH D cs a0 s N4 Z0 146 H locs := hG
  refine k_putR (k2 := 6) (ty := .array .int) C hG (by decide) (cE_9 hk) rfl gn_X9 tyX9 tyX9_ok nmX9 5 (by decide) (by show 5 < 24; decide) rfl hin rfl (by decide +kernel) (by rw [cE_9 hk]; simp [up, rfn, o4]) rfl rfl wf_X9_22 dX9_init_42 (fun H locs hG => ?_)
  obtain ⟨N5, e5⟩ : ∃ y, y = up N4 140 6 := ⟨_, rfl⟩
  rw [← e5] at hG
  have o5 : N5 140 = 6 := by rw [e5]; exact if_pos rfl
  have l5 : ∀ t, t ≠ 140 → N5 t = N t := fun t ht => by rw [e5]; exact (if_neg ht).trans (l4 t ht)
  refine lv_aload_n hx hb dX9_init_45 rfl (lv_at hl 0 rfl) ?_
  refine lv_bipush (v := 57) hx hb dX9_init_46 (by decide) ?_
  refine k_newa C hG gk_146 gl_146 rfl (by decide) (by decide) (by decide) (by decide) (by decide) dX9_init_48 (fun H hG => ?_)
  have hG : CH D cs a0 s N5 Z0 147 H locs := hG
  refine k_putR (k2 := 14) (ty := .array .int) C hG (by decide) (cE_9 hk) rfl gn_X9 tyX9 tyX9_ok nmX9 13 (by decide) (by show 13 < 24; decide) rfl hin rfl (by decide +kernel) (by rw [cE_9 hk]; simp [up, rfn, o5]) rfl rfl wf_X9_25 dX9_init_50 (fun H locs hG => ?_)
  obtain ⟨N6, e6⟩ : ∃ y, y = up N5 140 14 := ⟨_, rfl⟩
  rw [← e6] at hG
  have o6 : N6 140 = 14 := by rw [e6]; exact if_pos rfl
  have l6 : ∀ t, t ≠ 140 → N6 t = N t := fun t ht => by rw [e6]; exact (if_neg ht).trans (l5 t ht)
  refine lv_aload_n hx hb dX9_init_53 rfl (lv_at hl 0 rfl) ?_
  refine lv_bipush (v := 57) hx hb dX9_init_54 (by decide) ?_
  refine k_newa C hG gk_147 gl_147 rfl (by decide) (by decide) (by decide) (by decide) (by decide) dX9_init_56 (fun H hG => ?_)
  have hG : CH D cs a0 s N6 Z0 148 H locs := hG
  refine k_putR (k2 := 15) (ty := .array .int) C hG (by decide) (cE_9 hk) rfl gn_X9 tyX9 tyX9_ok nmX9 14 (by decide) (by show 14 < 24; decide) rfl hin rfl (by decide +kernel) (by rw [cE_9 hk]; simp [up, rfn, o6]) rfl rfl wf_X9_28 dX9_init_58 (fun H locs hG => ?_)
  obtain ⟨N7, e7⟩ : ∃ y, y = up N6 140 15 := ⟨_, rfl⟩
  rw [← e7] at hG
  have o7 : N7 140 = 15 := by rw [e7]; exact if_pos rfl
  have l7 : ∀ t, t ≠ 140 → N7 t = N t := fun t ht => by rw [e7]; exact (if_neg ht).trans (l6 t ht)
  refine lv_aload_n hx hb dX9_init_61 rfl (lv_at hl 0 rfl) ?_
  refine lv_bipush (v := 57) hx hb dX9_init_62 (by decide) ?_
  refine k_newa C hG gk_148 gl_148 rfl (by decide) (by decide) (by decide) (by decide) (by decide) dX9_init_64 (fun H hG => ?_)
  have hG : CH D cs a0 s N7 Z0 149 H locs := hG
  refine k_putR (k2 := 16) (ty := .array .int) C hG (by decide) (cE_9 hk) rfl gn_X9 tyX9 tyX9_ok nmX9 15 (by decide) (by show 15 < 24; decide) rfl hin rfl (by decide +kernel) (by rw [cE_9 hk]; simp [up, rfn, o7]) rfl rfl wf_X9_31 dX9_init_66 (fun H locs hG => ?_)
  obtain ⟨N8, e8⟩ : ∃ y, y = up N7 140 16 := ⟨_, rfl⟩
  rw [← e8] at hG
  have o8 : N8 140 = 16 := by rw [e8]; exact if_pos rfl
  have l8 : ∀ t, t ≠ 140 → N8 t = N t := fun t ht => by rw [e8]; exact (if_neg ht).trans (l7 t ht)
  refine lv_aload_n hx hb dX9_init_69 rfl (lv_at hl 0 rfl) ?_
  refine lv_sipush (v := 1368) hx hb dX9_init_70 (by decide) ?_
  refine k_newa C hG gk_149 gl_149 rfl (by decide) (by decide) (by decide) (by decide) (by decide) dX9_init_73 (fun H hG => ?_)
  have hG : CH D cs a0 s N8 Z0 150 H locs := hG
  refine k_putR (k2 := 17) (ty := .array .int) C hG (by decide) (cE_9 hk) rfl gn_X9 tyX9 tyX9_ok nmX9 16 (by decide) (by show 16 < 24; decide) rfl hin rfl (by decide +kernel) (by rw [cE_9 hk]; simp [up, rfn, o8]) rfl rfl wf_X9_34 dX9_init_75 (fun H locs hG => ?_)
  obtain ⟨N9, e9⟩ : ∃ y, y = up N8 140 17 := ⟨_, rfl⟩
  rw [← e9] at hG
  have o9 : N9 140 = 17 := by rw [e9]; exact if_pos rfl
  have l9 : ∀ t, t ≠ 140 → N9 t = N t := fun t ht => by rw [e9]; exact (if_neg ht).trans (l8 t ht)
  refine lv_aload_n hx hb dX9_init_78 rfl (lv_at hl 0 rfl) ?_
  refine lv_bipush (v := 114) hx hb dX9_init_79 (by decide) ?_
  refine k_newa C hG gk_150 gl_150 rfl (by decide) (by decide) (by decide) (by decide) (by decide) dX9_init_81 (fun H hG => ?_)
  have hG : CH D cs a0 s N9 Z0 151 H locs := hG
  refine k_putR (k2 := 19) (ty := .array .int) C hG (by decide) (cE_9 hk) rfl gn_X9 tyX9 tyX9_ok nmX9 18 (by decide) (by show 18 < 24; decide) rfl hin rfl (by decide +kernel) (by rw [cE_9 hk]; simp [up, rfn, o9]) rfl rfl wf_X9_37 dX9_init_83 (fun H locs hG => ?_)
  obtain ⟨N10, e10⟩ : ∃ y, y = up N9 140 19 := ⟨_, rfl⟩
  rw [← e10] at hG
  have o10 : N10 140 = 19 := by rw [e10]; exact if_pos rfl
  have l10 : ∀ t, t ≠ 140 → N10 t = N t := fun t ht => by rw [e10]; exact (if_neg ht).trans (l9 t ht)
  refine lv_aload_n hx hb dX9_init_86 rfl (lv_at hl 0 rfl) ?_
  refine lv_iconst (v := 2) hx hb dX9_init_87 (by decide) ?_
  refine k_newz C hG gk_151 gl_151 rfl (by decide) (by decide) (by decide) (by decide) (by decide) dX9_init_88 (fun H hG => ?_)
  have hG : CH D cs a0 s N10 Z0 152 H locs := hG
  refine k_putR (k2 := 20) (ty := .array .boolean) C hG (by decide) (cE_9 hk) rfl gn_X9 tyX9 tyX9_ok nmX9 19 (by decide) (by show 19 < 24; decide) rfl hin rfl (by decide +kernel) (by rw [cE_9 hk]; simp [up, rfn, o10]) rfl rfl wf_X9_40 dX9_init_90 (fun H locs hG => ?_)
  obtain ⟨N11, e11⟩ : ∃ y, y = up N10 140 20 := ⟨_, rfl⟩
  rw [← e11] at hG
  have o11 : N11 140 = 20 := by rw [e11]; exact if_pos rfl
  have l11 : ∀ t, t ≠ 140 → N11 t = N t := fun t ht => by rw [e11]; exact (if_neg ht).trans (l10 t ht)
  refine lv_aload_n hx hb dX9_init_93 rfl (lv_at hl 0 rfl) ?_
  refine lv_iconst (v := 5) hx hb dX9_init_94 (by decide) ?_
  refine k_newa C hG gk_152 gl_152 rfl (by decide) (by decide) (by decide) (by decide) (by decide) dX9_init_95 (fun H hG => ?_)
  have hG : CH D cs a0 s N11 Z0 153 H locs := hG
  refine k_putR (k2 := 21) (ty := .array .int) C hG (by decide) (cE_9 hk) rfl gn_X9 tyX9 tyX9_ok nmX9 20 (by decide) (by show 20 < 24; decide) rfl hin rfl (by decide +kernel) (by rw [cE_9 hk]; simp [up, rfn, o11]) rfl rfl wf_X9_44 dX9_init_97 (fun H locs hG => ?_)
  obtain ⟨N12, e12⟩ : ∃ y, y = up N11 140 21 := ⟨_, rfl⟩
  rw [← e12] at hG
  have o12 : N12 140 = 21 := by rw [e12]; exact if_pos rfl
  have l12 : ∀ t, t ≠ 140 → N12 t = N t := fun t ht => by rw [e12]; exact (if_neg ht).trans (l11 t ht)
  refine lv_aload_n hx hb dX9_init_100 rfl (lv_at hl 0 rfl) ?_
  refine lv_iconst (v := 5) hx hb dX9_init_101 (by decide) ?_
  refine k_newa C hG gk_153 gl_153 rfl (by decide) (by decide) (by decide) (by decide) (by decide) dX9_init_102 (fun H hG => ?_)
  have hG : CH D cs a0 s N12 Z0 154 H locs := hG
  refine k_putR (k2 := 22) (ty := .array .int) C hG (by decide) (cE_9 hk) rfl gn_X9 tyX9 tyX9_ok nmX9 21 (by decide) (by show 21 < 24; decide) rfl hin rfl (by decide +kernel) (by rw [cE_9 hk]; simp [up, rfn, o12]) rfl rfl wf_X9_47 dX9_init_104 (fun H locs hG => ?_)
  obtain ⟨N13, e13⟩ : ∃ y, y = up N12 140 22 := ⟨_, rfl⟩
  rw [← e13] at hG
  have o13 : N13 140 = 22 := by rw [e13]; exact if_pos rfl
  have l13 : ∀ t, t ≠ 140 → N13 t = N t := fun t ht => by rw [e13]; exact (if_neg ht).trans (l12 t ht)
  refine lv_aload_n hx hb dX9_init_107 rfl (lv_at hl 0 rfl) ?_
  refine lv_bipush (v := 16) hx hb dX9_init_108 (by decide) ?_
  refine k_newa C hG gk_154 gl_154 rfl (by decide) (by decide) (by decide) (by decide) (by decide) dX9_init_110 (fun H hG => ?_)
  have hG : CH D cs a0 s N13 Z0 155 H locs := hG
  refine k_putR (k2 := 23) (ty := .array .int) C hG (by decide) (cE_9 hk) rfl gn_X9 tyX9 tyX9_ok nmX9 22 (by decide) (by show 22 < 24; decide) rfl hin rfl (by decide +kernel) (by rw [cE_9 hk]; simp [up, rfn, o13]) rfl rfl wf_X9_50 dX9_init_112 (fun H locs hG => ?_)
  obtain ⟨N14, e14⟩ : ∃ y, y = up N13 140 23 := ⟨_, rfl⟩
  rw [← e14] at hG
  have o14 : N14 140 = 23 := by rw [e14]; exact if_pos rfl
  have l14 : ∀ t, t ≠ 140 → N14 t = N t := fun t ht => by rw [e14]; exact (if_neg ht).trans (l13 t ht)
  refine lv_iconst (v := 0) hx hb dX9_init_115 (by decide) ?_
  refine lv_istore_n (lv' := [(1, .int 0), (0, .ref (a0 + 140))]) hx hb dX9_init_116 rfl hl (by decide) rfl (fun ls hl => ?_)
  exact loop o14 l14 8 0 rfl H locs (by rw [Mln_0]; exact hG) ls hl
