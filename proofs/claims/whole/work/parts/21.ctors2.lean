theorem gk_ring : ∀ j, j < 24 → gK (27 + 3 * j) = 3 := by decide +kernel
theorem gk_rws : ∀ j, j < 8 → gK (104 + 2 * j) = 5 := by decide +kernel
theorem gk_ims : ∀ j, j < 2 → gK (120 + 10 * j) = 2 := by decide +kernel
theorem w_eq {p : Program} {l : Launch} {e : Env} {R : Room} {s : State} {m : MethodId} {args : Array Value} {below : List Frame} {meth : Method} {c : Code} {H : Heap} {locs : List Loc} {k n k' n' : Nat} {Q : State → Prop} {g : JFrame} (h1 : k = k') (h2 : n = n') (h : W p l e R s m args below meth c H locs k' n' Q g) : W p l e R s m args below meth c H locs k n Q g := by subst h1; subst h2; exact h
theorem CH.re {D : va_G} {cs : Nat → ClassId} {a0 : Nat} {s : State} {N N' : Nat → Nat} {M : Mem} {n n' : Nat} {H : Heap} {locs : List Loc} (hG : CH D cs a0 s N M n H locs) (h : N = N') (hn : n = n') : CH D cs a0 s N' M n' H locs := by subst h; subst hn; exact hG
set_option maxHeartbeats 4000000 in
set_option maxRecDepth 100000 in
theorem c_X2_init (l : Launch) (D : va_G) (cs : Nat → ClassId) (a0 : Nat) {i : Nat} {N : Nat → Nat} (hk : gK i = 2) (hN : ∀ t, i ≤ t → N t = 0) : CtC l yX2_init cX2_init 1 2 9 53 D cs a0 i N Z0 (i + 1) (fill N i (i + 10)) Z0 (i + 10) := by
  refine ct_c (own := RX2) (by decide) rfl rfl (by decide) ?_
  intro p e s m args below meth c Q C hin hr H locs hG ls hl
  have hx := C.1
  have hb := C.2.1
  have hN0 : N i = 0 := hN i (Nat.le_refl _)
  have k7 : gK (i + 1) = 7 := gk_X2_told hk
  have k3 : gK (i + 7) = 3 := gk_X2_moment hk
  refine lv_aload_n hx hb dX2_init_0 rfl (lv_at hl 0 rfl) ?_
  refine k_obj C hl.1 wm_X2_3 (by decide) (Nat.le_of_ble_eq_true rfl) dX2_init_1 ?_
  refine lv_aload_n hx hb dX2_init_4 rfl (lv_at hl 0 rfl) ?_
  refine k_new C hG (cN_7 k7 (hN _ (by omega))) rfl gn_X7 tyX7 tyX7_ok dv_7 wl_X2_9 wb_X7 wz_X7 (by decide) (by decide) dX2_init_5 (fun H hG => ?_)
  refine lv_dup hx hb dX2_init_8 rfl ?_
  refine k_callN C hG (c_X7_init l D cs a0 k7 (fun t ht => hN t (by omega))) wn_X2_11 wi_X7_init wz_X7 wc_X7_init rfl ei_X7 (by decide) (by decide) hl.1 (Nat.le_of_ble_eq_true rfl) dX2_init_9 (fun H locs hG => ?_)
  obtain ⟨N1, e1⟩ : ∃ y, y = up (fill N (i + 1) (i + 1 + 6)) i 1 := ⟨_, rfl⟩
  refine k_putR (k2 := 1) (ty := .object "ThirtyBirds$Told") C hG (by omega) (cE_2 hk) rfl gn_X2 tyX2 tyX2_ok nmX2 0 (by decide) (by show 0 < 2; decide) rfl hin rfl (by decide +kernel) (by rw [cE_2 hk]; simp [up, fill, rfn, hN0, show ¬ (i + 1 ≤ i ∧ i < i + 1 + 6) by omega]) rfl rfl wf_X2_12 dX2_init_12 (fun H locs hG => ?_)
  rw [← e1] at hG
  have hG : CH D cs a0 s N1 Z0 (i + 7) H locs := hG
  have z1 : ∀ t, i + 7 ≤ t → N1 t = 0 := fun t ht => by
    rw [e1]
    show (if t = i then 1 else if i + 1 ≤ t ∧ t < i + 1 + 6 then 30 else N t) = 0
    rw [if_neg (by omega), if_neg (by omega)]
    exact hN t (by omega)
  have o1 : N1 i = 1 := by rw [e1]; exact if_pos rfl
  refine lv_aload_n hx hb dX2_init_15 rfl (lv_at hl 0 rfl) ?_
  refine k_new C hG (cN_3 k3 (z1 _ (by omega))) rfl gn_X3 tyX3 tyX3_ok dv_3 wl_X2_18 wb_X3 wz_X3 (by decide) (by decide) dX2_init_16 (fun H hG => ?_)
  refine lv_dup hx hb dX2_init_19 rfl ?_
  refine k_callN C hG (c_X3_init l D cs a0 k3 z1) wn_X2_20 wi_X3_init wz_X3 wc_X3_init rfl ei_X3 (by decide) (by decide) hl.1 (Nat.le_of_ble_eq_true rfl) dX2_init_20 (fun H locs hG => ?_)
  refine k_putR (k2 := 2) (ty := .object "ThirtyBirds$Moment") C hG (by omega) (cE_2 hk) rfl gn_X2 tyX2 tyX2_ok nmX2 1 (by decide) (by show 1 < 2; decide) rfl hin rfl (by decide +kernel) (by rw [cE_2 hk]; simp [up, fill, rfn, o1, show ¬ (i + 7 ≤ i ∧ i < i + 7 + 3) by omega]) rfl rfl wf_X2_21 dX2_init_23 (fun H locs hG => ?_)
  have hG : CH D cs a0 s _ Z0 (i + 10) H locs := hG
  refine hr (by decide) (by decide) (hG.as (fin_as (fun t ht => ?_) (fun t h1 h2 => ?_))) dX2_init_26
  · show (if t = i then 2 else if i + 7 ≤ t ∧ t < i + 7 + 3 then 30 else N1 t) = N t
    rw [if_neg (by omega), if_neg (by omega), e1]
    show (if t = i then 1 else if i + 1 ≤ t ∧ t < i + 1 + 6 then 30 else N t) = N t
    rw [if_neg (by omega), if_neg (by omega)]
  · have hg : gK t < 12 := (by decide +kernel : ∀ i, i < 155 → gK i = 2 → ∀ d, d < 10 → gK (i + d) < 12) i (gK_lt hk (by decide)) hk (t - i) (by omega) |> fun z => by rw [show i + (t - i) = t by omega] at z; exact z
    refine ⟨hg, ?_⟩
    show clim (gK t) ≤ (if t = i then 2 else if i + 7 ≤ t ∧ t < i + 7 + 3 then 30 else N1 t)
    by_cases q : t = i
    · rw [if_pos q, q, hk]
      decide
    · rw [if_neg q]
      by_cases q2 : i + 7 ≤ t ∧ t < i + 7 + 3
      · rw [if_pos q2]
        exact clim_le _
      · rw [if_neg q2, e1]
        show clim (gK t) ≤ (if t = i then 1 else if i + 1 ≤ t ∧ t < i + 1 + 6 then 30 else N t)
        rw [if_neg q, if_pos (by omega)]
        exact clim_le _
/-- while the ring is made -/
abbrev NR (N : Nat → Nat) (j : Nat) : Nat → Nat := fun t => if t = 25 then 1 else if t = 26 then j else if 27 ≤ t ∧ t < 27 + 3 * j then 30 else N t
abbrev NAc (N : Nat → Nat) : Nat → Nat := fun t => if t = 26 then 24 else if 25 ≤ t ∧ t < 99 then 30 else N t
set_option maxHeartbeats 4000000 in
set_option maxRecDepth 100000 in
theorem c_X0_init (l : Launch) (D : va_G) (cs : Nat → ClassId) (a0 : Nat) {N : Nat → Nat} (hN : ∀ t, 25 ≤ t → N t = 0) : CtC l yX0_init cX0_init 2 2 73 432 D cs a0 25 N Z0 26 (NAc N) Z0 99 := by
  refine ct_c (own := RX0) (by decide) rfl rfl (by decide) ?_
  intro p e s m args below meth c Q C hin hr H locs hG ls hl
  have hx := C.1
  have hb := C.2.1
  have hk : gK 25 = 0 := gk_25
  have hN0 : N 25 = 0 := hN 25 (Nat.le_refl _)
  have loop : ∀ (k j : Nat), j + k = 24 → ∀ (H : Heap) (locs : List Loc), CH D cs a0 s (NR N j) Z0 (27 + 3 * j) H locs → ∀ ls : Array Slot, lv_has ls 2 [(1, .int (nI j)), (0, .ref (a0 + 25))] → W p l e (rmc 2 73 432) s m args below meth c H locs (1 + 3 * j) (24 + 17 * j) Q (F0 m 25 ls []) := by
    intro k
    induction k with
    | zero =>
      intro j hj H locs hG ls hl
      have hj : j = 24 := by omega
      subst hj
      refine lv_iload_n hx hb dX0_init_25 rfl (lv_at hl 0 rfl) ?_
      refine lv_bipush (v := 24) hx hb dX0_init_26 (by decide) ?_
      refine lv_icmp_ge (tgt := 50) hx hb dX0_init_28 (by decide) (fun _ => ?_) (fun q => absurd (by decide) q)
      refine hr (by decide) (by decide) (hG.as (fun t ht => ?_)) dX0_init_50
      by_cases q : t = 25
      · right
        rw [q, gk_25]
        exact ⟨by decide, (by show 1 ≤ 1; decide), (by show 1 ≤ 30; decide)⟩
      · left
        show (if t = 26 then 24 else if 25 ≤ t ∧ t < 99 then 30 else N t) = (if t = 25 then 1 else if t = 26 then 24 else if 27 ≤ t ∧ t < 27 + 3 * 24 then 30 else N t)
        rw [if_neg q]
        by_cases q2 : t = 26
        · rw [if_pos q2, if_pos q2]
        · rw [if_neg q2, if_neg q2]
          by_cases q3 : 27 ≤ t
          · rw [if_pos (by omega), if_pos (by omega)]
          · rw [if_neg (by omega), if_neg (by omega)]
    | succ k ih =>
      intro j hj H locs hG ls hl
      have hj24 : j < 24 := by omega
      refine lv_iload_n hx hb dX0_init_25 rfl (lv_at hl 0 rfl) ?_
      refine lv_bipush (v := 24) hx hb dX0_init_26 (by decide) ?_
      refine lv_icmp_ge (tgt := 50) hx hb dX0_init_28 (by decide) (fun q => absurd q (nI_ge hj24 (by decide))) (fun _ => ?_)
      refine lv_aload_n hx hb dX0_init_31 rfl (lv_at hl 1 rfl) ?_
      refine k_get (v := .ref (a0 + 26)) C hG (by omega) (cE_0 hk) rfl gn_X0 0 (by decide) wf_X0_11 (by simp [rfn, NR]) dX0_init_32 ?_
      refine lv_iload_n hx hb dX0_init_35 rfl (lv_at hl 0 rfl) ?_
      have z0 : ∀ t, 27 + 3 * j ≤ t → NR N j t = 0 := fun t ht => by
        show (if t = 25 then 1 else if t = 26 then j else if 27 ≤ t ∧ t < 27 + 3 * j then 30 else N t) = 0
        rw [if_neg (by omega), if_neg (by omega), if_neg (by omega)]
        exact hN t (by omega)
      refine k_new C hG (cN_3 (gk_ring j hj24) (z0 _ (Nat.le_refl _))) rfl gn_X3 tyX3 tyX3_ok dv_3 wl_X0_9 wb_X3 wz_X3 (by show 1 + 3 * j + 1 ≤ 73; omega) (by show 24 + 17 * j + 6 ≤ 432; omega) dX0_init_36 (fun H hG => ?_)
      refine lv_dup hx hb dX0_init_39 rfl ?_
      refine k_callN C hG (c_X3_init l D cs a0 (gk_ring j hj24) z0) wn_X0_24 wi_X3_init wz_X3 wc_X3_init rfl ei_X3 (by decide) ⟨by show 1 + 3 * j + 1 + 2 ≤ 73; omega, by show 24 + 17 * j + 6 + 11 ≤ 432; omega⟩ hl.1 (Nat.le_of_ble_eq_true rfl) dX0_init_40 (fun H locs hG => ?_)
      have hG : CH D cs a0 s (fill (NR N j) (27 + 3 * j) (27 + 3 * j + 3)) Z0 (27 + 3 * j + 3) H locs := hG
      have hcl : (nI j).toNatClampNeg = j := nI_clamp (by omega)
      refine k_ast (t0 := 4) (k2 := j + 1) C hG (i := 26) (by omega) (by omega) (cE_14 gk_26) rfl (cE_3 (gk_ring j hj24)) rfl (vp_in_nI (by rw [gl_26]; exact hj24) (by rw [gl_26]; decide)) ?_ dX0_init_43 (fun H locs hG => ?_)
      · rw [cE_14 gk_26]
        congr 7
        funext t
        rw [hcl]
        show (if t < (if (26 : Nat) = 26 then j + 1 else _) then _ else _) = (if t = j then _ else if t < (if 27 + 3 * j ≤ 26 ∧ 26 < 27 + 3 * j + 3 then 30 else if (26 : Nat) = 25 then 1 else if (26 : Nat) = 26 then j else _) then _ else _)
        rw [if_pos rfl, if_neg (by omega : ¬ (27 + 3 * j ≤ 26 ∧ 26 < 27 + 3 * j + 3)), if_neg (by decide : ¬ (26 : Nat) = 25), if_pos (rfl : (26 : Nat) = 26)]
        by_cases q : t = j
        · rw [if_pos q, if_pos (by omega), q]
        · rw [if_neg q]
          by_cases q2 : t < j
          · rw [if_pos q2, if_pos (by omega)]
          · rw [if_neg q2, if_neg (by omega)]
      have hG : CH D cs a0 s (NR N (j + 1)) Z0 (27 + 3 * (j + 1)) H locs := hG.re (by
        funext t
        show (if t = 26 then j + 1 else if 27 + 3 * j ≤ t ∧ t < 27 + 3 * j + 3 then 30 else if t = 25 then 1 else if t = 26 then j else if 27 ≤ t ∧ t < 27 + 3 * j then 30 else N t) = (if t = 25 then 1 else if t = 26 then j + 1 else if 27 ≤ t ∧ t < 27 + 3 * (j + 1) then 30 else N t)
        by_cases q1 : t = 26
        · rw [if_pos q1, if_neg (by omega), if_pos q1]
        · rw [if_neg q1]
          by_cases q2 : 27 + 3 * j ≤ t ∧ t < 27 + 3 * j + 3
          · rw [if_pos q2, if_neg (by omega), if_neg q1, if_pos (by omega)]
          · rw [if_neg q2]
            by_cases q3 : t = 25
            · rw [if_pos q3, if_pos q3]
            · rw [if_neg q3, if_neg q3, if_neg q1, if_neg q1]
              by_cases q4 : 27 ≤ t ∧ t < 27 + 3 * j
              · rw [if_pos q4, if_pos (by omega)]
              · rw [if_neg q4, if_neg (by omega)]) (by omega)
      obtain ⟨x1, ex1⟩ : ∃ y : Int32, y = nI (j + 1) := ⟨_, rfl⟩
      refine lv_iinc (v := x1) (lv' := [(1, .int x1), (0, .ref (a0 + 25))]) hx hb dX0_init_44 hl (k := 0) rfl (by rw [ex1]; exact nI_1 j) (by decide) rfl (fun ls hl => ?_)
      refine lv_goto (tgt := 25) hx hb dX0_init_47 (by decide) ?_
      refine w_eq (k' := 1 + 3 * (j + 1)) (n' := 24 + 17 * (j + 1)) (by omega) (by omega) ?_
      rw [ex1] at hl
      exact ih (j + 1) (by omega) H locs hG ls hl
  refine lv_aload_n hx hb dX0_init_0 rfl (lv_at hl 0 rfl) ?_
  refine k_obj C hl.1 wm_X0_3 (by decide) (Nat.le_of_ble_eq_true rfl) dX0_init_1 ?_
  refine lv_aload_n hx hb dX0_init_4 rfl (lv_at hl 0 rfl) ?_
  refine lv_bipush (v := 24) hx hb dX0_init_5 (by decide) ?_
  refine k_newq (t0 := 4) (L := 24) C hG ((cE_14 gk_26).trans (by rw [gl_26])) (fun j => by rw [hN 26 (by decide)]; exact if_neg (Nat.not_lt_zero j)) rfl C.2.2.2.2.2.2.2.2.2 wl_X0_9 (by decide) (by decide) (by decide) (by decide) (by decide) dX0_init_7 (fun H hG => ?_)
  refine k_putR (k2 := 1) (ty := .array (.object "ThirtyBirds$Moment")) C hG (by decide) (cE_0 hk) rfl gn_X0 tyX0 tyX0_ok nmX0 0 (by decide) (by show 0 < 3; decide) rfl hin rfl (by decide +kernel) (by rw [cE_0 hk]; simp [up, rfn, hN0]) rfl rfl wf_X0_11 dX0_init_10 (fun H locs hG => ?_)
  refine lv_aload_n hx hb dX0_init_13 rfl (lv_at hl 0 rfl) ?_
  refine lv_iconst (v := 0) hx hb dX0_init_14 (by decide) ?_
  refine k_put0 (ty := .int) C hG (by decide) (cE_0 hk) rfl gn_X0 tyX0 tyX0_ok nmX0 1 (by decide) (by show 1 < 3; decide) rfl (by decide +kernel) rfl rfl rfl wf_X0_17 dX0_init_15 (fun H locs hG => ?_)
  refine lv_aload_n hx hb dX0_init_18 rfl (lv_at hl 0 rfl) ?_
  refine lv_iconst (v := 0) hx hb dX0_init_19 (by decide) ?_
  refine k_put0 (ty := .int) C hG (by decide) (cE_0 hk) rfl gn_X0 tyX0 tyX0_ok nmX0 2 (by decide) (by show 2 < 3; decide) rfl (by decide +kernel) rfl rfl rfl wf_X0_21 dX0_init_20 (fun H locs hG => ?_)
  refine lv_iconst (v := 0) hx hb dX0_init_23 (by decide) ?_
  refine lv_istore_n (lv' := [(1, .int 0), (0, .ref (a0 + 25))]) hx hb dX0_init_24 rfl hl (by decide) rfl (fun ls hl => ?_)
  refine w_eq (k' := 1 + 3 * 0) (n' := 24 + 17 * 0) rfl rfl ?_
  exact loop 24 0 rfl H locs (hG.re (by
    funext t
    show (if t = 25 then 1 else N t) = (if t = 25 then 1 else if t = 26 then 0 else if 27 ≤ t ∧ t < 27 + 3 * 0 then 30 else N t)
    by_cases q : t = 25
    · rw [if_pos q, if_pos q]
    · rw [if_neg q, if_neg q]
      by_cases q2 : t = 26
      · rw [if_pos q2, q2]
        exact hN 26 (by decide)
      · rw [if_neg q2, if_neg (by omega)]) (by omega)) ls hl
