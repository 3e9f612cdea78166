/-! FROM THE LAW'S ENTRY TO ITS LOOP -/
theorem arrV_cg {c : ClassId} {n : Nat} {f g : Nat → Value} (h : ∀ j, j < n → f j = g j) : arrV c n f = arrV c n g := by
  unfold arrV
  congr 2
  funext j
  exact h j.val j.isLt
section ST
variable {cs : Nat → ClassId} {a0 : Nat} {N : Nat → Nat} {M : Mem} {D : va_G} {H : Heap}
theorem gE_of {i k : Nat} (hk : gK i = k) (hk2 : k < 12) (h : clim k ≤ N i) : cE cs a0 N M i = gE cs (fun j => a0 + j) M i := by
  have key : ∀ a b, a < clim k → rfn a0 N i a b = .ref (a0 + b) := fun a b h' => if_pos (Nat.lt_of_lt_of_le h' h)
  match k, hk2, hk with
  | 0, _, hk => rw [cE_0 hk, gE_0 hk, key _ _ (by decide)]
  | 1, _, hk => rw [cE_1 hk, gE_1 hk, key _ _ (by decide)]
  | 2, _, hk => rw [cE_2 hk, gE_2 hk, key 0 _ (by decide), key 1 _ (by decide)]
  | 3, _, hk => rw [cE_3 hk, gE_3 hk, key 4 _ (by decide), key 5 _ (by decide)]
  | 4, _, hk => rw [cE_4 hk, gE_4 hk, key 0 _ (by decide), key 1 _ (by decide)]
  | 5, _, hk => rw [cE_5 hk, gE_5 hk, key 3 _ (by decide)]
  | 6, _, hk => rw [cE_6 hk, gE_6 hk, key 0 _ (by decide)]
  | 7, _, hk => rw [cE_7 hk, gE_7 hk, key 3 _ (by decide), key 4 _ (by decide), key 5 _ (by decide), key 6 _ (by decide), key 7 _ (by decide)]
  | 8, _, hk => rw [cE_8 hk, gE_8 hk, key 0 _ (by decide), key 1 _ (by decide), key 2 _ (by decide), key 3 _ (by decide), key 4 _ (by decide), key 5 _ (by decide), key 6 _ (by decide), key 7 _ (by decide)]
  | 9, _, hk => rw [cE_9 hk, gE_9 hk, key 0 _ (by decide), key 1 _ (by decide), key 2 _ (by decide), key 3 _ (by decide), key 5 _ (by decide), key 13 _ (by decide), key 14 _ (by decide), key 15 _ (by decide), key 16 _ (by decide), key 18 _ (by decide), key 19 _ (by decide), key 20 _ (by decide), key 21 _ (by decide), key 22 _ (by decide)]
  | 10, _, hk => rw [cE_10 hk, gE_10 hk]
  | 11, _, hk => rw [cE_11 hk, gE_11 hk]
theorem gP_of (hP : va_P D gcl (cWs cs a0 N M 155) H) (h : ∀ i, i < 155 → (gK i < 12 ∧ clim (gK i) ≤ N i) ∨ (12 ≤ gK i ∧ gL i ≤ N i)) : va_P D gcl (gWs cs (fun j => a0 + j) M) H := by
  intro k q hq
  obtain ⟨hl, rfl⟩ := gWs_lt hq
  have h0 := hP k _ (cWs_get hl)
  rcases h k hl with ⟨h1, h2⟩ | ⟨h1, h2⟩
  · rw [gE_of rfl h1 h2] at h0
    exact h0
  · have h15 := (by decide +kernel : ∀ i, i < 155 → gK i < 15) k hl
    rcases (show gK k = 12 ∨ gK k = 13 ∨ gK k = 14 by omega) with hk | hk | hk
    · rw [cE_12 hk] at h0
      rw [gE_12 hk]
      refine Eq.trans h0 ?_
      rw [vp_cell_q, vp_cell_q]
      congr 1
      exact arrV_cg (fun j hj => by rw [if_pos (Nat.lt_of_lt_of_le hj h2)])
    · rw [cE_13 hk] at h0
      rw [gE_13 hk]
      refine Eq.trans h0 ?_
      rw [vp_cell_q, vp_cell_q]
      congr 1
      exact arrV_cg (fun j hj => by rw [if_pos (Nat.lt_of_lt_of_le hj h2)])
    · rw [cE_14 hk] at h0
      rw [gE_14 hk]
      refine Eq.trans h0 ?_
      rw [vp_cell_q, vp_cell_q]
      congr 1
      exact arrV_cg (fun j hj => by rw [if_pos (Nat.lt_of_lt_of_le hj h2)])
theorem NX_full : ∀ i, i < 155 → (gK i < 12 ∧ clim (gK i) ≤ fill (NX 8 140 8 2 24) 140 155 i) ∨ (12 ≤ gK i ∧ gL i ≤ fill (NX 8 140 8 2 24) 140 155 i) := by decide +kernel
theorem gI_lin : gI (fun j => a0 + j) := fun _ _ _ _ h => Nat.add_left_cancel h
end ST
def R_law : String := "ThirtyBirdsLaw"
def lw_Q (_ : Array Value) (s : State) (o : Outcome) (t : State) : Prop := o = .returned (some (.int 1)) ∧ Framed s o t [] 600000 7302250
def lw_Z (below : List Frame) (a : Array Value) (s : State) : State → Prop := fun t => ∃ o, t.status = .running ∧ Ended t below o ∧ lw_Q a s o t
def lw_P (b : Addr) (xs : List Int32) (args : Array Value) (s : State) : Prop := args = #[.ref b] ∧ s.IntsAt b xs ∧ xs.length ≤ 384 ∧ (Jvm.Cond.and given_1 narrow_1).before args s = true
/-- the law's own end, with 1 on the stack, nothing written that was there before, its room as the claim has it -/
theorem lw_ret {p : Program} {l : Launch} {e : Env} {s : State} {m : MethodId} {below : List Frame} {meth : Method} {c : Code} {b : Nat} (hx : p.tables.exec = Jvm.exec) (hb : c.code = code) (hr : meth.sig.returnType = ret) (hlocks : meth.locks = false) {pc : Nat} {H : Heap} {ls : Array Slot} (hdg : decode code pc = .ok (.ireturn, 1)) : W p l e room_1 s m #[Value.ref b] below meth c H [] 600000 7302250 (lw_Z below #[Value.ref b] s) (F0 m pc ls [.int 1]) := by
  intro T hT X
  obtain ⟨fs, hret, hrun, hended, hW, hframe⟩ := X.leave (v := some (.int 1)) (hlocks := hlocks) (fun h => by rw [hr] at h; cases h)
  have hmeth' : T.vm.method? m = some meth := X.method'
  refine ⟨T.setFrames fs, ?_, .returned (some (.int 1)), hrun, hended, rfl, ⟨_, rfl⟩, hW, hframe⟩
  jvm_step X.here [X.here.top, hx, hb, hdg, hmeth', hr, ret, narrow_b1]
  (try refine ⟨rfl, ?_⟩); (try refine ⟨rfl, ?_⟩)
  first | (intro acts; rw [hret _ acts rfl rfl rfl]) | rw [hret _ _ rfl rfl rfl]
  exact Steps.refl _
/-- what holds at the law's entry -/
def lw_At (p : Program) (s : State) (m : MethodId) (meth : Method) (c : Code) (b L : Nat) (xs : Nat → Int32) : Prop :=
  p.tables.exec = Jvm.exec ∧ c.code = code ∧ meth.sig.returnType = ret ∧ c.maxLocals = 4 ∧ s.vm.findClass R_law = some m.cls ∧ (∀ w ∈ lw_tbl, w.before #[Value.ref b] s = true) ∧ va_X b L xs s s.heap ∧ b < s.heap.size ∧ meth.locks = false ∧ (Jvm.Cond.and given_1 narrow_1).before #[Value.ref b] s = true
theorem arr_i {s : State} {args : Array Value} (h : (Cond.arrayClass .int).before args s = true) : ∃ cA : ClassId, ArrOfT s cA .int ∧ va_RA s cA .int := by
  obtain ⟨cA, kA, comp, h1, h2, h3⟩ := Cond.arrayClass_spec h
  exact ⟨cA, fun n z => ⟨fun k h => (by cases h), kA, h2, comp, h3⟩, h1⟩
theorem arr_z {s : State} {args : Array Value} (h : (Cond.arrayClass .boolean).before args s = true) : ∃ cA : ClassId, ArrOfT s cA .boolean ∧ va_RA s cA .boolean := by
  obtain ⟨cA, kA, comp, h1, h2, h3⟩ := Cond.arrayClass_spec h
  exact ⟨cA, fun n z => ⟨fun k h => (by cases h), kA, h2, comp, h3⟩, h1⟩
theorem arr_q {s : State} {args : Array Value} {C : String} (h : (Cond.arrayOver (.object C)).before args s = true) : ∃ cA : ClassId, ArrOfT s cA (.object C) ∧ va_RA s cA (.object C) := by
  obtain ⟨comp, cA, kA, h1, -, h3, h4, h5⟩ := Cond.arrayOver_spec h
  exact ⟨cA, fun n z => ⟨fun k h => (by cases h), kA, h3, comp, h4⟩, kA, comp, h3, h4, h1, h5⟩
theorem stat_of {s : State} {b : Nat} {a0 : Nat} (ha : s.heap.size ≤ a0) (hts : ∀ w ∈ lw_tbl, w.before #[Value.ref b] s = true) (hgv : (Jvm.Cond.and given_1 narrow_1).before #[Value.ref b] s = true) : gStat (fun j => a0 + j) s s.heap := by
  have hs := flat_of_before _ hgv
  have hA : ∀ a : Nat, a < s.heap.size → ¬ gA (fun j => a0 + j) a := fun a h ⟨i, _, e⟩ => by
    have e : a = a0 + i := e
    omega
  have el : ∀ j : Nat, j < 6 → (Term.elem (.static "ThirtyBirds" "KIND_ABOVE" "[I") (.int (Int32.ofNat j))).eval #[Value.ref b] s none [] s = some (.int (kab j)) := by
    intro j hj
    rcases (show j = 0 ∨ j = 1 ∨ j = 2 ∨ j = 3 ∨ j = 4 ∨ j = 5 by omega) with rfl | rfl | rfl | rfl | rfl | rfl
    · exact va_eqt (hs (.eq (.elem (.static "ThirtyBirds" "KIND_ABOVE" "[I") (.int 0)) (.int 0)) (by decide +kernel))
    · exact va_eqt (hs (.eq (.elem (.static "ThirtyBirds" "KIND_ABOVE" "[I") (.int 1)) (.int 0)) (by decide +kernel))
    · exact va_eqt (hs (.eq (.elem (.static "ThirtyBirds" "KIND_ABOVE" "[I") (.int 2)) (.int 1)) (by decide +kernel))
    · exact va_eqt (hs (.eq (.elem (.static "ThirtyBirds" "KIND_ABOVE" "[I") (.int 3)) (.int 1)) (by decide +kernel))
    · exact va_eqt (hs (.eq (.elem (.static "ThirtyBirds" "KIND_ABOVE" "[I") (.int 4)) (.int 0)) (by decide +kernel))
    · exact va_eqt (hs (.eq (.elem (.static "ThirtyBirds" "KIND_ABOVE" "[I") (.int 5)) (.int 4)) (by decide +kernel))
  obtain ⟨t, ht, hT⟩ := va_Tof (tm := .static "ThirtyBirds" "KIND_ABOVE" "[I") (N := 6) (f := fun j => .int (kab j)) (by decide) (hs (.arrayOf (.static "ThirtyBirds" "KIND_ABOVE" "[I") .int) (by decide +kernel)) (va_eqt (hs (.eq (.length (.static "ThirtyBirds" "KIND_ABOVE" "[I")) (.int 6)) (by decide +kernel))) el hA
  exact ⟨t, va_Zref (hts _ wy_X8_KIND_ABOVE) (hts _ (List.mem_filter.mp wz_X8).1) ht hA, hT⟩
set_option maxHeartbeats 4000000 in
set_option maxRecDepth 100000 in
theorem whole_open (hpure : ∀ (L : Nat) (xs : Nat → Int32), L ≤ 384 → ∃ z, f_law xs L (Mln 8) = some z ∧ z.1 = true) {p : Program} {e : Env} {s : State} {m : MethodId} {below : List Frame} {meth : Method} {c : Code} (l : Launch) {b L : Nat} {xs : Nat → Int32} (hL : L ≤ 384) (C0 : lw_At p s m meth c b L xs) : W p l e room_1 s m #[Value.ref b] below meth c s.heap [] 0 0 (lw_Z below #[Value.ref b] s) (entryFrame m ([Value.ref b] : List Value).toArray 4) := by
  obtain ⟨hx, hb, hr, hml, hown, hts0, hX, hbl, hlocks, hgv⟩ := C0
  have hts : ∀ w ∈ gtbl, w.before #[Value.ref b] s = true := fun w h => hts0 w (List.mem_filter.mp h).1
  obtain ⟨d0, i0, k0⟩ := u_known (C := RX0) (T := TX0) (N := 3) (n := 3) hts gn_X0 (hts _ wb_X0)
  obtain ⟨d1, i1, k1⟩ := u_known (C := RX1) (T := TX1) (N := 6) (n := 6) hts gn_X1 (hts _ wb_X1)
  obtain ⟨d2, i2, k2⟩ := u_known (C := RX2) (T := TX2) (N := 2) (n := 2) hts gn_X2 (hts _ wb_X2)
  obtain ⟨d3, i3, k3⟩ := u_known (C := RX3) (T := TX3) (N := 6) (n := 6) hts gn_X3 (hts _ wb_X3)
  obtain ⟨d4, i4, k4⟩ := u_known (C := RX4) (T := TX4) (N := 4) (n := 4) hts gn_X4 (hts _ wb_X4)
  obtain ⟨d5, i5, k5⟩ := u_known (C := RX5) (T := TX5) (N := 4) (n := 4) hts gn_X5 (hts _ wb_X5)
  obtain ⟨d6, i6, k6⟩ := u_known (C := RX6) (T := TX6) (N := 6) (n := 6) hts gn_X6 (hts _ wb_X6)
  obtain ⟨d7, i7, k7⟩ := u_known (C := RX7) (T := TX7) (N := 8) (n := 8) hts gn_X7 (hts _ wb_X7)
  obtain ⟨d8, i8, k8⟩ := u_known (C := RX8) (T := TX8) (N := 9) (n := 9) hts gn_X8 (hts _ wb_X8)
  obtain ⟨d9, i9, k9⟩ := u_known (C := RX9) (T := TX9) (N := 24) (n := 24) hts gn_X9 (hts _ wb_X9)
  obtain ⟨cI, aI⟩ := arr_i (hts _ wa_int)
  obtain ⟨cZ, aZ⟩ := arr_z (hts _ wa_boolean)
  obtain ⟨cR, aR⟩ := arr_q (C := RX5) (hts0 _ wo_X5)
  obtain ⟨cF, aF⟩ := arr_q (C := RX2) (hts0 _ wo_X2)
  obtain ⟨cM, aM⟩ := arr_q (C := RX3) (hts0 _ wo_X3)
  obtain ⟨D, cs, hK⟩ : ∃ (D : va_G) (cs : Nat → ClassId), va_K D gcl (gty cs) s := by
    refine ⟨(fun k => [d0, d1, d2, d3, d4, d5, d6, d7, d8, d9].getD k d0, fun k => [i0, i1, i2, i3, i4, i5, i6, i7, i8, i9].getD k i0), fun k => [cI, cZ, cR, cF, cM].getD k cI, ?_, ?_⟩
    · intro k q hq
      match k, hq with
      | 0, hq => cases hq; exact k0
      | 1, hq => cases hq; exact k1
      | 2, hq => cases hq; exact k2
      | 3, hq => cases hq; exact k3
      | 4, hq => cases hq; exact k4
      | 5, hq => cases hq; exact k5
      | 6, hq => cases hq; exact k6
      | 7, hq => cases hq; exact k7
      | 8, hq => cases hq; exact k8
      | 9, hq => cases hq; exact k9
      | k + 10, hq => simp [gcl] at hq
    · intro k q hq
      match k, hq with
      | 0, hq => cases hq; exact aI
      | 1, hq => cases hq; exact aZ
      | 2, hq => cases hq; exact aR
      | 3, hq => cases hq; exact aF
      | 4, hq => cases hq; exact aM
      | k + 5, hq => simp [gty] at hq
  have hNest : gNest s := fun a i x h hm => va_Nw.of rfl (hts0 _ hm)
  obtain ⟨a0, ea⟩ : ∃ y, y = s.heap.size := ⟨_, rfl⟩
  have CK : CC p s m #[Value.ref b] c D cs code 4 RL := ⟨hx, hb, hml, hown, hts, hK, hNest, va_AO.of (hts0 _ wo_X5), va_AO.of (hts0 _ wo_X2), va_AO.of (hts0 _ wo_X3)⟩
  have C : GC p s m #[Value.ref b] c D cs (fun j => a0 + j) code 4 RL := ⟨hx, hb, hml, hown, hts, gI_lin, hK, hNest, stat_of (by omega) hts0 hgv⟩
  have hG : CH D cs a0 s (NX 0 1 0 0 0) Z0 0 s.heap [] := ⟨fun k q h => by simp [cWs] at h, va_S.rf, ea.symm, by omega⟩
  have hl := lv_entry ([.ref b]) (n := 4) (Nat.le_of_ble_eq_true rfl)
  rw [lg_entry_eq]
  generalize (lg_sl ([.ref b]) ++ List.replicate (4 - (lg_sl ([.ref b])).length) Slot.unset).toArray = ls at hl ⊢
  have hl : lv_has ls 4 [(0, .ref b)] := hl
  refine k_new CK hG (cN_8 gk_0 rfl) rfl gn_X8 tyX8 tyX8_ok dv_8 wl_L_7 wb_X8 wz_X8 (by decide) (by decide) dL_law_0 (fun H hG => ?_)
  refine lv_dup hx hb dL_law_3 rfl ?_
  refine k_call CK hG (c_X8_init l D cs a0) wm_L_9 wi_X8_init wz_X8 wc_X8_init rfl ei_X8 (by decide) (by decide) hl.1 (Nat.le_of_ble_eq_true rfl) dL_law_4 (fun H locs hG => ?_)
  refine lv_astore_n (lv' := [(1, .ref (a0 + 0)), (0, .ref b)]) hx hb dL_law_7 rfl hl (by decide) rfl (fun ls hl => ?_)
  have z140 : ∀ t, 140 ≤ t → NX 8 140 8 2 24 t = 0 := fun t ht => NX_z ht (by decide) (by decide) (by decide) (by decide)
  refine k_new CK hG (cN_9 gk_140 (z140 _ (Nat.le_refl _))) rfl gn_X9 tyX9 tyX9_ok dv_9 wl_L_10 wb_X9 wz_X9 (by decide) (by decide) dL_law_8 (fun H hG => ?_)
  refine lv_dup hx hb dL_law_11 rfl ?_
  refine k_call CK hG (c_X9_init l D cs a0 z140) wm_L_12 wi_X9_init wz_X9 wc_X9_init rfl ei_X9 (by decide) (by decide) hl.1 (Nat.le_of_ble_eq_true rfl) dL_law_12 (fun H locs hG => ?_)
  refine lv_astore_n (lv' := [(2, .ref (a0 + 140)), (1, .ref (a0 + 0)), (0, .ref b)]) hx hb dL_law_15 rfl hl (by decide) rfl (fun ls hl => ?_)
  refine lv_iconst (v := 0) hx hb dL_law_16 (by decide) ?_
  refine lv_istore_n (lv' := [(3, .int 0), (2, .ref (a0 + 140)), (1, .ref (a0 + 0)), (0, .ref b)]) hx hb dL_law_17 rfl hl (by decide) rfl (fun ls hl => ?_)
  refine va_forget (fun q hq => by have := hG.2.1.2.2 q hq; unfold cA at this; omega) ?_
  obtain ⟨z, hz, hz1⟩ := hpure L xs hL
  have hH : GH D cs (fun j => a0 + j) s (Mln 8) H [] := ⟨gP_of hG.1 NX_full, ⟨hG.2.1.1, fun q h1 _ => hG.2.1.2.1 q h1 (fun h => by unfold cA at h; omega), fun _ h => by cases h⟩⟩
  refine w_eq (k' := 155) (n' := 3389) rfl rfl ?_
  refine law_walk C hX hbl (fun ⟨i, _, h⟩ => by have h : b = a0 + i := h; omega) (z := z) (fun {v M pc H locs ls} e1 e2 hG hdg => ?_) (Mln 8) hz H [] hH ls (lv_sub hl [3, 2, 1, 0] rfl)
  rw [hz1] at e1
  subst e1
  refine va_forget (fun q hq => by obtain ⟨i, _, h⟩ := hG.2.2.2 q hq; rw [h]; show s.heap.size ≤ a0 + i; omega) ?_
  refine W.widen (k := 600000) (n := 7302250) (by decide) (by decide) ?_
  exact lw_ret hx hb hr hlocks hdg
