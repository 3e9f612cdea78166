section GR
variable {p : Program} {l : Launch} {e : Env} {R : Room} {s : State} {m : MethodId} {args : Array Value} {below : List Frame} {meth : Method} {c : Code} {H : Heap} {locs : List Loc} {cells slots : Nat} {Q : State → Prop}
variable {D : va_G} {cs : Nat → ClassId} {ad : Nat → Nat} {M : Mem} {cc : ByteArray} {nL pc : Nat} {own : String} {ls : Array Slot} {rest : List Value}
theorem g_get (C : GC p s m args c D cs ad cc nL own) (hG : GH D cs ad s M H locs) {i ci index N : Nat} {Cn : String} {T : u_T} {fs : List Value} {v : Value} (hi : i < 155) (he : gE cs ad M i = .inr (ci, fs)) (hc : gcl[ci]? = some (Cn, T, N)) (hin : ∀ w ∈ u_ws Cn T N, w ∈ gtbl) (k : Nat) (hk : k < N) (hlink : (Cond.fieldLink own index (T k).1 (T k).2.1 (T k).2.2.1) ∈ gtbl) (hv : fs[k]? = some v) (hdg : decode cc pc = .ok (.getfield index, 3))
    (kk : W p l e R s m args below meth c H locs cells slots Q (F0 m (pc + 3) ls (v :: rest))) : W p l e R s m args below meth c H locs cells slots Q (F0 m pc ls (.ref (ad i) :: rest)) :=
  va_get (ref := (T k).1) C.1 C.2.1 C.2.2.2.2.1 hin C.2.2.2.1 C.2.2.2.2.2.2.1 hG.1 i ((gWs_get hi).trans (by rw [he])) hc k hk (C.2.2.2.2.1 _ hlink) (fun _ h => h) hv hdg kk
theorem g_put (C : GC p s m args c D cs ad cc nL own) (hG : GH D cs ad s M H locs) {i ci index N : Nat} {Cn : String} {T : u_T} {fs : List Value} (hi : i < 155) (he : gE cs ad M i = .inr (ci, fs)) (hc : gcl[ci]? = some (Cn, T, N)) (hin : ∀ w ∈ u_ws Cn T N, w ∈ gtbl) (ty0 : Nat → FieldType) (hty : ∀ k, k < N → parseFieldDescriptor (T k).2.2.1 = some (ty0 k)) (hnm : ∀ a, a < N → ∀ b, b < N → a ≠ b → (T a).2.1 ≠ (T b).2.1) (k : Nat) (hk : k < N) (hl : k < fs.length) (hfin : (T k).2.2.2 = false) {ty : FieldType} (hd : parseFieldDescriptor (T k).2.2.1 = some ty)
    {x : Int32} (he' : gE cs ad (st M i k x) i = .inr (ci, fs.set k (.int x))) (hn : narrow ty (.int x) = .int x) (hfit : fits ty (.int x) = true) (hlink : (Cond.fieldLink own index (T k).1 (T k).2.1 (T k).2.2.1) ∈ gtbl) (hdg : decode cc pc = .ok (.putfield index, 3))
    (kk : ∀ (M1 : Mem), M1 = st M i k x → ∀ (H1 : Heap) (locs1 : List Loc), GH D cs ad s M1 H1 locs1 → W p l e R s m args below meth c H1 locs1 cells slots Q (F0 m (pc + 3) ls rest)) : W p l e R s m args below meth c H locs cells slots Q (F0 m pc ls (.int x :: .ref (ad i) :: rest)) := by
  refine va_put (ref := (T k).1) (v := .int x) C.1 C.2.1 C.2.2.2.2.1 hin ty0 hty hnm C.2.2.2.1 C.2.2.2.2.2.2.1 hG.1 (gWs_D C.2.2.2.2.2.1) hG.2 i ((gWs_get hi).trans (by rw [he])) hc k hk (C.2.2.2.2.1 _ hlink) (fun _ h => h) hfin hd hn hfit hl hdg (fun H1 locs1 h1 _ h3 => ?_)
  rw [gWs_set hi he' (fun j hj => st_ne hj)] at h1
  exact kk _ rfl H1 locs1 ⟨h1, h3⟩
theorem gE_10 {i : Nat} (h : gK i = 10) : gE cs ad M i = .inl (cs 0, gL i, .inl (M i)) := by unfold gE; rw [h]; rfl
theorem gE_11 {i : Nat} (h : gK i = 11) : gE cs ad M i = .inl (cs 1, gL i, .inl (M i)) := by unfold gE; rw [h]; rfl
theorem gE_12 {i : Nat} (h : gK i = 12) : gE cs ad M i = .inl (cs 2, gL i, .inr (.inr (.inr (.inr (fun j => some (ad (104 + 2 * j))))))) := by unfold gE; rw [h]; rfl
theorem gE_13 {i : Nat} (h : gK i = 13) : gE cs ad M i = .inl (cs 3, gL i, .inr (.inr (.inr (.inr (fun j => some (ad (120 + 10 * j))))))) := by unfold gE; rw [h]; rfl
theorem gE_14 {i : Nat} (h : gK i = 14) : gE cs ad M i = .inl (cs 4, gL i, .inr (.inr (.inr (.inr (fun j => some (ad (27 + 3 * j))))))) := by unfold gE; rw [h]; rfl
theorem g_ald (C : GC p s m args c D cs ad cc nL own) (hG : GH D cs ad s M H locs) {a n : Nat} (ha : gK a = 10) (hn : gL a = n) {i : Int32} (hin : vp_in i n) (hdg : decode cc pc = .ok (.iaload, 1))
    (kk : W p l e R s m args below meth c H locs cells slots Q (F0 m (pc + 1) ls (.int (M a i.toNatClampNeg) :: rest))) : W p l e R s m args below meth c H locs cells slots Q (F0 m pc ls (.int i :: .ref (ad a) :: rest)) :=
  va_iald (f := M a) C.1 C.2.1 C.2.2.2.2.2.2.1 hG.1 a 0 ((gWs_get (gK_lt ha (by decide))).trans (by rw [gE_10 ha])) rfl (by rw [hn]; exact hin) hdg kk
theorem g_ast (C : GC p s m args c D cs ad cc nL own) (hG : GH D cs ad s M H locs) {a n : Nat} (ha : gK a = 10) (hn : gL a = n) {i x : Int32} (hin : vp_in i n) (hdg : decode cc pc = .ok (.iastore, 1))
    (kk : ∀ (M1 : Mem), M1 = st M a i.toNatClampNeg x → ∀ (H1 : Heap) (locs1 : List Loc), GH D cs ad s M1 H1 locs1 → W p l e R s m args below meth c H1 locs1 cells slots Q (F0 m (pc + 1) ls rest)) : W p l e R s m args below meth c H locs cells slots Q (F0 m pc ls (.int x :: .int i :: .ref (ad a) :: rest)) := by
  refine va_iast (f := M a) C.1 C.2.1 C.2.2.2.2.2.2.1 hG.1 (gWs_D C.2.2.2.2.2.1) hG.2 a 0 ((gWs_get (gK_lt ha (by decide))).trans (by rw [gE_10 ha])) rfl (by rw [hn]; exact hin) hdg (fun H1 locs1 h1 _ h3 => ?_)
  rw [gWs_set (M' := st M a i.toNatClampNeg x) (gK_lt ha (by decide)) (by rw [gE_10 ha, st_i]) (fun j hj => st_ne hj)] at h1
  exact kk _ rfl H1 locs1 ⟨h1, h3⟩
theorem g_zald (C : GC p s m args c D cs ad cc nL own) (hG : GH D cs ad s M H locs) {a n : Nat} (ha : gK a = 11) (hn : gL a = n) {i : Int32} (hin : vp_in i n) (hdg : decode cc pc = .ok (.baload, 1))
    (kk : W p l e R s m args below meth c H locs cells slots Q (F0 m (pc + 1) ls (.int (M a i.toNatClampNeg) :: rest))) : W p l e R s m args below meth c H locs cells slots Q (F0 m pc ls (.int i :: .ref (ad a) :: rest)) :=
  va_zald (f := M a) C.1 C.2.1 C.2.2.2.2.2.2.1 hG.1 a 1 ((gWs_get (gK_lt ha (by decide))).trans (by rw [gE_11 ha])) rfl (by rw [hn]; exact hin) hdg kk
theorem g_zast (C : GC p s m args c D cs ad cc nL own) (hG : GH D cs ad s M H locs) {a n : Nat} (ha : gK a = 11) (hn : gL a = n) {i x : Int32} (hin : vp_in i n) (hx : vp_nar .boolean x = x) (hdg : decode cc pc = .ok (.bastore, 1))
    (kk : ∀ (M1 : Mem), M1 = st M a i.toNatClampNeg x → ∀ (H1 : Heap) (locs1 : List Loc), GH D cs ad s M1 H1 locs1 → W p l e R s m args below meth c H1 locs1 cells slots Q (F0 m (pc + 1) ls rest)) : W p l e R s m args below meth c H locs cells slots Q (F0 m pc ls (.int x :: .int i :: .ref (ad a) :: rest)) := by
  refine va_zast (f := M a) C.1 C.2.1 C.2.2.2.2.2.2.1 hG.1 (gWs_D C.2.2.2.2.2.1) hG.2 a 1 ((gWs_get (gK_lt ha (by decide))).trans (by rw [gE_11 ha])) rfl (by rw [hn]; exact hin) hdg (fun H1 locs1 h1 _ h3 => ?_)
  rw [hx, gWs_set (M' := st M a i.toNatClampNeg x) (gK_lt ha (by decide)) (by rw [gE_11 ha, st_i]) (fun j hj => st_ne hj)] at h1
  exact kk _ rfl H1 locs1 ⟨h1, h3⟩
theorem g_rowld (C : GC p s m args c D cs ad cc nL own) (hG : GH D cs ad s M H locs) {i : Int32} (hin : vp_in i 8) (hdg : decode cc pc = .ok (.aaload, 1))
    (kk : W p l e R s m args below meth c H locs cells slots Q (F0 m (pc + 1) ls (.ref (ad (104 + 2 * i.toNatClampNeg)) :: rest))) : W p l e R s m args below meth c H locs cells slots Q (F0 m pc ls (.int i :: .ref (ad 1) :: rest)) :=
  va_aldq (C := RX5) (f := fun j => some (ad (104 + 2 * j))) C.1 C.2.1 C.2.2.2.2.2.2.1 hG.1 1 2 ((gWs_get (by decide)).trans (by rw [gE_12 (by decide)]; rfl)) rfl hin hdg kk
theorem g_imgld (C : GC p s m args c D cs ad cc nL own) (hG : GH D cs ad s M H locs) {i : Int32} (hin : vp_in i 2) (hdg : decode cc pc = .ok (.aaload, 1))
    (kk : W p l e R s m args below meth c H locs cells slots Q (F0 m (pc + 1) ls (.ref (ad (120 + 10 * i.toNatClampNeg)) :: rest))) : W p l e R s m args below meth c H locs cells slots Q (F0 m pc ls (.int i :: .ref (ad 24) :: rest)) :=
  va_aldq (C := RX2) (f := fun j => some (ad (120 + 10 * j))) C.1 C.2.1 C.2.2.2.2.2.2.1 hG.1 24 3 ((gWs_get (by decide)).trans (by rw [gE_13 (by decide)]; rfl)) rfl hin hdg kk
theorem g_aheld (C : GC p s m args c D cs ad cc nL own) (hG : GH D cs ad s M H locs) {i : Int32} (hin : vp_in i 24) (hdg : decode cc pc = .ok (.aaload, 1))
    (kk : W p l e R s m args below meth c H locs cells slots Q (F0 m (pc + 1) ls (.ref (ad (27 + 3 * i.toNatClampNeg)) :: rest))) : W p l e R s m args below meth c H locs cells slots Q (F0 m pc ls (.int i :: .ref (ad 26) :: rest)) :=
  va_aldq (C := RX3) (f := fun j => some (ad (27 + 3 * j))) C.1 C.2.1 C.2.2.2.2.2.2.1 hG.1 26 4 ((gWs_get (by decide)).trans (by rw [gE_14 (by decide)]; rfl)) rfl hin hdg kk
/-- System.arraycopy of ints -/
def cpo (i n : Int32) (L : Nat) : Bool := decide (¬ i < 0 ∧ ¬ n < 0 ∧ i.toNatClampNeg + n.toNatClampNeg ≤ L)
theorem cp_e {β : Type} {i n : Int32} {L : Nat} {k : Option β} {z : β} (h : chk (cpo i n L) k = some z) : (¬ i < 0 ∧ ¬ n < 0 ∧ i.toNatClampNeg + n.toNatClampNeg ≤ L) ∧ k = some z := ⟨of_decide_eq_true (chk_e h).1, (chk_e h).2⟩
theorem g_copy (C : GC p s m args c D cs ad cc nL own) (hG : GH D cs ad s M H locs) (hl : ls.size = nL) {index a b n0 n1 : Nat} (ha : gK a = 10) (hn0 : gL a = n0) (hb : gK b = 10) (hn1 : gL b = n1) {sp dp n : Int32} (h1 : ¬ sp < 0 ∧ ¬ n < 0 ∧ sp.toNatClampNeg + n.toNatClampNeg ≤ n0) (h2 : ¬ dp < 0 ∧ ¬ n < 0 ∧ dp.toNatClampNeg + n.toNatClampNeg ≤ n1)
    (hlink : (Cond.methodLink own index arraycopyName) ∈ gtbl) (hR : 1 ≤ R.frames ∧ 60 ≤ R.locals) (hrs : (rest.map fun v => v.category).sum ≤ 8) (hdg : decode cc pc = .ok (.invokestatic index, 3))
    (kk : ∀ (M1 : Mem), M1 = stA M b (va_cpy (M a) (M b) sp.toNatClampNeg dp.toNatClampNeg n.toNatClampNeg) → ∀ (H1 : Heap) (locs1 : List Loc), GH D cs ad s M1 H1 locs1 → W p l e R s m args below meth c H1 locs1 cells slots Q (F0 m (pc + 3) ls rest)) : W p l e R s m args below meth c H locs cells slots Q (F0 m pc ls (.int n :: .int dp :: .ref (ad b) :: .int sp :: .ref (ad a) :: rest)) := by
  have hw : nativeFrameWords "java/lang/System" "arraycopy" 5 + 11 ≤ 40 := by decide
  refine va_copyi (ty := .int) (f := M a) (g := M b) C.1 C.2.1 (C.2.2.1.trans hl.symm) C.2.2.2.1 (C.2.2.2.2.1 _ hlink) (C.2.2.2.2.1 _ wv_ac) (C.2.2.2.2.1 _ wt_ac) (C.2.2.2.2.1 _ wz_J10) C.2.2.2.2.2.2.1 hG.1 (gWs_D C.2.2.2.2.2.1) hG.2 a b 0 0 ((gWs_get (gK_lt ha (by decide))).trans (by rw [gE_10 ha])) ((gWs_get (gK_lt hb (by decide))).trans (by rw [gE_10 hb])) rfl rfl rfl h1.1 h2.1 h1.2.1 (by rw [hn0]; exact h1.2.2) (by rw [hn1]; exact h2.2.2) (fun _ _ => rfl) hR.1 (by omega) hdg (fun H1 locs1 h1 _ h3 => ?_)
  rw [gWs_set (M' := stA M b (va_cpy (M a) (M b) sp.toNatClampNeg dp.toNatClampNeg n.toNatClampNeg)) (gK_lt hb (by decide)) (by rw [gE_10 hb, stA_i]) (fun j hj => stA_ne hj)] at h1
  exact kk _ rfl H1 locs1 ⟨h1, h3⟩
theorem g_max (C : GC p s m args c D cs ad cc nL own) (hl : ls.size = nL) {index : Nat} {x y : Int32} (hlink : (Cond.methodLink own index Lib.Math.max.name) ∈ gtbl) (hR : 1 ≤ R.frames ∧ 60 ≤ R.locals ∧ cells ≤ R.cells ∧ slots ≤ R.slots) (hrs : (rest.map fun v => v.category).sum ≤ 8) (hdg : decode cc pc = .ok (.invokestatic index, 3))
    (kk : W p l e R s m args below meth c H locs cells slots Q (F0 m (pc + 3) ls (.int (if x < y then y else x) :: rest))) : W p l e R s m args below meth c H locs cells slots Q (F0 m pc ls (.int y :: .int x :: rest)) :=
  va_mmax C.1 C.2.1 (C.2.2.1.trans hl.symm) C.2.2.2.1 (C.2.2.2.2.1 _ hlink) (C.2.2.2.2.1 _ wt_max) (C.2.2.2.2.1 _ wz_J9) (C.2.2.2.2.1 _ wc_max) hR.1 (by omega) hR.2.2.1 hR.2.2.2 hdg kk
theorem g_min (C : GC p s m args c D cs ad cc nL own) (hl : ls.size = nL) {index : Nat} {x y : Int32} (hlink : (Cond.methodLink own index Lib.Math.min.name) ∈ gtbl) (hR : 1 ≤ R.frames ∧ 60 ≤ R.locals ∧ cells ≤ R.cells ∧ slots ≤ R.slots) (hrs : (rest.map fun v => v.category).sum ≤ 8) (hdg : decode cc pc = .ok (.invokestatic index, 3))
    (kk : W p l e R s m args below meth c H locs cells slots Q (F0 m (pc + 3) ls (.int (if y < x then y else x) :: rest))) : W p l e R s m args below meth c H locs cells slots Q (F0 m pc ls (.int y :: .int x :: rest)) :=
  va_mmin C.1 C.2.1 (C.2.2.1.trans hl.symm) C.2.2.2.1 (C.2.2.2.2.1 _ hlink) (C.2.2.2.2.1 _ wt_min) (C.2.2.2.2.1 _ wz_J9) (C.2.2.2.2.1 _ wc_min) hR.1 (by omega) hR.2.2.1 hR.2.2.2 hdg kk
theorem lv_topz {b : Bool} (k : ∀ y : Bool, y = b → W p l e R s m args below meth c H locs cells slots Q (F0 m pc ls (.int (bi y) :: rest))) : W p l e R s m args below meth c H locs cells slots Q (F0 m pc ls (.int (bi b) :: rest)) := k b rfl
end GR
