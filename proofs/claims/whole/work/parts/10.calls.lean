/-! CONTRACTS: a method takes the memory M to Mv and answers rv -/
def CtI (l : Launch) (y : MethodName) (cc : ByteArray) (nL : Nat) (ty : FieldType) (d : Nat) (D : va_G) (cs : Nat → ClassId) (ad : Nat → Nat) (av : List Value) (M : Mem) (rv : Int32) (Mv : Mem) : Prop :=
  Met l y (Cond.code y cc nL (some ty) :: gtbl) (rmk d) (va_Pc av (GW D cs ad M)) (va_Qi (fun (r : Int32) (u : Mem) => r = rv ∧ u = Mv) (GB D cs ad) (gA ad)) 0 0 (gA ad)
def CtV (l : Launch) (y : MethodName) (cc : ByteArray) (nL : Nat) (d : Nat) (D : va_G) (cs : Nat → ClassId) (ad : Nat → Nat) (av : List Value) (M : Mem) (Mv : Mem) : Prop :=
  Met l y (Cond.code y cc nL none :: gtbl) (rmk d) (va_Pc av (GW D cs ad M)) (va_Qv (fun (u : Mem) => u = Mv) (GB D cs ad) (gA ad)) 0 0 (gA ad)
def GRi (p : Program) (l : Launch) (e : Env) (R : Room) (s : State) (m : MethodId) (args : Array Value) (below : List Frame) (meth : Method) (c : Code) (Q : State → Prop) (D : va_G) (cs : Nat → ClassId) (ad : Nat → Nat) (cc : ByteArray) (rv : Int32) (Mv : Mem) : Prop :=
  ∀ {v : Int32} {M : Mem} {pc : Nat} {H : Heap} {locs : List Loc} {ls : Array Slot}, v = rv → M = Mv → GH D cs ad s M H locs → decode cc pc = .ok (.ireturn, 1) → W p l e R s m args below meth c H locs 0 0 Q (F0 m pc ls [.int v])
def GRv (p : Program) (l : Launch) (e : Env) (R : Room) (s : State) (m : MethodId) (args : Array Value) (below : List Frame) (meth : Method) (c : Code) (Q : State → Prop) (D : va_G) (cs : Nat → ClassId) (ad : Nat → Nat) (cc : ByteArray) (Mv : Mem) : Prop :=
  ∀ {M : Mem} {pc : Nat} {H : Heap} {locs : List Loc} {ls : Array Slot}, M = Mv → GH D cs ad s M H locs → decode cc pc = .ok (.return_, 1) → W p l e R s m args below meth c H locs 0 0 Q (F0 m pc ls [])
section CT
variable {l : Launch} {y : MethodName} {cc : ByteArray} {nL d : Nat} {D : va_G} {cs : Nat → ClassId} {ad : Nat → Nat} {av : List Value} {M Mv : Mem} {rv : Int32} {own : String}
theorem ct_i (hy : plainName y.cls = true) (hown : y.cls = own) (hav : (lg_sl av).length ≤ nL)
    (body : ∀ (p : Program) (e : Env) (s : State) (m : MethodId) (args : Array Value) (below : List Frame) (meth : Method) (c : Code) (Q : State → Prop), GC p s m args c D cs ad cc nL own → GRi p l e (rmk d) s m args below meth c Q D cs ad cc rv Mv → GP p l e (rmk d) s m args below meth c 0 0 Q D cs ad nL 0 (lv_args 0 av) [] M) : CtI l y cc nL .int d D cs ad av M rv Mv := by
  unfold CtI
  refine Met.ofW (cc := cc) (maxL := nL) (ret := some .int) hy rfl ?_
  intro p e s m args below meth c s₁ B hml hv
  obtain ⟨rfl, hI, hP, hK, hN, hT⟩ := hv
  have hts := atoms_spec (ws := Cond.code y cc nL (some .int) :: gtbl) B.pre
  have hr := B.returns
  have hlocks := B.notSynchronized
  have C : GC p s m av.toArray c D cs ad cc nL own := ⟨B.exec, B.bytes, hml, by rw [← hown]; exact findClass_of_methodNamed B.named, fun w h => hts w (List.mem_cons_of_mem _ h), hI, hK, hN, hT⟩
  rw [lg_entry_eq]
  exact body p e s m av.toArray below meth c _ C (fun {v M pc H locs ls} e1 e2 hG hdg => W.iret C.1 C.2.1 hr (fun t ht hW => ⟨⟨v, M, rfl, ⟨e1, e2⟩, by unfold GB; rw [ht]; exact hG.1⟩, hG.2.F ht⟩) hG.2.2.2 hdg) s.heap [] ⟨hP, va_S.rf⟩ _ (lv_entry av hav)
theorem ct_z {bv : Bool} (hy : plainName y.cls = true) (hown : y.cls = own) (hav : (lg_sl av).length ≤ nL)
    (body : ∀ (p : Program) (e : Env) (s : State) (m : MethodId) (args : Array Value) (below : List Frame) (meth : Method) (c : Code) (Q : State → Prop), GC p s m args c D cs ad cc nL own → GRi p l e (rmk d) s m args below meth c Q D cs ad cc (bi bv) Mv → GP p l e (rmk d) s m args below meth c 0 0 Q D cs ad nL 0 (lv_args 0 av) [] M) : CtI l y cc nL .boolean d D cs ad av M (bi bv) Mv := by
  unfold CtI
  refine Met.ofW (cc := cc) (maxL := nL) (ret := some .boolean) hy rfl ?_
  intro p e s m args below meth c s₁ B hml hv
  obtain ⟨rfl, hI, hP, hK, hN, hT⟩ := hv
  have hts := atoms_spec (ws := Cond.code y cc nL (some .boolean) :: gtbl) B.pre
  have hr := B.returns
  have hlocks := B.notSynchronized
  have C : GC p s m av.toArray c D cs ad cc nL own := ⟨B.exec, B.bytes, hml, by rw [← hown]; exact findClass_of_methodNamed B.named, fun w h => hts w (List.mem_cons_of_mem _ h), hI, hK, hN, hT⟩
  rw [lg_entry_eq]
  exact body p e s m av.toArray below meth c _ C (fun {v M pc H locs ls} e1 e2 hG hdg => W.zret C.1 C.2.1 hr (by rw [e1]; exact bi_nar bv) (fun t ht hW => ⟨⟨v, M, rfl, ⟨e1, e2⟩, by unfold GB; rw [ht]; exact hG.1⟩, hG.2.F ht⟩) hG.2.2.2 hdg) s.heap [] ⟨hP, va_S.rf⟩ _ (lv_entry av hav)
theorem ct_v (hy : plainName y.cls = true) (hown : y.cls = own) (hav : (lg_sl av).length ≤ nL)
    (body : ∀ (p : Program) (e : Env) (s : State) (m : MethodId) (args : Array Value) (below : List Frame) (meth : Method) (c : Code) (Q : State → Prop), GC p s m args c D cs ad cc nL own → GRv p l e (rmk d) s m args below meth c Q D cs ad cc Mv → GP p l e (rmk d) s m args below meth c 0 0 Q D cs ad nL 0 (lv_args 0 av) [] M) : CtV l y cc nL d D cs ad av M Mv := by
  unfold CtV
  refine Met.ofW (cc := cc) (maxL := nL) (ret := none) hy rfl ?_
  intro p e s m args below meth c s₁ B hml hv
  obtain ⟨rfl, hI, hP, hK, hN, hT⟩ := hv
  have hts := atoms_spec (ws := Cond.code y cc nL none :: gtbl) B.pre
  have hr := B.returns
  have hlocks := B.notSynchronized
  have C : GC p s m av.toArray c D cs ad cc nL own := ⟨B.exec, B.bytes, hml, by rw [← hown]; exact findClass_of_methodNamed B.named, fun w h => hts w (List.mem_cons_of_mem _ h), hI, hK, hN, hT⟩
  rw [lg_entry_eq]
  exact body p e s m av.toArray below meth c _ C (fun {M pc H locs ls} e2 hG hdg => W.vret C.1 C.2.1 hr (fun t ht hW => ⟨⟨M, rfl, e2, by unfold GB; rw [ht]; exact hG.1⟩, hG.2.F ht⟩) hG.2.2.2 hdg) s.heap [] ⟨hP, va_S.rf⟩ _ (lv_entry av hav)
end CT
section CW
variable {p : Program} {l : Launch} {e : Env} {R : Room} {s : State} {m : MethodId} {args : Array Value} {below : List Frame} {meth : Method} {c : Code} {H : Heap} {locs : List Loc} {cells slots : Nat} {Q : State → Prop}
variable {D : va_G} {cs : Nat → ClassId} {ad : Nat → Nat} {M Mv : Mem} {cc : ByteArray} {nL pc : Nat} {own : String} {ls : Array Slot} {rest : List Value}
variable {y : MethodName} {bytes : ByteArray} {maxL d n index : Nat} {ret : Option FieldType} {ty : FieldType} {Qc : Array Value → State → Outcome → State → Prop} {As : List Value} {rv : Int32}
theorem gS_kept {U : State} {H1 : Heap} {ls1 : List Loc} (h : gStat ad s s.heap) (hS : va_S (gA ad) s.heap H1 ls1) (hv : s.vm.Alike U.vm) : gStat ad U H1 := by
  obtain ⟨t, h1, h2⟩ := h
  exact ⟨t, (h1.kept hS.2.1).moved hv, (h2.kept hS.2.1).moved hv⟩
theorem gN_warm {U : State} (h : gNest s) (hW : s.WarmedH U.vm) : gNest U := fun a i x h0 hm => va_Nw.warmM hW (h a i x h0 hm)
theorem gW_blind {av : List Value} : FrameBlind (va_Pc av (GW D cs ad M)) := fun a U g mk q => by
  obtain ⟨q0, q1, q2, q3, q4, t, q5, q6⟩ := q
  exact ⟨q0, q1, q2, va_K.moved (u := U) (U := U.calling g mk a) (Vm.Alike.refl U.vm) q3, fun a1 i x h0 hm => va_Nw.same rfl (u := U) (U := U.calling g mk a) rfl (q4 a1 i x h0 hm), t, va_Z.moved (u := U) (U := U.calling g mk a) (Vm.Alike.refl U.vm) q5, va_T.moved (u := U) (U := U.calling g mk a) (Vm.Alike.refl U.vm) q6⟩
theorem gW_at (C : GC p s m args c D cs ad cc nL own) (hG : GH D cs ad s M H locs) {U : State} (hU : U.heap = H) (hW : s.WarmedH U.vm) : GW D cs ad M U := by
  obtain ⟨-, -, -, -, -, hI, hK, hN, hT⟩ := C
  refine ⟨hI, by rw [hU]; exact hG.1, va_K.moved hW.alike hK, gN_warm hN hW, ?_⟩
  rw [hU]
  exact gS_kept hT hG.2 hW.alike
theorem gg_V {w1 w2 w3 w4 w5 : Cond} (h1 : w1 ∈ gtbl) (h2 : w2 ∈ gtbl) (h3 : w3 ∈ gtbl) (h4 : w4 ∈ gtbl) (h5 : w5 ∈ gtbl) : GoodIn gtbl ([w1, w2, w3, w4] ++ (w5 :: gtbl)) := by
  intro w hw
  rcases List.mem_append.mp hw with h | h
  · rcases List.mem_cons.mp h with rfl | h
    · exact gt_good h1
    · rcases List.mem_cons.mp h with rfl | h
      · exact gt_good h2
      · rcases List.mem_cons.mp h with rfl | h
        · exact gt_good h3
        · rcases List.mem_cons.mp h with rfl | h
          · exact gt_good h4
          · exact absurd h List.not_mem_nil
  · rcases List.mem_cons.mp h with rfl | h
    · exact gt_good h5
    · exact gt_good h
theorem gg_S {w1 w2 w3 w5 : Cond} (h1 : w1 ∈ gtbl) (h2 : w2 ∈ gtbl) (h3 : w3 ∈ gtbl) (h5 : w5 ∈ gtbl) : GoodIn gtbl ([w1, w2, w3] ++ (w5 :: gtbl)) := by
  intro w hw
  rcases List.mem_append.mp hw with h | h
  · rcases List.mem_cons.mp h with rfl | h
    · exact gt_good h1
    · rcases List.mem_cons.mp h with rfl | h
      · exact gt_good h2
      · rcases List.mem_cons.mp h with rfl | h
        · exact gt_good h3
        · exact absurd h List.not_mem_nil
  · rcases List.mem_cons.mp h with rfl | h
    · exact gt_good h5
    · exact gt_good h
theorem gg_C {w5 : Cond} (h5 : w5 ∈ gtbl) : GoodIn gtbl (w5 :: gtbl) := by
  intro w hw
  rcases List.mem_cons.mp hw with rfl | h
  · exact gt_good h5
  · exact gt_good h
/-- which class's methods are called on cell i -/
def gR (i : Nat) (Cn : String) : Prop := ∃ (q : vw_C), gK i < 10 ∧ gcl[gK i]? = some q ∧ q.1 = Cn
theorem gE_obj {i : Nat} (h : gK i < 10) : ∃ fs, gE cs ad M i = .inr (gK i, fs) := by
  unfold gE
  generalize gK i = k at h
  match k, h with
  | 0, _ => exact ⟨_, rfl⟩
  | 1, _ => exact ⟨_, rfl⟩
  | 2, _ => exact ⟨_, rfl⟩
  | 3, _ => exact ⟨_, rfl⟩
  | 4, _ => exact ⟨_, rfl⟩
  | 5, _ => exact ⟨_, rfl⟩
  | 6, _ => exact ⟨_, rfl⟩
  | 7, _ => exact ⟨_, rfl⟩
  | 8, _ => exact ⟨_, rfl⟩
  | 9, _ => exact ⟨_, rfl⟩
  | k + 10, h => omega
theorem g_recv (C : GC p s m args c D cs ad cc nL own) (hG : GH D cs ad s M H locs) {i : Nat} {Cn : String} (hi : gR i Cn) : ∃ cell : Cell, H[ad i]? = some cell ∧ cell.vm.isStatics = false ∧ s.vm.findClass Cn = some cell.cls := by
  obtain ⟨q, h1, h2, rfl⟩ := hi
  obtain ⟨fs, he⟩ := gE_obj (cs := cs) (ad := ad) (M := M) h1
  exact va_recv (q0 := i) C.2.2.2.2.2.2.1 hG.1 h2 ((gWs_get (gK_lt rfl (Nat.lt_trans h1 (by decide)))).trans (by rw [he]))
theorem g_runV (C : GC p s m args c D cs ad cc nL own) (hG : GH D cs ad s M H locs) {i : Nat} {Cn : String} (hi : gR i Cn) (hM : Met l y (Cond.code y bytes maxL ret :: gtbl) (rmk d) (va_Pc (.ref (ad i) :: As) (GW D cs ad M)) Qc 0 0 (gA ad))
    (h1 : Cond.methodLink own index y ∈ gtbl) (h2 : Cond.instanceMethod y ∈ gtbl) (h3 : Cond.selects Cn y y ∈ gtbl) (h4 : Cond.initialized Cn ∈ gtbl) (h5 : Cond.code y bytes maxL ret ∈ gtbl) (hd : y.cls = Cn ∧ y.cls ≠ "java/lang/invoke/MethodHandle" ∧ y.cls ≠ "java/lang/invoke/VarHandle" ∧ (parseMethodDescriptor y.desc).map (fun d => d.parameters.length) = some As.length) (hR : d + 1 ≤ R.frames ∧ 8 + (maxL + 11) + 60 * d ≤ R.locals ∧ cells ≤ R.cells ∧ slots ≤ R.slots)
    (hl : ls.size = nL) (hrs : (rest.map fun v => v.category).sum ≤ 8) (hdg : decode cc pc = .ok (.invokevirtual index, 3)) : va_Run p l e R s m args below meth c H locs cells slots 0 0 (F0 m pc ls (As.reverse ++ .ref (ad i) :: rest)) rest (Qc (Value.ref (ad i) :: As).toArray) (gA ad) :=
  va_runV (Ts := gtbl) (nL := nL) ⟨C.1, C.2.1, C.2.2.1, C.2.2.2.1, C.2.2.2.2.1⟩ hM (cwV As.length C.2.2.2.2.1 (gg_V h1 h2 h3 h4 h5) rfl rfl rfl hd ⟨hR.1, hR.2.1⟩) ⟨gW_blind, g_recv C hG hi, fun U hU hW => ⟨rfl, gW_at C hG hU hW⟩⟩ rfl rfl hl rfl (lv_room hrs) hdg ⟨hR.2.2.1, hR.2.2.2⟩
theorem g_runVN (C : GC p s m args c D cs ad cc nL own) (hG : GH D cs ad s M H locs) {i : Nat} {Cn host : String} (hi : gR i Cn) (hM : Met l y (Cond.code y bytes maxL ret :: gtbl) (rmk d) (va_Pc (.ref (ad i) :: As) (GW D cs ad M)) Qc 0 0 (gA ad))
    (h1 : Cond.methodLinkNest own index y host ∈ lw_tbl) (h2 : Cond.instanceMethod y ∈ gtbl) (h3 : Cond.selects Cn y y ∈ gtbl) (h4 : Cond.initialized y.cls ∈ gtbl) (h5 : Cond.code y bytes maxL ret ∈ gtbl) (hd : y.cls ≠ "java/lang/invoke/MethodHandle" ∧ y.cls ≠ "java/lang/invoke/VarHandle" ∧ (parseMethodDescriptor y.desc).map (fun d => d.parameters.length) = some As.length) (hR : d + 1 ≤ R.frames ∧ 8 + (maxL + 11) + 60 * d ≤ R.locals ∧ cells ≤ R.cells ∧ slots ≤ R.slots)
    (hl : ls.size = nL) (hrs : (rest.map fun v => v.category).sum ≤ 8) (hdg : decode cc pc = .ok (.invokevirtual index, 3)) : va_Run p l e R s m args below meth c H locs cells slots 0 0 (F0 m pc ls (As.reverse ++ .ref (ad i) :: rest)) rest (Qc (Value.ref (ad i) :: As).toArray) (gA ad) :=
  va_runVN (Ts := gtbl) (nL := nL) (C := Cn) ⟨C.1, C.2.1, C.2.2.1, C.2.2.2.1, C.2.2.2.2.1⟩ hM ⟨va_cnB As.length C.2.2.2.2.1 (gg_C h5) rfl rfl rfl (C.2.2.2.2.2.2.2.1 _ _ _ _ h1) (C.2.2.2.2.1 _ h4) hd ⟨hR.1, hR.2.1⟩, C.2.2.2.2.1 _ h2, C.2.2.2.2.1 _ h3⟩ ⟨gW_blind, g_recv C hG hi, fun U hU hW => ⟨rfl, gW_at C hG hU hW⟩⟩ rfl rfl hl rfl (lv_room hrs) hdg ⟨hR.2.2.1, hR.2.2.2⟩
theorem g_runS (C : GC p s m args c D cs ad cc nL own) (hG : GH D cs ad s M H locs) (hM : Met l y (Cond.code y bytes maxL ret :: gtbl) (rmk d) (va_Pc As (GW D cs ad M)) Qc 0 0 (gA ad))
    (h1 : Cond.methodLink own index y ∈ gtbl) (h2 : Cond.static y ∈ gtbl) (h4 : Cond.initialized y.cls ∈ gtbl) (h5 : Cond.code y bytes maxL ret ∈ gtbl) (hd : y.cls ≠ "java/lang/invoke/MethodHandle" ∧ y.cls ≠ "java/lang/invoke/VarHandle" ∧ (parseMethodDescriptor y.desc).map (fun d => d.parameters.length) = some As.length) (hR : d + 1 ≤ R.frames ∧ 8 + (maxL + 11) + 60 * d ≤ R.locals ∧ cells ≤ R.cells ∧ slots ≤ R.slots)
    (hl : ls.size = nL) (hrs : (rest.map fun v => v.category).sum ≤ 8) (hdg : decode cc pc = .ok (.invokestatic index, 3)) : va_Run p l e R s m args below meth c H locs cells slots 0 0 (F0 m pc ls (As.reverse ++ rest)) rest (Qc As.toArray) (gA ad) :=
  va_runS (Ts := gtbl) (nL := nL) ⟨C.1, C.2.1, C.2.2.1, C.2.2.2.1, C.2.2.2.2.1⟩ hM (va_cwS As.length C.2.2.2.2.1 (gg_S h1 h2 h4 h5) rfl rfl rfl hd ⟨hR.1, hR.2.1⟩) ⟨gW_blind, fun U hU hW => ⟨rfl, gW_at C hG hU hW⟩⟩ rfl rfl hl rfl (lv_room hrs) hdg ⟨hR.2.2.1, hR.2.2.2⟩
theorem g_runSN (C : GC p s m args c D cs ad cc nL own) (hG : GH D cs ad s M H locs) {host : String} (hM : Met l y (Cond.code y bytes maxL ret :: gtbl) (rmk d) (va_Pc As (GW D cs ad M)) Qc 0 0 (gA ad))
    (h1 : Cond.methodLinkNest own index y host ∈ lw_tbl) (h2 : Cond.static y ∈ gtbl) (h4 : Cond.initialized y.cls ∈ gtbl) (h5 : Cond.code y bytes maxL ret ∈ gtbl) (hd : y.cls ≠ "java/lang/invoke/MethodHandle" ∧ y.cls ≠ "java/lang/invoke/VarHandle" ∧ (parseMethodDescriptor y.desc).map (fun d => d.parameters.length) = some As.length) (hR : d + 1 ≤ R.frames ∧ 8 + (maxL + 11) + 60 * d ≤ R.locals ∧ cells ≤ R.cells ∧ slots ≤ R.slots)
    (hl : ls.size = nL) (hrs : (rest.map fun v => v.category).sum ≤ 8) (hdg : decode cc pc = .ok (.invokestatic index, 3)) : va_Run p l e R s m args below meth c H locs cells slots 0 0 (F0 m pc ls (As.reverse ++ rest)) rest (Qc As.toArray) (gA ad) :=
  va_runSN (Ts := gtbl) (nL := nL) ⟨C.1, C.2.1, C.2.2.1, C.2.2.2.1, C.2.2.2.2.1⟩ hM ⟨va_cnB As.length C.2.2.2.2.1 (gg_C h5) rfl rfl rfl (C.2.2.2.2.2.2.2.1 _ _ _ _ h1) (C.2.2.2.2.1 _ h4) hd ⟨hR.1, hR.2.1⟩, C.2.2.2.2.1 _ h2, trivial⟩ ⟨gW_blind, fun U hU hW => ⟨rfl, gW_at C hG hU hW⟩⟩ rfl rfl hl rfl (lv_room hrs) hdg ⟨hR.2.2.1, hR.2.2.2⟩
/-- behind a call -/
theorem g_ci {st0 : List Value} {a : Array Value} (hG : GH D cs ad s M H locs) (hr : va_Run p l e R s m args below meth c H locs cells slots 0 0 (F0 m pc ls st0) rest (va_Qi (fun (r : Int32) (u : Mem) => r = rv ∧ u = Mv) (GB D cs ad) (gA ad) a) (gA ad))
    (kk : ∀ (H1 : Heap) (locs1 : List Loc), GH D cs ad s Mv H1 locs1 → W p l e R s m args below meth c H1 locs1 cells slots Q (F0 m (pc + 3) ls (.int rv :: rest))) : W p l e R s m args below meth c H locs cells slots Q (F0 m pc ls st0) :=
  va_calli hr hG.2 (fun _ _ h => h) (fun _ h => h) (fun r u t H1 locs1 ht _ hw hB _ _ hS => by
    obtain ⟨rfl, rfl⟩ := hw
    unfold GB at hB
    rw [ht] at hB
    exact kk H1 locs1 ⟨hB, hS⟩)
theorem g_cv {st0 : List Value} {a : Array Value} (hG : GH D cs ad s M H locs) (hr : va_Run p l e R s m args below meth c H locs cells slots 0 0 (F0 m pc ls st0) rest (va_Qv (fun (u : Mem) => u = Mv) (GB D cs ad) (gA ad) a) (gA ad))
    (kk : ∀ (H1 : Heap) (locs1 : List Loc), GH D cs ad s Mv H1 locs1 → W p l e R s m args below meth c H1 locs1 cells slots Q (F0 m (pc + 3) ls rest)) : W p l e R s m args below meth c H locs cells slots Q (F0 m pc ls st0) :=
  va_callv hr hG.2 (fun _ _ h => h) (fun _ h => h) (fun u t H1 locs1 ht _ hw hB _ _ hS => by
    obtain rfl := hw
    unfold GB at hB
    rw [ht] at hB
    exact kk H1 locs1 ⟨hB, hS⟩)
end CW
