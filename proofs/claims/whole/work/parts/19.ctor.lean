/-! THE CONSTRUCTORS: cells come in the order of their numbers; N i: up to which field (or place) the references of cell i are set -/
abbrev up (N : Nat → Nat) (i k : Nat) : Nat → Nat := fun j => if j = i then k else N j
def rfn (a0 : Nat) (N : Nat → Nat) (i k j : Nat) : Value := if k < N i then .ref (a0 + j) else .null
def cE (cs : Nat → ClassId) (a0 : Nat) (N : Nat → Nat) (M : Mem) (i : Nat) : va_E := match gK i with
  | 0 => .inr (0, [rfn a0 N i 0 (i + 1), .int (M i 1), .int (M i 2)])
  | 1 => .inr (1, [rfn a0 N i 0 (i + 1), .int (M i 1), .int (M i 2), .int (M i 3), .int (M i 4), .int (M i 5)])
  | 2 => .inr (2, [rfn a0 N i 0 (i + 1), rfn a0 N i 1 (i + 7)])
  | 3 => .inr (3, [.int (M i 0), .int (M i 1), .int (M i 2), .int (M i 3), rfn a0 N i 4 (i + 1), rfn a0 N i 5 (i + 2)])
  | 4 => .inr (4, [rfn a0 N i 0 (i + 1), rfn a0 N i 1 (i + 2), .int (M i 2), .int (M i 3)])
  | 5 => .inr (5, [.int (M i 0), .int (M i 1), .int (M i 2), rfn a0 N i 3 (i + 1)])
  | 6 => .inr (6, [rfn a0 N i 0 (i + 1), .int (M i 1), .int (M i 2), .int (M i 3), .int (M i 4), .int (M i 5)])
  | 7 => .inr (7, [.int (M i 0), .int (M i 1), .int (M i 2), rfn a0 N i 3 (i + 1), rfn a0 N i 4 (i + 2), rfn a0 N i 5 (i + 3), rfn a0 N i 6 (i + 4), rfn a0 N i 7 (i + 5)])
  | 8 => .inr (8, [rfn a0 N i 0 1, rfn a0 N i 1 2, rfn a0 N i 2 4, rfn a0 N i 3 14, rfn a0 N i 4 24, rfn a0 N i 5 25, rfn a0 N i 6 99, rfn a0 N i 7 102, .int (M i 8)])
  | 9 => .inr (9, [rfn a0 N i 0 141, rfn a0 N i 1 142, rfn a0 N i 2 143, rfn a0 N i 3 144, .int (M i 4), rfn a0 N i 5 145, .int (M i 6), .int (M i 7), .int (M i 8), .int (M i 9), .int (M i 10), .int (M i 11), .int (M i 12), rfn a0 N i 13 146, rfn a0 N i 14 147, rfn a0 N i 15 148, rfn a0 N i 16 149, .int (M i 17), rfn a0 N i 18 150, rfn a0 N i 19 151, rfn a0 N i 20 152, rfn a0 N i 21 153, rfn a0 N i 22 154, .int (M i 23)])
  | 10 => .inl (cs 0, gL i, .inl (M i))
  | 11 => .inl (cs 1, gL i, .inl (M i))
  | 12 => .inl (cs 2, gL i, .inr (.inr (.inr (.inr (fun j => if j < N i then some (a0 + (104 + 2 * j)) else none)))))
  | 13 => .inl (cs 3, gL i, .inr (.inr (.inr (.inr (fun j => if j < N i then some (a0 + (120 + 10 * j)) else none)))))
  | _ => .inl (cs 4, gL i, .inr (.inr (.inr (.inr (fun j => if j < N i then some (a0 + (27 + 3 * j)) else none)))))
section CE
variable {cs : Nat → ClassId} {a0 : Nat} {N : Nat → Nat} {M : Mem} {i : Nat}
theorem cE_0 (h : gK i = 0) : cE cs a0 N M i = .inr (0, [rfn a0 N i 0 (i + 1), .int (M i 1), .int (M i 2)]) := by unfold cE; rw [h]; rfl
theorem cE_1 (h : gK i = 1) : cE cs a0 N M i = .inr (1, [rfn a0 N i 0 (i + 1), .int (M i 1), .int (M i 2), .int (M i 3), .int (M i 4), .int (M i 5)]) := by unfold cE; rw [h]; rfl
theorem cE_2 (h : gK i = 2) : cE cs a0 N M i = .inr (2, [rfn a0 N i 0 (i + 1), rfn a0 N i 1 (i + 7)]) := by unfold cE; rw [h]; rfl
theorem cE_3 (h : gK i = 3) : cE cs a0 N M i = .inr (3, [.int (M i 0), .int (M i 1), .int (M i 2), .int (M i 3), rfn a0 N i 4 (i + 1), rfn a0 N i 5 (i + 2)]) := by unfold cE; rw [h]; rfl
theorem cE_4 (h : gK i = 4) : cE cs a0 N M i = .inr (4, [rfn a0 N i 0 (i + 1), rfn a0 N i 1 (i + 2), .int (M i 2), .int (M i 3)]) := by unfold cE; rw [h]; rfl
theorem cE_5 (h : gK i = 5) : cE cs a0 N M i = .inr (5, [.int (M i 0), .int (M i 1), .int (M i 2), rfn a0 N i 3 (i + 1)]) := by unfold cE; rw [h]; rfl
theorem cE_6 (h : gK i = 6) : cE cs a0 N M i = .inr (6, [rfn a0 N i 0 (i + 1), .int (M i 1), .int (M i 2), .int (M i 3), .int (M i 4), .int (M i 5)]) := by unfold cE; rw [h]; rfl
theorem cE_7 (h : gK i = 7) : cE cs a0 N M i = .inr (7, [.int (M i 0), .int (M i 1), .int (M i 2), rfn a0 N i 3 (i + 1), rfn a0 N i 4 (i + 2), rfn a0 N i 5 (i + 3), rfn a0 N i 6 (i + 4), rfn a0 N i 7 (i + 5)]) := by unfold cE; rw [h]; rfl
theorem cE_8 (h : gK i = 8) : cE cs a0 N M i = .inr (8, [rfn a0 N i 0 1, rfn a0 N i 1 2, rfn a0 N i 2 4, rfn a0 N i 3 14, rfn a0 N i 4 24, rfn a0 N i 5 25, rfn a0 N i 6 99, rfn a0 N i 7 102, .int (M i 8)]) := by unfold cE; rw [h]; rfl
theorem cE_9 (h : gK i = 9) : cE cs a0 N M i = .inr (9, [rfn a0 N i 0 141, rfn a0 N i 1 142, rfn a0 N i 2 143, rfn a0 N i 3 144, .int (M i 4), rfn a0 N i 5 145, .int (M i 6), .int (M i 7), .int (M i 8), .int (M i 9), .int (M i 10), .int (M i 11), .int (M i 12), rfn a0 N i 13 146, rfn a0 N i 14 147, rfn a0 N i 15 148, rfn a0 N i 16 149, .int (M i 17), rfn a0 N i 18 150, rfn a0 N i 19 151, rfn a0 N i 20 152, rfn a0 N i 21 153, rfn a0 N i 22 154, .int (M i 23)]) := by unfold cE; rw [h]; rfl
theorem cE_10 (h : gK i = 10) : cE cs a0 N M i = .inl (cs 0, gL i, .inl (M i)) := by unfold cE; rw [h]; rfl
theorem cE_11 (h : gK i = 11) : cE cs a0 N M i = .inl (cs 1, gL i, .inl (M i)) := by unfold cE; rw [h]; rfl
theorem cE_12 (h : gK i = 12) : cE cs a0 N M i = .inl (cs 2, gL i, .inr (.inr (.inr (.inr (fun j => if j < N i then some (a0 + (104 + 2 * j)) else none))))) := by unfold cE; rw [h]; rfl
theorem cE_13 (h : gK i = 13) : cE cs a0 N M i = .inl (cs 3, gL i, .inr (.inr (.inr (.inr (fun j => if j < N i then some (a0 + (120 + 10 * j)) else none))))) := by unfold cE; rw [h]; rfl
theorem cE_14 (h : gK i = 14) : cE cs a0 N M i = .inl (cs 4, gL i, .inr (.inr (.inr (.inr (fun j => if j < N i then some (a0 + (27 + 3 * j)) else none))))) := by unfold cE; rw [h]; rfl
theorem cE_congr {N' : Nat → Nat} {M' : Mem} (h1 : N' i = N i) (h2 : M' i = M i) : cE cs a0 N' M' i = cE cs a0 N M i := by
  unfold cE rfn
  rw [h1, h2]
end CE
/-- the first n cells -/
def cWs (cs : Nat → ClassId) (a0 : Nat) (N : Nat → Nat) (M : Mem) (n : Nat) : va_W := (List.range n).map (fun i => (a0 + i, cE cs a0 N M i))
def cA (a0 : Nat) : Nat → Prop := fun q => a0 ≤ q
section CW1
variable {cs : Nat → ClassId} {a0 : Nat} {N : Nat → Nat} {M : Mem} {n : Nat}
theorem cWs_get {i : Nat} (h : i < n) : (cWs cs a0 N M n)[i]? = some (a0 + i, cE cs a0 N M i) := by
  unfold cWs
  rw [List.getElem?_map, List.getElem?_range h]
  rfl
theorem cWs_lt {i : Nat} {q : Nat × va_E} (h : (cWs cs a0 N M n)[i]? = some q) : i < n ∧ q = (a0 + i, cE cs a0 N M i) := by
  have hl : i < n := by
    have := (List.getElem?_eq_some_iff.mp h).1
    unfold cWs at this
    rw [List.length_map, List.length_range] at this
    exact this
  rw [cWs_get hl] at h
  exact ⟨hl, (Option.some.inj h).symm⟩
theorem cWs_set {N' : Nat → Nat} {M' : Mem} {i : Nat} {e : va_E} (h : i < n) (he : cE cs a0 N' M' i = e) (hN : ∀ j, j ≠ i → N' j = N j) (hM : ∀ j, j ≠ i → M' j = M j) : (cWs cs a0 N M n).set i (a0 + i, e) = cWs cs a0 N' M' n := by
  apply List.ext_getElem?
  intro k
  by_cases hk : k = i
  · subst hk
    rw [List.getElem?_set_self (by unfold cWs; rw [List.length_map, List.length_range]; exact h), cWs_get h, he]
  · rw [List.getElem?_set_ne (Ne.symm hk)]
    rcases Nat.lt_or_ge k n with q | q
    · rw [cWs_get q, cWs_get q, cE_congr (hN k hk) (hM k hk)]
    · rw [List.getElem?_eq_none (by unfold cWs; rw [List.length_map, List.length_range]; exact q), List.getElem?_eq_none (by unfold cWs; rw [List.length_map, List.length_range]; exact q)]
theorem cWs_D : va_D (cA a0) (cWs cs a0 N M n) := by
  refine ⟨fun i j p q hi hj hpq => ?_, fun k q hk => ?_⟩
  · obtain ⟨l1, rfl⟩ := cWs_lt hi
    obtain ⟨l2, rfl⟩ := cWs_lt hj
    exact Nat.add_left_cancel hpq
  · obtain ⟨l1, rfl⟩ := cWs_lt hk
    exact Nat.le_add_right a0 k
/-- the same cells, told by another N, M that agree where they stand -/
theorem cWs_eq {N' : Nat → Nat} {M' : Mem} (h : ∀ i, i < n → cE cs a0 N' M' i = cE cs a0 N M i) : cWs cs a0 N' M' n = cWs cs a0 N M n := by
  unfold cWs
  apply List.map_congr_left
  intro i hi
  rw [h i (List.mem_range.mp hi)]
theorem cWs_succ : cWs cs a0 N M (n + 1) = cWs cs a0 N M n ++ [(a0 + n, cE cs a0 N M n)] := by
  unfold cWs
  rw [List.range_succ, List.map_append]
  rfl
end CW1
def gAO (U : State) : Prop := va_AO RX5 U ∧ va_AO RX2 U ∧ va_AO RX3 U
def cGE (D : va_G) (cs : Nat → ClassId) (U : State) : Prop := va_K D gcl (gty cs) U ∧ gNest U ∧ gAO U
/-- what a constructor finds -/
def CW (D : va_G) (cs : Nat → ClassId) (a0 : Nat) (N : Nat → Nat) (M : Mem) (n : Nat) (U : State) : Prop := va_P D gcl (cWs cs a0 N M n) U.heap ∧ U.heap.size = a0 + n ∧ cGE D cs U
def CB (D : va_G) (cs : Nat → ClassId) (a0 : Nat) (N : Nat → Nat) (M : Mem) (n : Nat) (U : State) : Prop := va_P D gcl (cWs cs a0 N M n) U.heap ∧ U.heap.size = a0 + n
def CC (p : Program) (s : State) (m : MethodId) (args : Array Value) (c : Code) (D : va_G) (cs : Nat → ClassId) (cc : ByteArray) (nL : Nat) (own : String) : Prop :=
  p.tables.exec = Jvm.exec ∧ c.code = cc ∧ c.maxLocals = nL ∧ s.vm.findClass own = some m.cls ∧ (∀ w ∈ gtbl, w.before args s = true) ∧ cGE D cs s
def CH (D : va_G) (cs : Nat → ClassId) (a0 : Nat) (s : State) (N : Nat → Nat) (M : Mem) (n : Nat) (H : Heap) (locs : List Loc) : Prop := va_P D gcl (cWs cs a0 N M n) H ∧ va_S (cA a0) s.heap H locs ∧ H.size = a0 + n ∧ a0 ≤ s.heap.size
section CR
variable {p : Program} {l : Launch} {e : Env} {R : Room} {s : State} {m : MethodId} {args : Array Value} {below : List Frame} {meth : Method} {c : Code} {H : Heap} {locs : List Loc} {cells slots : Nat} {Q : State → Prop}
variable {D : va_G} {cs : Nat → ClassId} {a0 : Nat} {N : Nat → Nat} {M : Mem} {n : Nat} {cc : ByteArray} {nL pc : Nat} {own : String} {ls : Array Slot} {rest : List Value}
theorem k_obj (C : CC p s m args c D cs cc nL own) (hl : ls.size = nL) {a index : Nat} (hlink : Cond.methodLink own index Lib.objectInit ∈ gtbl) (hR : 1 ≤ R.frames ∧ 60 ≤ R.locals) (hrs : (rest.map fun v => v.category).sum ≤ 8) (hdg : decode cc pc = .ok (.invokespecial index, 3))
    (kk : W p l e R s m args below meth c H locs cells slots Q (F0 m (pc + 3) ls rest)) : W p l e R s m args below meth c H locs cells slots Q (F0 m pc ls (.ref a :: rest)) :=
  W.objInit C.1 C.2.1 C.2.2.2.1 (C.2.2.2.2.1 _ hlink) (C.2.2.2.2.1 _ wi_oi) (C.2.2.2.2.1 _ wc_oi) rfl (by rw [C.2.2.1]; exact hl) rfl hdg hR.1 (by show 2 * 0 + _ + 12 ≤ _; omega) kk
end CR
section CP
variable {p : Program} {l : Launch} {e : Env} {R : Room} {s : State} {m : MethodId} {args : Array Value} {below : List Frame} {meth : Method} {c : Code} {H : Heap} {locs : List Loc} {cells slots : Nat} {Q : State → Prop}
variable {cc : ByteArray} {pc : Nat} {ls : Array Slot} {rest : List Value} {D : va_G} {cl : List vw_C} {A : Nat → Prop} {a : Nat} {tys : List (ClassId × FieldType)} {ws : va_W} {H0 : Heap}
theorem k_put (hexec : p.tables.exec = Jvm.exec) (hb : c.code = cc) {own C : String} {T : u_T} {N ci index : Nat} {Ts : List Cond} (hts : ∀ w ∈ Ts, w.before args s = true) (hin : ∀ w ∈ u_ws C T N, w ∈ Ts) (ty0 : Nat → FieldType) (hty : ∀ k, k < N → parseFieldDescriptor (T k).2.2.1 = some (ty0 k)) (hnm : ∀ a, a < N → ∀ b, b < N → a ≠ b → (T a).2.1 ≠ (T b).2.1) (hown : s.vm.findClass own = some m.cls) (hK : va_K D cl tys s) (hP : va_P D cl ws H) (hD : va_D A ws) (hS0 : va_S A H0 H locs) (q0 : Nat) {fs : List Value} (he : ws[q0]? = some (a, .inr (ci, fs))) (hc : cl[ci]? = some (C, T, N)) (k : Nat) (hk : k < N) (hlink : (Cond.fieldLink own index (T k).1 (T k).2.1 (T k).2.2.1).before args s = true) (hfin : (T k).2.2.2 = false) {ty : FieldType} {v : Value} (hd : parseFieldDescriptor (T k).2.2.1 = some ty) (hn : narrow ty v = v) (hfit : fits ty v = true) (hl : k < fs.length)
    (hdg : decode cc pc = .ok (.putfield index, 3)) (kk : ∀ (H1 : Heap) (locs1 : List Loc), va_P D cl (ws.set q0 (a, .inr (ci, fs.set k v))) H1 → va_S A H0 H1 locs1 → H1.size = H.size → W p l e R s m args below meth c H1 locs1 cells slots Q (F0 m (pc + 3) ls rest)) : W p l e R s m args below meth c H locs cells slots Q (F0 m pc ls (v :: .ref a :: rest)) := by
  have hap := va_apart (own := own) hts hin ty0 hty hnm hK hc
  obtain ⟨r, h1, cell, q1, q2, q3, q4⟩ := hP q0 _ he
  have hr : r = (C, T, N) := Option.some.inj (h1.symm.trans hc)
  subst hr
  obtain ⟨hS, hfc, kC, hkC, hkind⟩ := hK.1 ci _ hc
  obtain ⟨cf, kf, fi, f, hi, hsl⟩ := hS k hk
  have hlay := hts _ (hin _ (u_in_lay hk))
  unfold u_lay at hlay
  rw [if_neg (by rw [hfin]; decide)] at hlay
  have hst := (u_facts hfc hkC (u_lays hts hin hk) hi).1
  have h6 := u_store hfc hkC hkind hlay hi hd hn hfit
  refine W.putK hexec hb (f := f) ⟨hown, hlink, ⟨_, _, _, hi⟩, hst⟩ (by rw [q2]; exact h6) q1 q3 (by rw [hsl]; exact k2_hasslot (q4 k hk)) rfl rfl hdg fun H' e1 e2 e3 => ?_
  rw [hsl] at e1 ⊢
  exact kk H' _ (hP.set hD he ⟨_, hc, t_OB.to (V := updV (vp_V fs) k v) ⟨_, e1, q2, q3, t_set q4 hap hk v⟩ (fun j _ => vp_updV_set hl v j)⟩ e3) (hS0.put e2 e3 (hD.2 q0 _ he)) e2
theorem k_putF (hexec : p.tables.exec = Jvm.exec) (hb : c.code = cc) {own C : String} {T : u_T} {N ci index : Nat} {Ts : List Cond} (hts : ∀ w ∈ Ts, w.before args s = true) (hin : ∀ w ∈ u_ws C T N, w ∈ Ts) (ty0 : Nat → FieldType) (hty : ∀ k, k < N → parseFieldDescriptor (T k).2.2.1 = some (ty0 k)) (hnm : ∀ a, a < N → ∀ b, b < N → a ≠ b → (T a).2.1 ≠ (T b).2.1) (hown : s.vm.findClass own = some m.cls) (hK : va_K D cl tys s) (hP : va_P D cl ws H) (hD : va_D A ws) (hS0 : va_S A H0 H locs) (q0 : Nat) {fs : List Value} (he : ws[q0]? = some (a, .inr (ci, fs))) (hc : cl[ci]? = some (C, T, N)) (k : Nat) (hk : k < N) (hlink : (Cond.fieldLink own index (T k).1 (T k).2.1 (T k).2.2.1).before args s = true) (hfin : (T k).2.2.2 = true) (hin2 : meth.name = "<init>") (hdecl : (T k).1 = own) {ty : FieldType} {v : Value} (hd : parseFieldDescriptor (T k).2.2.1 = some ty) (hn : narrow ty v = v) (hfit : fits ty v = true) (hl : k < fs.length)
    (hdg : decode cc pc = .ok (.putfield index, 3)) (kk : ∀ (H1 : Heap) (locs1 : List Loc), va_P D cl (ws.set q0 (a, .inr (ci, fs.set k v))) H1 → va_S A H0 H1 locs1 → H1.size = H.size → W p l e R s m args below meth c H1 locs1 cells slots Q (F0 m (pc + 3) ls rest)) : W p l e R s m args below meth c H locs cells slots Q (F0 m pc ls (v :: .ref a :: rest)) := by
  have hap := va_apart (own := own) hts hin ty0 hty hnm hK hc
  obtain ⟨r, h1, cell, q1, q2, q3, q4⟩ := hP q0 _ he
  have hr : r = (C, T, N) := Option.some.inj (h1.symm.trans hc)
  subst hr
  obtain ⟨hS, hfc, kC, hkC, hkind⟩ := hK.1 ci _ hc
  obtain ⟨cf, kf, fi, f, hi, hsl⟩ := hS k hk
  have hlay := hts _ (hin _ (u_in_lay hk))
  unfold u_lay at hlay
  rw [if_pos hfin] at hlay
  have hst := (u_facts hfc hkC (u_lays hts hin hk) hi).1
  have hcf : m.cls = cf := by
    obtain ⟨_, _, c', _, _, _, -, -, hf', -, -, -, hown2, -⟩ := Cond.laysFinal_spec hlay
    have e1 : c' = cf := by have := hi.symm.trans hf'; simp at this; exact this.1.symm
    rw [hdecl] at hown2
    rw [← e1]; exact Option.some.inj (hown.symm.trans hown2)
  have h6 := u_fits hfc hkC hkind (Or.inr hlay) hi hd hn hfit
  refine W.putFinK hexec hb hown hlink hi hst hcf hin2 (by rw [q2]; exact h6) q1 q3 (by rw [hsl]; exact k2_hasslot (q4 k hk)) rfl rfl hdg fun H' e1 e2 e3 => ?_
  rw [hsl] at e1 ⊢
  exact kk H' _ (hP.set hD he ⟨_, hc, t_OB.to (V := updV (vp_V fs) k v) ⟨_, e1, q2, q3, t_set q4 hap hk v⟩ (fun j _ => vp_updV_set hl v j)⟩ e3) (hS0.put e2 e3 (hD.2 q0 _ he)) e2
theorem k_astq (hexec : p.tables.exec = Jvm.exec) (hb : c.code = cc) (hK : va_K D cl tys s) (hP : va_P D cl ws H) (hD : va_D A ws) (hS : va_S A H0 H locs) (q0 t0 qk ci : Nat) {cA : ClassId} {r : vw_C} {n v : Nat} {vs : List Value} {f : Nat → Option Nat} (ha : ws[q0]? = some (a, .inl (cA, n, .inr (.inr (.inr (.inr f)))))) (ht : tys[t0]? = some (cA, .object r.1)) (hv : ws[qk]? = some (v, .inr (ci, vs))) (hc : cl[ci]? = some r) {i : Int32} (hin : vp_in i n) (hdg : decode cc pc = .ok (.aastore, 1))
    (kk : ∀ (H1 : Heap) (locs1 : List Loc), va_P D cl (ws.set q0 (a, .inl (cA, n, .inr (.inr (.inr (.inr (va_up f i.toNatClampNeg (some v)))))))) H1 → va_S A H0 H1 locs1 → H1.size = H.size → W p l e R s m args below meth c H1 locs1 cells slots Q (F0 m (pc + 1) ls rest)) : W p l e R s m args below meth c H locs cells slots Q (F0 m pc ls (.ref v :: .int i :: .ref a :: rest)) := by
  have hlt : i.toNatClampNeg < n := Nat.not_le.mp fun q => hin (Or.inr q)
  have h0 : ¬ i < 0 := fun q => hin (Or.inl q)
  obtain ⟨r', hr', cellV, g1, g2, g3, -⟩ := hP qk _ hv
  have hcls := (hK.1 ci r hc).2
  obtain ⟨kA, comp, k1, k2, k3, -⟩ := (hK.2 t0 _ ht).2
  have hcomp : comp = D.1 ci := Option.some.inj (k3.symm.trans hcls.1)
  subst hcomp
  obtain ⟨kC, hkC, -⟩ := hcls.2
  refine W.aast hexec hb (hP q0 _ ha) (fun q h => by cases h) (fun h => by cases h) k1 k2 rfl hkC ⟨h0, by show _ < (arrV _ _ _).slots.size; rw [arrV_size]; exact hlt⟩ g1 (fun q h => by rw [g3] at h; cases h) (by rw [g2]; exact hkC) (by rw [g2]; exact va_assign hcls) rfl rfl hdg fun H1 e z oq => ?_
  refine kk H1 _ (hP.set hD ha ?_ oq) (hS.put z oq (hD.2 q0 _ ha)) z
  show H1[a]? = some (vp_cell _ _)
  rw [e]
  rw [vp_cell_q, vp_cell_q, arrV_store]
  congr 2
  funext q
  by_cases hq : q = i.toNatClampNeg
  · subst hq
    simp [updV, va_up, va_rf]
  · simp [updV, va_up, hq]
end CP
section CQ
variable {p : Program} {l : Launch} {e : Env} {R : Room} {s : State} {m : MethodId} {args : Array Value} {below : List Frame} {meth : Method} {c : Code} {H : Heap} {locs : List Loc} {cells slots : Nat} {Q : State → Prop}
variable {D : va_G} {cs : Nat → ClassId} {a0 : Nat} {N : Nat → Nat} {M : Mem} {n : Nat} {cc : ByteArray} {nL pc : Nat} {own : String} {ls : Array Slot} {rest : List Value}
/-- a number is put where it stands already -/
theorem k_put0 (C : CC p s m args c D cs cc nL own) (hG : CH D cs a0 s N M n H locs) {i ci index F : Nat} {Cn : String} {T : u_T} {fs : List Value} (hi : i < n) (he : cE cs a0 N M i = .inr (ci, fs)) (hc : gcl[ci]? = some (Cn, T, F)) (hin : ∀ w ∈ u_ws Cn T F, w ∈ gtbl) (ty0 : Nat → FieldType) (hty : ∀ k, k < F → parseFieldDescriptor (T k).2.2.1 = some (ty0 k)) (hnm : ∀ a, a < F → ∀ b, b < F → a ≠ b → (T a).2.1 ≠ (T b).2.1) (k : Nat) (hk : k < F) (hl : k < fs.length) (hfin : (T k).2.2.2 = false) {ty : FieldType} (hd : parseFieldDescriptor (T k).2.2.1 = some ty)
    {x : Int32} (he' : fs.set k (.int x) = fs) (hn : narrow ty (.int x) = .int x) (hfit : fits ty (.int x) = true) (hlink : (Cond.fieldLink own index (T k).1 (T k).2.1 (T k).2.2.1) ∈ gtbl) (hdg : decode cc pc = .ok (.putfield index, 3))
    (kk : ∀ (H1 : Heap) (locs1 : List Loc), CH D cs a0 s N M n H1 locs1 → W p l e R s m args below meth c H1 locs1 cells slots Q (F0 m (pc + 3) ls rest)) : W p l e R s m args below meth c H locs cells slots Q (F0 m pc ls (.int x :: .ref (a0 + i) :: rest)) := by
  refine k_put (v := .int x) C.1 C.2.1 C.2.2.2.2.1 hin ty0 hty hnm C.2.2.2.1 C.2.2.2.2.2.1 hG.1 cWs_D hG.2.1 i ((cWs_get hi).trans (by rw [he])) hc k hk (C.2.2.2.2.1 _ hlink) hfin hd hn hfit hl hdg (fun H1 locs1 h1 h3 hz => ?_)
  rw [he', cWs_set hi he (fun _ _ => rfl) (fun _ _ => rfl)] at h1
  exact kk H1 locs1 ⟨h1, h3, hz.trans hG.2.2.1, hG.2.2.2⟩
/-- a reference is put for good -/
theorem k_putR (C : CC p s m args c D cs cc nL own) (hG : CH D cs a0 s N M n H locs) {i j k2 ci index F : Nat} {Cn : String} {T : u_T} {fs : List Value} (hi : i < n) (he : cE cs a0 N M i = .inr (ci, fs)) (hc : gcl[ci]? = some (Cn, T, F)) (hin : ∀ w ∈ u_ws Cn T F, w ∈ gtbl) (ty0 : Nat → FieldType) (hty : ∀ k, k < F → parseFieldDescriptor (T k).2.2.1 = some (ty0 k)) (hnm : ∀ a, a < F → ∀ b, b < F → a ≠ b → (T a).2.1 ≠ (T b).2.1) (k : Nat) (hk : k < F) (hl : k < fs.length) (hfin : (T k).2.2.2 = true) (hin2 : meth.name = "<init>") (hdecl : (T k).1 = own) {ty : FieldType} (hd : parseFieldDescriptor (T k).2.2.1 = some ty)
    (he' : cE cs a0 (up N i k2) M i = .inr (ci, fs.set k (.ref (a0 + j)))) (hn : narrow ty (.ref (a0 + j)) = .ref (a0 + j)) (hfit : fits ty (.ref (a0 + j)) = true) (hlink : (Cond.fieldLink own index (T k).1 (T k).2.1 (T k).2.2.1) ∈ gtbl) (hdg : decode cc pc = .ok (.putfield index, 3))
    (kk : ∀ (H1 : Heap) (locs1 : List Loc), CH D cs a0 s (up N i k2) M n H1 locs1 → W p l e R s m args below meth c H1 locs1 cells slots Q (F0 m (pc + 3) ls rest)) : W p l e R s m args below meth c H locs cells slots Q (F0 m pc ls (.ref (a0 + j) :: .ref (a0 + i) :: rest)) := by
  refine k_putF (v := .ref (a0 + j)) C.1 C.2.1 C.2.2.2.2.1 hin ty0 hty hnm C.2.2.2.1 C.2.2.2.2.2.1 hG.1 cWs_D hG.2.1 i ((cWs_get hi).trans (by rw [he])) hc k hk (C.2.2.2.2.1 _ hlink) hfin hin2 hdecl hd hn hfit hl hdg (fun H1 locs1 h1 h3 hz => ?_)
  rw [cWs_set hi he' (fun j hj => if_neg hj) (fun _ _ => rfl)] at h1
  exact kk H1 locs1 ⟨h1, h3, hz.trans hG.2.2.1, hG.2.2.2⟩
theorem CH.push (hG : CH D cs a0 s N M n H locs) {H1 : Heap} (z1 : H1.size = H.size + 1) (o1 : ∀ q, q < H.size → H1[q]? = H[q]?) (ha : va_at D gcl (a0 + n, cE cs a0 N M n) H1) : CH D cs a0 s N M (n + 1) H1 locs := by
  refine ⟨?_, ⟨Nat.le_trans hG.2.1.1 (by omega), fun x h1 h2 => (o1 x (Nat.lt_of_lt_of_le h1 hG.2.1.1)).trans (hG.2.1.2.1 x h1 h2), hG.2.1.2.2⟩, by rw [z1, hG.2.2.1]; rfl, hG.2.2.2⟩
  rw [cWs_succ]
  refine (hG.1.kept (fun k x hx => o1 x.1 ((hG.1 k x hx).lt))).app (fun k x hx => ?_)
  have hz : k < 1 := (List.getElem?_eq_some_iff.mp hx).1
  rw [show k = 0 by omega] at hx
  cases hx
  exact ha
theorem k_new (C : CC p s m args c D cs cc nL own) (hG : CH D cs a0 s N M n H locs) {ci index F : Nat} {Cn : String} {T : u_T} {fs : List Value} (he : cE cs a0 N M n = .inr (ci, fs)) (hc : gcl[ci]? = some (Cn, T, F)) (hin : ∀ w ∈ u_ws Cn T F, w ∈ gtbl) (ty0 : Nat → FieldType) (hty : ∀ k, k < F → parseFieldDescriptor (T k).2.2.1 = some (ty0 k)) (hfs : ∀ j, j < F → defaultValue (ty0 j) = vp_V fs j) (h1 : Cond.classLink own index Cn ∈ gtbl) (h2 : Cond.instantiable Cn F ∈ gtbl) (h3 : Cond.initialized Cn ∈ gtbl) (hcells : cells + 1 ≤ R.cells) (hslots : slots + F ≤ R.slots) (hdg : decode cc pc = .ok (.new index, 3))
    (kk : ∀ (H1 : Heap), CH D cs a0 s N M (n + 1) H1 locs → W p l e R s m args below meth c H1 locs (cells + 1) (slots + F) Q (F0 m (pc + 3) ls (.ref (a0 + n) :: rest))) : W p l e R s m args below meth c H locs cells slots Q (F0 m pc ls rest) := by
  have hts := C.2.2.2.2.1
  have hKn := C.2.2.2.2.2.1.1 ci _ hc
  refine W.newcK C.1 C.2.1 C.2.2.2.1 (hts _ h1) (hts _ h2) (hts _ h3) rfl hdg hcells hslots hKn.2.1 hG.2.2.1 fun H1 kC hkC e1 z1 o1 => ?_
  refine kk H1 (hG.push (by rw [z1, hG.2.2.1]) (fun q hq => o1 q (by rw [← hG.2.2.1]; exact hq)) ?_)
  rw [he]
  exact ⟨_, hc, (u_born ty0 hts hin hKn hkC e1 hty).to hfs⟩
theorem k_newa (C : CC p s m args c D cs cc nL own) (hG : CH D cs a0 s N M n H locs) {L : Nat} (hk : gK n = 10) (hl : gL n = L) (hM : M n = fun _ => 0) {x : Int32} (hx : ¬ x < 0) (hxL : x.toNatClampNeg = L) (hb : L * 4 ≤ 536870912) (hcells : cells + 1 ≤ R.cells) (hslots : slots + L ≤ R.slots) (hdg : decode cc pc = .ok (.newarray .int, 2))
    (kk : ∀ (H1 : Heap), CH D cs a0 s N M (n + 1) H1 locs → W p l e R s m args below meth c H1 locs (cells + 1) (slots + L) Q (F0 m (pc + 2) ls (.ref (a0 + n) :: rest))) : W p l e R s m args below meth c H locs cells slots Q (F0 m pc ls (.int x :: rest)) := by
  refine va_newaK C.1 C.2.1 (atype := .int) (C.2.2.2.2.1 _ wa_int) rfl hdg rfl hx hxL hb hcells hslots hG.2.2.1 fun H1 cA e1 z1 o1 hAr hNm => ?_
  refine kk H1 (hG.push (by rw [z1, hG.2.2.1]) (fun q hq => o1 q (by rw [← hG.2.2.1]; exact hq)) ?_)
  have hcA : cs 0 = cA := by
    have h0 : s.vm.findClass ("[" ++ FieldType.int.toString) = some (cs 0) := (C.2.2.2.2.2.1.2 0 _ rfl).2
    exact Option.some.inj (h0.symm.trans hNm)
  rw [cE_10 hk, hl, hM, hcA]
  exact e1
theorem k_newz (C : CC p s m args c D cs cc nL own) (hG : CH D cs a0 s N M n H locs) {L : Nat} (hk : gK n = 11) (hl : gL n = L) (hM : M n = fun _ => 0) {x : Int32} (hx : ¬ x < 0) (hxL : x.toNatClampNeg = L) (hb : L * 1 ≤ 536870912) (hcells : cells + 1 ≤ R.cells) (hslots : slots + L ≤ R.slots) (hdg : decode cc pc = .ok (.newarray .boolean, 2))
    (kk : ∀ (H1 : Heap), CH D cs a0 s N M (n + 1) H1 locs → W p l e R s m args below meth c H1 locs (cells + 1) (slots + L) Q (F0 m (pc + 2) ls (.ref (a0 + n) :: rest))) : W p l e R s m args below meth c H locs cells slots Q (F0 m pc ls (.int x :: rest)) := by
  refine va_newaK C.1 C.2.1 (atype := .boolean) (C.2.2.2.2.1 _ wa_boolean) rfl hdg rfl hx hxL hb hcells hslots hG.2.2.1 fun H1 cA e1 z1 o1 hAr hNm => ?_
  refine kk H1 (hG.push (by rw [z1, hG.2.2.1]) (fun q hq => o1 q (by rw [← hG.2.2.1]; exact hq)) ?_)
  have hcA : cs 1 = cA := by
    have h0 : s.vm.findClass ("[" ++ FieldType.boolean.toString) = some (cs 1) := (C.2.2.2.2.2.1.2 1 _ rfl).2
    exact Option.some.inj (h0.symm.trans hNm)
  rw [cE_11 hk, hl, hM, hcA]
  exact e1
/-- a row of references, none set yet -/
theorem k_newq (C : CC p s m args c D cs cc nL own) (hG : CH D cs a0 s N M n H locs) {L index t0 : Nat} {Cn : String} {cx : ClassId} {f : Nat → Option Nat} (he : cE cs a0 N M n = .inl (cx, L, .inr (.inr (.inr (.inr f))))) (hf : ∀ j, f j = none) (ht : (gty cs)[t0]? = some (cx, .object Cn)) (ho : va_AO Cn s) (hw : Cond.classLink own index Cn ∈ gtbl) {x : Int32} (hx : ¬ x < 0) (hxL : x.toNatClampNeg = L) (hb : L * 4 ≤ 536870912) (hcells : cells + 1 ≤ R.cells) (hslots : slots + L ≤ R.slots) (hdg : decode cc pc = .ok (.anewarray index, 3))
    (kk : ∀ (H1 : Heap), CH D cs a0 s N M (n + 1) H1 locs → W p l e R s m args below meth c H1 locs (cells + 1) (slots + L) Q (F0 m (pc + 3) ls (.ref (a0 + n) :: rest))) : W p l e R s m args below meth c H locs cells slots Q (F0 m pc ls (.int x :: rest)) := by
  subst hxL
  refine W.anew C.1 C.2.1 C.2.2.2.1 (C.2.2.2.2.1 _ hw) (va_AO.use ho) rfl hdg rfl hx hb hcells hslots fun cA kA comp f1 f2 f3 f4 => ?_
  generalize hH1 : H.push ({ cls := cA, slots := Array.replicate x.toNatClampNeg .null, vm := .none } : Cell) = H1
  have z1 : H1.size = H.size + 1 := by rw [← hH1, Array.size_push]
  have e1 : H1[H.size]? = some (arrV cA x.toNatClampNeg (fun _ => .null)) := by rw [← hH1, Array.getElem?_push_size, ← arrV_new]
  have o1 : ∀ q : Nat, q < H.size → H1[q]? = H[q]? := fun q hq => by rw [← hH1, Array.getElem?_push, if_neg (Nat.ne_of_lt hq)]
  rw [hG.2.2.1] at e1
  have K : CH D cs a0 s N M (n + 1) H1 locs := by
    refine hG.push z1 o1 ?_
    have hcA : cx = cA := by
      obtain ⟨kA2, comp2, -, -, -, h0⟩ := (C.2.2.2.2.2.1.2 t0 _ ht).2
      exact Option.some.inj (h0.symm.trans f1)
    rw [he, hcA]
    show H1[a0 + n]? = some (vp_cell _ _)
    rw [vp_cell_q, e1]
    congr 2
    funext q
    rw [hf q]
    rfl
  have h2 := kk H1 K
  rw [hG.2.2.1]
  exact h2
theorem k_ast (C : CC p s m args c D cs cc nL own) (hG : CH D cs a0 s N M n H locs) {i j L t0 ci k2 : Nat} {cx : ClassId} {r : vw_C} {vs : List Value} {f : Nat → Option Nat} (hi : i < n) (hj : j < n) (he : cE cs a0 N M i = .inl (cx, L, .inr (.inr (.inr (.inr f))))) (ht : (gty cs)[t0]? = some (cx, .object r.1)) (hv : cE cs a0 N M j = .inr (ci, vs)) (hc : gcl[ci]? = some r) {x : Int32} (hin : vp_in x L) (he' : cE cs a0 (up N i k2) M i = .inl (cx, L, .inr (.inr (.inr (.inr (va_up f x.toNatClampNeg (some (a0 + j)))))))) (hdg : decode cc pc = .ok (.aastore, 1))
    (kk : ∀ (H1 : Heap) (locs1 : List Loc), CH D cs a0 s (up N i k2) M n H1 locs1 → W p l e R s m args below meth c H1 locs1 cells slots Q (F0 m (pc + 1) ls rest)) : W p l e R s m args below meth c H locs cells slots Q (F0 m pc ls (.ref (a0 + j) :: .int x :: .ref (a0 + i) :: rest)) := by
  refine k_astq (r := r) C.1 C.2.1 C.2.2.2.2.2.1 hG.1 cWs_D hG.2.1 i t0 j ci ((cWs_get hi).trans (by rw [he])) ht ((cWs_get hj).trans (by rw [hv])) hc hin hdg (fun H1 locs1 h1 h3 hz => ?_)
  rw [cWs_set hi he' (fun j hj => if_neg hj) (fun _ _ => rfl)] at h1
  exact kk H1 locs1 ⟨h1, h3, hz.trans hG.2.2.1, hG.2.2.2⟩
theorem k_get (C : CC p s m args c D cs cc nL own) (hG : CH D cs a0 s N M n H locs) {i ci index F : Nat} {Cn : String} {T : u_T} {fs : List Value} {v : Value} (hi : i < n) (he : cE cs a0 N M i = .inr (ci, fs)) (hc : gcl[ci]? = some (Cn, T, F)) (hin : ∀ w ∈ u_ws Cn T F, w ∈ gtbl) (k : Nat) (hk : k < F) (hlink : (Cond.fieldLink own index (T k).1 (T k).2.1 (T k).2.2.1) ∈ gtbl) (hv : fs[k]? = some v) (hdg : decode cc pc = .ok (.getfield index, 3))
    (kk : W p l e R s m args below meth c H locs cells slots Q (F0 m (pc + 3) ls (v :: rest))) : W p l e R s m args below meth c H locs cells slots Q (F0 m pc ls (.ref (a0 + i) :: rest)) :=
  va_get (ref := (T k).1) C.1 C.2.1 C.2.2.2.2.1 hin C.2.2.2.1 C.2.2.2.2.2.1 hG.1 i ((cWs_get hi).trans (by rw [he])) hc k hk (C.2.2.2.2.1 _ hlink) (fun _ h => h) hv hdg kk
end CQ
abbrev Z0 : Mem := fun _ _ => 0
def rmc (d mc ms : Nat) : Room := { frames := d, cells := mc, slots := ms, locals := 60 * d }
/-- a constructor's contract -/
def CtC (l : Launch) (y : MethodName) (cc : ByteArray) (nL d mc ms : Nat) (D : va_G) (cs : Nat → ClassId) (a0 i : Nat) (N : Nat → Nat) (M : Mem) (n : Nat) (N' : Nat → Nat) (M' : Mem) (n' : Nat) : Prop :=
  Met l y (Cond.code y cc nL none :: gtbl) (rmc d mc ms) (va_Pc [.ref (a0 + i)] (CW D cs a0 N M n)) (va_Qv (fun (_ : Unit) => True) (fun _ t => CB D cs a0 N' M' n' t) (cA a0)) mc ms (cA a0)
def GRc (p : Program) (l : Launch) (e : Env) (R : Room) (s : State) (m : MethodId) (args : Array Value) (below : List Frame) (meth : Method) (c : Code) (Q : State → Prop) (D : va_G) (cs : Nat → ClassId) (a0 : Nat) (cc : ByteArray) (mc ms : Nat) (N' : Nat → Nat) (M' : Mem) (n' : Nat) : Prop :=
  ∀ {pc : Nat} {H : Heap} {locs : List Loc} {ls : Array Slot} {cells slots : Nat}, cells ≤ mc → slots ≤ ms → CH D cs a0 s N' M' n' H locs → decode cc pc = .ok (.return_, 1) → W p l e R s m args below meth c H locs cells slots Q (F0 m pc ls [])
section CK
variable {l : Launch} {y : MethodName} {cc : ByteArray} {nL d mc ms : Nat} {D : va_G} {cs : Nat → ClassId} {a0 i n n' : Nat} {N N' : Nat → Nat} {M M' : Mem} {own : String}
theorem ct_c (hy : plainName y.cls = true) (hown : y.cls = own) (hnm : y.name = "<init>") (hav : 1 ≤ nL)
    (body : ∀ (p : Program) (e : Env) (s : State) (m : MethodId) (args : Array Value) (below : List Frame) (meth : Method) (c : Code) (Q : State → Prop), CC p s m args c D cs cc nL own → meth.name = "<init>" → GRc p l e (rmc d mc ms) s m args below meth c Q D cs a0 cc mc ms N' M' n' → ∀ (H : Heap) (locs : List Loc), CH D cs a0 s N M n H locs → ∀ ls : Array Slot, lv_has ls nL [(0, .ref (a0 + i))] → W p l e (rmc d mc ms) s m args below meth c H locs 0 0 Q (F0 m 0 ls [])) : CtC l y cc nL d mc ms D cs a0 i N M n N' M' n' := by
  unfold CtC
  refine Met.ofW (cc := cc) (maxL := nL) (ret := none) hy rfl ?_
  intro p e s m args below meth c s₁ B hml hv
  obtain ⟨rfl, hP, hsz, hE⟩ := hv
  have hts := atoms_spec (ws := Cond.code y cc nL none :: gtbl) B.pre
  have hr := B.returns
  have hlocks := B.notSynchronized
  have hin : meth.name = "<init>" := ((name_of_methodNamed B.named B.method).1).trans hnm
  have C : CC p s m _ c D cs cc nL own := ⟨B.exec, B.bytes, hml, by rw [← hown]; exact findClass_of_methodNamed B.named, fun w h => hts w (List.mem_cons_of_mem _ h), hE⟩
  rw [lg_entry_eq]
  exact body p e s m _ below meth c _ C hin (fun {pc H locs ls cells slots} h1 h2 hG hdg => W.widen h1 h2 (W.vret C.1 C.2.1 hr (fun t ht hW => ⟨⟨(), rfl, trivial, by rw [ht]; exact hG.1, by rw [ht]; exact hG.2.2.1⟩, hG.2.1.F ht⟩) hG.2.1.2.2 hdg)) s.heap [] ⟨hP, va_S.rf, hsz, by rw [hsz]; exact Nat.le_add_right _ _⟩ _ (lv_entry [.ref (a0 + i)] hav)
end CK
section CL
variable {p : Program} {l : Launch} {e : Env} {R : Room} {s : State} {m : MethodId} {args : Array Value} {below : List Frame} {meth : Method} {c : Code} {H : Heap} {locs : List Loc} {cells slots : Nat} {Q : State → Prop}
variable {D : va_G} {cs : Nat → ClassId} {a0 : Nat} {N N' : Nat → Nat} {M M' : Mem} {n n' : Nat} {cc : ByteArray} {nL pc : Nat} {own : String} {ls : Array Slot} {rest : List Value}
variable {y : MethodName} {bytes : ByteArray} {maxL d mc ms index i : Nat}
theorem cW_blind {av : List Value} : FrameBlind (va_Pc av (CW D cs a0 N M n)) := fun a U g mk q => by
  obtain ⟨q0, q1, q2, q3, q4, q5, q6, q7⟩ := q
  exact ⟨q0, q1, q2, va_K.moved (u := U) (U := U.calling g mk a) (Vm.Alike.refl U.vm) q3, fun a1 i x h0 hm => va_Nw.same rfl (u := U) (U := U.calling g mk a) rfl (q4 a1 i x h0 hm), va_AO.moved (u := U) (U := U.calling g mk a) (Vm.Alike.refl U.vm) q5, va_AO.moved (u := U) (U := U.calling g mk a) (Vm.Alike.refl U.vm) q6, va_AO.moved (u := U) (U := U.calling g mk a) (Vm.Alike.refl U.vm) q7⟩
theorem cW_at (C : CC p s m args c D cs cc nL own) (hG : CH D cs a0 s N M n H locs) {U : State} (hU : U.heap = H) (hW : s.WarmedH U.vm) : CW D cs a0 N M n U := by
  obtain ⟨-, -, -, -, -, hK, hN, h1, h2, h3⟩ := C
  exact ⟨by rw [hU]; exact hG.1, by rw [hU]; exact hG.2.2.1, va_K.moved hW.alike hK, gN_warm hN hW, va_AO.moved hW.alike h1, va_AO.moved hW.alike h2, va_AO.moved hW.alike h3⟩
theorem k_cv {st0 : List Value} {a : Array Value} (hG : CH D cs a0 s N M n H locs) (hr : va_Run p l e R s m args below meth c H locs cells slots mc ms (F0 m pc ls st0) rest (va_Qv (fun (_ : Unit) => True) (fun _ t => CB D cs a0 N' M' n' t) (cA a0) a) (cA a0))
    (kk : ∀ (H1 : Heap) (locs1 : List Loc), CH D cs a0 s N' M' n' H1 locs1 → W p l e R s m args below meth c H1 locs1 (cells + mc) (slots + ms) Q (F0 m (pc + 3) ls rest)) : W p l e R s m args below meth c H locs cells slots Q (F0 m pc ls st0) :=
  va_callv hr hG.2.1 (fun _ _ h => h) (fun _ h => h) (fun u t H1 locs1 ht _ hw hB _ _ hS => by
    obtain ⟨h1, h2⟩ := hB
    rw [ht] at h1 h2
    exact kk H1 locs1 ⟨h1, hS, h2, hG.2.2.2⟩)
theorem k_call (C : CC p s m args c D cs cc nL own) (hG : CH D cs a0 s N M n H locs) (hM : CtC l y bytes maxL d mc ms D cs a0 i N M n N' M' n')
    (h1 : Cond.methodLink own index y ∈ gtbl) (h2 : Cond.instanceMethod y ∈ gtbl) (h4 : Cond.initialized y.cls ∈ gtbl) (h5 : Cond.code y bytes maxL none ∈ gtbl) (hy : y.name = "<init>") (hd : y.cls ≠ "java/lang/invoke/MethodHandle" ∧ y.cls ≠ "java/lang/invoke/VarHandle" ∧ (parseMethodDescriptor y.desc).map (fun d => d.parameters.length) = some 0) (hR : d + 1 ≤ R.frames ∧ 8 + (maxL + 11) + 60 * d ≤ R.locals) (hc : cells + mc ≤ R.cells ∧ slots + ms ≤ R.slots)
    (hl : ls.size = nL) (hrs : (rest.map fun v => v.category).sum ≤ 8) (hdg : decode cc pc = .ok (.invokespecial index, 3))
    (kk : ∀ (H1 : Heap) (locs1 : List Loc), CH D cs a0 s N' M' n' H1 locs1 → W p l e R s m args below meth c H1 locs1 (cells + mc) (slots + ms) Q (F0 m (pc + 3) ls rest)) : W p l e R s m args below meth c H locs cells slots Q (F0 m pc ls (.ref (a0 + i) :: rest)) :=
  k_cv hG (va_runI (Ts := gtbl) (nL := nL) (As := []) ⟨C.1, C.2.1, C.2.2.1, C.2.2.2.1, C.2.2.2.2.1⟩ hM (cwI 0 C.2.2.2.2.1 (gg_C h5) rfl rfl rfl (C.2.2.2.2.1 _ h4) (C.2.2.2.2.1 _ h1) (C.2.2.2.2.1 _ h2) hy hd hR) ⟨cW_blind, fun U hU hW => ⟨rfl, cW_at C hG hU hW⟩⟩ rfl rfl hl rfl (lv_room hrs) hdg hc) kk
theorem k_callN (C : CC p s m args c D cs cc nL own) (hG : CH D cs a0 s N M n H locs) {host : String} (hM : CtC l y bytes maxL d mc ms D cs a0 i N M n N' M' n')
    (h1 : Cond.methodLinkNest own index y host ∈ lw_tbl) (h2 : Cond.instanceMethod y ∈ gtbl) (h4 : Cond.initialized y.cls ∈ gtbl) (h5 : Cond.code y bytes maxL none ∈ gtbl) (hy : y.name = "<init>") (hd : y.cls ≠ "java/lang/invoke/MethodHandle" ∧ y.cls ≠ "java/lang/invoke/VarHandle" ∧ (parseMethodDescriptor y.desc).map (fun d => d.parameters.length) = some 0) (hR : d + 1 ≤ R.frames ∧ 8 + (maxL + 11) + 60 * d ≤ R.locals) (hc : cells + mc ≤ R.cells ∧ slots + ms ≤ R.slots)
    (hl : ls.size = nL) (hrs : (rest.map fun v => v.category).sum ≤ 8) (hdg : decode cc pc = .ok (.invokespecial index, 3))
    (kk : ∀ (H1 : Heap) (locs1 : List Loc), CH D cs a0 s N' M' n' H1 locs1 → W p l e R s m args below meth c H1 locs1 (cells + mc) (slots + ms) Q (F0 m (pc + 3) ls rest)) : W p l e R s m args below meth c H locs cells slots Q (F0 m pc ls (.ref (a0 + i) :: rest)) :=
  k_cv hG (va_runIN (Ts := gtbl) (nL := nL) (As := []) ⟨C.1, C.2.1, C.2.2.1, C.2.2.2.1, C.2.2.2.2.1⟩ hM ⟨va_cnB 0 C.2.2.2.2.1 (gg_C h5) rfl rfl rfl (C.2.2.2.2.2.2.1 _ _ _ _ h1) (C.2.2.2.2.1 _ h4) hd hR, hy, C.2.2.2.2.1 _ h2⟩ ⟨cW_blind, fun U hU hW => ⟨rfl, cW_at C hG hU hW⟩⟩ rfl rfl hl rfl (lv_room hrs) hdg hc) kk
end CL
/-- cells from i on up to j are whole -/
abbrev fill (N : Nat → Nat) (i j : Nat) : Nat → Nat := fun t => if i ≤ t ∧ t < j then 30 else N t
def clim (k : Nat) : Nat := [1, 1, 2, 6, 2, 4, 1, 8, 8, 23, 0, 0].getD k 0
theorem cE_full {cs : Nat → ClassId} {a0 : Nat} {N N' : Nat → Nat} {M : Mem} {i k : Nat} (hk : gK i = k) (hk2 : k < 12) (h1 : clim k ≤ N i) (h2 : clim k ≤ N' i) : cE cs a0 N M i = cE cs a0 N' M i := by
  have key : ∀ a b, a < clim k → rfn a0 N i a b = rfn a0 N' i a b := fun a b h => by
    unfold rfn
    rw [if_pos (Nat.lt_of_lt_of_le h h1), if_pos (Nat.lt_of_lt_of_le h h2)]
  match k, hk2, hk with
  | 0, _, hk => rw [cE_0 hk, cE_0 hk, key _ _ (by decide)]
  | 1, _, hk => rw [cE_1 hk, cE_1 hk, key _ _ (by decide)]
  | 2, _, hk => rw [cE_2 hk, cE_2 hk, key 0 _ (by decide), key 1 _ (by decide)]
  | 3, _, hk => rw [cE_3 hk, cE_3 hk, key 4 _ (by decide), key 5 _ (by decide)]
  | 4, _, hk => rw [cE_4 hk, cE_4 hk, key 0 _ (by decide), key 1 _ (by decide)]
  | 5, _, hk => rw [cE_5 hk, cE_5 hk, key 3 _ (by decide)]
  | 6, _, hk => rw [cE_6 hk, cE_6 hk, key 0 _ (by decide)]
  | 7, _, hk => rw [cE_7 hk, cE_7 hk, key 3 _ (by decide), key 4 _ (by decide), key 5 _ (by decide), key 6 _ (by decide), key 7 _ (by decide)]
  | 8, _, hk => rw [cE_8 hk, cE_8 hk, key 0 _ (by decide), key 1 _ (by decide), key 2 _ (by decide), key 3 _ (by decide), key 4 _ (by decide), key 5 _ (by decide), key 6 _ (by decide), key 7 _ (by decide)]
  | 9, _, hk => rw [cE_9 hk, cE_9 hk, key 0 _ (by decide), key 1 _ (by decide), key 2 _ (by decide), key 3 _ (by decide), key 5 _ (by decide), key 13 _ (by decide), key 14 _ (by decide), key 15 _ (by decide), key 16 _ (by decide), key 18 _ (by decide), key 19 _ (by decide), key 20 _ (by decide), key 21 _ (by decide), key 22 _ (by decide)]
  | 10, _, hk => rw [cE_10 hk, cE_10 hk]
  | 11, _, hk => rw [cE_11 hk, cE_11 hk]
/-- the world told by another N that says the same of every cell there -/
theorem CH.as {D : va_G} {cs : Nat → ClassId} {a0 : Nat} {s : State} {N N' : Nat → Nat} {M : Mem} {n : Nat} {H : Heap} {locs : List Loc} (hG : CH D cs a0 s N M n H locs) (h : ∀ i, i < n → N' i = N i ∨ (gK i < 12 ∧ clim (gK i) ≤ N i ∧ clim (gK i) ≤ N' i)) : CH D cs a0 s N' M n H locs := by
  refine ⟨?_, hG.2⟩
  rw [cWs_eq (N := N) (M := M) (fun i hi => ?_)]
  · exact hG.1
  · rcases h i hi with q | ⟨q1, q2, q3⟩
    · exact cE_congr q rfl
    · exact cE_full rfl q1 q3 q2
