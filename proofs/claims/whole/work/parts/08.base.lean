/-! MEMORY: every cell of the system has a number below 155; its ints are a function; references never change behind the constructors. -/
abbrev Mem : Type := Nat → Nat → Int32
def stA (M : Mem) (i : Nat) (f : Nat → Int32) : Mem := fun a => if a = i then f else M a
def st (M : Mem) (i k : Nat) (v : Int32) : Mem := stA M i (upd (M i) k v)
theorem stA_i (M : Mem) (i : Nat) (f : Nat → Int32) : stA M i f i = f := if_pos rfl
theorem stA_ne {M : Mem} {i a : Nat} {f : Nat → Int32} (h : a ≠ i) : stA M i f a = M a := if_neg h
theorem st_i (M : Mem) (i k : Nat) (v : Int32) : st M i k v i = upd (M i) k v := if_pos rfl
theorem st_ne {M : Mem} {i a k : Nat} {v : Int32} (h : a ≠ i) : st M i k v a = M a := if_neg h
/-- kinds: 0 to 9 an object of that class, 10 ints, 11 booleans, 12 to 14 references -/
def gKl : List Nat := [8, 12, 6, 10] ++ (List.replicate 2 [2, 7, 10, 10, 10, 10, 10, 3, 10, 10]).flatten ++ [13, 0, 14] ++ (List.replicate 24 [3, 10, 10]).flatten ++ [4, 10, 10, 1, 10] ++ (List.replicate 8 [5, 10]).flatten ++ (List.replicate 2 [2, 7, 10, 10, 10, 10, 10, 3, 10, 10]).flatten ++ [9, 10, 10, 10, 10, 10, 10, 10, 10, 10, 10, 11, 10, 10, 10]
def gLl : List Nat := [0, 8, 0, 120] ++ (List.replicate 2 [0, 0, 5, 5, 6, 6, 6, 0, 6, 5]).flatten ++ [2, 0, 24] ++ (List.replicate 24 [0, 6, 5]).flatten ++ [0, 5, 5, 0, 16] ++ (List.replicate 8 [0, 40]).flatten ++ (List.replicate 2 [0, 0, 5, 5, 6, 6, 6, 0, 6, 5]).flatten ++ [0, 8, 8, 320, 40, 120, 57, 57, 57, 1368, 114, 2, 5, 5, 16]
def gK (i : Nat) : Nat := gKl.getD i 15
def gL (i : Nat) : Nat := gLl.getD i 0
theorem gKl_len : gKl.length = 155 := by decide +kernel
theorem gK_lt {i k : Nat} (h : gK i = k) (hk : k < 15) : i < 155 := by
  rcases Nat.lt_or_ge i 155 with q | q
  · exact q
  · exfalso
    have : gK i = 15 := by
      unfold gK
      rw [List.getD_eq_getElem?_getD, List.getElem?_eq_none (by rw [gKl_len]; exact q)]
      rfl
    omega
/-- what stands at cell i -/
def gE (cs : Nat → ClassId) (ad : Nat → Nat) (M : Mem) (i : Nat) : va_E := match gK i with
  | 0 => .inr (0, [.ref (ad (i + 1)), .int (M i 1), .int (M i 2)])
  | 1 => .inr (1, [.ref (ad (i + 1)), .int (M i 1), .int (M i 2), .int (M i 3), .int (M i 4), .int (M i 5)])
  | 2 => .inr (2, [.ref (ad (i + 1)), .ref (ad (i + 7))])
  | 3 => .inr (3, [.int (M i 0), .int (M i 1), .int (M i 2), .int (M i 3), .ref (ad (i + 1)), .ref (ad (i + 2))])
  | 4 => .inr (4, [.ref (ad (i + 1)), .ref (ad (i + 2)), .int (M i 2), .int (M i 3)])
  | 5 => .inr (5, [.int (M i 0), .int (M i 1), .int (M i 2), .ref (ad (i + 1))])
  | 6 => .inr (6, [.ref (ad (i + 1)), .int (M i 1), .int (M i 2), .int (M i 3), .int (M i 4), .int (M i 5)])
  | 7 => .inr (7, [.int (M i 0), .int (M i 1), .int (M i 2), .ref (ad (i + 1)), .ref (ad (i + 2)), .ref (ad (i + 3)), .ref (ad (i + 4)), .ref (ad (i + 5))])
  | 8 => .inr (8, [.ref (ad 1), .ref (ad 2), .ref (ad 4), .ref (ad 14), .ref (ad 24), .ref (ad 25), .ref (ad 99), .ref (ad 102), .int (M i 8)])
  | 9 => .inr (9, [.ref (ad 141), .ref (ad 142), .ref (ad 143), .ref (ad 144), .int (M i 4), .ref (ad 145), .int (M i 6), .int (M i 7), .int (M i 8), .int (M i 9), .int (M i 10), .int (M i 11), .int (M i 12), .ref (ad 146), .ref (ad 147), .ref (ad 148), .ref (ad 149), .int (M i 17), .ref (ad 150), .ref (ad 151), .ref (ad 152), .ref (ad 153), .ref (ad 154), .int (M i 23)])
  | 10 => .inl (cs 0, gL i, .inl (M i))
  | 11 => .inl (cs 1, gL i, .inl (M i))
  | 12 => .inl (cs 2, gL i, .inr (.inr (.inr (.inr (fun j => some (ad (104 + 2 * j)))))))
  | 13 => .inl (cs 3, gL i, .inr (.inr (.inr (.inr (fun j => some (ad (120 + 10 * j)))))))
  | _ => .inl (cs 4, gL i, .inr (.inr (.inr (.inr (fun j => some (ad (27 + 3 * j)))))))
theorem gE_congr {cs : Nat → ClassId} {ad : Nat → Nat} {M M' : Mem} {i : Nat} (h : M' i = M i) : gE cs ad M' i = gE cs ad M i := by
  unfold gE
  rw [h]
/-- the world -/
def gWs (cs : Nat → ClassId) (ad : Nat → Nat) (M : Mem) : va_W := (List.range 155).map (fun i => (ad i, gE cs ad M i))
theorem gWs_get {cs : Nat → ClassId} {ad : Nat → Nat} {M : Mem} {i : Nat} (h : i < 155) : (gWs cs ad M)[i]? = some (ad i, gE cs ad M i) := by
  unfold gWs
  rw [List.getElem?_map, List.getElem?_range h]
  rfl
theorem gWs_lt {cs : Nat → ClassId} {ad : Nat → Nat} {M : Mem} {i : Nat} {q : Nat × va_E} (h : (gWs cs ad M)[i]? = some q) : i < 155 ∧ q = (ad i, gE cs ad M i) := by
  have hl : i < 155 := by
    have := (List.getElem?_eq_some_iff.mp h).1
    unfold gWs at this
    rw [List.length_map, List.length_range] at this
    exact this
  rw [gWs_get hl] at h
  exact ⟨hl, (Option.some.inj h).symm⟩
theorem gWs_set {cs : Nat → ClassId} {ad : Nat → Nat} {M M' : Mem} {i : Nat} {e : va_E} (h : i < 155) (he : gE cs ad M' i = e) (ho : ∀ j, j ≠ i → M' j = M j) : (gWs cs ad M).set i (ad i, e) = gWs cs ad M' := by
  apply List.ext_getElem?
  intro k
  by_cases hk : k = i
  · subst hk
    rw [List.getElem?_set_self (by unfold gWs; rw [List.length_map, List.length_range]; exact h), gWs_get h, he]
  · rw [List.getElem?_set_ne (Ne.symm hk)]
    rcases Nat.lt_or_ge k 155 with q | q
    · rw [gWs_get q, gWs_get q, gE_congr (ho k hk)]
    · rw [List.getElem?_eq_none (by unfold gWs; rw [List.length_map, List.length_range]; exact q), List.getElem?_eq_none (by unfold gWs; rw [List.length_map, List.length_range]; exact q)]
/-- the cells' numbers have different addresses -/
def gI (ad : Nat → Nat) : Prop := ∀ i j, i < 155 → j < 155 → ad i = ad j → i = j
def gA (ad : Nat → Nat) : Nat → Prop := fun q => ∃ i, i < 155 ∧ q = ad i
theorem gWs_D {cs : Nat → ClassId} {ad : Nat → Nat} {M : Mem} (h : gI ad) : va_D (gA ad) (gWs cs ad M) := by
  refine ⟨fun i j p q hi hj hpq => ?_, fun k q hk => ?_⟩
  · obtain ⟨l1, rfl⟩ := gWs_lt hi
    obtain ⟨l2, rfl⟩ := gWs_lt hj
    exact h i j l1 l2 hpq
  · obtain ⟨l1, rfl⟩ := gWs_lt hk
    exact ⟨k, l1, rfl⟩
abbrev gcl : List vw_C := [(RX0, TX0, 3), (RX1, TX1, 6), (RX2, TX2, 2), (RX3, TX3, 6), (RX4, TX4, 4), (RX5, TX5, 4), (RX6, TX6, 6), (RX7, TX7, 8), (RX8, TX8, 9), (RX9, TX9, 24)]
abbrev gty (cs : Nat → ClassId) : List (ClassId × FieldType) := [(cs 0, .int), (cs 1, .boolean), (cs 2, .object RX5), (cs 3, .object RX2), (cs 4, .object RX3)]
/-- the table of the kinds above -/
def kab (j : Nat) : Int32 := [0, 0, 1, 1, 0, 4].getD j 0
def gNest (U : State) : Prop := ∀ (a : String) (i : Nat) (x : MethodName) (h : String), Cond.methodLinkNest a i x h ∈ lw_tbl → va_Nw (.methodLinkNest a i x h) U
def gStat (ad : Nat → Nat) (U : State) (H : Heap) : Prop := ∃ t : Nat, va_Z RX8 "KIND_ABOVE" "[I" (.ref t) (gA ad) U H ∧ va_T .int t 6 (fun j => .int (kab j)) (gA ad) U H
/-- what a method finds: the memory M at its cells -/
def GW (D : va_G) (cs : Nat → ClassId) (ad : Nat → Nat) (M : Mem) (U : State) : Prop := gI ad ∧ va_P D gcl (gWs cs ad M) U.heap ∧ va_K D gcl (gty cs) U ∧ gNest U ∧ gStat ad U U.heap
def GB (D : va_G) (cs : Nat → ClassId) (ad : Nat → Nat) (M : Mem) (U : State) : Prop := va_P D gcl (gWs cs ad M) U.heap
/-- what stays the same in a method's walk -/
def GC (p : Program) (s : State) (m : MethodId) (args : Array Value) (c : Code) (D : va_G) (cs : Nat → ClassId) (ad : Nat → Nat) (cc : ByteArray) (nL : Nat) (own : String) : Prop :=
  p.tables.exec = Jvm.exec ∧ c.code = cc ∧ c.maxLocals = nL ∧ s.vm.findClass own = some m.cls ∧ (∀ w ∈ gtbl, w.before args s = true) ∧ gI ad ∧ va_K D gcl (gty cs) s ∧ gNest s ∧ gStat ad s s.heap
/-- what is so at a point of it -/
def GH (D : va_G) (cs : Nat → ClassId) (ad : Nat → Nat) (s : State) (M : Mem) (H : Heap) (locs : List Loc) : Prop := va_P D gcl (gWs cs ad M) H ∧ va_S (gA ad) s.heap H locs
def rmk (d : Nat) : Room := { frames := d, cells := 0, slots := 0, locals := 60 * d }
/-- the machine goes well from here -/
def GP (p : Program) (l : Launch) (e : Env) (R : Room) (s : State) (m : MethodId) (args : Array Value) (below : List Frame) (meth : Method) (c : Code) (k n : Nat) (Q : State → Prop) (D : va_G) (cs : Nat → ClassId) (ad : Nat → Nat) (nL pc : Nat) (lv : List (Nat × Value)) (stk : List Value) (M : Mem) : Prop :=
  ∀ (H : Heap) (locs : List Loc), GH D cs ad s M H locs → ∀ ls : Array Slot, lv_has ls nL lv → W p l e R s m args below meth c H locs k n Q (F0 m pc ls stk)
/-! rows for the functions -/
def nm {α β : Type} (v : α) (k : α → β) : β := k v
theorem nm_at {α β : Type} {v x : α} {k : α → β} {z : β} (e : x = v) (h : nm v k = z) : k x = z := by subst e; exact h
def chk {β : Type} (b : Bool) (k : Option β) : Option β := if b = true then k else none
def ixb (i : Int32) (n : Nat) : Bool := decide (¬ (i < 0 ∨ n ≤ i.toNatClampNeg))
theorem chk_e {β : Type} {b : Bool} {k : Option β} {z : β} (h : chk b k = some z) : b = true ∧ k = some z := by
  unfold chk at h
  by_cases q : b = true
  · rw [if_pos q] at h; exact ⟨q, h⟩
  · rw [if_neg q] at h; cases h
theorem chk_t {β : Type} {b : Bool} {k : Option β} (h : b = true) : chk b k = k := if_pos h
theorem ixb_iff {i : Int32} {n : Nat} : ixb i n = true ↔ vp_in i n := by unfold ixb vp_in; exact decide_eq_true_iff
theorem ix_e {β : Type} {i : Int32} {n : Nat} {k : Option β} {z : β} (h : chk (ixb i n) k = some z) : vp_in i n ∧ k = some z := ⟨ixb_iff.mp (chk_e h).1, (chk_e h).2⟩
theorem dn_e {β : Type} {c : Prop} [Decidable c] {k : Option β} {z : β} (h : chk (decide c) k = some z) : c ∧ k = some z := ⟨of_decide_eq_true (chk_e h).1, (chk_e h).2⟩
theorem bd_e {α β : Type} {o : Option α} {f : α → Option β} {z : β} (h : o.bind f = some z) : ∃ q, o = some q ∧ f q = some z := Option.bind_eq_some_iff.mp h
theorem if_t {α : Type} {c : Prop} [Decidable c] {a b z : α} (hc : c) (h : (if c then a else b) = z) : a = z := (if_pos hc).symm.trans h
theorem if_f {α : Type} {c : Prop} [Decidable c] {a b z : α} (hc : ¬ c) (h : (if c then a else b) = z) : b = z := (if_neg hc).symm.trans h
def iter {α β : Type} (F : (α → Option β) → α → Option β) : Nat → α → Option β
  | 0, _ => none
  | n + 1, a => F (iter F n) a
theorem iter_ind {α β : Type} {F : (α → Option β) → α → Option β} {P : α → Prop} {z : β} (hs : ∀ rec : α → Option β, (∀ a, rec a = some z → P a) → ∀ a, F rec a = some z → P a) : ∀ n a, iter F n a = some z → P a := by
  intro n
  induction n with
  | zero => intro a h; cases h
  | succ n ih => intro a h; exact hs _ ih a h
def bi (b : Bool) : Int32 := cond b 1 0
theorem bi_t {b : Bool} (h : ¬ bi b = 0) : b = true := by cases b with
  | true => rfl
  | false => exact absurd rfl h
theorem bi_f {b : Bool} (h : bi b = 0) : ¬ b = true := by cases b with
  | true => exact absurd h (by decide)
  | false => exact fun q => by cases q
theorem bi_nar (b : Bool) : narrow .boolean (.int (bi b)) = .int (bi b) := by cases b <;> decide
