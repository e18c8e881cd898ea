/-! THE ABSTRACT WORLD: all cells of class and model, numbered; their numbers (ints: .1, longs: .2) are two functions of cell and place; references, classes, lengths are fixed -/
abbrev ZW : Type := (Nat → Nat → Int32) × (Nat → Nat → Int64)
/-- addresses, classes' numbers, slots, the array classes of byte, int, long, int[], how many arrays of the law are there beside the first (0, 1), the script: its cell, its length, its ints -/
abbrev ZG : Type := (Nat → Nat) × (Nat → ClassId) × (Nat → Nat → Nat) × ClassId × ClassId × ClassId × ClassId × Nat × Nat × Nat × (Nat → Int32)
def z_upI (w : ZW) (a j : Nat) (x : Int32) : ZW := (fun b k => if b = a ∧ k = j then x else w.1 b k, w.2)
def z_upJ (w : ZW) (a j : Nat) (x : Int64) : ZW := (w.1, fun b k => if b = a ∧ k = j then x else w.2 b k)
def z_cpI (w : ZW) (a0 a1 s d n : Nat) : ZW := (fun b k => if b = a1 ∧ d ≤ k ∧ k < d + n then w.1 a0 (s + (k - d)) else w.1 b k, w.2)
def z_cpJ (w : ZW) (a0 a1 s d n : Nat) : ZW := (w.1, fun b k => if b = a1 ∧ d ≤ k ∧ k < d + n then w.2 a0 (s + (k - d)) else w.2 b k)
def z_in (i : Int32) (n : Nat) : Bool := !(decide (i < 0)) && decide (i.toNatClampNeg < n)
def z_bo (x : Int32) : Bool := decide (x = 0) || decide (x = 1)
/-- arraycopy's test -/
def z_cin (s d n : Int32) (n0 n1 : Nat) : Bool := !(decide (s < 0)) && !(decide (d < 0)) && !(decide (n < 0)) && decide (s.toNatClampNeg + n.toNatClampNeg ≤ n0) && decide (d.toNatClampNeg + n.toNatClampNeg ≤ n1)
abbrev z_aB (G : ZG) (n : Nat) (f : Nat → Int32) : va_E := .inl (G.2.2.2.1, n, .inl f)
abbrev z_aI (G : ZG) (n : Nat) (f : Nat → Int32) : va_E := .inl (G.2.2.2.2.1, n, .inl f)
abbrev z_aJ (G : ZG) (n : Nat) (f : Nat → Int64) : va_E := .inl (G.2.2.2.2.2.1, n, .inr (.inl f))
abbrev z_aQ (G : ZG) (n b : Nat) : va_E := .inl (G.2.2.2.2.2.2.1, n, .inr (.inr (.inr (.inr (fun j => if j < n then some (G.1 (b + j)) else none)))))
abbrev z_tys (G : ZG) : List (ClassId × FieldType) := [(G.2.2.2.1, .byte), (G.2.2.2.2.1, .int), (G.2.2.2.2.2.1, .long), (G.2.2.2.2.2.2.1, .array .int)]
abbrev z_D (G : ZG) : va_G := (G.2.1, G.2.2.1)
abbrev z_e (G : ZG) : Nat := G.2.2.2.2.2.2.2.1
abbrev z_b (G : ZG) : Nat := G.2.2.2.2.2.2.2.2.1
abbrev z_l (G : ZG) : Nat := G.2.2.2.2.2.2.2.2.2.1
abbrev z_x (G : ZG) : Nat → Int32 := G.2.2.2.2.2.2.2.2.2.2
/-- cells: the class's, the first array of the law, and the other one when it is there -/
def z_N (G : ZG) : Nat := 131 + z_e G
def z_cells : List (ZG → (Nat → Int32) → (Nat → Int64) → va_E) := [
  fun G f g => .inr (11, [.ref (G.1 1), .ref (G.1 56), .int (f 2), .ref (G.1 111), .ref (G.1 117), .ref (G.1 119), .ref (G.1 120), .ref (G.1 122)]),
  fun G f g => .inr (9, [.ref (G.1 2), .ref (G.1 12), .ref (G.1 16), .ref (G.1 20), .ref (G.1 53)]),
  fun G f g => .inr (4, [.int (f 0), .ref (G.1 3), .ref (G.1 4), .ref (G.1 5), .int (f 4), .int (f 5), .ref (G.1 6), .ref (G.1 7), .ref (G.1 8), .ref (G.1 9), .ref (G.1 10), .ref (G.1 11)]),
  fun G f g => z_aI G 6 (f),
  fun G f g => z_aI G 6 (f),
  fun G f g => z_aI G 6 (f),
  fun G f g => z_aI G 14 (f),
  fun G f g => z_aI G 14 (f),
  fun G f g => z_aI G 14 (f),
  fun G f g => z_aI G 14 (f),
  fun G f g => z_aI G 14 (f),
  fun G f g => z_aI G 14 (f),
  fun G f g => .inr (8, [.int (f 0), .ref (G.1 13), .ref (G.1 14), .ref (G.1 15)]),
  fun G f g => z_aI G 6 (f),
  fun G f g => z_aI G 6 (f),
  fun G f g => z_aI G 6 (f),
  fun G f g => .inr (2, [.int (f 0), .int (f 1), .ref (G.1 17), .ref (G.1 18), .ref (G.1 19)]),
  fun G f g => z_aJ G 8 (g),
  fun G f g => z_aJ G 14 (g),
  fun G f g => z_aJ G 14 (g),
  fun G f g => .inr (3, [.int (f 0), .ref (G.1 21), .ref (G.1 22), .ref (G.1 23), .ref (G.1 24), .ref (G.1 38), .ref (G.1 51), .ref (G.1 52), .int (f 8)]),
  fun G f g => z_aI G 6 (f),
  fun G f g => z_aI G 6 (f),
  fun G f g => z_aI G 6 (f),
  fun G f g => z_aQ G 13 25,
  fun G f g => z_aI G 64 (f),
  fun G f g => z_aI G 64 (f),
  fun G f g => z_aI G 64 (f),
  fun G f g => z_aI G 64 (f),
  fun G f g => z_aI G 64 (f),
  fun G f g => z_aI G 64 (f),
  fun G f g => z_aI G 64 (f),
  fun G f g => z_aI G 64 (f),
  fun G f g => z_aI G 64 (f),
  fun G f g => z_aI G 64 (f),
  fun G f g => z_aI G 64 (f),
  fun G f g => z_aI G 64 (f),
  fun G f g => z_aI G 64 (f),
  fun G f g => z_aQ G 12 39,
  fun G f g => z_aI G 64 (f),
  fun G f g => z_aI G 64 (f),
  fun G f g => z_aI G 64 (f),
  fun G f g => z_aI G 64 (f),
  fun G f g => z_aI G 64 (f),
  fun G f g => z_aI G 64 (f),
  fun G f g => z_aI G 64 (f),
  fun G f g => z_aI G 64 (f),
  fun G f g => z_aI G 64 (f),
  fun G f g => z_aI G 64 (f),
  fun G f g => z_aI G 64 (f),
  fun G f g => z_aI G 64 (f),
  fun G f g => z_aI G 64 (f),
  fun G f g => z_aI G 6 (f),
  fun G f g => .inr (0, [.ref (G.1 54), .ref (G.1 55), .int (f 2), .int (f 3)]),
  fun G f g => z_aI G 12 (f),
  fun G f g => z_aI G 12 (f),
  fun G f g => .inr (9, [.ref (G.1 57), .ref (G.1 67), .ref (G.1 71), .ref (G.1 75), .ref (G.1 108)]),
  fun G f g => .inr (4, [.int (f 0), .ref (G.1 58), .ref (G.1 59), .ref (G.1 60), .int (f 4), .int (f 5), .ref (G.1 61), .ref (G.1 62), .ref (G.1 63), .ref (G.1 64), .ref (G.1 65), .ref (G.1 66)]),
  fun G f g => z_aI G 6 (f),
  fun G f g => z_aI G 6 (f),
  fun G f g => z_aI G 6 (f),
  fun G f g => z_aI G 14 (f),
  fun G f g => z_aI G 14 (f),
  fun G f g => z_aI G 14 (f),
  fun G f g => z_aI G 14 (f),
  fun G f g => z_aI G 14 (f),
  fun G f g => z_aI G 14 (f),
  fun G f g => .inr (8, [.int (f 0), .ref (G.1 68), .ref (G.1 69), .ref (G.1 70)]),
  fun G f g => z_aI G 6 (f),
  fun G f g => z_aI G 6 (f),
  fun G f g => z_aI G 6 (f),
  fun G f g => .inr (2, [.int (f 0), .int (f 1), .ref (G.1 72), .ref (G.1 73), .ref (G.1 74)]),
  fun G f g => z_aJ G 8 (g),
  fun G f g => z_aJ G 14 (g),
  fun G f g => z_aJ G 14 (g),
  fun G f g => .inr (3, [.int (f 0), .ref (G.1 76), .ref (G.1 77), .ref (G.1 78), .ref (G.1 79), .ref (G.1 93), .ref (G.1 106), .ref (G.1 107), .int (f 8)]),
  fun G f g => z_aI G 6 (f),
  fun G f g => z_aI G 6 (f),
  fun G f g => z_aI G 6 (f),
  fun G f g => z_aQ G 13 80,
  fun G f g => z_aI G 64 (f),
  fun G f g => z_aI G 64 (f),
  fun G f g => z_aI G 64 (f),
  fun G f g => z_aI G 64 (f),
  fun G f g => z_aI G 64 (f),
  fun G f g => z_aI G 64 (f),
  fun G f g => z_aI G 64 (f),
  fun G f g => z_aI G 64 (f),
  fun G f g => z_aI G 64 (f),
  fun G f g => z_aI G 64 (f),
  fun G f g => z_aI G 64 (f),
  fun G f g => z_aI G 64 (f),
  fun G f g => z_aI G 64 (f),
  fun G f g => z_aQ G 12 94,
  fun G f g => z_aI G 64 (f),
  fun G f g => z_aI G 64 (f),
  fun G f g => z_aI G 64 (f),
  fun G f g => z_aI G 64 (f),
  fun G f g => z_aI G 64 (f),
  fun G f g => z_aI G 64 (f),
  fun G f g => z_aI G 64 (f),
  fun G f g => z_aI G 64 (f),
  fun G f g => z_aI G 64 (f),
  fun G f g => z_aI G 64 (f),
  fun G f g => z_aI G 64 (f),
  fun G f g => z_aI G 64 (f),
  fun G f g => z_aI G 64 (f),
  fun G f g => z_aI G 6 (f),
  fun G f g => .inr (0, [.ref (G.1 109), .ref (G.1 110), .int (f 2), .int (f 3)]),
  fun G f g => z_aI G 12 (f),
  fun G f g => z_aI G 12 (f),
  fun G f g => .inr (5, [.long (g 0), .int (f 1), .int (f 2), .ref (G.1 112), .ref (G.1 113), .ref (G.1 114), .ref (G.1 115), .ref (G.1 116)]),
  fun G f g => z_aI G 14 (f),
  fun G f g => z_aI G 14 (f),
  fun G f g => z_aI G 14 (f),
  fun G f g => z_aI G 14 (f),
  fun G f g => z_aI G 14 (f),
  fun G f g => .inr (6, [.ref (G.1 118)]),
  fun G f g => z_aI G 28 (f),
  fun G f g => .inr (1, [.int (f 0), .int (f 1), .int (f 2)]),
  fun G f g => .inr (10, [.int (f 0), .long (g 1), .long (g 2), .ref (G.1 121)]),
  fun G f g => z_aB G 40 (f),
  fun G f g => .inr (7, [.ref (G.1 123), .ref (G.1 124), .ref (G.1 125)]),
  fun G f g => z_aI G 4 (f),
  fun G f g => z_aI G 4 (f),
  fun G f g => z_aQ G 4 126,
  fun G f g => z_aI G 24 (f),
  fun G f g => z_aI G 24 (f),
  fun G f g => z_aI G 24 (f),
  fun G f g => z_aI G 24 (f),
  fun G f g => z_aI G 64 (f),
  fun G f g => z_aI G 9 (f)]
def z_cell (G : ZG) (w : ZW) (k : Nat) : va_E := match z_cells[k]? with
  | some h => h G (w.1 k) (w.2 k)
  | none => .inr (0, [])
theorem z_cell_eq {G : ZG} {w w' : ZW} {j : Nat} (h1 : w'.1 j = w.1 j) (h2 : w'.2 j = w.2 j) : z_cell G w' j = z_cell G w j := by
  unfold z_cell
  rw [h1, h2]
def z_ws (G : ZG) (w : ZW) : va_W := (List.range (z_N G)).map (fun k => (G.1 k, z_cell G w k))
def z_A (G : ZG) : Nat → Prop := fun q => ∃ k, k < z_N G ∧ q = G.1 k
def z_I (G : ZG) : Prop := ∀ i j, i < z_N G → j < z_N G → G.1 i = G.1 j → i = j
abbrev z_K (G : ZG) (U : State) : Prop := va_K (z_D G) vwCl (z_tys G) U
abbrev z_H (G : ZG) (w : ZW) (H : Heap) : Prop := va_P (z_D G) vwCl (z_ws G w) H
/-- the script, as it is at U -/
def z_X (G : ZG) (U : State) : Prop := va_X (z_b G) (z_l G) (z_x G) U U.heap ∧ z_b G < U.heap.size ∧ ¬ z_A G (z_b G)
theorem z_Xm {G : ZG} {s U : State} {H : Heap} {locs : List Loc} (hZ : z_X G s) (hS : va_S (z_A G) s.heap H locs) (hvm : s.vm.Alike U.vm) (hU : U.heap = H) : z_X G U := by
  subst hU
  exact ⟨va_X.moved hvm (hZ.1.kept (hS.2.1 _ hZ.2.1 hZ.2.2)), Nat.lt_of_lt_of_le hZ.2.1 hS.1, hZ.2.2⟩
def z_rm (d : Nat) : Room := { frames := d, cells := 0, slots := 0, locals := 48 * d }
def z_Q (G : ZG) (v : Option Value) (w' : ZW) : Array Value → State → Outcome → State → Prop := fun _ st oc t => oc = .returned v ∧ z_H G w' t.heap ∧ va_F (z_A G) st t
theorem z_ws_get {G : ZG} {w : ZW} {k : Nat} (hk : k < z_N G) : (z_ws G w)[k]? = some (G.1 k, z_cell G w k) := by
  unfold z_ws
  rw [List.getElem?_map, List.getElem?_range hk]
  rfl
theorem z_ws_set {G : ZG} {w w' : ZW} {k : Nat} {e : va_E} (h1 : z_cell G w' k = e) (h2 : ∀ j, j ≠ k → z_cell G w' j = z_cell G w j) : (z_ws G w).set k (G.1 k, e) = z_ws G w' := by
  apply List.ext_getElem?
  intro i
  rw [List.getElem?_set]
  by_cases hi : k = i
  · subst hi
    by_cases hk : k < z_N G
    · rw [if_pos rfl, if_pos (by unfold z_ws; simpa using hk), z_ws_get hk, h1]
    · rw [if_pos rfl, if_neg (by unfold z_ws; simpa using hk)]
      symm
      apply List.getElem?_eq_none
      unfold z_ws
      simpa using Nat.le_of_not_lt hk
  · rw [if_neg hi]
    unfold z_ws
    rw [List.getElem?_map, List.getElem?_map]
    by_cases hk : i < z_N G
    · rw [List.getElem?_range hk]
      simp only [Option.map_some]
      rw [h2 i (fun q => hi q.symm)]
    · rw [List.getElem?_eq_none (by simpa using Nat.le_of_not_lt hk)]
      rfl
theorem z_Dd {G : ZG} {w : ZW} (h : z_I G) : va_D (z_A G) (z_ws G w) := by
  have hg : ∀ (k : Nat) (q : Nat × va_E), (z_ws G w)[k]? = some q → k < z_N G ∧ q.1 = G.1 k := by
    intro k q hq
    by_cases hk : k < z_N G
    · rw [z_ws_get hk] at hq
      cases hq
      exact ⟨hk, rfl⟩
    · rw [List.getElem?_eq_none (by unfold z_ws; simpa using Nat.le_of_not_lt hk)] at hq
      cases hq
  refine ⟨fun i j p q hi hj hpq => ?_, fun k q hq => ?_⟩
  · obtain ⟨a1, a2⟩ := hg i p hi
    obtain ⟨b1, b2⟩ := hg j q hj
    exact h i j a1 b1 (by rw [← a2, ← b2]; exact hpq)
  · obtain ⟨a1, a2⟩ := hg k q hq
    exact ⟨k, a1, a2⟩
/-- the code stands at a method of class own, over the world w -/
def zC (G : ZG) (own : String) (B : ByteArray) (mL : Nat) (rt : Option FieldType) (w : ZW) (p : Program) (s : State) (m : MethodId) (args : Array Value) (meth : Method) (c : Code) (H : Heap) (locs : List Loc) : Prop :=
  p.tables.exec = Jvm.exec ∧ c.code = B ∧ c.maxLocals = mL ∧ meth.sig.returnType = rt ∧ meth.locks = false ∧ s.vm.findClass own = some m.cls ∧ (∀ x ∈ zw_tbl, x.before args s = true) ∧ z_K G s ∧ z_H G w H ∧ z_I G ∧ va_S (z_A G) s.heap H locs ∧ z_X G s
/-- from pc, with the locals lv, the stack st, the world w, the method ends, answers v, leaves w' -/
def zA (G : ZG) (l : Launch) (d : Nat) (own : String) (B : ByteArray) (mL : Nat) (rt : Option FieldType) (v : Option Value) (w' : ZW) (pc : Nat) (lv : List (Nat × Value)) (st : List Value) (w : ZW) : Prop :=
  ∀ (p : Program) (e : Env) (s : State) (m : MethodId) (args : Array Value) (below : List Frame) (meth : Method) (c : Code) (H : Heap) (locs : List Loc) (ls : Array Slot),
    zC G own B mL rt w p s m args meth c H locs → lv_has ls mL lv →
    W p l e (z_rm d) s m args below meth c H locs 0 0 (MQ below (z_Q G v w') args s 0 0 (z_A G)) (F0 m pc ls st)
/-- what is computed from here is X, and K says where its answers lead -/
def zR (G : ZG) (l : Launch) (d : Nat) (own : String) (B : ByteArray) (mL : Nat) (rt : Option FieldType) (v : Option Value) (w' : ZW) {α : Type} (K : α → Prop) (pc : Nat) (lv : List (Nat × Value)) (st : List Value) (w : ZW) (X : Option α) : Prop :=
  ∀ o, X = some o → K o → zA G l d own B mL rt v w' pc lv st w
/-- a method's contract: called with as over w it answers v and leaves w' -/
def zM (G : ZG) (l : Launch) (d : Nat) (y : MethodName) (B : ByteArray) (mL : Nat) (rt : Option FieldType) (as : List Value) (w : ZW) (v : Option Value) (w' : ZW) : Prop :=
  Met l y (Cond.code y B mL rt :: zw_tbl) (z_rm d) (va_Pc as (fun U => z_H G w U.heap ∧ z_K G U ∧ z_I G ∧ z_X G U)) (z_Q G v w') 0 0 (z_A G)
theorem zM.of {G : ZG} {l : Launch} {d : Nat} {y : MethodName} {B : ByteArray} {mL : Nat} {rt : Option FieldType} {as : List Value} {w : ZW} {v : Option Value} {w' : ZW} (lv : List (Nat × Value)) (hy : plainName y.cls = true) (hn : (lg_sl as).length ≤ mL) (hlv : lv_args 0 as = lv)
    (h : zA G l d y.cls B mL rt v w' 0 lv [] w) : zM G l d y B mL rt as w v w' := by
  refine Met.ofW (cc := B) (maxL := mL) (ret := rt) hy rfl ?_
  intro p e s m args below meth c s₁ Bo hml hv
  obtain ⟨rfl, hH, hK, hI, hZ⟩ := hv
  have hts : ∀ x ∈ Cond.code y B mL rt :: zw_tbl, x.before as.toArray s = true := atoms_spec Bo.pre
  have hl := lv_entry as hn
  rw [lg_entry_eq]
  generalize (lg_sl as ++ List.replicate (mL - (lg_sl as).length) Slot.unset).toArray = ls at hl ⊢
  rw [hlv] at hl
  exact h p e s m as.toArray below meth c s.heap [] ls ⟨Bo.exec, Bo.bytes, hml, Bo.returns, Bo.notSynchronized, findClass_of_methodNamed Bo.named, fun x hx => hts x (List.mem_cons_of_mem _ hx), hK, hH, hI, va_S.rf, hZ⟩ hl
theorem z_pay {args : Array Value} {s : State} {y : MethodName} {B : ByteArray} {mL : Nat} {rt : Option FieldType} (hts : ∀ x ∈ zw_tbl, x.before args s = true) (hc : Cond.code y B mL rt ∈ zw_tbl) :
    ∀ w ∈ Cond.code y B mL rt :: zw_tbl, ∀ (a' : Array Value) (U : State), s.WarmedH U.vm → w.before a' U = true := by
  intro w hw a' U hW
  have hw2 : w ∈ zw_tbl := by
    rcases List.mem_cons.mp hw with h | h
    · rw [h]; exact hc
    · exact h
  exact word_at hW (good_of_word (List.mem_filter.mp hw2).2) (hts w hw2)
section ZCALL
variable {G : ZG} {l : Launch} {d d1 : Nat} {own : String} {B B1 : ByteArray} {mL mL1 : Nat} {rt rt1 : Option FieldType} {v : Option Value} {w' : ZW} {α ρ : Type} {K : α → Prop} {lv : List (Nat × Value)} {st : List Value} {w : ZW} {X : Option α} {pc : Nat} {Y : Option ρ} {Xk : ρ → Option α}
theorem z_blind {as : List Value} : FrameBlind (va_Pc as (fun U => z_H G w U.heap ∧ z_K G U ∧ z_I G ∧ z_X G U)) := by
  intro a U g mk h
  obtain ⟨h1, h2, h3, h4, h5⟩ := h
  exact ⟨h1, h2, va_K.moved (u := U) (U := U.calling g mk a) (Vm.Alike.refl U.vm) h3, h4, va_X.moved (u := U) (U := U.calling g mk a) (Vm.Alike.refl U.vm) h5.1, h5.2⟩
theorem z_callB {args : Array Value} {s : State} {y : MethodName} {index n : Nat} (hts : ∀ x ∈ zw_tbl, x.before args s = true) (hc : Cond.code y B1 mL1 rt1 ∈ zw_tbl) (hi : Cond.initialized y.cls ∈ zw_tbl) (hlk : Cond.methodLink own index y ∈ zw_tbl)
    (hd : y.cls ≠ "java/lang/invoke/MethodHandle" ∧ y.cls ≠ "java/lang/invoke/VarHandle" ∧ (parseMethodDescriptor y.desc).map (fun d => d.parameters.length) = some n) (hm : mL1 ≤ 29) (hdd : d1 + 1 ≤ d) :
    CallB (z_rm d) s args own index y B1 mL1 rt1 (Cond.code y B1 mL1 rt1 :: zw_tbl) (z_rm d1) 0 0 n := by
  refine ⟨rfl, rfl, hdd, ?_, z_pay hts hc, List.mem_cons_self, hts _ hc, hts _ hi, ⟨hd.1, hd.2.1⟩, fun sig h => ?_, hts _ hlk⟩
  · show 8 + (mL1 + 11) + 48 * d1 ≤ 48 * d
    omega
  · have h2 := hd.2.2
    rw [h] at h2
    exact (Option.some.inj h2).symm
/-- behind a call that has run -/
theorem z_after {p : Program} {e : Env} {s : State} {m : MethodId} {args : Array Value} {below : List Frame} {meth : Method} {c : Code} {H : Heap} {locs : List Loc} {ls : Array Slot} {a : Array Value} {rest st0 : List Value} {v1 : Option Value} {w1 : ZW}
    (C : zC G own B mL rt w p s m args meth c H locs) (hl : lv_has ls mL lv)
    (hr : va_Run p l e (z_rm d) s m args below meth c H locs 0 0 0 0 (F0 m pc ls st0) rest (z_Q G v1 w1 a) (z_A G))
    (k : zA G l d own B mL rt v w' (pc + 3) lv (v1.toList ++ rest) w1) :
    W p l e (z_rm d) s m args below meth c H locs 0 0 (MQ below (z_Q G v w') args s 0 0 (z_A G)) (F0 m pc ls st0) := by
  obtain ⟨hx, hb, hml, hrt, hlk, hown, hts, hK, hP, hI, hS, hZ⟩ := C
  intro T hT X
  obtain ⟨v2, st₀, t, T', L, h0, X', hL, e1, e2, ⟨hv, hH, hz, hk⟩, step⟩ := hr T hT X
  cases hv
  rw [h0] at hz hk
  have hS' : va_S (z_A G) s.heap T'.heap (locs ++ L) := ⟨Nat.le_trans hS.1 (by rw [e1]; exact hz), fun q h1 h2 => by rw [e1, hk q (Nat.lt_of_lt_of_le h1 hS.1) h2]; exact hS.2.1 q h1 h2, fun q hq => by
      rcases List.mem_append.mp hq with h | h
      · exact hS.2.2 q h
      · exact hL q h⟩
  obtain ⟨t2, a1, b1⟩ := k p e s m args below meth c T'.heap (locs ++ L) ls ⟨hx, hb, hml, hrt, hlk, hown, hts, hK, by rw [e1]; exact hH, hI, hS', hZ⟩ hl T' rfl X'
  exact ⟨t2, step t2 a1, b1⟩
theorem z_runS {y : MethodName} {index : Nat} {As rest st0 : List Value} {v1 : Option Value} {w1 : ZW} (n1 : Nat) (hM : zM G l d1 y B1 mL1 rt1 As w v1 w1)
    (hc : Cond.code y B1 mL1 rt1 ∈ zw_tbl) (hi : Cond.initialized y.cls ∈ zw_tbl) (hlk : Cond.methodLink own index y ∈ zw_tbl) (hst : Cond.static y ∈ zw_tbl)
    (hd : y.cls ≠ "java/lang/invoke/MethodHandle" ∧ y.cls ≠ "java/lang/invoke/VarHandle" ∧ (parseMethodDescriptor y.desc).map (fun d => d.parameters.length) = some n1) (hm : mL1 ≤ 29) (hdd : d1 + 1 ≤ d)
    (hn : As.length = n1) (hstack : st0 = As.reverse ++ rest) (hW : (rest.map fun v => v.category).sum ≤ 8) (hdg : decode B pc = .ok (.invokestatic index, 3))
    (k : zA G l d own B mL rt v w' (pc + 3) lv (v1.toList ++ rest) w1) : zA G l d own B mL rt v w' pc lv st0 w := by
  intro p e s m args below meth c H locs ls C hl
  have C2 := C
  obtain ⟨hx, hb, hml, hrt, hlk2, hown, hts, hK, hP, hI, hS, hZ⟩ := C2
  refine z_after (a := As.toArray) (rest := rest) C hl ?_ k
  exact va_runS (Ts := zw_tbl) (cc := B) (nL := mL) (n := n1) (bytes := B1) (maxL := mL1) (ret := rt1) ⟨hx, hb, hml, hown, hts⟩ hM ⟨z_callB hts hc hi hlk hd hm hdd, hts _ hst⟩ ⟨z_blind, fun U hU hW => ⟨rfl, by rw [hU]; exact hP, va_K.moved hW.alike hK, hI, z_Xm hZ hS hW.alike hU⟩⟩ rfl hn hl.1 hstack (lv_room hW) hdg ⟨Nat.le_refl 0, Nat.le_refl 0⟩
theorem z_runV {y : MethodName} {index ko ci : Nat} {q : vw_C} {fs : List Value} {As rest st0 : List Value} {v1 : Option Value} {w1 : ZW} (n1 : Nat) (hM : zM G l d1 y B1 mL1 rt1 (.ref (G.1 ko) :: As) w v1 w1)
    (hko : ko < z_N G) (hcell : z_cell G w ko = .inr (ci, fs)) (hq : vwCl[ci]? = some q) (hqc : q.1 = y.cls)
    (hc : Cond.code y B1 mL1 rt1 ∈ zw_tbl) (hi : Cond.initialized y.cls ∈ zw_tbl) (hlk : Cond.methodLink own index y ∈ zw_tbl) (hin : Cond.instanceMethod y ∈ zw_tbl) (hse : Cond.selects y.cls y y ∈ zw_tbl)
    (hd : y.cls ≠ "java/lang/invoke/MethodHandle" ∧ y.cls ≠ "java/lang/invoke/VarHandle" ∧ (parseMethodDescriptor y.desc).map (fun d => d.parameters.length) = some n1) (hm : mL1 ≤ 29) (hdd : d1 + 1 ≤ d)
    (hn : As.length = n1) (hstack : st0 = As.reverse ++ .ref (G.1 ko) :: rest) (hW : (rest.map fun v => v.category).sum ≤ 8) (hdg : decode B pc = .ok (.invokevirtual index, 3))
    (k : zA G l d own B mL rt v w' (pc + 3) lv (v1.toList ++ rest) w1) : zA G l d own B mL rt v w' pc lv st0 w := by
  intro p e s m args below meth c H locs ls C hl
  have C2 := C
  obtain ⟨hx, hb, hml, hrt, hlk2, hown, hts, hK, hP, hI, hS, hZ⟩ := C2
  refine z_after (a := (Value.ref (G.1 ko) :: As).toArray) (rest := rest) C hl ?_ k
  have hg : (z_ws G w)[ko]? = some (G.1 ko, .inr (ci, fs)) := by rw [z_ws_get hko, hcell]
  have hrecv := va_recv hK hP hq hg
  rw [hqc] at hrecv
  exact va_runV (Ts := zw_tbl) (cc := B) (nL := mL) (n := n1) (bytes := B1) (maxL := mL1) (ret := rt1) (C := y.cls) ⟨hx, hb, hml, hown, hts⟩ hM ⟨z_callB hts hc hi hlk hd hm hdd, hts _ hin, hts _ hse⟩ ⟨z_blind, hrecv, fun U hU hW => ⟨rfl, by rw [hU]; exact hP, va_K.moved hW.alike hK, hI, z_Xm hZ hS hW.alike hU⟩⟩ rfl hn hl.1 hstack (lv_room hW) hdg ⟨Nat.le_refl 0, Nat.le_refl 0⟩
end ZCALL
theorem ce_0 (G : ZG) (w : ZW) : z_cell G w 0 = .inr (11, [.ref (G.1 1), .ref (G.1 56), .int (w.1 0 2), .ref (G.1 111), .ref (G.1 117), .ref (G.1 119), .ref (G.1 120), .ref (G.1 122)]) := rfl
theorem zl_0 {G : ZG} : 0 < z_N G := Nat.lt_of_lt_of_le (m := 131) (by decide) (Nat.le_add_right _ _)
theorem ce_1 (G : ZG) (w : ZW) : z_cell G w 1 = .inr (9, [.ref (G.1 2), .ref (G.1 12), .ref (G.1 16), .ref (G.1 20), .ref (G.1 53)]) := rfl
theorem zl_1 {G : ZG} : 1 < z_N G := Nat.lt_of_lt_of_le (m := 131) (by decide) (Nat.le_add_right _ _)
theorem ce_2 (G : ZG) (w : ZW) : z_cell G w 2 = .inr (4, [.int (w.1 2 0), .ref (G.1 3), .ref (G.1 4), .ref (G.1 5), .int (w.1 2 4), .int (w.1 2 5), .ref (G.1 6), .ref (G.1 7), .ref (G.1 8), .ref (G.1 9), .ref (G.1 10), .ref (G.1 11)]) := rfl
theorem zl_2 {G : ZG} : 2 < z_N G := Nat.lt_of_lt_of_le (m := 131) (by decide) (Nat.le_add_right _ _)
theorem ce_3 (G : ZG) (w : ZW) : z_cell G w 3 = z_aI G 6 (w.1 3) := rfl
theorem zl_3 {G : ZG} : 3 < z_N G := Nat.lt_of_lt_of_le (m := 131) (by decide) (Nat.le_add_right _ _)
theorem ce_4 (G : ZG) (w : ZW) : z_cell G w 4 = z_aI G 6 (w.1 4) := rfl
theorem zl_4 {G : ZG} : 4 < z_N G := Nat.lt_of_lt_of_le (m := 131) (by decide) (Nat.le_add_right _ _)
theorem ce_5 (G : ZG) (w : ZW) : z_cell G w 5 = z_aI G 6 (w.1 5) := rfl
theorem zl_5 {G : ZG} : 5 < z_N G := Nat.lt_of_lt_of_le (m := 131) (by decide) (Nat.le_add_right _ _)
theorem ce_6 (G : ZG) (w : ZW) : z_cell G w 6 = z_aI G 14 (w.1 6) := rfl
theorem zl_6 {G : ZG} : 6 < z_N G := Nat.lt_of_lt_of_le (m := 131) (by decide) (Nat.le_add_right _ _)
theorem ce_7 (G : ZG) (w : ZW) : z_cell G w 7 = z_aI G 14 (w.1 7) := rfl
theorem zl_7 {G : ZG} : 7 < z_N G := Nat.lt_of_lt_of_le (m := 131) (by decide) (Nat.le_add_right _ _)
theorem ce_8 (G : ZG) (w : ZW) : z_cell G w 8 = z_aI G 14 (w.1 8) := rfl
theorem zl_8 {G : ZG} : 8 < z_N G := Nat.lt_of_lt_of_le (m := 131) (by decide) (Nat.le_add_right _ _)
theorem ce_9 (G : ZG) (w : ZW) : z_cell G w 9 = z_aI G 14 (w.1 9) := rfl
theorem zl_9 {G : ZG} : 9 < z_N G := Nat.lt_of_lt_of_le (m := 131) (by decide) (Nat.le_add_right _ _)
theorem ce_10 (G : ZG) (w : ZW) : z_cell G w 10 = z_aI G 14 (w.1 10) := rfl
theorem zl_10 {G : ZG} : 10 < z_N G := Nat.lt_of_lt_of_le (m := 131) (by decide) (Nat.le_add_right _ _)
theorem ce_11 (G : ZG) (w : ZW) : z_cell G w 11 = z_aI G 14 (w.1 11) := rfl
theorem zl_11 {G : ZG} : 11 < z_N G := Nat.lt_of_lt_of_le (m := 131) (by decide) (Nat.le_add_right _ _)
theorem ce_12 (G : ZG) (w : ZW) : z_cell G w 12 = .inr (8, [.int (w.1 12 0), .ref (G.1 13), .ref (G.1 14), .ref (G.1 15)]) := rfl
theorem zl_12 {G : ZG} : 12 < z_N G := Nat.lt_of_lt_of_le (m := 131) (by decide) (Nat.le_add_right _ _)
theorem ce_13 (G : ZG) (w : ZW) : z_cell G w 13 = z_aI G 6 (w.1 13) := rfl
theorem zl_13 {G : ZG} : 13 < z_N G := Nat.lt_of_lt_of_le (m := 131) (by decide) (Nat.le_add_right _ _)
theorem ce_14 (G : ZG) (w : ZW) : z_cell G w 14 = z_aI G 6 (w.1 14) := rfl
theorem zl_14 {G : ZG} : 14 < z_N G := Nat.lt_of_lt_of_le (m := 131) (by decide) (Nat.le_add_right _ _)
theorem ce_15 (G : ZG) (w : ZW) : z_cell G w 15 = z_aI G 6 (w.1 15) := rfl
theorem zl_15 {G : ZG} : 15 < z_N G := Nat.lt_of_lt_of_le (m := 131) (by decide) (Nat.le_add_right _ _)
theorem ce_16 (G : ZG) (w : ZW) : z_cell G w 16 = .inr (2, [.int (w.1 16 0), .int (w.1 16 1), .ref (G.1 17), .ref (G.1 18), .ref (G.1 19)]) := rfl
theorem zl_16 {G : ZG} : 16 < z_N G := Nat.lt_of_lt_of_le (m := 131) (by decide) (Nat.le_add_right _ _)
theorem ce_17 (G : ZG) (w : ZW) : z_cell G w 17 = z_aJ G 8 (w.2 17) := rfl
theorem zl_17 {G : ZG} : 17 < z_N G := Nat.lt_of_lt_of_le (m := 131) (by decide) (Nat.le_add_right _ _)
theorem ce_18 (G : ZG) (w : ZW) : z_cell G w 18 = z_aJ G 14 (w.2 18) := rfl
theorem zl_18 {G : ZG} : 18 < z_N G := Nat.lt_of_lt_of_le (m := 131) (by decide) (Nat.le_add_right _ _)
theorem ce_19 (G : ZG) (w : ZW) : z_cell G w 19 = z_aJ G 14 (w.2 19) := rfl
theorem zl_19 {G : ZG} : 19 < z_N G := Nat.lt_of_lt_of_le (m := 131) (by decide) (Nat.le_add_right _ _)
theorem ce_20 (G : ZG) (w : ZW) : z_cell G w 20 = .inr (3, [.int (w.1 20 0), .ref (G.1 21), .ref (G.1 22), .ref (G.1 23), .ref (G.1 24), .ref (G.1 38), .ref (G.1 51), .ref (G.1 52), .int (w.1 20 8)]) := rfl
theorem zl_20 {G : ZG} : 20 < z_N G := Nat.lt_of_lt_of_le (m := 131) (by decide) (Nat.le_add_right _ _)
theorem ce_21 (G : ZG) (w : ZW) : z_cell G w 21 = z_aI G 6 (w.1 21) := rfl
theorem zl_21 {G : ZG} : 21 < z_N G := Nat.lt_of_lt_of_le (m := 131) (by decide) (Nat.le_add_right _ _)
theorem ce_22 (G : ZG) (w : ZW) : z_cell G w 22 = z_aI G 6 (w.1 22) := rfl
theorem zl_22 {G : ZG} : 22 < z_N G := Nat.lt_of_lt_of_le (m := 131) (by decide) (Nat.le_add_right _ _)
theorem ce_23 (G : ZG) (w : ZW) : z_cell G w 23 = z_aI G 6 (w.1 23) := rfl
theorem zl_23 {G : ZG} : 23 < z_N G := Nat.lt_of_lt_of_le (m := 131) (by decide) (Nat.le_add_right _ _)
theorem ce_24 (G : ZG) (w : ZW) : z_cell G w 24 = z_aQ G 13 25 := rfl
theorem zl_24 {G : ZG} : 24 < z_N G := Nat.lt_of_lt_of_le (m := 131) (by decide) (Nat.le_add_right _ _)
theorem ce_25 (G : ZG) (w : ZW) : z_cell G w 25 = z_aI G 64 (w.1 25) := rfl
theorem zl_25 {G : ZG} : 25 < z_N G := Nat.lt_of_lt_of_le (m := 131) (by decide) (Nat.le_add_right _ _)
theorem ce_26 (G : ZG) (w : ZW) : z_cell G w 26 = z_aI G 64 (w.1 26) := rfl
theorem zl_26 {G : ZG} : 26 < z_N G := Nat.lt_of_lt_of_le (m := 131) (by decide) (Nat.le_add_right _ _)
theorem ce_27 (G : ZG) (w : ZW) : z_cell G w 27 = z_aI G 64 (w.1 27) := rfl
theorem zl_27 {G : ZG} : 27 < z_N G := Nat.lt_of_lt_of_le (m := 131) (by decide) (Nat.le_add_right _ _)
theorem ce_28 (G : ZG) (w : ZW) : z_cell G w 28 = z_aI G 64 (w.1 28) := rfl
theorem zl_28 {G : ZG} : 28 < z_N G := Nat.lt_of_lt_of_le (m := 131) (by decide) (Nat.le_add_right _ _)
theorem ce_29 (G : ZG) (w : ZW) : z_cell G w 29 = z_aI G 64 (w.1 29) := rfl
theorem zl_29 {G : ZG} : 29 < z_N G := Nat.lt_of_lt_of_le (m := 131) (by decide) (Nat.le_add_right _ _)
theorem ce_30 (G : ZG) (w : ZW) : z_cell G w 30 = z_aI G 64 (w.1 30) := rfl
theorem zl_30 {G : ZG} : 30 < z_N G := Nat.lt_of_lt_of_le (m := 131) (by decide) (Nat.le_add_right _ _)
theorem ce_31 (G : ZG) (w : ZW) : z_cell G w 31 = z_aI G 64 (w.1 31) := rfl
theorem zl_31 {G : ZG} : 31 < z_N G := Nat.lt_of_lt_of_le (m := 131) (by decide) (Nat.le_add_right _ _)
theorem ce_32 (G : ZG) (w : ZW) : z_cell G w 32 = z_aI G 64 (w.1 32) := rfl
theorem zl_32 {G : ZG} : 32 < z_N G := Nat.lt_of_lt_of_le (m := 131) (by decide) (Nat.le_add_right _ _)
theorem ce_33 (G : ZG) (w : ZW) : z_cell G w 33 = z_aI G 64 (w.1 33) := rfl
theorem zl_33 {G : ZG} : 33 < z_N G := Nat.lt_of_lt_of_le (m := 131) (by decide) (Nat.le_add_right _ _)
theorem ce_34 (G : ZG) (w : ZW) : z_cell G w 34 = z_aI G 64 (w.1 34) := rfl
theorem zl_34 {G : ZG} : 34 < z_N G := Nat.lt_of_lt_of_le (m := 131) (by decide) (Nat.le_add_right _ _)
theorem ce_35 (G : ZG) (w : ZW) : z_cell G w 35 = z_aI G 64 (w.1 35) := rfl
theorem zl_35 {G : ZG} : 35 < z_N G := Nat.lt_of_lt_of_le (m := 131) (by decide) (Nat.le_add_right _ _)
theorem ce_36 (G : ZG) (w : ZW) : z_cell G w 36 = z_aI G 64 (w.1 36) := rfl
theorem zl_36 {G : ZG} : 36 < z_N G := Nat.lt_of_lt_of_le (m := 131) (by decide) (Nat.le_add_right _ _)
theorem ce_37 (G : ZG) (w : ZW) : z_cell G w 37 = z_aI G 64 (w.1 37) := rfl
theorem zl_37 {G : ZG} : 37 < z_N G := Nat.lt_of_lt_of_le (m := 131) (by decide) (Nat.le_add_right _ _)
theorem ce_38 (G : ZG) (w : ZW) : z_cell G w 38 = z_aQ G 12 39 := rfl
theorem zl_38 {G : ZG} : 38 < z_N G := Nat.lt_of_lt_of_le (m := 131) (by decide) (Nat.le_add_right _ _)
theorem ce_39 (G : ZG) (w : ZW) : z_cell G w 39 = z_aI G 64 (w.1 39) := rfl
theorem zl_39 {G : ZG} : 39 < z_N G := Nat.lt_of_lt_of_le (m := 131) (by decide) (Nat.le_add_right _ _)
theorem ce_40 (G : ZG) (w : ZW) : z_cell G w 40 = z_aI G 64 (w.1 40) := rfl
theorem zl_40 {G : ZG} : 40 < z_N G := Nat.lt_of_lt_of_le (m := 131) (by decide) (Nat.le_add_right _ _)
theorem ce_41 (G : ZG) (w : ZW) : z_cell G w 41 = z_aI G 64 (w.1 41) := rfl
theorem zl_41 {G : ZG} : 41 < z_N G := Nat.lt_of_lt_of_le (m := 131) (by decide) (Nat.le_add_right _ _)
theorem ce_42 (G : ZG) (w : ZW) : z_cell G w 42 = z_aI G 64 (w.1 42) := rfl
theorem zl_42 {G : ZG} : 42 < z_N G := Nat.lt_of_lt_of_le (m := 131) (by decide) (Nat.le_add_right _ _)
theorem ce_43 (G : ZG) (w : ZW) : z_cell G w 43 = z_aI G 64 (w.1 43) := rfl
theorem zl_43 {G : ZG} : 43 < z_N G := Nat.lt_of_lt_of_le (m := 131) (by decide) (Nat.le_add_right _ _)
theorem ce_44 (G : ZG) (w : ZW) : z_cell G w 44 = z_aI G 64 (w.1 44) := rfl
theorem zl_44 {G : ZG} : 44 < z_N G := Nat.lt_of_lt_of_le (m := 131) (by decide) (Nat.le_add_right _ _)
theorem ce_45 (G : ZG) (w : ZW) : z_cell G w 45 = z_aI G 64 (w.1 45) := rfl
theorem zl_45 {G : ZG} : 45 < z_N G := Nat.lt_of_lt_of_le (m := 131) (by decide) (Nat.le_add_right _ _)
theorem ce_46 (G : ZG) (w : ZW) : z_cell G w 46 = z_aI G 64 (w.1 46) := rfl
theorem zl_46 {G : ZG} : 46 < z_N G := Nat.lt_of_lt_of_le (m := 131) (by decide) (Nat.le_add_right _ _)
theorem ce_47 (G : ZG) (w : ZW) : z_cell G w 47 = z_aI G 64 (w.1 47) := rfl
theorem zl_47 {G : ZG} : 47 < z_N G := Nat.lt_of_lt_of_le (m := 131) (by decide) (Nat.le_add_right _ _)
theorem ce_48 (G : ZG) (w : ZW) : z_cell G w 48 = z_aI G 64 (w.1 48) := rfl
theorem zl_48 {G : ZG} : 48 < z_N G := Nat.lt_of_lt_of_le (m := 131) (by decide) (Nat.le_add_right _ _)
theorem ce_49 (G : ZG) (w : ZW) : z_cell G w 49 = z_aI G 64 (w.1 49) := rfl
theorem zl_49 {G : ZG} : 49 < z_N G := Nat.lt_of_lt_of_le (m := 131) (by decide) (Nat.le_add_right _ _)
theorem ce_50 (G : ZG) (w : ZW) : z_cell G w 50 = z_aI G 64 (w.1 50) := rfl
theorem zl_50 {G : ZG} : 50 < z_N G := Nat.lt_of_lt_of_le (m := 131) (by decide) (Nat.le_add_right _ _)
theorem ce_51 (G : ZG) (w : ZW) : z_cell G w 51 = z_aI G 64 (w.1 51) := rfl
theorem zl_51 {G : ZG} : 51 < z_N G := Nat.lt_of_lt_of_le (m := 131) (by decide) (Nat.le_add_right _ _)
theorem ce_52 (G : ZG) (w : ZW) : z_cell G w 52 = z_aI G 6 (w.1 52) := rfl
theorem zl_52 {G : ZG} : 52 < z_N G := Nat.lt_of_lt_of_le (m := 131) (by decide) (Nat.le_add_right _ _)
theorem ce_53 (G : ZG) (w : ZW) : z_cell G w 53 = .inr (0, [.ref (G.1 54), .ref (G.1 55), .int (w.1 53 2), .int (w.1 53 3)]) := rfl
theorem zl_53 {G : ZG} : 53 < z_N G := Nat.lt_of_lt_of_le (m := 131) (by decide) (Nat.le_add_right _ _)
theorem ce_54 (G : ZG) (w : ZW) : z_cell G w 54 = z_aI G 12 (w.1 54) := rfl
theorem zl_54 {G : ZG} : 54 < z_N G := Nat.lt_of_lt_of_le (m := 131) (by decide) (Nat.le_add_right _ _)
theorem ce_55 (G : ZG) (w : ZW) : z_cell G w 55 = z_aI G 12 (w.1 55) := rfl
theorem zl_55 {G : ZG} : 55 < z_N G := Nat.lt_of_lt_of_le (m := 131) (by decide) (Nat.le_add_right _ _)
theorem ce_56 (G : ZG) (w : ZW) : z_cell G w 56 = .inr (9, [.ref (G.1 57), .ref (G.1 67), .ref (G.1 71), .ref (G.1 75), .ref (G.1 108)]) := rfl
theorem zl_56 {G : ZG} : 56 < z_N G := Nat.lt_of_lt_of_le (m := 131) (by decide) (Nat.le_add_right _ _)
theorem ce_57 (G : ZG) (w : ZW) : z_cell G w 57 = .inr (4, [.int (w.1 57 0), .ref (G.1 58), .ref (G.1 59), .ref (G.1 60), .int (w.1 57 4), .int (w.1 57 5), .ref (G.1 61), .ref (G.1 62), .ref (G.1 63), .ref (G.1 64), .ref (G.1 65), .ref (G.1 66)]) := rfl
theorem zl_57 {G : ZG} : 57 < z_N G := Nat.lt_of_lt_of_le (m := 131) (by decide) (Nat.le_add_right _ _)
theorem ce_58 (G : ZG) (w : ZW) : z_cell G w 58 = z_aI G 6 (w.1 58) := rfl
theorem zl_58 {G : ZG} : 58 < z_N G := Nat.lt_of_lt_of_le (m := 131) (by decide) (Nat.le_add_right _ _)
theorem ce_59 (G : ZG) (w : ZW) : z_cell G w 59 = z_aI G 6 (w.1 59) := rfl
theorem zl_59 {G : ZG} : 59 < z_N G := Nat.lt_of_lt_of_le (m := 131) (by decide) (Nat.le_add_right _ _)
theorem ce_60 (G : ZG) (w : ZW) : z_cell G w 60 = z_aI G 6 (w.1 60) := rfl
theorem zl_60 {G : ZG} : 60 < z_N G := Nat.lt_of_lt_of_le (m := 131) (by decide) (Nat.le_add_right _ _)
theorem ce_61 (G : ZG) (w : ZW) : z_cell G w 61 = z_aI G 14 (w.1 61) := rfl
theorem zl_61 {G : ZG} : 61 < z_N G := Nat.lt_of_lt_of_le (m := 131) (by decide) (Nat.le_add_right _ _)
theorem ce_62 (G : ZG) (w : ZW) : z_cell G w 62 = z_aI G 14 (w.1 62) := rfl
theorem zl_62 {G : ZG} : 62 < z_N G := Nat.lt_of_lt_of_le (m := 131) (by decide) (Nat.le_add_right _ _)
theorem ce_63 (G : ZG) (w : ZW) : z_cell G w 63 = z_aI G 14 (w.1 63) := rfl
theorem zl_63 {G : ZG} : 63 < z_N G := Nat.lt_of_lt_of_le (m := 131) (by decide) (Nat.le_add_right _ _)
theorem ce_64 (G : ZG) (w : ZW) : z_cell G w 64 = z_aI G 14 (w.1 64) := rfl
theorem zl_64 {G : ZG} : 64 < z_N G := Nat.lt_of_lt_of_le (m := 131) (by decide) (Nat.le_add_right _ _)
theorem ce_65 (G : ZG) (w : ZW) : z_cell G w 65 = z_aI G 14 (w.1 65) := rfl
theorem zl_65 {G : ZG} : 65 < z_N G := Nat.lt_of_lt_of_le (m := 131) (by decide) (Nat.le_add_right _ _)
theorem ce_66 (G : ZG) (w : ZW) : z_cell G w 66 = z_aI G 14 (w.1 66) := rfl
theorem zl_66 {G : ZG} : 66 < z_N G := Nat.lt_of_lt_of_le (m := 131) (by decide) (Nat.le_add_right _ _)
theorem ce_67 (G : ZG) (w : ZW) : z_cell G w 67 = .inr (8, [.int (w.1 67 0), .ref (G.1 68), .ref (G.1 69), .ref (G.1 70)]) := rfl
theorem zl_67 {G : ZG} : 67 < z_N G := Nat.lt_of_lt_of_le (m := 131) (by decide) (Nat.le_add_right _ _)
theorem ce_68 (G : ZG) (w : ZW) : z_cell G w 68 = z_aI G 6 (w.1 68) := rfl
theorem zl_68 {G : ZG} : 68 < z_N G := Nat.lt_of_lt_of_le (m := 131) (by decide) (Nat.le_add_right _ _)
theorem ce_69 (G : ZG) (w : ZW) : z_cell G w 69 = z_aI G 6 (w.1 69) := rfl
theorem zl_69 {G : ZG} : 69 < z_N G := Nat.lt_of_lt_of_le (m := 131) (by decide) (Nat.le_add_right _ _)
theorem ce_70 (G : ZG) (w : ZW) : z_cell G w 70 = z_aI G 6 (w.1 70) := rfl
theorem zl_70 {G : ZG} : 70 < z_N G := Nat.lt_of_lt_of_le (m := 131) (by decide) (Nat.le_add_right _ _)
theorem ce_71 (G : ZG) (w : ZW) : z_cell G w 71 = .inr (2, [.int (w.1 71 0), .int (w.1 71 1), .ref (G.1 72), .ref (G.1 73), .ref (G.1 74)]) := rfl
theorem zl_71 {G : ZG} : 71 < z_N G := Nat.lt_of_lt_of_le (m := 131) (by decide) (Nat.le_add_right _ _)
theorem ce_72 (G : ZG) (w : ZW) : z_cell G w 72 = z_aJ G 8 (w.2 72) := rfl
theorem zl_72 {G : ZG} : 72 < z_N G := Nat.lt_of_lt_of_le (m := 131) (by decide) (Nat.le_add_right _ _)
theorem ce_73 (G : ZG) (w : ZW) : z_cell G w 73 = z_aJ G 14 (w.2 73) := rfl
theorem zl_73 {G : ZG} : 73 < z_N G := Nat.lt_of_lt_of_le (m := 131) (by decide) (Nat.le_add_right _ _)
theorem ce_74 (G : ZG) (w : ZW) : z_cell G w 74 = z_aJ G 14 (w.2 74) := rfl
theorem zl_74 {G : ZG} : 74 < z_N G := Nat.lt_of_lt_of_le (m := 131) (by decide) (Nat.le_add_right _ _)
theorem ce_75 (G : ZG) (w : ZW) : z_cell G w 75 = .inr (3, [.int (w.1 75 0), .ref (G.1 76), .ref (G.1 77), .ref (G.1 78), .ref (G.1 79), .ref (G.1 93), .ref (G.1 106), .ref (G.1 107), .int (w.1 75 8)]) := rfl
theorem zl_75 {G : ZG} : 75 < z_N G := Nat.lt_of_lt_of_le (m := 131) (by decide) (Nat.le_add_right _ _)
theorem ce_76 (G : ZG) (w : ZW) : z_cell G w 76 = z_aI G 6 (w.1 76) := rfl
theorem zl_76 {G : ZG} : 76 < z_N G := Nat.lt_of_lt_of_le (m := 131) (by decide) (Nat.le_add_right _ _)
theorem ce_77 (G : ZG) (w : ZW) : z_cell G w 77 = z_aI G 6 (w.1 77) := rfl
theorem zl_77 {G : ZG} : 77 < z_N G := Nat.lt_of_lt_of_le (m := 131) (by decide) (Nat.le_add_right _ _)
theorem ce_78 (G : ZG) (w : ZW) : z_cell G w 78 = z_aI G 6 (w.1 78) := rfl
theorem zl_78 {G : ZG} : 78 < z_N G := Nat.lt_of_lt_of_le (m := 131) (by decide) (Nat.le_add_right _ _)
theorem ce_79 (G : ZG) (w : ZW) : z_cell G w 79 = z_aQ G 13 80 := rfl
theorem zl_79 {G : ZG} : 79 < z_N G := Nat.lt_of_lt_of_le (m := 131) (by decide) (Nat.le_add_right _ _)
theorem ce_80 (G : ZG) (w : ZW) : z_cell G w 80 = z_aI G 64 (w.1 80) := rfl
theorem zl_80 {G : ZG} : 80 < z_N G := Nat.lt_of_lt_of_le (m := 131) (by decide) (Nat.le_add_right _ _)
theorem ce_81 (G : ZG) (w : ZW) : z_cell G w 81 = z_aI G 64 (w.1 81) := rfl
theorem zl_81 {G : ZG} : 81 < z_N G := Nat.lt_of_lt_of_le (m := 131) (by decide) (Nat.le_add_right _ _)
theorem ce_82 (G : ZG) (w : ZW) : z_cell G w 82 = z_aI G 64 (w.1 82) := rfl
theorem zl_82 {G : ZG} : 82 < z_N G := Nat.lt_of_lt_of_le (m := 131) (by decide) (Nat.le_add_right _ _)
theorem ce_83 (G : ZG) (w : ZW) : z_cell G w 83 = z_aI G 64 (w.1 83) := rfl
theorem zl_83 {G : ZG} : 83 < z_N G := Nat.lt_of_lt_of_le (m := 131) (by decide) (Nat.le_add_right _ _)
theorem ce_84 (G : ZG) (w : ZW) : z_cell G w 84 = z_aI G 64 (w.1 84) := rfl
theorem zl_84 {G : ZG} : 84 < z_N G := Nat.lt_of_lt_of_le (m := 131) (by decide) (Nat.le_add_right _ _)
theorem ce_85 (G : ZG) (w : ZW) : z_cell G w 85 = z_aI G 64 (w.1 85) := rfl
theorem zl_85 {G : ZG} : 85 < z_N G := Nat.lt_of_lt_of_le (m := 131) (by decide) (Nat.le_add_right _ _)
theorem ce_86 (G : ZG) (w : ZW) : z_cell G w 86 = z_aI G 64 (w.1 86) := rfl
theorem zl_86 {G : ZG} : 86 < z_N G := Nat.lt_of_lt_of_le (m := 131) (by decide) (Nat.le_add_right _ _)
theorem ce_87 (G : ZG) (w : ZW) : z_cell G w 87 = z_aI G 64 (w.1 87) := rfl
theorem zl_87 {G : ZG} : 87 < z_N G := Nat.lt_of_lt_of_le (m := 131) (by decide) (Nat.le_add_right _ _)
theorem ce_88 (G : ZG) (w : ZW) : z_cell G w 88 = z_aI G 64 (w.1 88) := rfl
theorem zl_88 {G : ZG} : 88 < z_N G := Nat.lt_of_lt_of_le (m := 131) (by decide) (Nat.le_add_right _ _)
theorem ce_89 (G : ZG) (w : ZW) : z_cell G w 89 = z_aI G 64 (w.1 89) := rfl
theorem zl_89 {G : ZG} : 89 < z_N G := Nat.lt_of_lt_of_le (m := 131) (by decide) (Nat.le_add_right _ _)
theorem ce_90 (G : ZG) (w : ZW) : z_cell G w 90 = z_aI G 64 (w.1 90) := rfl
theorem zl_90 {G : ZG} : 90 < z_N G := Nat.lt_of_lt_of_le (m := 131) (by decide) (Nat.le_add_right _ _)
theorem ce_91 (G : ZG) (w : ZW) : z_cell G w 91 = z_aI G 64 (w.1 91) := rfl
theorem zl_91 {G : ZG} : 91 < z_N G := Nat.lt_of_lt_of_le (m := 131) (by decide) (Nat.le_add_right _ _)
theorem ce_92 (G : ZG) (w : ZW) : z_cell G w 92 = z_aI G 64 (w.1 92) := rfl
theorem zl_92 {G : ZG} : 92 < z_N G := Nat.lt_of_lt_of_le (m := 131) (by decide) (Nat.le_add_right _ _)
theorem ce_93 (G : ZG) (w : ZW) : z_cell G w 93 = z_aQ G 12 94 := rfl
theorem zl_93 {G : ZG} : 93 < z_N G := Nat.lt_of_lt_of_le (m := 131) (by decide) (Nat.le_add_right _ _)
theorem ce_94 (G : ZG) (w : ZW) : z_cell G w 94 = z_aI G 64 (w.1 94) := rfl
theorem zl_94 {G : ZG} : 94 < z_N G := Nat.lt_of_lt_of_le (m := 131) (by decide) (Nat.le_add_right _ _)
theorem ce_95 (G : ZG) (w : ZW) : z_cell G w 95 = z_aI G 64 (w.1 95) := rfl
theorem zl_95 {G : ZG} : 95 < z_N G := Nat.lt_of_lt_of_le (m := 131) (by decide) (Nat.le_add_right _ _)
theorem ce_96 (G : ZG) (w : ZW) : z_cell G w 96 = z_aI G 64 (w.1 96) := rfl
theorem zl_96 {G : ZG} : 96 < z_N G := Nat.lt_of_lt_of_le (m := 131) (by decide) (Nat.le_add_right _ _)
theorem ce_97 (G : ZG) (w : ZW) : z_cell G w 97 = z_aI G 64 (w.1 97) := rfl
theorem zl_97 {G : ZG} : 97 < z_N G := Nat.lt_of_lt_of_le (m := 131) (by decide) (Nat.le_add_right _ _)
theorem ce_98 (G : ZG) (w : ZW) : z_cell G w 98 = z_aI G 64 (w.1 98) := rfl
theorem zl_98 {G : ZG} : 98 < z_N G := Nat.lt_of_lt_of_le (m := 131) (by decide) (Nat.le_add_right _ _)
theorem ce_99 (G : ZG) (w : ZW) : z_cell G w 99 = z_aI G 64 (w.1 99) := rfl
theorem zl_99 {G : ZG} : 99 < z_N G := Nat.lt_of_lt_of_le (m := 131) (by decide) (Nat.le_add_right _ _)
theorem ce_100 (G : ZG) (w : ZW) : z_cell G w 100 = z_aI G 64 (w.1 100) := rfl
theorem zl_100 {G : ZG} : 100 < z_N G := Nat.lt_of_lt_of_le (m := 131) (by decide) (Nat.le_add_right _ _)
theorem ce_101 (G : ZG) (w : ZW) : z_cell G w 101 = z_aI G 64 (w.1 101) := rfl
theorem zl_101 {G : ZG} : 101 < z_N G := Nat.lt_of_lt_of_le (m := 131) (by decide) (Nat.le_add_right _ _)
theorem ce_102 (G : ZG) (w : ZW) : z_cell G w 102 = z_aI G 64 (w.1 102) := rfl
theorem zl_102 {G : ZG} : 102 < z_N G := Nat.lt_of_lt_of_le (m := 131) (by decide) (Nat.le_add_right _ _)
theorem ce_103 (G : ZG) (w : ZW) : z_cell G w 103 = z_aI G 64 (w.1 103) := rfl
theorem zl_103 {G : ZG} : 103 < z_N G := Nat.lt_of_lt_of_le (m := 131) (by decide) (Nat.le_add_right _ _)
theorem ce_104 (G : ZG) (w : ZW) : z_cell G w 104 = z_aI G 64 (w.1 104) := rfl
theorem zl_104 {G : ZG} : 104 < z_N G := Nat.lt_of_lt_of_le (m := 131) (by decide) (Nat.le_add_right _ _)
theorem ce_105 (G : ZG) (w : ZW) : z_cell G w 105 = z_aI G 64 (w.1 105) := rfl
theorem zl_105 {G : ZG} : 105 < z_N G := Nat.lt_of_lt_of_le (m := 131) (by decide) (Nat.le_add_right _ _)
theorem ce_106 (G : ZG) (w : ZW) : z_cell G w 106 = z_aI G 64 (w.1 106) := rfl
theorem zl_106 {G : ZG} : 106 < z_N G := Nat.lt_of_lt_of_le (m := 131) (by decide) (Nat.le_add_right _ _)
theorem ce_107 (G : ZG) (w : ZW) : z_cell G w 107 = z_aI G 6 (w.1 107) := rfl
theorem zl_107 {G : ZG} : 107 < z_N G := Nat.lt_of_lt_of_le (m := 131) (by decide) (Nat.le_add_right _ _)
theorem ce_108 (G : ZG) (w : ZW) : z_cell G w 108 = .inr (0, [.ref (G.1 109), .ref (G.1 110), .int (w.1 108 2), .int (w.1 108 3)]) := rfl
theorem zl_108 {G : ZG} : 108 < z_N G := Nat.lt_of_lt_of_le (m := 131) (by decide) (Nat.le_add_right _ _)
theorem ce_109 (G : ZG) (w : ZW) : z_cell G w 109 = z_aI G 12 (w.1 109) := rfl
theorem zl_109 {G : ZG} : 109 < z_N G := Nat.lt_of_lt_of_le (m := 131) (by decide) (Nat.le_add_right _ _)
theorem ce_110 (G : ZG) (w : ZW) : z_cell G w 110 = z_aI G 12 (w.1 110) := rfl
theorem zl_110 {G : ZG} : 110 < z_N G := Nat.lt_of_lt_of_le (m := 131) (by decide) (Nat.le_add_right _ _)
theorem ce_111 (G : ZG) (w : ZW) : z_cell G w 111 = .inr (5, [.long (w.2 111 0), .int (w.1 111 1), .int (w.1 111 2), .ref (G.1 112), .ref (G.1 113), .ref (G.1 114), .ref (G.1 115), .ref (G.1 116)]) := rfl
theorem zl_111 {G : ZG} : 111 < z_N G := Nat.lt_of_lt_of_le (m := 131) (by decide) (Nat.le_add_right _ _)
theorem ce_112 (G : ZG) (w : ZW) : z_cell G w 112 = z_aI G 14 (w.1 112) := rfl
theorem zl_112 {G : ZG} : 112 < z_N G := Nat.lt_of_lt_of_le (m := 131) (by decide) (Nat.le_add_right _ _)
theorem ce_113 (G : ZG) (w : ZW) : z_cell G w 113 = z_aI G 14 (w.1 113) := rfl
theorem zl_113 {G : ZG} : 113 < z_N G := Nat.lt_of_lt_of_le (m := 131) (by decide) (Nat.le_add_right _ _)
theorem ce_114 (G : ZG) (w : ZW) : z_cell G w 114 = z_aI G 14 (w.1 114) := rfl
theorem zl_114 {G : ZG} : 114 < z_N G := Nat.lt_of_lt_of_le (m := 131) (by decide) (Nat.le_add_right _ _)
theorem ce_115 (G : ZG) (w : ZW) : z_cell G w 115 = z_aI G 14 (w.1 115) := rfl
theorem zl_115 {G : ZG} : 115 < z_N G := Nat.lt_of_lt_of_le (m := 131) (by decide) (Nat.le_add_right _ _)
theorem ce_116 (G : ZG) (w : ZW) : z_cell G w 116 = z_aI G 14 (w.1 116) := rfl
theorem zl_116 {G : ZG} : 116 < z_N G := Nat.lt_of_lt_of_le (m := 131) (by decide) (Nat.le_add_right _ _)
theorem ce_117 (G : ZG) (w : ZW) : z_cell G w 117 = .inr (6, [.ref (G.1 118)]) := rfl
theorem zl_117 {G : ZG} : 117 < z_N G := Nat.lt_of_lt_of_le (m := 131) (by decide) (Nat.le_add_right _ _)
theorem ce_118 (G : ZG) (w : ZW) : z_cell G w 118 = z_aI G 28 (w.1 118) := rfl
theorem zl_118 {G : ZG} : 118 < z_N G := Nat.lt_of_lt_of_le (m := 131) (by decide) (Nat.le_add_right _ _)
theorem ce_119 (G : ZG) (w : ZW) : z_cell G w 119 = .inr (1, [.int (w.1 119 0), .int (w.1 119 1), .int (w.1 119 2)]) := rfl
theorem zl_119 {G : ZG} : 119 < z_N G := Nat.lt_of_lt_of_le (m := 131) (by decide) (Nat.le_add_right _ _)
theorem ce_120 (G : ZG) (w : ZW) : z_cell G w 120 = .inr (10, [.int (w.1 120 0), .long (w.2 120 1), .long (w.2 120 2), .ref (G.1 121)]) := rfl
theorem zl_120 {G : ZG} : 120 < z_N G := Nat.lt_of_lt_of_le (m := 131) (by decide) (Nat.le_add_right _ _)
theorem ce_121 (G : ZG) (w : ZW) : z_cell G w 121 = z_aB G 40 (w.1 121) := rfl
theorem zl_121 {G : ZG} : 121 < z_N G := Nat.lt_of_lt_of_le (m := 131) (by decide) (Nat.le_add_right _ _)
theorem ce_122 (G : ZG) (w : ZW) : z_cell G w 122 = .inr (7, [.ref (G.1 123), .ref (G.1 124), .ref (G.1 125)]) := rfl
theorem zl_122 {G : ZG} : 122 < z_N G := Nat.lt_of_lt_of_le (m := 131) (by decide) (Nat.le_add_right _ _)
theorem ce_123 (G : ZG) (w : ZW) : z_cell G w 123 = z_aI G 4 (w.1 123) := rfl
theorem zl_123 {G : ZG} : 123 < z_N G := Nat.lt_of_lt_of_le (m := 131) (by decide) (Nat.le_add_right _ _)
theorem ce_124 (G : ZG) (w : ZW) : z_cell G w 124 = z_aI G 4 (w.1 124) := rfl
theorem zl_124 {G : ZG} : 124 < z_N G := Nat.lt_of_lt_of_le (m := 131) (by decide) (Nat.le_add_right _ _)
theorem ce_125 (G : ZG) (w : ZW) : z_cell G w 125 = z_aQ G 4 126 := rfl
theorem zl_125 {G : ZG} : 125 < z_N G := Nat.lt_of_lt_of_le (m := 131) (by decide) (Nat.le_add_right _ _)
theorem ce_126 (G : ZG) (w : ZW) : z_cell G w 126 = z_aI G 24 (w.1 126) := rfl
theorem zl_126 {G : ZG} : 126 < z_N G := Nat.lt_of_lt_of_le (m := 131) (by decide) (Nat.le_add_right _ _)
theorem ce_127 (G : ZG) (w : ZW) : z_cell G w 127 = z_aI G 24 (w.1 127) := rfl
theorem zl_127 {G : ZG} : 127 < z_N G := Nat.lt_of_lt_of_le (m := 131) (by decide) (Nat.le_add_right _ _)
theorem ce_128 (G : ZG) (w : ZW) : z_cell G w 128 = z_aI G 24 (w.1 128) := rfl
theorem zl_128 {G : ZG} : 128 < z_N G := Nat.lt_of_lt_of_le (m := 131) (by decide) (Nat.le_add_right _ _)
theorem ce_129 (G : ZG) (w : ZW) : z_cell G w 129 = z_aI G 24 (w.1 129) := rfl
theorem zl_129 {G : ZG} : 129 < z_N G := Nat.lt_of_lt_of_le (m := 131) (by decide) (Nat.le_add_right _ _)
theorem ce_130 (G : ZG) (w : ZW) : z_cell G w 130 = z_aI G 64 (w.1 130) := rfl
theorem zl_130 {G : ZG} : 130 < z_N G := Nat.lt_of_lt_of_le (m := 131) (by decide) (Nat.le_add_right _ _)
theorem ce_131 (G : ZG) (w : ZW) : z_cell G w 131 = z_aI G 9 (w.1 131) := rfl
theorem zl_131 {G : ZG} (h : z_e G = 1) : 131 < z_N G := by unfold z_N; rw [h]; decide
theorem zrow_25 (G : ZG) (w : ZW) : ∀ k, k < 13 → z_cell G w (25 + k) = z_aI G 64 (w.1 (25 + k))
  | 0, _ => rfl
  | 1, _ => rfl
  | 2, _ => rfl
  | 3, _ => rfl
  | 4, _ => rfl
  | 5, _ => rfl
  | 6, _ => rfl
  | 7, _ => rfl
  | 8, _ => rfl
  | 9, _ => rfl
  | 10, _ => rfl
  | 11, _ => rfl
  | 12, _ => rfl
  | k + 13, h => absurd h (by omega)
theorem zrl_25 {G : ZG} {k : Nat} (h : k < 13) : 25 + k < z_N G := by unfold z_N; omega
theorem zrow_39 (G : ZG) (w : ZW) : ∀ k, k < 12 → z_cell G w (39 + k) = z_aI G 64 (w.1 (39 + k))
  | 0, _ => rfl
  | 1, _ => rfl
  | 2, _ => rfl
  | 3, _ => rfl
  | 4, _ => rfl
  | 5, _ => rfl
  | 6, _ => rfl
  | 7, _ => rfl
  | 8, _ => rfl
  | 9, _ => rfl
  | 10, _ => rfl
  | 11, _ => rfl
  | k + 12, h => absurd h (by omega)
theorem zrl_39 {G : ZG} {k : Nat} (h : k < 12) : 39 + k < z_N G := by unfold z_N; omega
theorem zrow_80 (G : ZG) (w : ZW) : ∀ k, k < 13 → z_cell G w (80 + k) = z_aI G 64 (w.1 (80 + k))
  | 0, _ => rfl
  | 1, _ => rfl
  | 2, _ => rfl
  | 3, _ => rfl
  | 4, _ => rfl
  | 5, _ => rfl
  | 6, _ => rfl
  | 7, _ => rfl
  | 8, _ => rfl
  | 9, _ => rfl
  | 10, _ => rfl
  | 11, _ => rfl
  | 12, _ => rfl
  | k + 13, h => absurd h (by omega)
theorem zrl_80 {G : ZG} {k : Nat} (h : k < 13) : 80 + k < z_N G := by unfold z_N; omega
theorem zrow_94 (G : ZG) (w : ZW) : ∀ k, k < 12 → z_cell G w (94 + k) = z_aI G 64 (w.1 (94 + k))
  | 0, _ => rfl
  | 1, _ => rfl
  | 2, _ => rfl
  | 3, _ => rfl
  | 4, _ => rfl
  | 5, _ => rfl
  | 6, _ => rfl
  | 7, _ => rfl
  | 8, _ => rfl
  | 9, _ => rfl
  | 10, _ => rfl
  | 11, _ => rfl
  | k + 12, h => absurd h (by omega)
theorem zrl_94 {G : ZG} {k : Nat} (h : k < 12) : 94 + k < z_N G := by unfold z_N; omega
theorem zrow_126 (G : ZG) (w : ZW) : ∀ k, k < 4 → z_cell G w (126 + k) = z_aI G 24 (w.1 (126 + k))
  | 0, _ => rfl
  | 1, _ => rfl
  | 2, _ => rfl
  | 3, _ => rfl
  | k + 4, h => absurd h (by omega)
theorem zrl_126 {G : ZG} {k : Nat} (h : k < 4) : 126 + k < z_N G := by unfold z_N; omega
theorem z_in_lt {i : Int32} {n : Nat} (h : z_in i n = true) : i.toNatClampNeg < n := by
  unfold z_in at h
  simp only [Bool.and_eq_true, decide_eq_true_eq] at h
  exact h.2
