/-! THE CLAIM OUT OF ONE WALK OF THE LAW'S BODY. Your part is whole_start (and what it stands on); all else here is the same for every law, but numbers. -/
def R_law : String := "LoveLocksLaw"
def lw_P (b : Addr) (xs : List Int32) (args : Array Value) (s : State) : Prop := args = #[.ref b] ∧ s.IntsAt b xs ∧ xs.length ≤ 260 ∧ (Jvm.Cond.and given_1 narrow_1).before args s = true
def lw_Q (_ : Array Value) (s : State) (o : Outcome) (t : State) : Prop := o = .returned (some (.int 1)) ∧ Framed s o t [] 600000 7302250
def lw_Z (below : List Frame) (a : Array Value) (s : State) : State → Prop := fun t => ∃ o, t.status = .running ∧ Ended t below o ∧ lw_Q a s o t
/-- the law's own end, with 1 on the stack, nothing written that was there before, its room as the claim has it -/
theorem lw_ret {p : Program} {l : Launch} {e : Env} {s : State} {m : MethodId} {below : List Frame} {meth : Method} {c : Code} {b : Nat} (hx : p.tables.exec = Jvm.exec) (hb : c.code = code) (hr : meth.sig.returnType = ret) (hlocks : meth.locks = false) {pc : Nat} {H : Heap} {ls : Array Slot} (hdg : decode code pc = .ok (.ireturn, 1)) : W p l e room_1 s m #[Value.ref b] below meth c H [] 600000 7302250 (lw_Z below #[Value.ref b] s) (F0 m pc ls [.int 1]) := by
  intro T hT X
  obtain ⟨fs, hret, hrun, hended, hW, hframe⟩ := X.leave (v := some (.int 1)) (hlocks := hlocks) (fun h => by rw [hr] at h; cases h)
  have hmeth' : T.vm.method? m = some meth := X.method'
  refine ⟨T.setFrames fs, ?_, .returned (some (.int 1)), hrun, hended, rfl, ⟨_, rfl⟩, hW, hframe⟩
  jvm_step X.here [X.here.top, hx, hb, hdg, hmeth', hr, ret, narrow_b1]
  (try refine ⟨rfl, ?_⟩); (try refine ⟨rfl, ?_⟩)
  first | (intro acts; rw [hret _ acts rfl rfl rfl]) | rw [hret _ _ rfl rfl rfl]
  exact Steps.refl _
/-- what holds at the law's entry: the machine, the code, the tables' words (any of lw_tbl by 'hts w (by decide +kernel)'), the script of L ints xs at the cell b, what the Statement gives of the start (any of its parts by flat_of_before) -/
def lw_At (p : Program) (s : State) (m : MethodId) (meth : Method) (c : Code) (b L : Nat) (xs : Nat → Int32) : Prop :=
  p.tables.exec = Jvm.exec ∧ c.code = code ∧ meth.sig.returnType = ret ∧ c.maxLocals = 24 ∧ s.vm.findClass R_law = some m.cls ∧ (∀ w ∈ lw_tbl, w.before #[Value.ref b] s = true) ∧ va_X b L xs s s.heap ∧ b < s.heap.size ∧ meth.locks = false ∧ (Jvm.Cond.and given_1 narrow_1).before #[Value.ref b] s = true
/-- the law's frame: its room, the script, all else as zC -/
def zLC (G : ZG) (own : String) (B : ByteArray) (w : ZW) (p : Program) (s : State) (m : MethodId) (args : Array Value) (meth : Method) (c : Code) (H : Heap) (locs : List Loc) : Prop :=
  p.tables.exec = Jvm.exec ∧ c.code = B ∧ c.maxLocals = 24 ∧ meth.sig.returnType = ret ∧ meth.locks = false ∧ s.vm.findClass own = some m.cls ∧ (∀ x ∈ zw_tbl, x.before args s = true) ∧ z_K G s ∧ z_H G w H ∧ z_I G ∧ va_S (fun q : Nat => s.heap.size ≤ q) s.heap H locs ∧ (∀ k, k < z_N G → s.heap.size ≤ G.1 k) ∧ va_X (z_b G) (z_l G) (z_x G) s s.heap ∧ z_b G < s.heap.size
def zLA (G : ZG) (l : Launch) (own : String) (B : ByteArray) (zc zs : Nat) (pc : Nat) (lv : List (Nat × Value)) (st : List Value) (w : ZW) : Prop :=
  ∀ (p : Program) (e : Env) (s : State) (m : MethodId) (below : List Frame) (meth : Method) (c : Code) (H : Heap) (locs : List Loc) (ls : Array Slot),
    zLC G own B w p s m #[Value.ref (z_b G)] meth c H locs → lv_has ls 24 lv →
    W p l e room_1 s m #[Value.ref (z_b G)] below meth c H locs zc zs (lw_Z below #[Value.ref (z_b G)] s) (F0 m pc ls st)
def zLR (G : ZG) (l : Launch) (own : String) (B : ByteArray) (zc zs : Nat) {α : Type} (K : α → Prop) (pc : Nat) (lv : List (Nat × Value)) (st : List Value) (w : ZW) (X : Option α) : Prop :=
  ∀ o, X = some o → K o → zLA G l own B zc zs pc lv st w
theorem z_DdA {G : ZG} {w : ZW} {n : Nat} (h : z_I G) (hA : ∀ k, k < z_N G → n ≤ G.1 k) : va_D (fun q : Nat => n ≤ q) (z_ws G w) := ⟨(z_Dd h).1, fun k q hq => by
  obtain ⟨j, hj, e⟩ := (z_Dd h).2 k q hq
  rw [e]
  exact hA j hj⟩
theorem z_XL {G : ZG} {s U : State} {H : Heap} {locs : List Loc} (hX : va_X (z_b G) (z_l G) (z_x G) s s.heap) (hbl : z_b G < s.heap.size) (hA : ∀ k, k < z_N G → s.heap.size ≤ G.1 k) (hS : va_S (fun q : Nat => s.heap.size ≤ q) s.heap H locs) (hvm : s.vm.Alike U.vm) (hU : U.heap = H) : z_X G U := by
  subst hU
  refine ⟨va_X.moved hvm (hX.kept (hS.2.1 _ hbl (Nat.not_le.mpr hbl))), Nat.lt_of_lt_of_le hbl hS.1, fun h => ?_⟩
  obtain ⟨k, hk, e⟩ := h
  have := hA k hk
  omega
section ZLR
variable {G : ZG} {l : Launch} {own : String} {B : ByteArray} {zc zs : Nat} {α : Type} {K : α → Prop} {lv : List (Nat × Value)} {st : List Value} {w : ZW} {X : Option α} {pc : Nat} {o : α}

theorem q_iconst (n : Nat) {z : Int} {x : Int32} (hd : decode B pc = .ok (.iconst z, 1)) (hn : pc + 1 = n) (hv : Int32.ofInt z = x) (k : zLR G l own B zc zs K n lv (.int x :: st) w X) : zLR G l own B zc zs K pc lv st w X := by
  intro o h1 h2 p e s m below meth c H locs ls C hl
  subst hn
  exact lv_iconst C.1 C.2.1 hd hv (k o h1 h2 p e s m below meth c H locs ls C hl)
theorem q_bipush (n : Nat) {z : Int} {x : Int32} (hd : decode B pc = .ok (.bipush z, 2)) (hn : pc + 2 = n) (hv : (Int8.ofInt z).toInt32 = x) (k : zLR G l own B zc zs K n lv (.int x :: st) w X) : zLR G l own B zc zs K pc lv st w X := by
  intro o h1 h2 p e s m below meth c H locs ls C hl
  subst hn
  exact lv_bipush C.1 C.2.1 hd hv (k o h1 h2 p e s m below meth c H locs ls C hl)
theorem q_lconst (n : Nat) {z : Fin 2} {x : Int64} (hd : decode B pc = .ok (.lconst z, 1)) (hn : pc + 1 = n) (hv : Int64.ofNat (z : Nat) = x) (k : zLR G l own B zc zs K n lv (.long x :: st) w X) : zLR G l own B zc zs K pc lv st w X := by
  intro o h1 h2 p e s m below meth c H locs ls C hl
  subst hn
  exact lv_lconst C.1 C.2.1 hd hv (k o h1 h2 p e s m below meth c H locs ls C hl)
theorem q_iload_n (n : Nat) {q : Fin 4} {i : Nat} {x : Int32} (hd : decode B pc = .ok (.iload_n q, 1)) (hn : pc + 1 = n) (j : Nat) (hi : (q : Nat) = i) (hj : lv[j]? = some (i, .int x)) (k : zLR G l own B zc zs K n lv (.int x :: st) w X) : zLR G l own B zc zs K pc lv st w X := by
  intro o h1 h2 p e s m below meth c H locs ls C hl
  subst hn
  exact lv_iload_n C.1 C.2.1 hd hi (lv_at hl j hj) (k o h1 h2 p e s m below meth c H locs ls C hl)
theorem q_iload (n : Nat) {i : Nat} {x : Int32} (hd : decode B pc = .ok (.iload i, 2)) (hn : pc + 2 = n) (j : Nat) (hj : lv[j]? = some (i, .int x)) (k : zLR G l own B zc zs K n lv (.int x :: st) w X) : zLR G l own B zc zs K pc lv st w X := by
  intro o h1 h2 p e s m below meth c H locs ls C hl
  subst hn
  exact lv_iload C.1 C.2.1 hd (lv_at hl j hj) (k o h1 h2 p e s m below meth c H locs ls C hl)
theorem q_lload (n : Nat) {i : Nat} {x : Int64} (hd : decode B pc = .ok (.lload i, 2)) (hn : pc + 2 = n) (j : Nat) (hj : lv[j]? = some (i, .long x)) (k : zLR G l own B zc zs K n lv (.long x :: st) w X) : zLR G l own B zc zs K pc lv st w X := by
  intro o h1 h2 p e s m below meth c H locs ls C hl
  subst hn
  exact lv_lload C.1 C.2.1 hd (lv_at hl j hj) (k o h1 h2 p e s m below meth c H locs ls C hl)
theorem q_aload_n (n : Nat) {q : Fin 4} {i : Nat} {x : Nat} (hd : decode B pc = .ok (.aload_n q, 1)) (hn : pc + 1 = n) (j : Nat) (hi : (q : Nat) = i) (hj : lv[j]? = some (i, .ref x)) (k : zLR G l own B zc zs K n lv (.ref x :: st) w X) : zLR G l own B zc zs K pc lv st w X := by
  intro o h1 h2 p e s m below meth c H locs ls C hl
  subst hn
  exact lv_aload_n C.1 C.2.1 hd hi (lv_at hl j hj) (k o h1 h2 p e s m below meth c H locs ls C hl)
theorem q_aload (n : Nat) {i : Nat} {x : Nat} (hd : decode B pc = .ok (.aload i, 2)) (hn : pc + 2 = n) (j : Nat) (hj : lv[j]? = some (i, .ref x)) (k : zLR G l own B zc zs K n lv (.ref x :: st) w X) : zLR G l own B zc zs K pc lv st w X := by
  intro o h1 h2 p e s m below meth c H locs ls C hl
  subst hn
  exact lv_aload C.1 C.2.1 hd (lv_at hl j hj) (k o h1 h2 p e s m below meth c H locs ls C hl)
theorem q_iadd (n : Nat) {x y : Int32} (hd : decode B pc = .ok (.iadd, 1)) (hn : pc + 1 = n)  (k : zLR G l own B zc zs K n lv (.int (x + y) :: st) w X) : zLR G l own B zc zs K pc lv (.int y :: .int x :: st) w X := by
  intro o h1 h2 p e s m below meth c H locs ls C hl
  subst hn
  exact lv_iadd C.1 C.2.1 hd  (k o h1 h2 p e s m below meth c H locs ls C hl)
theorem q_isub (n : Nat) {x y : Int32} (hd : decode B pc = .ok (.isub, 1)) (hn : pc + 1 = n)  (k : zLR G l own B zc zs K n lv (.int (x - y) :: st) w X) : zLR G l own B zc zs K pc lv (.int y :: .int x :: st) w X := by
  intro o h1 h2 p e s m below meth c H locs ls C hl
  subst hn
  exact lv_isub C.1 C.2.1 hd  (k o h1 h2 p e s m below meth c H locs ls C hl)
theorem q_imul (n : Nat) {x y : Int32} (hd : decode B pc = .ok (.imul, 1)) (hn : pc + 1 = n)  (k : zLR G l own B zc zs K n lv (.int (x * y) :: st) w X) : zLR G l own B zc zs K pc lv (.int y :: .int x :: st) w X := by
  intro o h1 h2 p e s m below meth c H locs ls C hl
  subst hn
  exact lv_imul C.1 C.2.1 hd  (k o h1 h2 p e s m below meth c H locs ls C hl)
theorem q_iand (n : Nat) {x y : Int32} (hd : decode B pc = .ok (.iand, 1)) (hn : pc + 1 = n)  (k : zLR G l own B zc zs K n lv (.int (x &&& y) :: st) w X) : zLR G l own B zc zs K pc lv (.int y :: .int x :: st) w X := by
  intro o h1 h2 p e s m below meth c H locs ls C hl
  subst hn
  exact lv_iand C.1 C.2.1 hd  (k o h1 h2 p e s m below meth c H locs ls C hl)
theorem q_ior (n : Nat) {x y : Int32} (hd : decode B pc = .ok (.ior, 1)) (hn : pc + 1 = n)  (k : zLR G l own B zc zs K n lv (.int (x ||| y) :: st) w X) : zLR G l own B zc zs K pc lv (.int y :: .int x :: st) w X := by
  intro o h1 h2 p e s m below meth c H locs ls C hl
  subst hn
  exact lv_ior C.1 C.2.1 hd  (k o h1 h2 p e s m below meth c H locs ls C hl)
theorem q_ixor (n : Nat) {x y : Int32} (hd : decode B pc = .ok (.ixor, 1)) (hn : pc + 1 = n)  (k : zLR G l own B zc zs K n lv (.int (x ^^^ y) :: st) w X) : zLR G l own B zc zs K pc lv (.int y :: .int x :: st) w X := by
  intro o h1 h2 p e s m below meth c H locs ls C hl
  subst hn
  exact lv_ixor C.1 C.2.1 hd  (k o h1 h2 p e s m below meth c H locs ls C hl)
theorem q_ishl (n : Nat) {x y : Int32} (hd : decode B pc = .ok (.ishl, 1)) (hn : pc + 1 = n)  (k : zLR G l own B zc zs K n lv (.int (x <<< (y &&& 31)) :: st) w X) : zLR G l own B zc zs K pc lv (.int y :: .int x :: st) w X := by
  intro o h1 h2 p e s m below meth c H locs ls C hl
  subst hn
  exact lv_ishl C.1 C.2.1 hd  (k o h1 h2 p e s m below meth c H locs ls C hl)
theorem q_ishr (n : Nat) {x y : Int32} (hd : decode B pc = .ok (.ishr, 1)) (hn : pc + 1 = n)  (k : zLR G l own B zc zs K n lv (.int (x >>> (y &&& 31)) :: st) w X) : zLR G l own B zc zs K pc lv (.int y :: .int x :: st) w X := by
  intro o h1 h2 p e s m below meth c H locs ls C hl
  subst hn
  exact lv_ishr C.1 C.2.1 hd  (k o h1 h2 p e s m below meth c H locs ls C hl)
theorem q_ladd (n : Nat) {x y : Int64} (hd : decode B pc = .ok (.ladd, 1)) (hn : pc + 1 = n)  (k : zLR G l own B zc zs K n lv (.long (x + y) :: st) w X) : zLR G l own B zc zs K pc lv (.long y :: .long x :: st) w X := by
  intro o h1 h2 p e s m below meth c H locs ls C hl
  subst hn
  exact lv_ladd C.1 C.2.1 hd  (k o h1 h2 p e s m below meth c H locs ls C hl)
theorem q_lmul (n : Nat) {x y : Int64} (hd : decode B pc = .ok (.lmul, 1)) (hn : pc + 1 = n)  (k : zLR G l own B zc zs K n lv (.long (x * y) :: st) w X) : zLR G l own B zc zs K pc lv (.long y :: .long x :: st) w X := by
  intro o h1 h2 p e s m below meth c H locs ls C hl
  subst hn
  exact lv_lmul C.1 C.2.1 hd  (k o h1 h2 p e s m below meth c H locs ls C hl)
theorem q_i2l (n : Nat) {x : Int32} (hd : decode B pc = .ok (.i2l, 1)) (hn : pc + 1 = n)  (k : zLR G l own B zc zs K n lv (.long x.toInt64 :: st) w X) : zLR G l own B zc zs K pc lv (.int x :: st) w X := by
  intro o h1 h2 p e s m below meth c H locs ls C hl
  subst hn
  exact lv_i2l C.1 C.2.1 hd rfl (k o h1 h2 p e s m below meth c H locs ls C hl)
theorem q_irem (n : Nat) {x y : Int32} (hd : decode B pc = .ok (.irem, 1)) (hn : pc + 1 = n) (hy : ¬ y = 0) (k : zLR G l own B zc zs K n lv (.int (x - x / y * y) :: st) w X) : zLR G l own B zc zs K pc lv (.int y :: .int x :: st) w X := by
  intro o h1 h2 p e s m below meth c H locs ls C hl
  subst hn
  exact lv_irem C.1 C.2.1 hd hy (k o h1 h2 p e s m below meth c H locs ls C hl)
theorem q_lcmp (n : Nat) {x y : Int64} (hd : decode B pc = .ok (.lcmp, 1)) (hn : pc + 1 = n)  (k : zLR G l own B zc zs K n lv (.int (lg_cmp x y) :: st) w X) : zLR G l own B zc zs K pc lv (.long y :: .long x :: st) w X := by
  intro o h1 h2 p e s m below meth c H locs ls C hl
  subst hn
  exact W.lcmp C.1 C.2.1 hd  (k o h1 h2 p e s m below meth c H locs ls C hl)
theorem q_ldc2 (n : Nat) {ix : Nat} {x : Int64} (hd : decode B pc = .ok (.ldc2_w ix, 3)) (hn : pc + 3 = n) (hw : Cond.constantLong own ix x ∈ zw_tbl) (k : zLR G l own B zc zs K n lv (.long x :: st) w X) : zLR G l own B zc zs K pc lv st w X := by
  intro o h1 h2 p e s m below meth c H locs ls C hl
  subst hn
  exact lv_ldc2 C.1 C.2.1 C.2.2.2.2.2.1 (C.2.2.2.2.2.2.1 _ hw) hd (k o h1 h2 p e s m below meth c H locs ls C hl)
theorem q_istore_n (n : Nat) (lv' : List (Nat × Value)) {q : Fin 4} {i : Nat} {x : Int32} (hd : decode B pc = .ok (.istore_n q, 1)) (hn : pc + 1 = n) (hi : (q : Nat) = i) (hlt : i < 24) (hf : (i, Value.int x) :: lv.filter (fun q => !(q.1 == i) && !(q.1 + 1 == i && q.2.category == 2)) = lv') (k : zLR G l own B zc zs K n lv' st w X) : zLR G l own B zc zs K pc lv (.int x :: st) w X := by
  intro o h1 h2 p e s m below meth c H locs ls C hl
  subst hn
  exact lv_istore_n C.1 C.2.1 hd hi hl hlt hf (fun ls' hl' => k o h1 h2 p e s m below meth c H locs ls' C hl')
theorem q_istore (n : Nat) (lv' : List (Nat × Value)) {i : Nat} {x : Int32} (hd : decode B pc = .ok (.istore i, 2)) (hn : pc + 2 = n)  (hlt : i < 24) (hf : (i, Value.int x) :: lv.filter (fun q => !(q.1 == i) && !(q.1 + 1 == i && q.2.category == 2)) = lv') (k : zLR G l own B zc zs K n lv' st w X) : zLR G l own B zc zs K pc lv (.int x :: st) w X := by
  intro o h1 h2 p e s m below meth c H locs ls C hl
  subst hn
  exact lv_istore C.1 C.2.1 hd  hl hlt hf (fun ls' hl' => k o h1 h2 p e s m below meth c H locs ls' C hl')
theorem q_lstore (n : Nat) (lv' : List (Nat × Value)) {i : Nat} {x : Int64} (hd : decode B pc = .ok (.lstore i, 2)) (hn : pc + 2 = n)  (hlt : i + 1 < 24) (hf : (i, Value.long x) :: lv.filter (fun q => !(q.1 == i) && (!(q.1 == i + 1) && !(q.1 + 1 == i && q.2.category == 2))) = lv') (k : zLR G l own B zc zs K n lv' st w X) : zLR G l own B zc zs K pc lv (.long x :: st) w X := by
  intro o h1 h2 p e s m below meth c H locs ls C hl
  subst hn
  exact lv_lstore C.1 C.2.1 hd  hl hlt hf (fun ls' hl' => k o h1 h2 p e s m below meth c H locs ls' C hl')
theorem q_astore (n : Nat) (lv' : List (Nat × Value)) {i : Nat} {x : Nat} (hd : decode B pc = .ok (.astore i, 2)) (hn : pc + 2 = n)  (hlt : i < 24) (hf : (i, Value.ref x) :: lv.filter (fun q => !(q.1 == i) && !(q.1 + 1 == i && q.2.category == 2)) = lv') (k : zLR G l own B zc zs K n lv' st w X) : zLR G l own B zc zs K pc lv (.ref x :: st) w X := by
  intro o h1 h2 p e s m below meth c H locs ls C hl
  subst hn
  exact lv_astore C.1 C.2.1 hd  hl hlt hf (fun ls' hl' => k o h1 h2 p e s m below meth c H locs ls' C hl')
theorem q_iinc (n j : Nat) (lv' : List (Nat × Value)) {i : Nat} {z : Int} {x y : Int32} (hd : decode B pc = .ok (.iinc i z, 3)) (hn : pc + 3 = n) (hj : lv[j]? = some (i, .int x)) (hz : Int32.ofInt z = y) (hlt : i < 24) (hf : (i, Value.int (x + y)) :: lv.filter (fun q => !(q.1 == i) && !(q.1 + 1 == i && q.2.category == 2)) = lv') (k : zLR G l own B zc zs K n lv' st w X) : zLR G l own B zc zs K pc lv st w X := by
  intro o h1 h2 p e s m below meth c H locs ls C hl
  subst hn
  subst hz
  exact lv_iinc C.1 C.2.1 hd hl hj rfl hlt hf (fun ls' hl' => k o h1 h2 p e s m below meth c H locs ls' C hl')
theorem q_if_eq (t n : Nat) {x : Int32} {off : Int} {X1 X2 : Option α} (hd : decode B pc = .ok (.ifCond .eq off, 3)) (ht : (pc : Int) + off = (t : Int)) (hn : pc + 3 = n) (kt : zLR G l own B zc zs K t lv st w X1) (kf : zLR G l own B zc zs K n lv st w X2) : zLR G l own B zc zs K pc lv (.int x :: st) w (if x = 0 then X1 else X2) := by
  intro o h1 h2 p e s m below meth c H locs ls C hl
  subst hn
  exact lv_if_eq C.1 C.2.1 hd ht (fun c => kt o (by rw [if_pos c] at h1; exact h1) h2 p e s m below meth _ H locs ls C hl) (fun c => kf o (by rw [if_neg c] at h1; exact h1) h2 p e s m below meth _ H locs ls C hl)
theorem q_if_ne (t n : Nat) {x : Int32} {off : Int} {X1 X2 : Option α} (hd : decode B pc = .ok (.ifCond .ne off, 3)) (ht : (pc : Int) + off = (t : Int)) (hn : pc + 3 = n) (kt : zLR G l own B zc zs K t lv st w X2) (kf : zLR G l own B zc zs K n lv st w X1) : zLR G l own B zc zs K pc lv (.int x :: st) w (if x = 0 then X1 else X2) := by
  intro o h1 h2 p e s m below meth c H locs ls C hl
  subst hn
  exact lv_if_ne C.1 C.2.1 hd ht (fun c => kt o (by rw [if_neg c] at h1; exact h1) h2 p e s m below meth _ H locs ls C hl) (fun c => kf o (by rw [if_pos c] at h1; exact h1) h2 p e s m below meth _ H locs ls C hl)
theorem q_if_lt (t n : Nat) {x : Int32} {off : Int} {X1 X2 : Option α} (hd : decode B pc = .ok (.ifCond .lt off, 3)) (ht : (pc : Int) + off = (t : Int)) (hn : pc + 3 = n) (kt : zLR G l own B zc zs K t lv st w X1) (kf : zLR G l own B zc zs K n lv st w X2) : zLR G l own B zc zs K pc lv (.int x :: st) w (if x < 0 then X1 else X2) := by
  intro o h1 h2 p e s m below meth c H locs ls C hl
  subst hn
  exact lv_if_lt C.1 C.2.1 hd ht (fun c => kt o (by rw [if_pos c] at h1; exact h1) h2 p e s m below meth _ H locs ls C hl) (fun c => kf o (by rw [if_neg c] at h1; exact h1) h2 p e s m below meth _ H locs ls C hl)
theorem q_if_gt (t n : Nat) {x : Int32} {off : Int} {X1 X2 : Option α} (hd : decode B pc = .ok (.ifCond .gt off, 3)) (ht : (pc : Int) + off = (t : Int)) (hn : pc + 3 = n) (kt : zLR G l own B zc zs K t lv st w X1) (kf : zLR G l own B zc zs K n lv st w X2) : zLR G l own B zc zs K pc lv (.int x :: st) w (if 0 < x then X1 else X2) := by
  intro o h1 h2 p e s m below meth c H locs ls C hl
  subst hn
  exact lv_if_gt C.1 C.2.1 hd ht (fun c => kt o (by rw [if_pos c] at h1; exact h1) h2 p e s m below meth _ H locs ls C hl) (fun c => kf o (by rw [if_neg c] at h1; exact h1) h2 p e s m below meth _ H locs ls C hl)
theorem q_if_le (t n : Nat) {x : Int32} {off : Int} {X1 X2 : Option α} (hd : decode B pc = .ok (.ifCond .le off, 3)) (ht : (pc : Int) + off = (t : Int)) (hn : pc + 3 = n) (kt : zLR G l own B zc zs K t lv st w X1) (kf : zLR G l own B zc zs K n lv st w X2) : zLR G l own B zc zs K pc lv (.int x :: st) w (if x ≤ 0 then X1 else X2) := by
  intro o h1 h2 p e s m below meth c H locs ls C hl
  subst hn
  exact lv_if_le C.1 C.2.1 hd ht (fun c => kt o (by rw [if_pos c] at h1; exact h1) h2 p e s m below meth _ H locs ls C hl) (fun c => kf o (by rw [if_neg c] at h1; exact h1) h2 p e s m below meth _ H locs ls C hl)
theorem q_icmp_eq (t n : Nat) {x y : Int32} {off : Int} {X1 X2 : Option α} (hd : decode B pc = .ok (.if_icmp .eq off, 3)) (ht : (pc : Int) + off = (t : Int)) (hn : pc + 3 = n) (kt : zLR G l own B zc zs K t lv st w X1) (kf : zLR G l own B zc zs K n lv st w X2) : zLR G l own B zc zs K pc lv (.int y :: .int x :: st) w (if x = y then X1 else X2) := by
  intro o h1 h2 p e s m below meth c H locs ls C hl
  subst hn
  exact lv_icmp_eq C.1 C.2.1 hd ht (fun c => kt o (by rw [if_pos c] at h1; exact h1) h2 p e s m below meth _ H locs ls C hl) (fun c => kf o (by rw [if_neg c] at h1; exact h1) h2 p e s m below meth _ H locs ls C hl)
theorem q_icmp_ne (t n : Nat) {x y : Int32} {off : Int} {X1 X2 : Option α} (hd : decode B pc = .ok (.if_icmp .ne off, 3)) (ht : (pc : Int) + off = (t : Int)) (hn : pc + 3 = n) (kt : zLR G l own B zc zs K t lv st w X2) (kf : zLR G l own B zc zs K n lv st w X1) : zLR G l own B zc zs K pc lv (.int y :: .int x :: st) w (if x = y then X1 else X2) := by
  intro o h1 h2 p e s m below meth c H locs ls C hl
  subst hn
  exact lv_icmp_ne C.1 C.2.1 hd ht (fun c => kt o (by rw [if_neg c] at h1; exact h1) h2 p e s m below meth _ H locs ls C hl) (fun c => kf o (by rw [if_pos c] at h1; exact h1) h2 p e s m below meth _ H locs ls C hl)
theorem q_icmp_lt (t n : Nat) {x y : Int32} {off : Int} {X1 X2 : Option α} (hd : decode B pc = .ok (.if_icmp .lt off, 3)) (ht : (pc : Int) + off = (t : Int)) (hn : pc + 3 = n) (kt : zLR G l own B zc zs K t lv st w X1) (kf : zLR G l own B zc zs K n lv st w X2) : zLR G l own B zc zs K pc lv (.int y :: .int x :: st) w (if x < y then X1 else X2) := by
  intro o h1 h2 p e s m below meth c H locs ls C hl
  subst hn
  exact lv_icmp_lt C.1 C.2.1 hd ht (fun c => kt o (by rw [if_pos c] at h1; exact h1) h2 p e s m below meth _ H locs ls C hl) (fun c => kf o (by rw [if_neg c] at h1; exact h1) h2 p e s m below meth _ H locs ls C hl)
theorem q_icmp_ge (t n : Nat) {x y : Int32} {off : Int} {X1 X2 : Option α} (hd : decode B pc = .ok (.if_icmp .ge off, 3)) (ht : (pc : Int) + off = (t : Int)) (hn : pc + 3 = n) (kt : zLR G l own B zc zs K t lv st w X1) (kf : zLR G l own B zc zs K n lv st w X2) : zLR G l own B zc zs K pc lv (.int y :: .int x :: st) w (if y ≤ x then X1 else X2) := by
  intro o h1 h2 p e s m below meth c H locs ls C hl
  subst hn
  exact lv_icmp_ge C.1 C.2.1 hd ht (fun c => kt o (by rw [if_pos c] at h1; exact h1) h2 p e s m below meth _ H locs ls C hl) (fun c => kf o (by rw [if_neg c] at h1; exact h1) h2 p e s m below meth _ H locs ls C hl)
theorem q_icmp_gt (t n : Nat) {x y : Int32} {off : Int} {X1 X2 : Option α} (hd : decode B pc = .ok (.if_icmp .gt off, 3)) (ht : (pc : Int) + off = (t : Int)) (hn : pc + 3 = n) (kt : zLR G l own B zc zs K t lv st w X1) (kf : zLR G l own B zc zs K n lv st w X2) : zLR G l own B zc zs K pc lv (.int y :: .int x :: st) w (if y < x then X1 else X2) := by
  intro o h1 h2 p e s m below meth c H locs ls C hl
  subst hn
  exact lv_icmp_gt C.1 C.2.1 hd ht (fun c => kt o (by rw [if_pos c] at h1; exact h1) h2 p e s m below meth _ H locs ls C hl) (fun c => kf o (by rw [if_neg c] at h1; exact h1) h2 p e s m below meth _ H locs ls C hl)
theorem q_goto (t : Nat) {off : Int} (hd : decode B pc = .ok (.goto off, 3)) (ht : (pc : Int) + off = (t : Int)) (k : zLR G l own B zc zs K t lv st w X) : zLR G l own B zc zs K pc lv st w X := by
  intro o h1 h2 p e s m below meth c H locs ls C hl
  exact lv_goto C.1 C.2.1 hd ht (k o h1 h2 p e s m below meth c H locs ls C hl)
theorem q_sub (js : List Nat) {lv2 : List (Nat × Value)} (hp : lv_pick lv js = lv2) (k : zLR G l own B zc zs K pc lv2 st w X) : zLR G l own B zc zs K pc lv st w X := by
  intro o h1 h2 p e s m below meth c H locs ls C hl
  exact k o h1 h2 p e s m below meth c H locs ls C (lv_sub hl js hp)
theorem q_leaf (js : List Nat) {lv2 : List (Nat × Value)} (hp : lv_pick lv js = lv2) (hK : K o → zLA G l own B zc zs pc lv2 st w) : zLR G l own B zc zs K pc lv st w (some o) := by
  intro o2 h1 h2 p e s m below meth c H locs ls C hl
  cases h1
  exact hK h2 p e s m below meth c H locs ls C (lv_sub hl js hp)
theorem q_none : zLR G l own B zc zs K pc lv st w none := by
  intro o h1
  cases h1
theorem q_topi {x : Int32} {f : Int32 → Option α} (k : ∀ y, zLR G l own B zc zs K pc lv (.int y :: st) w (f y)) : zLR G l own B zc zs K pc lv (.int x :: st) w (z_let x f) := k x
theorem q_topw {f : ZW → Option α} (k : ∀ u, zLR G l own B zc zs K pc lv st u (f u)) : zLR G l own B zc zs K pc lv st w (z_let w f) := k w
theorem q_gd {g : Bool} (k : g = true → zLR G l own B zc zs K pc lv st w X) : zLR G l own B zc zs K pc lv st w (if g = true then X else none) := by
  by_cases hg : g = true
  · rw [if_pos hg]; exact k hg
  · rw [if_neg hg]; exact q_none
theorem q_ne {x y : Int32} (k : ¬ x = y → zLR G l own B zc zs K pc lv st w X) : zLR G l own B zc zs K pc lv st w (if x = y then none else X) := by
  by_cases hg : x = y
  · rw [if_pos hg]; exact q_none
  · rw [if_neg hg]; exact k hg
theorem q_loop {σ ρ : Type} {Bd : σ → Option (σ ⊕ ρ)} {Xk : ρ → Option α} {N : Nat} {s0 : σ} (js : List Nat) (F : σ → List (Nat × Value)) (Wf : σ → ZW) (Ex : ρ → Prop) (hp : lv_pick lv js = F s0) (hw : Wf s0 = w)
    (hB : ∀ s, zLR G l own B zc zs (Sum.elim (fun s' => zLA G l own B zc zs pc (F s') [] (Wf s')) Ex) pc (F s) [] (Wf s) (Bd s)) (hE : ∀ x o, Xk x = some o → K o → Ex x) :
    zLR G l own B zc zs K pc lv [] w ((z_iter Bd N s0).bind Xk) := by
  have main : ∀ (N : Nat) (s : σ) (x : ρ), z_iter Bd N s = some x → Ex x → zLA G l own B zc zs pc (F s) [] (Wf s) := by
    intro N
    induction N with
    | zero => intro s x h; cases h
    | succ N ih =>
      intro s x h hx
      unfold z_iter at h
      cases hb : Bd s with
      | none => rw [hb] at h; cases h
      | some r =>
        rw [hb] at h
        cases r with
        | inl s' => exact hB s _ hb (ih s' x h hx)
        | inr y => exact hB s _ hb (by have : y = x := Option.some.inj h; subst this; exact hx)
  intro o h1 h2 p e s m below meth c H locs ls C hl
  subst hw
  cases hz : z_iter Bd N s0 with
  | none => rw [hz] at h1; cases h1
  | some x =>
    rw [hz] at h1
    exact main N s0 x hz (hE x o h1 h2) p e s m below meth c H locs ls C (lv_sub hl js hp)
theorem q_loopE {σ ρ : Type} {Bd : σ → Option (σ ⊕ ρ)} {Xk : ρ → Option α} {N : Nat} {s0 : σ} (js : List Nat) (F : σ → List (Nat × Value)) (Wf : σ → ZW) (t : Nat) (Fx : ρ → List (Nat × Value)) (Wx : ρ → ZW) (hp : lv_pick lv js = F s0) (hw : Wf s0 = w)
    (hB : ∀ s, zLR G l own B zc zs (Sum.elim (fun s' => zLA G l own B zc zs pc (F s') [] (Wf s')) (fun x => zLA G l own B zc zs t (Fx x) [] (Wx x))) pc (F s) [] (Wf s) (Bd s)) (hE : ∀ x, zLR G l own B zc zs K t (Fx x) [] (Wx x) (Xk x)) :
    zLR G l own B zc zs K pc lv [] w ((z_iter Bd N s0).bind Xk) := q_loop js F Wf _ hp hw hB (fun x o h1 h2 => hE x o h1 h2)
theorem q_iald (n a len : Nat) {i : Int32} (hd : decode B pc = .ok (.iaload, 1)) (hn : pc + 1 = n) (ha : a < z_N G) (hcell : z_cell G w a = z_aI G len (w.1 a)) (k : zLR G l own B zc zs K n lv (.int (w.1 a i.toNatClampNeg) :: st) w X) : zLR G l own B zc zs K pc lv (.int i :: .ref (G.1 a) :: st) w (if z_in i len = true then X else none) := by
  refine q_gd (fun hg => ?_)
  intro o h1 h2 p e s m below meth c H locs ls C hl
  subst hn
  have C2 := C
  obtain ⟨hx, hb, hml, hr, hlk, hown, hts, hK2, hP, hI, hS, hA, hX, hbl⟩ := C2
  exact va_iald hx hb hK2 hP a 1 (by rw [z_ws_get ha, hcell]) rfl (z_in_vp hg) hd (k o h1 h2 p e s m below meth c H locs ls C hl)
theorem q_iast (n a len : Nat) {i : Int32} {x : Int32} (hd : decode B pc = .ok (.iastore, 1)) (hn : pc + 1 = n) (ha : a < z_N G) (hcell : ∀ w, z_cell G w a = z_aI G len (w.1 a)) (k : zLR G l own B zc zs K n lv st (z_upI w a i.toNatClampNeg x) X) : zLR G l own B zc zs K pc lv (.int x :: .int i :: .ref (G.1 a) :: st) w (if z_in i len = true then X else none) := by
  refine q_gd (fun hg => ?_)
  intro o h1 h2 p e s m below meth c H locs ls C hl
  subst hn
  have C2 := C
  obtain ⟨hx, hb, hml, hr, hlk, hown, hts, hK2, hP, hI, hS, hA, hX, hbl⟩ := C2
  refine va_iast hx hb hK2 hP (z_DdA hI hA) hS a 1 (by rw [z_ws_get ha, hcell]) rfl (z_in_vp hg) hd (fun H1 locs1 hP1 hD1 hS1 => ?_)
  rw [z_ws_set (w' := z_upI w a i.toNatClampNeg x) (by rw [hcell]; congr; funext q; simp [z_upI, upd]) (fun j hj => z_cell_eq (by funext q; simp [z_upI, hj]) (by rfl))] at hP1
  exact k o h1 h2 p e s m below meth c H1 locs1 ls ⟨hx, hb, hml, hr, hlk, hown, hts, hK2, hP1, hI, hS1, hA, hX, hbl⟩ hl
theorem q_iret {x : Int32} (hB : B = code) (hzc : zc ≤ 600000) (hzs : zs ≤ 7302250) (hd : decode code pc = .ok (.ireturn, 1)) (hK : K o → x = 1) : zLR G l own B zc zs K pc lv [.int x] w (some o) := by
  intro o2 h1 h2 p e s m below meth c H locs ls C hl
  cases h1
  have e1 := hK h2
  subst e1
  obtain ⟨hx, hb, hml, hr, hlk, hown, hts, hK2, hP, hI, hS, hA, hX, hbl⟩ := C
  refine va_forget (fun q hq => hS.2.2 q hq) ?_
  refine W.widen hzc hzs ?_
  exact lw_ret hx (hb.trans hB) hr hlk hd
theorem q_after {p : Program} {e : Env} {s : State} {m : MethodId} {below : List Frame} {meth : Method} {c : Code} {H : Heap} {locs : List Loc} {ls : Array Slot} {a : Array Value} {rest st0 : List Value} {v1 : Option Value} {w1 : ZW}
    (C : zLC G own B w p s m #[Value.ref (z_b G)] meth c H locs) (hl : lv_has ls 24 lv)
    (hr : va_Run p l e room_1 s m #[Value.ref (z_b G)] below meth c H locs zc zs 0 0 (F0 m pc ls st0) rest (z_Q G v1 w1 a) (z_A G))
    (k : zLA G l own B zc zs (pc + 3) lv (v1.toList ++ rest) w1) :
    W p l e room_1 s m #[Value.ref (z_b G)] below meth c H locs zc zs (lw_Z below #[Value.ref (z_b G)] s) (F0 m pc ls st0) := by
  obtain ⟨hx, hb, hml, hrt, hlk, hown, hts, hK, hP, hI, hS, hA, hX, hbl⟩ := C
  intro T hT X
  obtain ⟨v2, st₀, t, T', L1, h0, X', hL, e1, e2, ⟨hv, hH, hz, hk⟩, step⟩ := hr T hT X
  cases hv
  rw [h0] at hz hk
  have hAA : ∀ q, z_A G q → s.heap.size ≤ q := fun q hq => by obtain ⟨k, hk, rfl⟩ := hq; exact hA k hk
  have hS' : va_S (fun q : Nat => s.heap.size ≤ q) s.heap T'.heap (locs ++ L1) := ⟨Nat.le_trans hS.1 (by rw [e1]; exact hz), fun q h1 h2 => by rw [e1, hk q (Nat.lt_of_lt_of_le h1 hS.1) (fun z => h2 (hAA q z))]; exact hS.2.1 q h1 h2, fun q hq => by
      rcases List.mem_append.mp hq with h | h
      · exact hS.2.2 q h
      · exact hAA _ (hL q h)⟩
  obtain ⟨t2, a1, b1⟩ := k p e s m below meth c T'.heap (locs ++ L1) ls ⟨hx, hb, hml, hrt, hlk, hown, hts, hK, by rw [e1]; exact hH, hI, hS', hA, hX, hbl⟩ hl T' rfl X'
  exact ⟨t2, step t2 a1, b1⟩
theorem q_runV {y : MethodName} {index ko ci : Nat} {q : vw_C} {fs : List Value} {As rest st0 : List Value} {v1 : Option Value} {w1 : ZW} {d1 mL1 : Nat} {B1 : ByteArray} {rt1 : Option FieldType} (n1 : Nat) (hM : zM G l d1 y B1 mL1 rt1 (.ref (G.1 ko) :: As) w v1 w1)
    (hko : ko < z_N G) (hcell : z_cell G w ko = .inr (ci, fs)) (hq : vwCl[ci]? = some q) (hqc : q.1 = y.cls)
    (hc : Cond.code y B1 mL1 rt1 ∈ zw_tbl) (hi : Cond.initialized y.cls ∈ zw_tbl) (hlk : Cond.methodLink own index y ∈ zw_tbl) (hin : Cond.instanceMethod y ∈ zw_tbl) (hse : Cond.selects y.cls y y ∈ zw_tbl)
    (hdes : y.cls ≠ "java/lang/invoke/MethodHandle" ∧ y.cls ≠ "java/lang/invoke/VarHandle" ∧ (parseMethodDescriptor y.desc).map (fun d => d.parameters.length) = some n1) (hm : mL1 ≤ 29) (hdd : d1 ≤ 60) (hzc : zc ≤ 600000) (hzs : zs ≤ 7302250)
    (hn : As.length = n1) (hstack : st0 = As.reverse ++ .ref (G.1 ko) :: rest) (hW : (rest.map fun v => v.category).sum ≤ 8) (hdg : decode B pc = .ok (.invokevirtual index, 3))
    (k : zLA G l own B zc zs (pc + 3) lv (v1.toList ++ rest) w1) : zLA G l own B zc zs pc lv st0 w := by
  intro p e s m below meth c H locs ls C hl
  have C2 := C
  obtain ⟨hx, hb, hml, hrt, hlk2, hown, hts, hK, hP, hI, hS, hA, hX, hbl⟩ := C2
  refine q_after (a := (Value.ref (G.1 ko) :: As).toArray) (rest := rest) C hl ?_ k
  have hg : (z_ws G w)[ko]? = some (G.1 ko, .inr (ci, fs)) := by rw [z_ws_get hko, hcell]
  have hrecv := va_recv hK hP hq hg
  rw [hqc] at hrecv
  have hB : CallB room_1 s #[Value.ref (z_b G)] own index y B1 mL1 rt1 (Cond.code y B1 mL1 rt1 :: zw_tbl) (z_rm d1) 0 0 n1 := by
    refine ⟨rfl, rfl, ?_, ?_, z_pay hts hc, List.mem_cons_self, hts _ hc, hts _ hi, ⟨hdes.1, hdes.2.1⟩, fun sig h => ?_, hts _ hlk⟩
    · show d1 + 1 ≤ 2048
      omega
    · show 8 + (mL1 + 11) + 48 * d1 ≤ 84000
      omega
    · have h2 := hdes.2.2
      rw [h] at h2
      exact (Option.some.inj h2).symm
  exact va_runV (Ts := zw_tbl) (cc := B) (nL := 24) (n := n1) (bytes := B1) (maxL := mL1) (ret := rt1) (C := y.cls) ⟨hx, hb, hml, hown, hts⟩ hM ⟨hB, hts _ hin, hts _ hse⟩ ⟨z_blind, hrecv, fun U hU hW => ⟨rfl, by rw [hU]; exact hP, va_K.moved hW.alike hK, hI, z_XL hX hbl hA hS hW.alike hU⟩⟩ rfl hn hl.1 hstack (lv_room hW) hdg ⟨by show zc + 0 ≤ 600000; exact hzc, by show zs + 0 ≤ 7302250; exact hzs⟩
theorem q_runS {y : MethodName} {index : Nat} {As rest st0 : List Value} {v1 : Option Value} {w1 : ZW} {d1 mL1 : Nat} {B1 : ByteArray} {rt1 : Option FieldType} (n1 : Nat) (hM : zM G l d1 y B1 mL1 rt1 As w v1 w1)
    (hc : Cond.code y B1 mL1 rt1 ∈ zw_tbl) (hi : Cond.initialized y.cls ∈ zw_tbl) (hlk : Cond.methodLink own index y ∈ zw_tbl) (hst : Cond.static y ∈ zw_tbl)
    (hdes : y.cls ≠ "java/lang/invoke/MethodHandle" ∧ y.cls ≠ "java/lang/invoke/VarHandle" ∧ (parseMethodDescriptor y.desc).map (fun d => d.parameters.length) = some n1) (hm : mL1 ≤ 29) (hdd : d1 ≤ 60) (hzc : zc ≤ 600000) (hzs : zs ≤ 7302250)
    (hn : As.length = n1) (hstack : st0 = As.reverse ++ rest) (hW : (rest.map fun v => v.category).sum ≤ 8) (hdg : decode B pc = .ok (.invokestatic index, 3))
    (k : zLA G l own B zc zs (pc + 3) lv (v1.toList ++ rest) w1) : zLA G l own B zc zs pc lv st0 w := by
  intro p e s m below meth c H locs ls C hl
  have C2 := C
  obtain ⟨hx, hb, hml, hr, hlk2, hown, hts, hK, hP, hI, hS, hA, hX, hbl⟩ := C2
  refine q_after (a := As.toArray) (rest := rest) C hl ?_ k
  have hB : CallB room_1 s #[Value.ref (z_b G)] own index y B1 mL1 rt1 (Cond.code y B1 mL1 rt1 :: zw_tbl) (z_rm d1) 0 0 n1 := by
    refine ⟨rfl, rfl, ?_, ?_, z_pay hts hc, List.mem_cons_self, hts _ hc, hts _ hi, ⟨hdes.1, hdes.2.1⟩, fun sig h => ?_, hts _ hlk⟩
    · show d1 + 1 ≤ 2048
      omega
    · show 8 + (mL1 + 11) + 48 * d1 ≤ 84000
      omega
    · have h2 := hdes.2.2
      rw [h] at h2
      exact (Option.some.inj h2).symm
  exact va_runS (Ts := zw_tbl) (cc := B) (nL := 24) (n := n1) (bytes := B1) (maxL := mL1) (ret := rt1) ⟨hx, hb, hml, hown, hts⟩ hM ⟨hB, hts _ hst⟩ ⟨z_blind, fun U hU hW => ⟨rfl, by rw [hU]; exact hP, va_K.moved hW.alike hK, hI, z_XL hX hbl hA hS hW.alike hU⟩⟩ rfl hn hl.1 hstack (lv_room hW) hdg ⟨by show zc + 0 ≤ 600000; exact hzc, by show zs + 0 ≤ 7302250; exact hzs⟩
theorem q_callVi (n n1 : Nat) {y : MethodName} {ix ko ci : Nat} {q : vw_C} {fs : List Value} {d1 mL1 : Nat} {B1 : ByteArray} {rt1 : Option FieldType} (As : List Value) {st0 : List Value} {Y : Option Int32} {Xk : Int32 → Option α} (hzc : zc ≤ 600000) (hzs : zs ≤ 7302250) (hd : decode B pc = .ok (.invokevirtual ix, 3)) (hn : pc + 3 = n) (hstack : st0 = As.reverse ++ .ref (G.1 ko) :: st) (hC : ∀ r, Y = some r → zM G l d1 y B1 mL1 rt1 (.ref (G.1 ko) :: As) w ((fun r => some (.int r)) r) ((fun _ => w) r)) (hko : ko < z_N G) (hcell : z_cell G w ko = .inr (ci, fs)) (hq : vwCl[ci]? = some q) (hqc : q.1 = y.cls) (hc : Cond.code y B1 mL1 rt1 ∈ zw_tbl) (hi : Cond.initialized y.cls ∈ zw_tbl) (hlk : Cond.methodLink own ix y ∈ zw_tbl) (hin : Cond.instanceMethod y ∈ zw_tbl) (hse : Cond.selects y.cls y y ∈ zw_tbl)
    (hdes : y.cls ≠ "java/lang/invoke/MethodHandle" ∧ y.cls ≠ "java/lang/invoke/VarHandle" ∧ (parseMethodDescriptor y.desc).map (fun d => d.parameters.length) = some n1) (hm : mL1 ≤ 29) (hdd : d1 ≤ 60) (hn1 : As.length = n1) (hW : (st.map fun v => v.category).sum ≤ 8)
    (k : ∀ r, zLR G l own B zc zs K n lv (.int r :: st) w (Xk r)) : zLR G l own B zc zs K pc lv st0 w (Y.bind Xk) := by
  intro o h1 h2
  cases hr : Y with
  | none => rw [hr] at h1; cases h1
  | some r =>
    rw [hr] at h1
    subst hn
    exact q_runV n1 (hC r hr) hko hcell hq hqc hc hi hlk hin hse hdes hm hdd hzc hzs hn1 hstack hW hd (k r o h1 h2)
theorem q_callViw (n n1 : Nat) {y : MethodName} {ix ko ci : Nat} {q : vw_C} {fs : List Value} {d1 mL1 : Nat} {B1 : ByteArray} {rt1 : Option FieldType} (As : List Value) {st0 : List Value} {Y : Option (Int32 × ZW)} {Xk : (Int32 × ZW) → Option α} (hzc : zc ≤ 600000) (hzs : zs ≤ 7302250) (hd : decode B pc = .ok (.invokevirtual ix, 3)) (hn : pc + 3 = n) (hstack : st0 = As.reverse ++ .ref (G.1 ko) :: st) (hC : ∀ r, Y = some r → zM G l d1 y B1 mL1 rt1 (.ref (G.1 ko) :: As) w ((fun r => some (.int r.1)) r) ((fun r => r.2) r)) (hko : ko < z_N G) (hcell : z_cell G w ko = .inr (ci, fs)) (hq : vwCl[ci]? = some q) (hqc : q.1 = y.cls) (hc : Cond.code y B1 mL1 rt1 ∈ zw_tbl) (hi : Cond.initialized y.cls ∈ zw_tbl) (hlk : Cond.methodLink own ix y ∈ zw_tbl) (hin : Cond.instanceMethod y ∈ zw_tbl) (hse : Cond.selects y.cls y y ∈ zw_tbl)
    (hdes : y.cls ≠ "java/lang/invoke/MethodHandle" ∧ y.cls ≠ "java/lang/invoke/VarHandle" ∧ (parseMethodDescriptor y.desc).map (fun d => d.parameters.length) = some n1) (hm : mL1 ≤ 29) (hdd : d1 ≤ 60) (hn1 : As.length = n1) (hW : (st.map fun v => v.category).sum ≤ 8)
    (k : ∀ r, zLR G l own B zc zs K n lv (.int r.1 :: st) r.2 (Xk r)) : zLR G l own B zc zs K pc lv st0 w (Y.bind Xk) := by
  intro o h1 h2
  cases hr : Y with
  | none => rw [hr] at h1; cases h1
  | some r =>
    rw [hr] at h1
    subst hn
    exact q_runV n1 (hC r hr) hko hcell hq hqc hc hi hlk hin hse hdes hm hdd hzc hzs hn1 hstack hW hd (k r o h1 h2)
theorem q_callVj (n n1 : Nat) {y : MethodName} {ix ko ci : Nat} {q : vw_C} {fs : List Value} {d1 mL1 : Nat} {B1 : ByteArray} {rt1 : Option FieldType} (As : List Value) {st0 : List Value} {Y : Option Int64} {Xk : Int64 → Option α} (hzc : zc ≤ 600000) (hzs : zs ≤ 7302250) (hd : decode B pc = .ok (.invokevirtual ix, 3)) (hn : pc + 3 = n) (hstack : st0 = As.reverse ++ .ref (G.1 ko) :: st) (hC : ∀ r, Y = some r → zM G l d1 y B1 mL1 rt1 (.ref (G.1 ko) :: As) w ((fun r => some (.long r)) r) ((fun _ => w) r)) (hko : ko < z_N G) (hcell : z_cell G w ko = .inr (ci, fs)) (hq : vwCl[ci]? = some q) (hqc : q.1 = y.cls) (hc : Cond.code y B1 mL1 rt1 ∈ zw_tbl) (hi : Cond.initialized y.cls ∈ zw_tbl) (hlk : Cond.methodLink own ix y ∈ zw_tbl) (hin : Cond.instanceMethod y ∈ zw_tbl) (hse : Cond.selects y.cls y y ∈ zw_tbl)
    (hdes : y.cls ≠ "java/lang/invoke/MethodHandle" ∧ y.cls ≠ "java/lang/invoke/VarHandle" ∧ (parseMethodDescriptor y.desc).map (fun d => d.parameters.length) = some n1) (hm : mL1 ≤ 29) (hdd : d1 ≤ 60) (hn1 : As.length = n1) (hW : (st.map fun v => v.category).sum ≤ 8)
    (k : ∀ r, zLR G l own B zc zs K n lv (.long r :: st) w (Xk r)) : zLR G l own B zc zs K pc lv st0 w (Y.bind Xk) := by
  intro o h1 h2
  cases hr : Y with
  | none => rw [hr] at h1; cases h1
  | some r =>
    rw [hr] at h1
    subst hn
    exact q_runV n1 (hC r hr) hko hcell hq hqc hc hi hlk hin hse hdes hm hdd hzc hzs hn1 hstack hW hd (k r o h1 h2)
theorem q_callVjw (n n1 : Nat) {y : MethodName} {ix ko ci : Nat} {q : vw_C} {fs : List Value} {d1 mL1 : Nat} {B1 : ByteArray} {rt1 : Option FieldType} (As : List Value) {st0 : List Value} {Y : Option (Int64 × ZW)} {Xk : (Int64 × ZW) → Option α} (hzc : zc ≤ 600000) (hzs : zs ≤ 7302250) (hd : decode B pc = .ok (.invokevirtual ix, 3)) (hn : pc + 3 = n) (hstack : st0 = As.reverse ++ .ref (G.1 ko) :: st) (hC : ∀ r, Y = some r → zM G l d1 y B1 mL1 rt1 (.ref (G.1 ko) :: As) w ((fun r => some (.long r.1)) r) ((fun r => r.2) r)) (hko : ko < z_N G) (hcell : z_cell G w ko = .inr (ci, fs)) (hq : vwCl[ci]? = some q) (hqc : q.1 = y.cls) (hc : Cond.code y B1 mL1 rt1 ∈ zw_tbl) (hi : Cond.initialized y.cls ∈ zw_tbl) (hlk : Cond.methodLink own ix y ∈ zw_tbl) (hin : Cond.instanceMethod y ∈ zw_tbl) (hse : Cond.selects y.cls y y ∈ zw_tbl)
    (hdes : y.cls ≠ "java/lang/invoke/MethodHandle" ∧ y.cls ≠ "java/lang/invoke/VarHandle" ∧ (parseMethodDescriptor y.desc).map (fun d => d.parameters.length) = some n1) (hm : mL1 ≤ 29) (hdd : d1 ≤ 60) (hn1 : As.length = n1) (hW : (st.map fun v => v.category).sum ≤ 8)
    (k : ∀ r, zLR G l own B zc zs K n lv (.long r.1 :: st) r.2 (Xk r)) : zLR G l own B zc zs K pc lv st0 w (Y.bind Xk) := by
  intro o h1 h2
  cases hr : Y with
  | none => rw [hr] at h1; cases h1
  | some r =>
    rw [hr] at h1
    subst hn
    exact q_runV n1 (hC r hr) hko hcell hq hqc hc hi hlk hin hse hdes hm hdd hzc hzs hn1 hstack hW hd (k r o h1 h2)
theorem q_callSi (n n1 : Nat) {y : MethodName} {ix : Nat} {d1 mL1 : Nat} {B1 : ByteArray} {rt1 : Option FieldType} (As : List Value) {st0 : List Value} {Y : Option Int32} {Xk : Int32 → Option α} (hzc : zc ≤ 600000) (hzs : zs ≤ 7302250) (hd : decode B pc = .ok (.invokestatic ix, 3)) (hn : pc + 3 = n) (hstack : st0 = As.reverse ++ st) (hC : ∀ r, Y = some r → zM G l d1 y B1 mL1 rt1 As w ((fun r => some (.int r)) r) ((fun _ => w) r)) (hc : Cond.code y B1 mL1 rt1 ∈ zw_tbl) (hi : Cond.initialized y.cls ∈ zw_tbl) (hlk : Cond.methodLink own ix y ∈ zw_tbl) (hst : Cond.static y ∈ zw_tbl)
    (hdes : y.cls ≠ "java/lang/invoke/MethodHandle" ∧ y.cls ≠ "java/lang/invoke/VarHandle" ∧ (parseMethodDescriptor y.desc).map (fun d => d.parameters.length) = some n1) (hm : mL1 ≤ 29) (hdd : d1 ≤ 60) (hn1 : As.length = n1) (hW : (st.map fun v => v.category).sum ≤ 8)
    (k : ∀ r, zLR G l own B zc zs K n lv (.int r :: st) w (Xk r)) : zLR G l own B zc zs K pc lv st0 w (Y.bind Xk) := by
  intro o h1 h2
  cases hr : Y with
  | none => rw [hr] at h1; cases h1
  | some r =>
    rw [hr] at h1
    subst hn
    exact q_runS n1 (hC r hr) hc hi hlk hst hdes hm hdd hzc hzs hn1 hstack hW hd (k r o h1 h2)
theorem q_callSiw (n n1 : Nat) {y : MethodName} {ix : Nat} {d1 mL1 : Nat} {B1 : ByteArray} {rt1 : Option FieldType} (As : List Value) {st0 : List Value} {Y : Option (Int32 × ZW)} {Xk : (Int32 × ZW) → Option α} (hzc : zc ≤ 600000) (hzs : zs ≤ 7302250) (hd : decode B pc = .ok (.invokestatic ix, 3)) (hn : pc + 3 = n) (hstack : st0 = As.reverse ++ st) (hC : ∀ r, Y = some r → zM G l d1 y B1 mL1 rt1 As w ((fun r => some (.int r.1)) r) ((fun r => r.2) r)) (hc : Cond.code y B1 mL1 rt1 ∈ zw_tbl) (hi : Cond.initialized y.cls ∈ zw_tbl) (hlk : Cond.methodLink own ix y ∈ zw_tbl) (hst : Cond.static y ∈ zw_tbl)
    (hdes : y.cls ≠ "java/lang/invoke/MethodHandle" ∧ y.cls ≠ "java/lang/invoke/VarHandle" ∧ (parseMethodDescriptor y.desc).map (fun d => d.parameters.length) = some n1) (hm : mL1 ≤ 29) (hdd : d1 ≤ 60) (hn1 : As.length = n1) (hW : (st.map fun v => v.category).sum ≤ 8)
    (k : ∀ r, zLR G l own B zc zs K n lv (.int r.1 :: st) r.2 (Xk r)) : zLR G l own B zc zs K pc lv st0 w (Y.bind Xk) := by
  intro o h1 h2
  cases hr : Y with
  | none => rw [hr] at h1; cases h1
  | some r =>
    rw [hr] at h1
    subst hn
    exact q_runS n1 (hC r hr) hc hi hlk hst hdes hm hdd hzc hzs hn1 hstack hW hd (k r o h1 h2)
end ZLR
/-- the world with the law's other array -/
def z_new (w : ZW) : ZW := (fun b k => if b = 131 then 0 else w.1 b k, w.2)
abbrev z_G2 (G : ZG) (a : Nat) : ZG := (fun k => if k = 131 then a else G.1 k, G.2.1, G.2.2.1, G.2.2.2.1, G.2.2.2.2.1, G.2.2.2.2.2.1, G.2.2.2.2.2.2.1, 1, G.2.2.2.2.2.2.2.2)
theorem z_c2_0 (G : ZG) (a : Nat) (w : ZW) : z_cell (z_G2 G a) (z_new w) 0 = z_cell G w 0 := by rw [ce_0, ce_0]; rfl
theorem z_c2_1 (G : ZG) (a : Nat) (w : ZW) : z_cell (z_G2 G a) (z_new w) 1 = z_cell G w 1 := by rw [ce_1, ce_1]; rfl
theorem z_c2_2 (G : ZG) (a : Nat) (w : ZW) : z_cell (z_G2 G a) (z_new w) 2 = z_cell G w 2 := by rw [ce_2, ce_2]; rfl
theorem z_c2_3 (G : ZG) (a : Nat) (w : ZW) : z_cell (z_G2 G a) (z_new w) 3 = z_cell G w 3 := by rw [ce_3, ce_3]; rfl
theorem z_c2_4 (G : ZG) (a : Nat) (w : ZW) : z_cell (z_G2 G a) (z_new w) 4 = z_cell G w 4 := by rw [ce_4, ce_4]; rfl
theorem z_c2_5 (G : ZG) (a : Nat) (w : ZW) : z_cell (z_G2 G a) (z_new w) 5 = z_cell G w 5 := by rw [ce_5, ce_5]; rfl
theorem z_c2_6 (G : ZG) (a : Nat) (w : ZW) : z_cell (z_G2 G a) (z_new w) 6 = z_cell G w 6 := by rw [ce_6, ce_6]; rfl
theorem z_c2_7 (G : ZG) (a : Nat) (w : ZW) : z_cell (z_G2 G a) (z_new w) 7 = z_cell G w 7 := by rw [ce_7, ce_7]; rfl
theorem z_c2_8 (G : ZG) (a : Nat) (w : ZW) : z_cell (z_G2 G a) (z_new w) 8 = z_cell G w 8 := by rw [ce_8, ce_8]; rfl
theorem z_c2_9 (G : ZG) (a : Nat) (w : ZW) : z_cell (z_G2 G a) (z_new w) 9 = z_cell G w 9 := by rw [ce_9, ce_9]; rfl
theorem z_c2_10 (G : ZG) (a : Nat) (w : ZW) : z_cell (z_G2 G a) (z_new w) 10 = z_cell G w 10 := by rw [ce_10, ce_10]; rfl
theorem z_c2_11 (G : ZG) (a : Nat) (w : ZW) : z_cell (z_G2 G a) (z_new w) 11 = z_cell G w 11 := by rw [ce_11, ce_11]; rfl
theorem z_c2_12 (G : ZG) (a : Nat) (w : ZW) : z_cell (z_G2 G a) (z_new w) 12 = z_cell G w 12 := by rw [ce_12, ce_12]; rfl
theorem z_c2_13 (G : ZG) (a : Nat) (w : ZW) : z_cell (z_G2 G a) (z_new w) 13 = z_cell G w 13 := by rw [ce_13, ce_13]; rfl
theorem z_c2_14 (G : ZG) (a : Nat) (w : ZW) : z_cell (z_G2 G a) (z_new w) 14 = z_cell G w 14 := by rw [ce_14, ce_14]; rfl
theorem z_c2_15 (G : ZG) (a : Nat) (w : ZW) : z_cell (z_G2 G a) (z_new w) 15 = z_cell G w 15 := by rw [ce_15, ce_15]; rfl
theorem z_c2_16 (G : ZG) (a : Nat) (w : ZW) : z_cell (z_G2 G a) (z_new w) 16 = z_cell G w 16 := by rw [ce_16, ce_16]; rfl
theorem z_c2_17 (G : ZG) (a : Nat) (w : ZW) : z_cell (z_G2 G a) (z_new w) 17 = z_cell G w 17 := by rw [ce_17, ce_17]; rfl
theorem z_c2_18 (G : ZG) (a : Nat) (w : ZW) : z_cell (z_G2 G a) (z_new w) 18 = z_cell G w 18 := by rw [ce_18, ce_18]; rfl
theorem z_c2_19 (G : ZG) (a : Nat) (w : ZW) : z_cell (z_G2 G a) (z_new w) 19 = z_cell G w 19 := by rw [ce_19, ce_19]; rfl
theorem z_c2_20 (G : ZG) (a : Nat) (w : ZW) : z_cell (z_G2 G a) (z_new w) 20 = z_cell G w 20 := by rw [ce_20, ce_20]; rfl
theorem z_c2_21 (G : ZG) (a : Nat) (w : ZW) : z_cell (z_G2 G a) (z_new w) 21 = z_cell G w 21 := by rw [ce_21, ce_21]; rfl
theorem z_c2_22 (G : ZG) (a : Nat) (w : ZW) : z_cell (z_G2 G a) (z_new w) 22 = z_cell G w 22 := by rw [ce_22, ce_22]; rfl
theorem z_c2_23 (G : ZG) (a : Nat) (w : ZW) : z_cell (z_G2 G a) (z_new w) 23 = z_cell G w 23 := by rw [ce_23, ce_23]; rfl
theorem z_c2_24 (G : ZG) (a : Nat) (w : ZW) : z_cell (z_G2 G a) (z_new w) 24 = z_cell G w 24 := by
  rw [ce_24, ce_24]
  have e : (fun j => if j < 13 then some ((z_G2 G a).1 (25 + j)) else none) = (fun j => if j < 13 then some (G.1 (25 + j)) else none) := by
    funext j
    by_cases h : j < 13
    · rw [if_pos h, if_pos h]
      exact congrArg some (if_neg (by omega))
    · rw [if_neg h, if_neg h]
  exact congrArg (fun f => (.inl (G.2.2.2.2.2.2.1, 13, .inr (.inr (.inr (.inr f)))) : va_E)) e
theorem z_c2_25 (G : ZG) (a : Nat) (w : ZW) : z_cell (z_G2 G a) (z_new w) 25 = z_cell G w 25 := by rw [ce_25, ce_25]; rfl
theorem z_c2_26 (G : ZG) (a : Nat) (w : ZW) : z_cell (z_G2 G a) (z_new w) 26 = z_cell G w 26 := by rw [ce_26, ce_26]; rfl
theorem z_c2_27 (G : ZG) (a : Nat) (w : ZW) : z_cell (z_G2 G a) (z_new w) 27 = z_cell G w 27 := by rw [ce_27, ce_27]; rfl
theorem z_c2_28 (G : ZG) (a : Nat) (w : ZW) : z_cell (z_G2 G a) (z_new w) 28 = z_cell G w 28 := by rw [ce_28, ce_28]; rfl
theorem z_c2_29 (G : ZG) (a : Nat) (w : ZW) : z_cell (z_G2 G a) (z_new w) 29 = z_cell G w 29 := by rw [ce_29, ce_29]; rfl
theorem z_c2_30 (G : ZG) (a : Nat) (w : ZW) : z_cell (z_G2 G a) (z_new w) 30 = z_cell G w 30 := by rw [ce_30, ce_30]; rfl
theorem z_c2_31 (G : ZG) (a : Nat) (w : ZW) : z_cell (z_G2 G a) (z_new w) 31 = z_cell G w 31 := by rw [ce_31, ce_31]; rfl
theorem z_c2_32 (G : ZG) (a : Nat) (w : ZW) : z_cell (z_G2 G a) (z_new w) 32 = z_cell G w 32 := by rw [ce_32, ce_32]; rfl
theorem z_c2_33 (G : ZG) (a : Nat) (w : ZW) : z_cell (z_G2 G a) (z_new w) 33 = z_cell G w 33 := by rw [ce_33, ce_33]; rfl
theorem z_c2_34 (G : ZG) (a : Nat) (w : ZW) : z_cell (z_G2 G a) (z_new w) 34 = z_cell G w 34 := by rw [ce_34, ce_34]; rfl
theorem z_c2_35 (G : ZG) (a : Nat) (w : ZW) : z_cell (z_G2 G a) (z_new w) 35 = z_cell G w 35 := by rw [ce_35, ce_35]; rfl
theorem z_c2_36 (G : ZG) (a : Nat) (w : ZW) : z_cell (z_G2 G a) (z_new w) 36 = z_cell G w 36 := by rw [ce_36, ce_36]; rfl
theorem z_c2_37 (G : ZG) (a : Nat) (w : ZW) : z_cell (z_G2 G a) (z_new w) 37 = z_cell G w 37 := by rw [ce_37, ce_37]; rfl
theorem z_c2_38 (G : ZG) (a : Nat) (w : ZW) : z_cell (z_G2 G a) (z_new w) 38 = z_cell G w 38 := by
  rw [ce_38, ce_38]
  have e : (fun j => if j < 12 then some ((z_G2 G a).1 (39 + j)) else none) = (fun j => if j < 12 then some (G.1 (39 + j)) else none) := by
    funext j
    by_cases h : j < 12
    · rw [if_pos h, if_pos h]
      exact congrArg some (if_neg (by omega))
    · rw [if_neg h, if_neg h]
  exact congrArg (fun f => (.inl (G.2.2.2.2.2.2.1, 12, .inr (.inr (.inr (.inr f)))) : va_E)) e
theorem z_c2_39 (G : ZG) (a : Nat) (w : ZW) : z_cell (z_G2 G a) (z_new w) 39 = z_cell G w 39 := by rw [ce_39, ce_39]; rfl
theorem z_c2_40 (G : ZG) (a : Nat) (w : ZW) : z_cell (z_G2 G a) (z_new w) 40 = z_cell G w 40 := by rw [ce_40, ce_40]; rfl
theorem z_c2_41 (G : ZG) (a : Nat) (w : ZW) : z_cell (z_G2 G a) (z_new w) 41 = z_cell G w 41 := by rw [ce_41, ce_41]; rfl
theorem z_c2_42 (G : ZG) (a : Nat) (w : ZW) : z_cell (z_G2 G a) (z_new w) 42 = z_cell G w 42 := by rw [ce_42, ce_42]; rfl
theorem z_c2_43 (G : ZG) (a : Nat) (w : ZW) : z_cell (z_G2 G a) (z_new w) 43 = z_cell G w 43 := by rw [ce_43, ce_43]; rfl
theorem z_c2_44 (G : ZG) (a : Nat) (w : ZW) : z_cell (z_G2 G a) (z_new w) 44 = z_cell G w 44 := by rw [ce_44, ce_44]; rfl
theorem z_c2_45 (G : ZG) (a : Nat) (w : ZW) : z_cell (z_G2 G a) (z_new w) 45 = z_cell G w 45 := by rw [ce_45, ce_45]; rfl
theorem z_c2_46 (G : ZG) (a : Nat) (w : ZW) : z_cell (z_G2 G a) (z_new w) 46 = z_cell G w 46 := by rw [ce_46, ce_46]; rfl
theorem z_c2_47 (G : ZG) (a : Nat) (w : ZW) : z_cell (z_G2 G a) (z_new w) 47 = z_cell G w 47 := by rw [ce_47, ce_47]; rfl
theorem z_c2_48 (G : ZG) (a : Nat) (w : ZW) : z_cell (z_G2 G a) (z_new w) 48 = z_cell G w 48 := by rw [ce_48, ce_48]; rfl
theorem z_c2_49 (G : ZG) (a : Nat) (w : ZW) : z_cell (z_G2 G a) (z_new w) 49 = z_cell G w 49 := by rw [ce_49, ce_49]; rfl
theorem z_c2_50 (G : ZG) (a : Nat) (w : ZW) : z_cell (z_G2 G a) (z_new w) 50 = z_cell G w 50 := by rw [ce_50, ce_50]; rfl
theorem z_c2_51 (G : ZG) (a : Nat) (w : ZW) : z_cell (z_G2 G a) (z_new w) 51 = z_cell G w 51 := by rw [ce_51, ce_51]; rfl
theorem z_c2_52 (G : ZG) (a : Nat) (w : ZW) : z_cell (z_G2 G a) (z_new w) 52 = z_cell G w 52 := by rw [ce_52, ce_52]; rfl
theorem z_c2_53 (G : ZG) (a : Nat) (w : ZW) : z_cell (z_G2 G a) (z_new w) 53 = z_cell G w 53 := by rw [ce_53, ce_53]; rfl
theorem z_c2_54 (G : ZG) (a : Nat) (w : ZW) : z_cell (z_G2 G a) (z_new w) 54 = z_cell G w 54 := by rw [ce_54, ce_54]; rfl
theorem z_c2_55 (G : ZG) (a : Nat) (w : ZW) : z_cell (z_G2 G a) (z_new w) 55 = z_cell G w 55 := by rw [ce_55, ce_55]; rfl
theorem z_c2_56 (G : ZG) (a : Nat) (w : ZW) : z_cell (z_G2 G a) (z_new w) 56 = z_cell G w 56 := by rw [ce_56, ce_56]; rfl
theorem z_c2_57 (G : ZG) (a : Nat) (w : ZW) : z_cell (z_G2 G a) (z_new w) 57 = z_cell G w 57 := by rw [ce_57, ce_57]; rfl
theorem z_c2_58 (G : ZG) (a : Nat) (w : ZW) : z_cell (z_G2 G a) (z_new w) 58 = z_cell G w 58 := by rw [ce_58, ce_58]; rfl
theorem z_c2_59 (G : ZG) (a : Nat) (w : ZW) : z_cell (z_G2 G a) (z_new w) 59 = z_cell G w 59 := by rw [ce_59, ce_59]; rfl
theorem z_c2_60 (G : ZG) (a : Nat) (w : ZW) : z_cell (z_G2 G a) (z_new w) 60 = z_cell G w 60 := by rw [ce_60, ce_60]; rfl
theorem z_c2_61 (G : ZG) (a : Nat) (w : ZW) : z_cell (z_G2 G a) (z_new w) 61 = z_cell G w 61 := by rw [ce_61, ce_61]; rfl
theorem z_c2_62 (G : ZG) (a : Nat) (w : ZW) : z_cell (z_G2 G a) (z_new w) 62 = z_cell G w 62 := by rw [ce_62, ce_62]; rfl
theorem z_c2_63 (G : ZG) (a : Nat) (w : ZW) : z_cell (z_G2 G a) (z_new w) 63 = z_cell G w 63 := by rw [ce_63, ce_63]; rfl
theorem z_c2_64 (G : ZG) (a : Nat) (w : ZW) : z_cell (z_G2 G a) (z_new w) 64 = z_cell G w 64 := by rw [ce_64, ce_64]; rfl
theorem z_c2_65 (G : ZG) (a : Nat) (w : ZW) : z_cell (z_G2 G a) (z_new w) 65 = z_cell G w 65 := by rw [ce_65, ce_65]; rfl
theorem z_c2_66 (G : ZG) (a : Nat) (w : ZW) : z_cell (z_G2 G a) (z_new w) 66 = z_cell G w 66 := by rw [ce_66, ce_66]; rfl
theorem z_c2_67 (G : ZG) (a : Nat) (w : ZW) : z_cell (z_G2 G a) (z_new w) 67 = z_cell G w 67 := by rw [ce_67, ce_67]; rfl
theorem z_c2_68 (G : ZG) (a : Nat) (w : ZW) : z_cell (z_G2 G a) (z_new w) 68 = z_cell G w 68 := by rw [ce_68, ce_68]; rfl
theorem z_c2_69 (G : ZG) (a : Nat) (w : ZW) : z_cell (z_G2 G a) (z_new w) 69 = z_cell G w 69 := by rw [ce_69, ce_69]; rfl
theorem z_c2_70 (G : ZG) (a : Nat) (w : ZW) : z_cell (z_G2 G a) (z_new w) 70 = z_cell G w 70 := by rw [ce_70, ce_70]; rfl
theorem z_c2_71 (G : ZG) (a : Nat) (w : ZW) : z_cell (z_G2 G a) (z_new w) 71 = z_cell G w 71 := by rw [ce_71, ce_71]; rfl
theorem z_c2_72 (G : ZG) (a : Nat) (w : ZW) : z_cell (z_G2 G a) (z_new w) 72 = z_cell G w 72 := by rw [ce_72, ce_72]; rfl
theorem z_c2_73 (G : ZG) (a : Nat) (w : ZW) : z_cell (z_G2 G a) (z_new w) 73 = z_cell G w 73 := by rw [ce_73, ce_73]; rfl
theorem z_c2_74 (G : ZG) (a : Nat) (w : ZW) : z_cell (z_G2 G a) (z_new w) 74 = z_cell G w 74 := by rw [ce_74, ce_74]; rfl
theorem z_c2_75 (G : ZG) (a : Nat) (w : ZW) : z_cell (z_G2 G a) (z_new w) 75 = z_cell G w 75 := by rw [ce_75, ce_75]; rfl
theorem z_c2_76 (G : ZG) (a : Nat) (w : ZW) : z_cell (z_G2 G a) (z_new w) 76 = z_cell G w 76 := by rw [ce_76, ce_76]; rfl
theorem z_c2_77 (G : ZG) (a : Nat) (w : ZW) : z_cell (z_G2 G a) (z_new w) 77 = z_cell G w 77 := by rw [ce_77, ce_77]; rfl
theorem z_c2_78 (G : ZG) (a : Nat) (w : ZW) : z_cell (z_G2 G a) (z_new w) 78 = z_cell G w 78 := by rw [ce_78, ce_78]; rfl
theorem z_c2_79 (G : ZG) (a : Nat) (w : ZW) : z_cell (z_G2 G a) (z_new w) 79 = z_cell G w 79 := by
  rw [ce_79, ce_79]
  have e : (fun j => if j < 13 then some ((z_G2 G a).1 (80 + j)) else none) = (fun j => if j < 13 then some (G.1 (80 + j)) else none) := by
    funext j
    by_cases h : j < 13
    · rw [if_pos h, if_pos h]
      exact congrArg some (if_neg (by omega))
    · rw [if_neg h, if_neg h]
  exact congrArg (fun f => (.inl (G.2.2.2.2.2.2.1, 13, .inr (.inr (.inr (.inr f)))) : va_E)) e
theorem z_c2_80 (G : ZG) (a : Nat) (w : ZW) : z_cell (z_G2 G a) (z_new w) 80 = z_cell G w 80 := by rw [ce_80, ce_80]; rfl
theorem z_c2_81 (G : ZG) (a : Nat) (w : ZW) : z_cell (z_G2 G a) (z_new w) 81 = z_cell G w 81 := by rw [ce_81, ce_81]; rfl
theorem z_c2_82 (G : ZG) (a : Nat) (w : ZW) : z_cell (z_G2 G a) (z_new w) 82 = z_cell G w 82 := by rw [ce_82, ce_82]; rfl
theorem z_c2_83 (G : ZG) (a : Nat) (w : ZW) : z_cell (z_G2 G a) (z_new w) 83 = z_cell G w 83 := by rw [ce_83, ce_83]; rfl
theorem z_c2_84 (G : ZG) (a : Nat) (w : ZW) : z_cell (z_G2 G a) (z_new w) 84 = z_cell G w 84 := by rw [ce_84, ce_84]; rfl
theorem z_c2_85 (G : ZG) (a : Nat) (w : ZW) : z_cell (z_G2 G a) (z_new w) 85 = z_cell G w 85 := by rw [ce_85, ce_85]; rfl
theorem z_c2_86 (G : ZG) (a : Nat) (w : ZW) : z_cell (z_G2 G a) (z_new w) 86 = z_cell G w 86 := by rw [ce_86, ce_86]; rfl
theorem z_c2_87 (G : ZG) (a : Nat) (w : ZW) : z_cell (z_G2 G a) (z_new w) 87 = z_cell G w 87 := by rw [ce_87, ce_87]; rfl
theorem z_c2_88 (G : ZG) (a : Nat) (w : ZW) : z_cell (z_G2 G a) (z_new w) 88 = z_cell G w 88 := by rw [ce_88, ce_88]; rfl
theorem z_c2_89 (G : ZG) (a : Nat) (w : ZW) : z_cell (z_G2 G a) (z_new w) 89 = z_cell G w 89 := by rw [ce_89, ce_89]; rfl
theorem z_c2_90 (G : ZG) (a : Nat) (w : ZW) : z_cell (z_G2 G a) (z_new w) 90 = z_cell G w 90 := by rw [ce_90, ce_90]; rfl
theorem z_c2_91 (G : ZG) (a : Nat) (w : ZW) : z_cell (z_G2 G a) (z_new w) 91 = z_cell G w 91 := by rw [ce_91, ce_91]; rfl
theorem z_c2_92 (G : ZG) (a : Nat) (w : ZW) : z_cell (z_G2 G a) (z_new w) 92 = z_cell G w 92 := by rw [ce_92, ce_92]; rfl
theorem z_c2_93 (G : ZG) (a : Nat) (w : ZW) : z_cell (z_G2 G a) (z_new w) 93 = z_cell G w 93 := by
  rw [ce_93, ce_93]
  have e : (fun j => if j < 12 then some ((z_G2 G a).1 (94 + j)) else none) = (fun j => if j < 12 then some (G.1 (94 + j)) else none) := by
    funext j
    by_cases h : j < 12
    · rw [if_pos h, if_pos h]
      exact congrArg some (if_neg (by omega))
    · rw [if_neg h, if_neg h]
  exact congrArg (fun f => (.inl (G.2.2.2.2.2.2.1, 12, .inr (.inr (.inr (.inr f)))) : va_E)) e
theorem z_c2_94 (G : ZG) (a : Nat) (w : ZW) : z_cell (z_G2 G a) (z_new w) 94 = z_cell G w 94 := by rw [ce_94, ce_94]; rfl
theorem z_c2_95 (G : ZG) (a : Nat) (w : ZW) : z_cell (z_G2 G a) (z_new w) 95 = z_cell G w 95 := by rw [ce_95, ce_95]; rfl
theorem z_c2_96 (G : ZG) (a : Nat) (w : ZW) : z_cell (z_G2 G a) (z_new w) 96 = z_cell G w 96 := by rw [ce_96, ce_96]; rfl
theorem z_c2_97 (G : ZG) (a : Nat) (w : ZW) : z_cell (z_G2 G a) (z_new w) 97 = z_cell G w 97 := by rw [ce_97, ce_97]; rfl
theorem z_c2_98 (G : ZG) (a : Nat) (w : ZW) : z_cell (z_G2 G a) (z_new w) 98 = z_cell G w 98 := by rw [ce_98, ce_98]; rfl
theorem z_c2_99 (G : ZG) (a : Nat) (w : ZW) : z_cell (z_G2 G a) (z_new w) 99 = z_cell G w 99 := by rw [ce_99, ce_99]; rfl
theorem z_c2_100 (G : ZG) (a : Nat) (w : ZW) : z_cell (z_G2 G a) (z_new w) 100 = z_cell G w 100 := by rw [ce_100, ce_100]; rfl
theorem z_c2_101 (G : ZG) (a : Nat) (w : ZW) : z_cell (z_G2 G a) (z_new w) 101 = z_cell G w 101 := by rw [ce_101, ce_101]; rfl
theorem z_c2_102 (G : ZG) (a : Nat) (w : ZW) : z_cell (z_G2 G a) (z_new w) 102 = z_cell G w 102 := by rw [ce_102, ce_102]; rfl
theorem z_c2_103 (G : ZG) (a : Nat) (w : ZW) : z_cell (z_G2 G a) (z_new w) 103 = z_cell G w 103 := by rw [ce_103, ce_103]; rfl
theorem z_c2_104 (G : ZG) (a : Nat) (w : ZW) : z_cell (z_G2 G a) (z_new w) 104 = z_cell G w 104 := by rw [ce_104, ce_104]; rfl
theorem z_c2_105 (G : ZG) (a : Nat) (w : ZW) : z_cell (z_G2 G a) (z_new w) 105 = z_cell G w 105 := by rw [ce_105, ce_105]; rfl
theorem z_c2_106 (G : ZG) (a : Nat) (w : ZW) : z_cell (z_G2 G a) (z_new w) 106 = z_cell G w 106 := by rw [ce_106, ce_106]; rfl
theorem z_c2_107 (G : ZG) (a : Nat) (w : ZW) : z_cell (z_G2 G a) (z_new w) 107 = z_cell G w 107 := by rw [ce_107, ce_107]; rfl
theorem z_c2_108 (G : ZG) (a : Nat) (w : ZW) : z_cell (z_G2 G a) (z_new w) 108 = z_cell G w 108 := by rw [ce_108, ce_108]; rfl
theorem z_c2_109 (G : ZG) (a : Nat) (w : ZW) : z_cell (z_G2 G a) (z_new w) 109 = z_cell G w 109 := by rw [ce_109, ce_109]; rfl
theorem z_c2_110 (G : ZG) (a : Nat) (w : ZW) : z_cell (z_G2 G a) (z_new w) 110 = z_cell G w 110 := by rw [ce_110, ce_110]; rfl
theorem z_c2_111 (G : ZG) (a : Nat) (w : ZW) : z_cell (z_G2 G a) (z_new w) 111 = z_cell G w 111 := by rw [ce_111, ce_111]; rfl
theorem z_c2_112 (G : ZG) (a : Nat) (w : ZW) : z_cell (z_G2 G a) (z_new w) 112 = z_cell G w 112 := by rw [ce_112, ce_112]; rfl
theorem z_c2_113 (G : ZG) (a : Nat) (w : ZW) : z_cell (z_G2 G a) (z_new w) 113 = z_cell G w 113 := by rw [ce_113, ce_113]; rfl
theorem z_c2_114 (G : ZG) (a : Nat) (w : ZW) : z_cell (z_G2 G a) (z_new w) 114 = z_cell G w 114 := by rw [ce_114, ce_114]; rfl
theorem z_c2_115 (G : ZG) (a : Nat) (w : ZW) : z_cell (z_G2 G a) (z_new w) 115 = z_cell G w 115 := by rw [ce_115, ce_115]; rfl
theorem z_c2_116 (G : ZG) (a : Nat) (w : ZW) : z_cell (z_G2 G a) (z_new w) 116 = z_cell G w 116 := by rw [ce_116, ce_116]; rfl
theorem z_c2_117 (G : ZG) (a : Nat) (w : ZW) : z_cell (z_G2 G a) (z_new w) 117 = z_cell G w 117 := by rw [ce_117, ce_117]; rfl
theorem z_c2_118 (G : ZG) (a : Nat) (w : ZW) : z_cell (z_G2 G a) (z_new w) 118 = z_cell G w 118 := by rw [ce_118, ce_118]; rfl
theorem z_c2_119 (G : ZG) (a : Nat) (w : ZW) : z_cell (z_G2 G a) (z_new w) 119 = z_cell G w 119 := by rw [ce_119, ce_119]; rfl
theorem z_c2_120 (G : ZG) (a : Nat) (w : ZW) : z_cell (z_G2 G a) (z_new w) 120 = z_cell G w 120 := by rw [ce_120, ce_120]; rfl
theorem z_c2_121 (G : ZG) (a : Nat) (w : ZW) : z_cell (z_G2 G a) (z_new w) 121 = z_cell G w 121 := by rw [ce_121, ce_121]; rfl
theorem z_c2_122 (G : ZG) (a : Nat) (w : ZW) : z_cell (z_G2 G a) (z_new w) 122 = z_cell G w 122 := by rw [ce_122, ce_122]; rfl
theorem z_c2_123 (G : ZG) (a : Nat) (w : ZW) : z_cell (z_G2 G a) (z_new w) 123 = z_cell G w 123 := by rw [ce_123, ce_123]; rfl
theorem z_c2_124 (G : ZG) (a : Nat) (w : ZW) : z_cell (z_G2 G a) (z_new w) 124 = z_cell G w 124 := by rw [ce_124, ce_124]; rfl
theorem z_c2_125 (G : ZG) (a : Nat) (w : ZW) : z_cell (z_G2 G a) (z_new w) 125 = z_cell G w 125 := by
  rw [ce_125, ce_125]
  have e : (fun j => if j < 4 then some ((z_G2 G a).1 (126 + j)) else none) = (fun j => if j < 4 then some (G.1 (126 + j)) else none) := by
    funext j
    by_cases h : j < 4
    · rw [if_pos h, if_pos h]
      exact congrArg some (if_neg (by omega))
    · rw [if_neg h, if_neg h]
  exact congrArg (fun f => (.inl (G.2.2.2.2.2.2.1, 4, .inr (.inr (.inr (.inr f)))) : va_E)) e
theorem z_c2_126 (G : ZG) (a : Nat) (w : ZW) : z_cell (z_G2 G a) (z_new w) 126 = z_cell G w 126 := by rw [ce_126, ce_126]; rfl
theorem z_c2_127 (G : ZG) (a : Nat) (w : ZW) : z_cell (z_G2 G a) (z_new w) 127 = z_cell G w 127 := by rw [ce_127, ce_127]; rfl
theorem z_c2_128 (G : ZG) (a : Nat) (w : ZW) : z_cell (z_G2 G a) (z_new w) 128 = z_cell G w 128 := by rw [ce_128, ce_128]; rfl
theorem z_c2_129 (G : ZG) (a : Nat) (w : ZW) : z_cell (z_G2 G a) (z_new w) 129 = z_cell G w 129 := by rw [ce_129, ce_129]; rfl
theorem z_c2_130 (G : ZG) (a : Nat) (w : ZW) : z_cell (z_G2 G a) (z_new w) 130 = z_cell G w 130 := by rw [ce_130, ce_130]; rfl
set_option maxRecDepth 100000 in
theorem z_c2 (G : ZG) (a : Nat) (w : ZW) : ∀ k, k < 131 → z_cell (z_G2 G a) (z_new w) k = z_cell G w k := by
  intro k hk
  match k, hk with
  | 0, _ => exact z_c2_0 G a w
  | 1, _ => exact z_c2_1 G a w
  | 2, _ => exact z_c2_2 G a w
  | 3, _ => exact z_c2_3 G a w
  | 4, _ => exact z_c2_4 G a w
  | 5, _ => exact z_c2_5 G a w
  | 6, _ => exact z_c2_6 G a w
  | 7, _ => exact z_c2_7 G a w
  | 8, _ => exact z_c2_8 G a w
  | 9, _ => exact z_c2_9 G a w
  | 10, _ => exact z_c2_10 G a w
  | 11, _ => exact z_c2_11 G a w
  | 12, _ => exact z_c2_12 G a w
  | 13, _ => exact z_c2_13 G a w
  | 14, _ => exact z_c2_14 G a w
  | 15, _ => exact z_c2_15 G a w
  | 16, _ => exact z_c2_16 G a w
  | 17, _ => exact z_c2_17 G a w
  | 18, _ => exact z_c2_18 G a w
  | 19, _ => exact z_c2_19 G a w
  | 20, _ => exact z_c2_20 G a w
  | 21, _ => exact z_c2_21 G a w
  | 22, _ => exact z_c2_22 G a w
  | 23, _ => exact z_c2_23 G a w
  | 24, _ => exact z_c2_24 G a w
  | 25, _ => exact z_c2_25 G a w
  | 26, _ => exact z_c2_26 G a w
  | 27, _ => exact z_c2_27 G a w
  | 28, _ => exact z_c2_28 G a w
  | 29, _ => exact z_c2_29 G a w
  | 30, _ => exact z_c2_30 G a w
  | 31, _ => exact z_c2_31 G a w
  | 32, _ => exact z_c2_32 G a w
  | 33, _ => exact z_c2_33 G a w
  | 34, _ => exact z_c2_34 G a w
  | 35, _ => exact z_c2_35 G a w
  | 36, _ => exact z_c2_36 G a w
  | 37, _ => exact z_c2_37 G a w
  | 38, _ => exact z_c2_38 G a w
  | 39, _ => exact z_c2_39 G a w
  | 40, _ => exact z_c2_40 G a w
  | 41, _ => exact z_c2_41 G a w
  | 42, _ => exact z_c2_42 G a w
  | 43, _ => exact z_c2_43 G a w
  | 44, _ => exact z_c2_44 G a w
  | 45, _ => exact z_c2_45 G a w
  | 46, _ => exact z_c2_46 G a w
  | 47, _ => exact z_c2_47 G a w
  | 48, _ => exact z_c2_48 G a w
  | 49, _ => exact z_c2_49 G a w
  | 50, _ => exact z_c2_50 G a w
  | 51, _ => exact z_c2_51 G a w
  | 52, _ => exact z_c2_52 G a w
  | 53, _ => exact z_c2_53 G a w
  | 54, _ => exact z_c2_54 G a w
  | 55, _ => exact z_c2_55 G a w
  | 56, _ => exact z_c2_56 G a w
  | 57, _ => exact z_c2_57 G a w
  | 58, _ => exact z_c2_58 G a w
  | 59, _ => exact z_c2_59 G a w
  | 60, _ => exact z_c2_60 G a w
  | 61, _ => exact z_c2_61 G a w
  | 62, _ => exact z_c2_62 G a w
  | 63, _ => exact z_c2_63 G a w
  | 64, _ => exact z_c2_64 G a w
  | 65, _ => exact z_c2_65 G a w
  | 66, _ => exact z_c2_66 G a w
  | 67, _ => exact z_c2_67 G a w
  | 68, _ => exact z_c2_68 G a w
  | 69, _ => exact z_c2_69 G a w
  | 70, _ => exact z_c2_70 G a w
  | 71, _ => exact z_c2_71 G a w
  | 72, _ => exact z_c2_72 G a w
  | 73, _ => exact z_c2_73 G a w
  | 74, _ => exact z_c2_74 G a w
  | 75, _ => exact z_c2_75 G a w
  | 76, _ => exact z_c2_76 G a w
  | 77, _ => exact z_c2_77 G a w
  | 78, _ => exact z_c2_78 G a w
  | 79, _ => exact z_c2_79 G a w
  | 80, _ => exact z_c2_80 G a w
  | 81, _ => exact z_c2_81 G a w
  | 82, _ => exact z_c2_82 G a w
  | 83, _ => exact z_c2_83 G a w
  | 84, _ => exact z_c2_84 G a w
  | 85, _ => exact z_c2_85 G a w
  | 86, _ => exact z_c2_86 G a w
  | 87, _ => exact z_c2_87 G a w
  | 88, _ => exact z_c2_88 G a w
  | 89, _ => exact z_c2_89 G a w
  | 90, _ => exact z_c2_90 G a w
  | 91, _ => exact z_c2_91 G a w
  | 92, _ => exact z_c2_92 G a w
  | 93, _ => exact z_c2_93 G a w
  | 94, _ => exact z_c2_94 G a w
  | 95, _ => exact z_c2_95 G a w
  | 96, _ => exact z_c2_96 G a w
  | 97, _ => exact z_c2_97 G a w
  | 98, _ => exact z_c2_98 G a w
  | 99, _ => exact z_c2_99 G a w
  | 100, _ => exact z_c2_100 G a w
  | 101, _ => exact z_c2_101 G a w
  | 102, _ => exact z_c2_102 G a w
  | 103, _ => exact z_c2_103 G a w
  | 104, _ => exact z_c2_104 G a w
  | 105, _ => exact z_c2_105 G a w
  | 106, _ => exact z_c2_106 G a w
  | 107, _ => exact z_c2_107 G a w
  | 108, _ => exact z_c2_108 G a w
  | 109, _ => exact z_c2_109 G a w
  | 110, _ => exact z_c2_110 G a w
  | 111, _ => exact z_c2_111 G a w
  | 112, _ => exact z_c2_112 G a w
  | 113, _ => exact z_c2_113 G a w
  | 114, _ => exact z_c2_114 G a w
  | 115, _ => exact z_c2_115 G a w
  | 116, _ => exact z_c2_116 G a w
  | 117, _ => exact z_c2_117 G a w
  | 118, _ => exact z_c2_118 G a w
  | 119, _ => exact z_c2_119 G a w
  | 120, _ => exact z_c2_120 G a w
  | 121, _ => exact z_c2_121 G a w
  | 122, _ => exact z_c2_122 G a w
  | 123, _ => exact z_c2_123 G a w
  | 124, _ => exact z_c2_124 G a w
  | 125, _ => exact z_c2_125 G a w
  | 126, _ => exact z_c2_126 G a w
  | 127, _ => exact z_c2_127 G a w
  | 128, _ => exact z_c2_128 G a w
  | 129, _ => exact z_c2_129 G a w
  | 130, _ => exact z_c2_130 G a w
  | k + 131, h => exact absurd h (by omega)
theorem q_newa {G : ZG} {l : Launch} {own : String} {B : ByteArray} {zc zs : Nat} {lv : List (Nat × Value)} {w : ZW} {X : Option Int32} {pc : Nat} (n : Nat) (is : List Nat) {lv2 : List (Nat × Value)} {x : Int32} (hd : decode B pc = .ok (.newarray .int, 2)) (hn : pc + 2 = n) (hw : Cond.arrayClass .int ∈ zw_tbl) (h0 : ¬ x < 0) (hN : x.toNatClampNeg = 9) (he : z_e G = 0) (hzc : zc + 1 ≤ 600000) (hzs : zs + 9 ≤ 7302250) (hlv : is.filterMap (fun i => lv[i]?) = lv2)
    (k : X = some 1 → ∀ a, zLA (z_G2 G a) l own B (zc + 1) (zs + 9) n lv2 [.ref a] (z_new w)) : zLR G l own B zc zs (fun x : Int32 => x = 1) pc lv [.int x] w X := by
  intro o h1 h2 p e s m below meth c H locs ls C hl
  subst hn
  have h3 : o = 1 := h2
  subst h3
  obtain ⟨hx, hb, hml, hr, hlk, hown, hts, hK2, hP, hI, hS, hA, hX, hbl⟩ := C
  refine va_newaK (atype := .int) hx hb (hts _ hw) rfl hd rfl h0 hN (Nat.le_of_ble_eq_true rfl) (by show zc + 1 ≤ 600000; exact hzc) (by show zs + 9 ≤ 7302250; exact hzs) rfl fun H1 cA e1 z1 o1 hAr hNm => ?_
  have hcA : s.vm.findClass ("[" ++ (FieldType.int).toString) = some (G.2.2.2.2.1) := (hK2.2 1 _ rfl).2
  have ec : some cA = some (G.2.2.2.2.1) := hNm.symm.trans hcA
  cases ec
  have hN1 : z_N G = 131 := by unfold z_N; rw [he]
  have hN2 : z_N (z_G2 G H.size) = 132 := rfl
  have hin : ∀ k, k < 131 → va_at (z_D G) vwCl (G.1 k, z_cell G w k) H := fun k hk => hP k _ (z_ws_get (by omega))
  have hlt : ∀ k, k < 131 → G.1 k < H.size := fun k hk => (hin k hk).lt
  have g2 : ∀ k, k < 131 → (z_G2 G H.size).1 k = G.1 k := fun k hk => if_neg (by omega)
  have g3 : (z_G2 G H.size).1 131 = H.size := rfl
  refine k h1 H.size p e s m below meth c H1 locs ls ⟨hx, hb, hml, hr, hlk, hown, hts, hK2, ?_, ?_, ⟨Nat.le_trans hS.1 (by omega), fun x h1 h2 => (o1 x (Nat.lt_of_lt_of_le h1 hS.1)).trans (hS.2.1 x h1 h2), hS.2.2⟩, fun k hk => ?_, hX, hbl⟩ (lv_sub hl is hlv)
  · intro k q hq
    by_cases hk : k < 132
    · rw [z_ws_get (by rw [hN2]; exact hk)] at hq
      cases hq
      by_cases hk1 : k < 131
      · have hz : ∀ (D : va_G) (cl : List vw_C), va_at D cl (G.1 k, z_cell G w k) H → va_at D cl (G.1 k, z_cell G w k) H1 := fun D cl h => h.kept (o1 _ (hlt k hk1))
        rw [z_c2 G H.size w k hk1, g2 k hk1]
        exact hz _ _ (hin k hk1)
      · have e : k = 131 := by omega
        subst e
        exact e1
    · rw [List.getElem?_eq_none (by unfold z_ws; rw [List.length_map, List.length_range, hN2]; omega)] at hq
      cases hq
  · intro i j hi hj hij
    rw [hN2] at hi hj
    by_cases h1 : i < 131
    · by_cases h2 : j < 131
      · rw [g2 i h1, g2 j h2] at hij
        exact hI i j (by omega) (by omega) hij
      · rw [g2 i h1, show j = 131 by omega, g3] at hij
        have := hlt i h1
        omega
    · by_cases h2 : j < 131
      · rw [g2 j h2, show i = 131 by omega, g3] at hij
        have := hlt j h2
        omega
      · omega
  · rw [hN2] at hk
    by_cases h1 : k < 131
    · rw [g2 k h1]
      exact hA k (by omega)
    · rw [show k = 131 by omega, g3]
      exact hS.1
