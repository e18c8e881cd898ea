/-! THE CLAIM OUT OF ONE WALK OF THE LAW'S BODY. Your part is whole_start (and what it stands on); all else here is the same for every law, but numbers. -/
def R_law : String := "LoveLocksLaw"
def lw_P (b : Addr) (xs : List Int32) (args : Array Value) (s : State) : Prop := args = #[.ref b] ∧ s.IntsAt b xs ∧ xs.length ≤ 3072 ∧ (Jvm.Cond.and given_1 narrow_1).before args s = true
def lw_Q (_ : Array Value) (s : State) (o : Outcome) (t : State) : Prop := o = .returned (some (.int 1)) ∧ Framed s o t [] 600000 7302250
def lw_Z (below : List Frame) (a : Array Value) (s : State) : State → Prop := fun t => ∃ o, t.status = .running ∧ Ended t below o ∧ lw_Q a s o t
/-- the law's own end, with 1 on the stack, nothing written that was there before, its room as the claim has it -/
theorem lw_ret {p : Program} {l : Launch} {e : Env} {s : State} {m : MethodId} {below : List Frame} {meth : Method} {c : Code} {b : Nat} (hx : p.tables.exec = Jvm.exec) (hb : c.code = code) (hr : meth.sig.returnType = ret) (hlocks : meth.locks = false) {pc : Nat} {H : Heap} {ls : Array Slot} (hdg : decode code pc = .ok (.ireturn, 1)) : W p l e room_1 s m #[Value.ref b] below meth c H [] 600000 7302250 (lw_Z below #[Value.ref b] s) (F0 m pc ls [.int 1]) := by
  intro T hT X
  obtain ⟨fs, hret, hrun, hended, hW, hframe⟩ := X.leave (v := some (.int 1)) (hlocks := hlocks) (fun h => by rw [hr] at h; cases h)
  have hmeth' : T.vm.method? m = some meth := X.method'
  refine ⟨T.setFrames fs, ?_, .returned (some (.int 1)), hrun, hended, rfl, ⟨_, rfl⟩, hW, hframe⟩
  jvm_step X.here [X.here.top, hx, hb, hdg, hmeth', hr, ret, narrow_b1]
  (try refine ⟨rfl, ?_⟩); (try refine ⟨rfl, ?_⟩)
  first | (intro acts; rw [hret _ acts rfl rfl rfl]) | rw [hret _ _ rfl rfl rfl]
  exact Steps.refl _
/-- what holds at the law's entry: the machine, the code, the tables' words (any of lw_tbl by 'hts w (by decide +kernel)'), the script of L ints xs at the cell b, what the Statement gives of the start (any of its parts by flat_of_before) -/
def lw_At (p : Program) (s : State) (m : MethodId) (meth : Method) (c : Code) (b L : Nat) (xs : Nat → Int32) : Prop :=
  p.tables.exec = Jvm.exec ∧ c.code = code ∧ meth.sig.returnType = ret ∧ c.maxLocals = 4 ∧ s.vm.findClass R_law = some m.cls ∧ (∀ w ∈ lw_tbl, w.before #[Value.ref b] s = true) ∧ va_X b L xs s s.heap ∧ b < s.heap.size ∧ meth.locks = false ∧ (Jvm.Cond.and given_1 narrow_1).before #[Value.ref b] s = true
/-- the law's frame: its room, the script, all else as zC -/
def zLC (G : ZG) (b L : Nat) (xs : Nat → Int32) (own : String) (B : ByteArray) (w : ZW) (p : Program) (s : State) (m : MethodId) (args : Array Value) (meth : Method) (c : Code) (H : Heap) (locs : List Loc) : Prop :=
  p.tables.exec = Jvm.exec ∧ c.code = B ∧ c.maxLocals = 4 ∧ meth.sig.returnType = ret ∧ meth.locks = false ∧ s.vm.findClass own = some m.cls ∧ (∀ x ∈ zw_tbl, x.before args s = true) ∧ z_K G s ∧ z_H G w H ∧ z_I G ∧ va_S (fun q : Nat => s.heap.size ≤ q) s.heap H locs ∧ (∀ k, k < z_N → s.heap.size ≤ G.1 k) ∧ va_X b L xs s s.heap ∧ b < s.heap.size
def zLA (G : ZG) (l : Launch) (b L : Nat) (xs : Nat → Int32) (own : String) (B : ByteArray) (zc zs : Nat) (pc : Nat) (lv : List (Nat × Value)) (st : List Value) (w : ZW) : Prop :=
  ∀ (p : Program) (e : Env) (s : State) (m : MethodId) (below : List Frame) (meth : Method) (c : Code) (H : Heap) (locs : List Loc) (ls : Array Slot),
    zLC G b L xs own B w p s m #[Value.ref b] meth c H locs → lv_has ls 4 lv →
    W p l e room_1 s m #[Value.ref b] below meth c H locs zc zs (lw_Z below #[Value.ref b] s) (F0 m pc ls st)
def zLR (G : ZG) (l : Launch) (b L : Nat) (xs : Nat → Int32) (own : String) (B : ByteArray) (zc zs : Nat) {α : Type} (K : α → Prop) (pc : Nat) (lv : List (Nat × Value)) (st : List Value) (w : ZW) (X : Option α) : Prop :=
  ∀ o, X = some o → K o → zLA G l b L xs own B zc zs pc lv st w
section ZLR
variable {G : ZG} {l : Launch} {b L : Nat} {xs : Nat → Int32} {own : String} {B : ByteArray} {zc zs : Nat} {α : Type} {K : α → Prop} {lv : List (Nat × Value)} {st : List Value} {w : ZW} {X : Option α} {pc : Nat} {o : α}

theorem q_iconst (n : Nat) {z : Int} {x : Int32} (hd : decode B pc = .ok (.iconst z, 1)) (hn : pc + 1 = n) (hv : Int32.ofInt z = x) (k : zLR G l b L xs own B zc zs K n lv (.int x :: st) w X) : zLR G l b L xs own B zc zs K pc lv st w X := by
  intro o h1 h2 p e s m below meth c H locs ls C hl
  subst hn
  exact lv_iconst C.1 C.2.1 hd hv (k o h1 h2 p e s m below meth c H locs ls C hl)
theorem q_bipush (n : Nat) {z : Int} {x : Int32} (hd : decode B pc = .ok (.bipush z, 2)) (hn : pc + 2 = n) (hv : (Int8.ofInt z).toInt32 = x) (k : zLR G l b L xs own B zc zs K n lv (.int x :: st) w X) : zLR G l b L xs own B zc zs K pc lv st w X := by
  intro o h1 h2 p e s m below meth c H locs ls C hl
  subst hn
  exact lv_bipush C.1 C.2.1 hd hv (k o h1 h2 p e s m below meth c H locs ls C hl)
theorem q_iload_n (n : Nat) {q : Fin 4} {i : Nat} {x : Int32} (hd : decode B pc = .ok (.iload_n q, 1)) (hn : pc + 1 = n) (j : Nat) (hi : (q : Nat) = i) (hj : lv[j]? = some (i, .int x)) (k : zLR G l b L xs own B zc zs K n lv (.int x :: st) w X) : zLR G l b L xs own B zc zs K pc lv st w X := by
  intro o h1 h2 p e s m below meth c H locs ls C hl
  subst hn
  exact lv_iload_n C.1 C.2.1 hd hi (lv_at hl j hj) (k o h1 h2 p e s m below meth c H locs ls C hl)
theorem q_aload_n (n : Nat) {q : Fin 4} {i : Nat} {x : Nat} (hd : decode B pc = .ok (.aload_n q, 1)) (hn : pc + 1 = n) (j : Nat) (hi : (q : Nat) = i) (hj : lv[j]? = some (i, .ref x)) (k : zLR G l b L xs own B zc zs K n lv (.ref x :: st) w X) : zLR G l b L xs own B zc zs K pc lv st w X := by
  intro o h1 h2 p e s m below meth c H locs ls C hl
  subst hn
  exact lv_aload_n C.1 C.2.1 hd hi (lv_at hl j hj) (k o h1 h2 p e s m below meth c H locs ls C hl)
theorem q_iadd (n : Nat) {x y : Int32} (hd : decode B pc = .ok (.iadd, 1)) (hn : pc + 1 = n)  (k : zLR G l b L xs own B zc zs K n lv (.int (x + y) :: st) w X) : zLR G l b L xs own B zc zs K pc lv (.int y :: .int x :: st) w X := by
  intro o h1 h2 p e s m below meth c H locs ls C hl
  subst hn
  exact lv_iadd C.1 C.2.1 hd  (k o h1 h2 p e s m below meth c H locs ls C hl)
theorem q_isub (n : Nat) {x y : Int32} (hd : decode B pc = .ok (.isub, 1)) (hn : pc + 1 = n)  (k : zLR G l b L xs own B zc zs K n lv (.int (x - y) :: st) w X) : zLR G l b L xs own B zc zs K pc lv (.int y :: .int x :: st) w X := by
  intro o h1 h2 p e s m below meth c H locs ls C hl
  subst hn
  exact lv_isub C.1 C.2.1 hd  (k o h1 h2 p e s m below meth c H locs ls C hl)
theorem q_iand (n : Nat) {x y : Int32} (hd : decode B pc = .ok (.iand, 1)) (hn : pc + 1 = n)  (k : zLR G l b L xs own B zc zs K n lv (.int (x &&& y) :: st) w X) : zLR G l b L xs own B zc zs K pc lv (.int y :: .int x :: st) w X := by
  intro o h1 h2 p e s m below meth c H locs ls C hl
  subst hn
  exact lv_iand C.1 C.2.1 hd  (k o h1 h2 p e s m below meth c H locs ls C hl)
theorem q_land (n : Nat) {x y : Int64} (hd : decode B pc = .ok (.land, 1)) (hn : pc + 1 = n)  (k : zLR G l b L xs own B zc zs K n lv (.long (x &&& y) :: st) w X) : zLR G l b L xs own B zc zs K pc lv (.long y :: .long x :: st) w X := by
  intro o h1 h2 p e s m below meth c H locs ls C hl
  subst hn
  exact lv_land C.1 C.2.1 hd  (k o h1 h2 p e s m below meth c H locs ls C hl)
theorem q_lor (n : Nat) {x y : Int64} (hd : decode B pc = .ok (.lor, 1)) (hn : pc + 1 = n)  (k : zLR G l b L xs own B zc zs K n lv (.long (x ||| y) :: st) w X) : zLR G l b L xs own B zc zs K pc lv (.long y :: .long x :: st) w X := by
  intro o h1 h2 p e s m below meth c H locs ls C hl
  subst hn
  exact lv_lor C.1 C.2.1 hd  (k o h1 h2 p e s m below meth c H locs ls C hl)
theorem q_lshl (n : Nat) {x : Int64} {y : Int32} (hd : decode B pc = .ok (.lshl, 1)) (hn : pc + 1 = n)  (k : zLR G l b L xs own B zc zs K n lv (.long (x <<< (y.toInt64 &&& 63)) :: st) w X) : zLR G l b L xs own B zc zs K pc lv (.int y :: .long x :: st) w X := by
  intro o h1 h2 p e s m below meth c H locs ls C hl
  subst hn
  exact lv_lshl C.1 C.2.1 hd rfl (k o h1 h2 p e s m below meth c H locs ls C hl)
theorem q_i2l (n : Nat) {x : Int32} (hd : decode B pc = .ok (.i2l, 1)) (hn : pc + 1 = n)  (k : zLR G l b L xs own B zc zs K n lv (.long x.toInt64 :: st) w X) : zLR G l b L xs own B zc zs K pc lv (.int x :: st) w X := by
  intro o h1 h2 p e s m below meth c H locs ls C hl
  subst hn
  exact lv_i2l C.1 C.2.1 hd rfl (k o h1 h2 p e s m below meth c H locs ls C hl)
theorem q_lcmp (n : Nat) {x y : Int64} (hd : decode B pc = .ok (.lcmp, 1)) (hn : pc + 1 = n)  (k : zLR G l b L xs own B zc zs K n lv (.int (lg_cmp x y) :: st) w X) : zLR G l b L xs own B zc zs K pc lv (.long y :: .long x :: st) w X := by
  intro o h1 h2 p e s m below meth c H locs ls C hl
  subst hn
  exact W.lcmp C.1 C.2.1 hd  (k o h1 h2 p e s m below meth c H locs ls C hl)
theorem q_ldc2 (n : Nat) {ix : Nat} {x : Int64} (hd : decode B pc = .ok (.ldc2_w ix, 3)) (hn : pc + 3 = n) (hw : Cond.constantLong own ix x ∈ zw_tbl) (k : zLR G l b L xs own B zc zs K n lv (.long x :: st) w X) : zLR G l b L xs own B zc zs K pc lv st w X := by
  intro o h1 h2 p e s m below meth c H locs ls C hl
  subst hn
  exact lv_ldc2 C.1 C.2.1 C.2.2.2.2.2.1 (C.2.2.2.2.2.2.1 _ hw) hd (k o h1 h2 p e s m below meth c H locs ls C hl)
theorem q_istore_n (n : Nat) (lv' : List (Nat × Value)) {q : Fin 4} {i : Nat} {x : Int32} (hd : decode B pc = .ok (.istore_n q, 1)) (hn : pc + 1 = n) (hi : (q : Nat) = i) (hlt : i < 4) (hf : (i, Value.int x) :: lv.filter (fun q => !(q.1 == i) && !(q.1 + 1 == i && q.2.category == 2)) = lv') (k : zLR G l b L xs own B zc zs K n lv' st w X) : zLR G l b L xs own B zc zs K pc lv (.int x :: st) w X := by
  intro o h1 h2 p e s m below meth c H locs ls C hl
  subst hn
  exact lv_istore_n C.1 C.2.1 hd hi hl hlt hf (fun ls' hl' => k o h1 h2 p e s m below meth c H locs ls' C hl')
theorem q_iinc (n j : Nat) (lv' : List (Nat × Value)) {i : Nat} {z : Int} {x y : Int32} (hd : decode B pc = .ok (.iinc i z, 3)) (hn : pc + 3 = n) (hj : lv[j]? = some (i, .int x)) (hz : Int32.ofInt z = y) (hlt : i < 4) (hf : (i, Value.int (x + y)) :: lv.filter (fun q => !(q.1 == i) && !(q.1 + 1 == i && q.2.category == 2)) = lv') (k : zLR G l b L xs own B zc zs K n lv' st w X) : zLR G l b L xs own B zc zs K pc lv st w X := by
  intro o h1 h2 p e s m below meth c H locs ls C hl
  subst hn
  subst hz
  exact lv_iinc C.1 C.2.1 hd hl hj rfl hlt hf (fun ls' hl' => k o h1 h2 p e s m below meth c H locs ls' C hl')
theorem q_if_eq (t n : Nat) {x : Int32} {off : Int} {X1 X2 : Option α} (hd : decode B pc = .ok (.ifCond .eq off, 3)) (ht : (pc : Int) + off = (t : Int)) (hn : pc + 3 = n) (kt : zLR G l b L xs own B zc zs K t lv st w X1) (kf : zLR G l b L xs own B zc zs K n lv st w X2) : zLR G l b L xs own B zc zs K pc lv (.int x :: st) w (if x = 0 then X1 else X2) := by
  intro o h1 h2 p e s m below meth c H locs ls C hl
  subst hn
  exact lv_if_eq C.1 C.2.1 hd ht (fun c => kt o (by rw [if_pos c] at h1; exact h1) h2 p e s m below meth _ H locs ls C hl) (fun c => kf o (by rw [if_neg c] at h1; exact h1) h2 p e s m below meth _ H locs ls C hl)
theorem q_icmp_eq (t n : Nat) {x y : Int32} {off : Int} {X1 X2 : Option α} (hd : decode B pc = .ok (.if_icmp .eq off, 3)) (ht : (pc : Int) + off = (t : Int)) (hn : pc + 3 = n) (kt : zLR G l b L xs own B zc zs K t lv st w X1) (kf : zLR G l b L xs own B zc zs K n lv st w X2) : zLR G l b L xs own B zc zs K pc lv (.int y :: .int x :: st) w (if x = y then X1 else X2) := by
  intro o h1 h2 p e s m below meth c H locs ls C hl
  subst hn
  exact lv_icmp_eq C.1 C.2.1 hd ht (fun c => kt o (by rw [if_pos c] at h1; exact h1) h2 p e s m below meth _ H locs ls C hl) (fun c => kf o (by rw [if_neg c] at h1; exact h1) h2 p e s m below meth _ H locs ls C hl)
theorem q_icmp_gt (t n : Nat) {x y : Int32} {off : Int} {X1 X2 : Option α} (hd : decode B pc = .ok (.if_icmp .gt off, 3)) (ht : (pc : Int) + off = (t : Int)) (hn : pc + 3 = n) (kt : zLR G l b L xs own B zc zs K t lv st w X1) (kf : zLR G l b L xs own B zc zs K n lv st w X2) : zLR G l b L xs own B zc zs K pc lv (.int y :: .int x :: st) w (if y < x then X1 else X2) := by
  intro o h1 h2 p e s m below meth c H locs ls C hl
  subst hn
  exact lv_icmp_gt C.1 C.2.1 hd ht (fun c => kt o (by rw [if_pos c] at h1; exact h1) h2 p e s m below meth _ H locs ls C hl) (fun c => kf o (by rw [if_neg c] at h1; exact h1) h2 p e s m below meth _ H locs ls C hl)
theorem q_goto (t : Nat) {off : Int} (hd : decode B pc = .ok (.goto off, 3)) (ht : (pc : Int) + off = (t : Int)) (k : zLR G l b L xs own B zc zs K t lv st w X) : zLR G l b L xs own B zc zs K pc lv st w X := by
  intro o h1 h2 p e s m below meth c H locs ls C hl
  exact lv_goto C.1 C.2.1 hd ht (k o h1 h2 p e s m below meth c H locs ls C hl)
theorem q_sub (js : List Nat) {lv2 : List (Nat × Value)} (hp : lv_pick lv js = lv2) (k : zLR G l b L xs own B zc zs K pc lv2 st w X) : zLR G l b L xs own B zc zs K pc lv st w X := by
  intro o h1 h2 p e s m below meth c H locs ls C hl
  exact k o h1 h2 p e s m below meth c H locs ls C (lv_sub hl js hp)
theorem q_leaf (js : List Nat) {lv2 : List (Nat × Value)} (hp : lv_pick lv js = lv2) (hK : K o → zLA G l b L xs own B zc zs pc lv2 st w) : zLR G l b L xs own B zc zs K pc lv st w (some o) := by
  intro o2 h1 h2 p e s m below meth c H locs ls C hl
  cases h1
  exact hK h2 p e s m below meth c H locs ls C (lv_sub hl js hp)
theorem q_none : zLR G l b L xs own B zc zs K pc lv st w none := by
  intro o h1
  cases h1
theorem q_gd {g : Bool} (k : g = true → zLR G l b L xs own B zc zs K pc lv st w X) : zLR G l b L xs own B zc zs K pc lv st w (if g = true then X else none) := by
  by_cases hg : g = true
  · rw [if_pos hg]; exact k hg
  · rw [if_neg hg]; exact q_none
theorem q_loop {σ ρ : Type} {Bd : σ → Option (σ ⊕ ρ)} {Xk : ρ → Option α} {N : Nat} {s0 : σ} (js : List Nat) (F : σ → List (Nat × Value)) (Wf : σ → ZW) (Ex : ρ → Prop) (hp : lv_pick lv js = F s0) (hw : Wf s0 = w)
    (hB : ∀ s, zLR G l b L xs own B zc zs (Sum.elim (fun s' => zLA G l b L xs own B zc zs pc (F s') [] (Wf s')) Ex) pc (F s) [] (Wf s) (Bd s)) (hE : ∀ x o, Xk x = some o → K o → Ex x) :
    zLR G l b L xs own B zc zs K pc lv [] w ((z_iter Bd N s0).bind Xk) := by
  have main : ∀ (N : Nat) (s : σ) (x : ρ), z_iter Bd N s = some x → Ex x → zLA G l b L xs own B zc zs pc (F s) [] (Wf s) := by
    intro N
    induction N with
    | zero => intro s x h; cases h
    | succ N ih =>
      intro s x h hx
      unfold z_iter at h
      cases hb : Bd s with
      | none => rw [hb] at h; cases h
      | some r =>
        rw [hb] at h
        cases r with
        | inl s' => exact hB s _ hb (ih s' x h hx)
        | inr y => exact hB s _ hb (by have : y = x := Option.some.inj h; subst this; exact hx)
  intro o h1 h2 p e s m below meth c H locs ls C hl
  subst hw
  cases hz : z_iter Bd N s0 with
  | none => rw [hz] at h1; cases h1
  | some x =>
    rw [hz] at h1
    exact main N s0 x hz (hE x o h1 h2) p e s m below meth c H locs ls C (lv_sub hl js hp)
theorem q_loopR {σ ρr ρ : Type} {Bd : σ → Option (σ ⊕ (ρr ⊕ ρ))} {Xr : ρr → Option α} {Xe : ρ → Option α} {N : Nat} {s0 : σ} (js : List Nat) (F : σ → List (Nat × Value)) (Wf : σ → ZW) (Kr : ρr → Prop) (t : Nat) (Fx : ρ → List (Nat × Value)) (Wx : ρ → ZW) (hp : lv_pick lv js = F s0) (hw : Wf s0 = w)
    (hB : ∀ s, zLR G l b L xs own B zc zs (Sum.elim (fun s' => zLA G l b L xs own B zc zs pc (F s') [] (Wf s')) (Sum.elim Kr (fun x => zLA G l b L xs own B zc zs t (Fx x) [] (Wx x)))) pc (F s) [] (Wf s) (Bd s)) (hR : ∀ r o, Xr r = some o → K o → Kr r) (hE : ∀ x, zLR G l b L xs own B zc zs K t (Fx x) [] (Wx x) (Xe x)) :
    zLR G l b L xs own B zc zs K pc lv [] w ((z_iter Bd N s0).bind (Sum.elim Xr Xe)) := by
  refine q_loop js F Wf _ hp hw hB (fun x o h1 h2 => ?_)
  cases x with
  | inl r => exact hR r o h1 h2
  | inr x => exact hE x o h1 h2
theorem q_case (z : Int32) {x : Int32} {X1 X2 : Option α} (k1 : x = z → zLR G l b L xs own B zc zs K pc lv (.int x :: st) w X1) (k2 : ¬ x = z → zLR G l b L xs own B zc zs K pc lv (.int x :: st) w X2) : zLR G l b L xs own B zc zs K pc lv (.int x :: st) w (if x = z then X1 else X2) := by
  by_cases h : x = z
  · rw [if_pos h]; exact k1 h
  · rw [if_neg h]; exact k2 h
theorem q_tin (t : Nat) (z : Int32) {x : Int32} {dflt lo hi : Int} {offs : Array Int} {len : Nat} {off : Int} (hx : x = z) (hd : decode B pc = .ok (.tableswitch dflt lo hi offs, len)) (h1 : ¬ z.toInt < lo) (h2 : ¬ hi < z.toInt) (ho : offs[(z.toInt - lo).toNat]? = some off) (ht : (pc : Int) + off = (t : Int)) (k : zLR G l b L xs own B zc zs K t lv st w X) : zLR G l b L xs own B zc zs K pc lv (.int x :: st) w X := by
  intro o g1 g2 p e s m below meth c H locs ls C hl
  subst hx
  exact lv_tableIn C.1 C.2.1 hd h1 h2 ho ht (k o g1 g2 p e s m below meth c H locs ls C hl)
theorem q_tout (t : Nat) {x : Int32} {dflt lo hi : Int} {offs : Array Int} {len : Nat} (hd : decode B pc = .ok (.tableswitch dflt lo hi offs, len)) (h1 : x.toInt < lo ∨ hi < x.toInt) (ht : (pc : Int) + dflt = (t : Int)) (k : zLR G l b L xs own B zc zs K t lv st w X) : zLR G l b L xs own B zc zs K pc lv (.int x :: st) w X := by
  intro o g1 g2 p e s m below meth c H locs ls C hl
  exact lv_tableOut C.1 C.2.1 hd h1 ht (k o g1 g2 p e s m below meth c H locs ls C hl)
theorem q_scr (n : Nat) {i : Int32} (hd : decode B pc = .ok (.iaload, 1)) (hn : pc + 1 = n) (k : zLR G l b L xs own B zc zs K n lv (.int (xs i.toNatClampNeg) :: st) w X) : zLR G l b L xs own B zc zs K pc lv (.int i :: .ref b :: st) w (if z_in i L = true then X else none) := by
  refine q_gd (fun hg => ?_)
  intro o h1 h2 p e s m below meth c H locs ls C hl
  subst hn
  have C2 := C
  obtain ⟨hx, hb, hml, hr, hlk, hown, hts, hK2, hP, hI, hS, hA, hX, hbl⟩ := C2
  exact va_sld hx hb hX hbl (Nat.not_le.mpr hbl) hS (z_in_vp hg) hd (k o h1 h2 p e s m below meth c H locs ls C hl)
theorem q_slen (n : Nat) (hd : decode B pc = .ok (.arraylength, 1)) (hn : pc + 1 = n) (k : zLR G l b L xs own B zc zs K n lv (.int (Int32.ofNat L) :: st) w X) : zLR G l b L xs own B zc zs K pc lv (.ref b :: st) w X := by
  intro o h1 h2 p e s m below meth c H locs ls C hl
  subst hn
  have C2 := C
  obtain ⟨hx, hb, hml, hr, hlk, hown, hts, hK2, hP, hI, hS, hA, hX, hbl⟩ := C2
  exact va_slen hx hb hX hbl (Nat.not_le.mpr hbl) hS hd (k o h1 h2 p e s m below meth c H locs ls C hl)
theorem q_iret {x : Int32} (hB : B = code) (hzc : zc ≤ 600000) (hzs : zs ≤ 7302250) (hd : decode code pc = .ok (.ireturn, 1)) (hK : K o → x = 1) : zLR G l b L xs own B zc zs K pc lv [.int x] w (some o) := by
  intro o2 h1 h2 p e s m below meth c H locs ls C hl
  cases h1
  have e1 := hK h2
  subst e1
  obtain ⟨hx, hb, hml, hr, hlk, hown, hts, hK2, hP, hI, hS, hA, hX, hbl⟩ := C
  refine va_forget (fun q hq => hS.2.2 q hq) ?_
  refine W.widen hzc hzs ?_
  exact lw_ret hx (hb.trans hB) hr hlk hd
theorem q_after {p : Program} {e : Env} {s : State} {m : MethodId} {below : List Frame} {meth : Method} {c : Code} {H : Heap} {locs : List Loc} {ls : Array Slot} {a : Array Value} {rest st0 : List Value} {v1 : Option Value} {w1 : ZW}
    (C : zLC G b L xs own B w p s m #[Value.ref b] meth c H locs) (hl : lv_has ls 4 lv)
    (hr : va_Run p l e room_1 s m #[Value.ref b] below meth c H locs zc zs 0 0 (F0 m pc ls st0) rest (z_Q G v1 w1 a) (z_A G))
    (k : zLA G l b L xs own B zc zs (pc + 3) lv (v1.toList ++ rest) w1) :
    W p l e room_1 s m #[Value.ref b] below meth c H locs zc zs (lw_Z below #[Value.ref b] s) (F0 m pc ls st0) := by
  obtain ⟨hx, hb, hml, hrt, hlk, hown, hts, hK, hP, hI, hS, hA, hX, hbl⟩ := C
  intro T hT X
  obtain ⟨v2, st₀, t, T', L1, h0, X', hL, e1, e2, ⟨hv, hH, hz, hk⟩, step⟩ := hr T hT X
  cases hv
  rw [h0] at hz hk
  have hAA : ∀ q, z_A G q → s.heap.size ≤ q := fun q hq => by obtain ⟨k, hk, rfl⟩ := hq; exact hA k hk
  have hS' : va_S (fun q : Nat => s.heap.size ≤ q) s.heap T'.heap (locs ++ L1) := ⟨Nat.le_trans hS.1 (by rw [e1]; exact hz), fun q h1 h2 => by rw [e1, hk q (Nat.lt_of_lt_of_le h1 hS.1) (fun z => h2 (hAA q z))]; exact hS.2.1 q h1 h2, fun q hq => by
      rcases List.mem_append.mp hq with h | h
      · exact hS.2.2 q h
      · exact hAA _ (hL q h)⟩
  obtain ⟨t2, a1, b1⟩ := k p e s m below meth c T'.heap (locs ++ L1) ls ⟨hx, hb, hml, hrt, hlk, hown, hts, hK, by rw [e1]; exact hH, hI, hS', hA, hX, hbl⟩ hl T' rfl X'
  exact ⟨t2, step t2 a1, b1⟩
theorem q_runV {y : MethodName} {index ko ci : Nat} {q : vw_C} {fs : List Value} {As rest st0 : List Value} {v1 : Option Value} {w1 : ZW} {d1 mL1 : Nat} {B1 : ByteArray} {rt1 : Option FieldType} (n1 : Nat) (hM : zM G l d1 y B1 mL1 rt1 (.ref (G.1 ko) :: As) w v1 w1)
    (hko : ko < z_N) (hcell : z_cell G w ko = .inr (ci, fs)) (hq : vwCl[ci]? = some q) (hqc : q.1 = y.cls)
    (hc : Cond.code y B1 mL1 rt1 ∈ zw_tbl) (hi : Cond.initialized y.cls ∈ zw_tbl) (hlk : Cond.methodLink own index y ∈ zw_tbl) (hin : Cond.instanceMethod y ∈ zw_tbl) (hse : Cond.selects y.cls y y ∈ zw_tbl)
    (hdes : y.cls ≠ "java/lang/invoke/MethodHandle" ∧ y.cls ≠ "java/lang/invoke/VarHandle" ∧ (parseMethodDescriptor y.desc).map (fun d => d.parameters.length) = some n1) (hm : mL1 ≤ 29) (hdd : d1 ≤ 60) (hzc : zc ≤ 600000) (hzs : zs ≤ 7302250)
    (hn : As.length = n1) (hstack : st0 = As.reverse ++ .ref (G.1 ko) :: rest) (hW : (rest.map fun v => v.category).sum ≤ 8) (hdg : decode B pc = .ok (.invokevirtual index, 3))
    (k : zLA G l b L xs own B zc zs (pc + 3) lv (v1.toList ++ rest) w1) : zLA G l b L xs own B zc zs pc lv st0 w := by
  intro p e s m below meth c H locs ls C hl
  have C2 := C
  obtain ⟨hx, hb, hml, hrt, hlk2, hown, hts, hK, hP, hI, hS, hA, hX, hbl⟩ := C2
  refine q_after (a := (Value.ref (G.1 ko) :: As).toArray) (rest := rest) C hl ?_ k
  have hg : (z_ws G w)[ko]? = some (G.1 ko, .inr (ci, fs)) := by rw [z_ws_get hko, hcell]
  have hrecv := va_recv hK hP hq hg
  rw [hqc] at hrecv
  have hB : CallB room_1 s #[Value.ref b] own index y B1 mL1 rt1 (Cond.code y B1 mL1 rt1 :: zw_tbl) (z_rm d1) 0 0 n1 := by
    refine ⟨rfl, rfl, ?_, ?_, z_pay hts hc, List.mem_cons_self, hts _ hc, hts _ hi, ⟨hdes.1, hdes.2.1⟩, fun sig h => ?_, hts _ hlk⟩
    · show d1 + 1 ≤ 2048
      omega
    · show 8 + (mL1 + 11) + 48 * d1 ≤ 84000
      omega
    · have h2 := hdes.2.2
      rw [h] at h2
      exact (Option.some.inj h2).symm
  exact va_runV (Ts := zw_tbl) (cc := B) (nL := 4) (n := n1) (bytes := B1) (maxL := mL1) (ret := rt1) (C := y.cls) ⟨hx, hb, hml, hown, hts⟩ hM ⟨hB, hts _ hin, hts _ hse⟩ ⟨z_blind, hrecv, fun U hU hW => ⟨rfl, by rw [hU]; exact hP, va_K.moved hW.alike hK, hI⟩⟩ rfl hn hl.1 hstack (lv_room hW) hdg ⟨by show zc + 0 ≤ 600000; exact hzc, by show zs + 0 ≤ 7302250; exact hzs⟩
theorem q_callVi (n n1 : Nat) {y : MethodName} {ix ko ci : Nat} {q : vw_C} {fs : List Value} {d1 mL1 : Nat} {B1 : ByteArray} {rt1 : Option FieldType} (As : List Value) {st0 : List Value} {Y : Option Int32} {Xk : Int32 → Option α} (hzc : zc ≤ 600000) (hzs : zs ≤ 7302250) (hd : decode B pc = .ok (.invokevirtual ix, 3)) (hn : pc + 3 = n) (hstack : st0 = As.reverse ++ .ref (G.1 ko) :: st) (hC : ∀ r, Y = some r → zM G l d1 y B1 mL1 rt1 (.ref (G.1 ko) :: As) w ((fun r => some (.int r)) r) ((fun _ => w) r)) (hko : ko < z_N) (hcell : z_cell G w ko = .inr (ci, fs)) (hq : vwCl[ci]? = some q) (hqc : q.1 = y.cls) (hc : Cond.code y B1 mL1 rt1 ∈ zw_tbl) (hi : Cond.initialized y.cls ∈ zw_tbl) (hlk : Cond.methodLink own ix y ∈ zw_tbl) (hin : Cond.instanceMethod y ∈ zw_tbl) (hse : Cond.selects y.cls y y ∈ zw_tbl)
    (hdes : y.cls ≠ "java/lang/invoke/MethodHandle" ∧ y.cls ≠ "java/lang/invoke/VarHandle" ∧ (parseMethodDescriptor y.desc).map (fun d => d.parameters.length) = some n1) (hm : mL1 ≤ 29) (hdd : d1 ≤ 60) (hn1 : As.length = n1) (hW : (st.map fun v => v.category).sum ≤ 8)
    (k : ∀ r, zLR G l b L xs own B zc zs K n lv (.int r :: st) w (Xk r)) : zLR G l b L xs own B zc zs K pc lv st0 w (Y.bind Xk) := by
  intro o h1 h2
  cases hr : Y with
  | none => rw [hr] at h1; cases h1
  | some r =>
    rw [hr] at h1
    subst hn
    exact q_runV n1 (hC r hr) hko hcell hq hqc hc hi hlk hin hse hdes hm hdd hzc hzs hn1 hstack hW hd (k r o h1 h2)
theorem q_callViw (n n1 : Nat) {y : MethodName} {ix ko ci : Nat} {q : vw_C} {fs : List Value} {d1 mL1 : Nat} {B1 : ByteArray} {rt1 : Option FieldType} (As : List Value) {st0 : List Value} {Y : Option (Int32 × ZW)} {Xk : (Int32 × ZW) → Option α} (hzc : zc ≤ 600000) (hzs : zs ≤ 7302250) (hd : decode B pc = .ok (.invokevirtual ix, 3)) (hn : pc + 3 = n) (hstack : st0 = As.reverse ++ .ref (G.1 ko) :: st) (hC : ∀ r, Y = some r → zM G l d1 y B1 mL1 rt1 (.ref (G.1 ko) :: As) w ((fun r => some (.int r.1)) r) ((fun r => r.2) r)) (hko : ko < z_N) (hcell : z_cell G w ko = .inr (ci, fs)) (hq : vwCl[ci]? = some q) (hqc : q.1 = y.cls) (hc : Cond.code y B1 mL1 rt1 ∈ zw_tbl) (hi : Cond.initialized y.cls ∈ zw_tbl) (hlk : Cond.methodLink own ix y ∈ zw_tbl) (hin : Cond.instanceMethod y ∈ zw_tbl) (hse : Cond.selects y.cls y y ∈ zw_tbl)
    (hdes : y.cls ≠ "java/lang/invoke/MethodHandle" ∧ y.cls ≠ "java/lang/invoke/VarHandle" ∧ (parseMethodDescriptor y.desc).map (fun d => d.parameters.length) = some n1) (hm : mL1 ≤ 29) (hdd : d1 ≤ 60) (hn1 : As.length = n1) (hW : (st.map fun v => v.category).sum ≤ 8)
    (k : ∀ r, zLR G l b L xs own B zc zs K n lv (.int r.1 :: st) r.2 (Xk r)) : zLR G l b L xs own B zc zs K pc lv st0 w (Y.bind Xk) := by
  intro o h1 h2
  cases hr : Y with
  | none => rw [hr] at h1; cases h1
  | some r =>
    rw [hr] at h1
    subst hn
    exact q_runV n1 (hC r hr) hko hcell hq hqc hc hi hlk hin hse hdes hm hdd hzc hzs hn1 hstack hW hd (k r o h1 h2)
theorem q_callVj (n n1 : Nat) {y : MethodName} {ix ko ci : Nat} {q : vw_C} {fs : List Value} {d1 mL1 : Nat} {B1 : ByteArray} {rt1 : Option FieldType} (As : List Value) {st0 : List Value} {Y : Option Int64} {Xk : Int64 → Option α} (hzc : zc ≤ 600000) (hzs : zs ≤ 7302250) (hd : decode B pc = .ok (.invokevirtual ix, 3)) (hn : pc + 3 = n) (hstack : st0 = As.reverse ++ .ref (G.1 ko) :: st) (hC : ∀ r, Y = some r → zM G l d1 y B1 mL1 rt1 (.ref (G.1 ko) :: As) w ((fun r => some (.long r)) r) ((fun _ => w) r)) (hko : ko < z_N) (hcell : z_cell G w ko = .inr (ci, fs)) (hq : vwCl[ci]? = some q) (hqc : q.1 = y.cls) (hc : Cond.code y B1 mL1 rt1 ∈ zw_tbl) (hi : Cond.initialized y.cls ∈ zw_tbl) (hlk : Cond.methodLink own ix y ∈ zw_tbl) (hin : Cond.instanceMethod y ∈ zw_tbl) (hse : Cond.selects y.cls y y ∈ zw_tbl)
    (hdes : y.cls ≠ "java/lang/invoke/MethodHandle" ∧ y.cls ≠ "java/lang/invoke/VarHandle" ∧ (parseMethodDescriptor y.desc).map (fun d => d.parameters.length) = some n1) (hm : mL1 ≤ 29) (hdd : d1 ≤ 60) (hn1 : As.length = n1) (hW : (st.map fun v => v.category).sum ≤ 8)
    (k : ∀ r, zLR G l b L xs own B zc zs K n lv (.long r :: st) w (Xk r)) : zLR G l b L xs own B zc zs K pc lv st0 w (Y.bind Xk) := by
  intro o h1 h2
  cases hr : Y with
  | none => rw [hr] at h1; cases h1
  | some r =>
    rw [hr] at h1
    subst hn
    exact q_runV n1 (hC r hr) hko hcell hq hqc hc hi hlk hin hse hdes hm hdd hzc hzs hn1 hstack hW hd (k r o h1 h2)
theorem q_callVjw (n n1 : Nat) {y : MethodName} {ix ko ci : Nat} {q : vw_C} {fs : List Value} {d1 mL1 : Nat} {B1 : ByteArray} {rt1 : Option FieldType} (As : List Value) {st0 : List Value} {Y : Option (Int64 × ZW)} {Xk : (Int64 × ZW) → Option α} (hzc : zc ≤ 600000) (hzs : zs ≤ 7302250) (hd : decode B pc = .ok (.invokevirtual ix, 3)) (hn : pc + 3 = n) (hstack : st0 = As.reverse ++ .ref (G.1 ko) :: st) (hC : ∀ r, Y = some r → zM G l d1 y B1 mL1 rt1 (.ref (G.1 ko) :: As) w ((fun r => some (.long r.1)) r) ((fun r => r.2) r)) (hko : ko < z_N) (hcell : z_cell G w ko = .inr (ci, fs)) (hq : vwCl[ci]? = some q) (hqc : q.1 = y.cls) (hc : Cond.code y B1 mL1 rt1 ∈ zw_tbl) (hi : Cond.initialized y.cls ∈ zw_tbl) (hlk : Cond.methodLink own ix y ∈ zw_tbl) (hin : Cond.instanceMethod y ∈ zw_tbl) (hse : Cond.selects y.cls y y ∈ zw_tbl)
    (hdes : y.cls ≠ "java/lang/invoke/MethodHandle" ∧ y.cls ≠ "java/lang/invoke/VarHandle" ∧ (parseMethodDescriptor y.desc).map (fun d => d.parameters.length) = some n1) (hm : mL1 ≤ 29) (hdd : d1 ≤ 60) (hn1 : As.length = n1) (hW : (st.map fun v => v.category).sum ≤ 8)
    (k : ∀ r, zLR G l b L xs own B zc zs K n lv (.long r.1 :: st) r.2 (Xk r)) : zLR G l b L xs own B zc zs K pc lv st0 w (Y.bind Xk) := by
  intro o h1 h2
  cases hr : Y with
  | none => rw [hr] at h1; cases h1
  | some r =>
    rw [hr] at h1
    subst hn
    exact q_runV n1 (hC r hr) hko hcell hq hqc hc hi hlk hin hse hdes hm hdd hzc hzs hn1 hstack hW hd (k r o h1 h2)
end ZLR
