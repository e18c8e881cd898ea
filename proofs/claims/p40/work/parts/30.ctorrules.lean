section ZS
variable {p : Program} {l : Launch} {e : Env} {R : Room} {s : State} {m : MethodId} {args : Array Value} {below : List Frame} {meth : Method} {c : Code} {H : Heap} {locs : List Loc} {cells slots : Nat} {Q : State → Prop}
variable {cc : ByteArray} {pc : Nat} {ls : Array Slot} {rest : List Value} {D : va_G} {cl : List vw_C} {A : Nat → Prop} {a : Nat} {tys : List (ClassId × FieldType)} {ws : va_W} {H0 : Heap}
theorem z_putS (hexec : p.tables.exec = Jvm.exec) (hb : c.code = cc) {own ref C : String} {T : u_T} {N ci index : Nat} {Ts : List Cond} (hts : ∀ w ∈ Ts, w.before args s = true) (hin : ∀ w ∈ u_ws C T N, w ∈ Ts) (ty0 : Nat → FieldType) (hty : ∀ k, k < N → parseFieldDescriptor (T k).2.2.1 = some (ty0 k)) (hnm : ∀ a, a < N → ∀ b, b < N → a ≠ b → (T a).2.1 ≠ (T b).2.1) (hown : s.vm.findClass own = some m.cls) (hK : va_K D cl tys s) (hP : va_P D cl ws H) (hD : va_D A ws) (hS0 : va_S A H0 H locs) (q0 : Nat) {fs : List Value} (he : ws[q0]? = some (a, .inr (ci, fs))) (hc : cl[ci]? = some (C, T, N)) (k : Nat) (hk : k < N) (hlink : (Cond.fieldLink own index ref (T k).2.1 (T k).2.2.1).before args s = true) (hsame : ∀ x, s.fieldFound? (T k).1 (T k).2.1 (T k).2.2.1 = some x → s.fieldFound? ref (T k).2.1 (T k).2.2.1 = some x) (hfin : (T k).2.2.2 = false) {ty : FieldType} {v : Value} (hd : parseFieldDescriptor (T k).2.2.1 = some ty) (hn : narrow ty v = v) (hfit : fits ty v = true) (hl : k < fs.length)
    (hdg : decode cc pc = .ok (.putfield index, 3)) (kk : ∀ (H1 : Heap) (locs1 : List Loc), va_P D cl (ws.set q0 (a, .inr (ci, fs.set k v))) H1 → va_D A (ws.set q0 (a, .inr (ci, fs.set k v))) → va_S A H0 H1 locs1 → H1.size = H.size → W p l e R s m args below meth c H1 locs1 cells slots Q (F0 m (pc + 3) ls rest)) : W p l e R s m args below meth c H locs cells slots Q (F0 m pc ls (v :: .ref a :: rest)) := by
  have hap := va_apart (own := own) hts hin ty0 hty hnm hK hc
  obtain ⟨r, h1, cell, q1, q2, q3, q4⟩ := hP q0 _ he
  have hr : r = (C, T, N) := Option.some.inj (h1.symm.trans hc)
  subst hr
  obtain ⟨hS, hfc, kC, hkC, hkind⟩ := hK.1 ci _ hc
  obtain ⟨cf, kf, fi, f, hi, hsl⟩ := hS k hk
  have hlay := hts _ (hin _ (u_in_lay hk))
  unfold u_lay at hlay
  rw [if_neg (by rw [hfin]; decide)] at hlay
  have hst := (u_facts hfc hkC (u_lays hts hin hk) hi).1
  have h6 := u_store hfc hkC hkind hlay hi hd hn hfit
  refine W.putK hexec hb (f := f) ⟨hown, hlink, ⟨_, _, _, hsame _ hi⟩, hst⟩ (by rw [q2]; exact h6) q1 q3 (by rw [hsl]; exact k2_hasslot (q4 k hk)) rfl rfl hdg fun H' e1 e2 e3 => ?_
  rw [hsl] at e1 ⊢
  exact kk H' _ (hP.set hD he ⟨_, hc, t_OB.to (V := updV (vp_V fs) k v) ⟨_, e1, q2, q3, t_set q4 hap hk v⟩ (fun j _ => vp_updV_set hl v j)⟩ e3) (hD.set he) (hS0.put e2 e3 (hD.2 q0 _ he)) e2
theorem z_putFS (hexec : p.tables.exec = Jvm.exec) (hb : c.code = cc) {own ref C : String} {T : u_T} {N ci index : Nat} {Ts : List Cond} (hts : ∀ w ∈ Ts, w.before args s = true) (hin : ∀ w ∈ u_ws C T N, w ∈ Ts) (ty0 : Nat → FieldType) (hty : ∀ k, k < N → parseFieldDescriptor (T k).2.2.1 = some (ty0 k)) (hnm : ∀ a, a < N → ∀ b, b < N → a ≠ b → (T a).2.1 ≠ (T b).2.1) (hown : s.vm.findClass own = some m.cls) (hK : va_K D cl tys s) (hP : va_P D cl ws H) (hD : va_D A ws) (hS0 : va_S A H0 H locs) (q0 : Nat) {fs : List Value} (he : ws[q0]? = some (a, .inr (ci, fs))) (hc : cl[ci]? = some (C, T, N)) (k : Nat) (hk : k < N) (hlink : (Cond.fieldLink own index ref (T k).2.1 (T k).2.2.1).before args s = true) (hsame : ∀ x, s.fieldFound? (T k).1 (T k).2.1 (T k).2.2.1 = some x → s.fieldFound? ref (T k).2.1 (T k).2.2.1 = some x) (hfin : (T k).2.2.2 = true) (hin2 : meth.name = "<init>") (hdecl : (T k).1 = own) {ty : FieldType} {v : Value} (hd : parseFieldDescriptor (T k).2.2.1 = some ty) (hn : narrow ty v = v) (hfit : fits ty v = true) (hl : k < fs.length)
    (hdg : decode cc pc = .ok (.putfield index, 3)) (kk : ∀ (H1 : Heap) (locs1 : List Loc), va_P D cl (ws.set q0 (a, .inr (ci, fs.set k v))) H1 → va_D A (ws.set q0 (a, .inr (ci, fs.set k v))) → va_S A H0 H1 locs1 → H1.size = H.size → W p l e R s m args below meth c H1 locs1 cells slots Q (F0 m (pc + 3) ls rest)) : W p l e R s m args below meth c H locs cells slots Q (F0 m pc ls (v :: .ref a :: rest)) := by
  have hap := va_apart (own := own) hts hin ty0 hty hnm hK hc
  obtain ⟨r, h1, cell, q1, q2, q3, q4⟩ := hP q0 _ he
  have hr : r = (C, T, N) := Option.some.inj (h1.symm.trans hc)
  subst hr
  obtain ⟨hS, hfc, kC, hkC, hkind⟩ := hK.1 ci _ hc
  obtain ⟨cf, kf, fi, f, hi, hsl⟩ := hS k hk
  have hlay := hts _ (hin _ (u_in_lay hk))
  unfold u_lay at hlay
  rw [if_pos hfin] at hlay
  have hst := (u_facts hfc hkC (u_lays hts hin hk) hi).1
  have hcf : m.cls = cf := by
    obtain ⟨_, _, c', _, _, _, -, -, hf', -, -, -, hown2, -⟩ := Cond.laysFinal_spec hlay
    have e1 : c' = cf := by have := hi.symm.trans hf'; simp at this; exact this.1.symm
    rw [hdecl] at hown2
    rw [← e1]; exact Option.some.inj (hown.symm.trans hown2)
  have h6 := u_fits hfc hkC hkind (Or.inr hlay) hi hd hn hfit
  refine W.putFinK hexec hb hown hlink (hsame _ hi) hst hcf hin2 (by rw [q2]; exact h6) q1 q3 (by rw [hsl]; exact k2_hasslot (q4 k hk)) rfl rfl hdg fun H' e1 e2 e3 => ?_
  rw [hsl] at e1 ⊢
  exact kk H' _ (hP.set hD he ⟨_, hc, t_OB.to (V := updV (vp_V fs) k v) ⟨_, e1, q2, q3, t_set q4 hap hk v⟩ (fun j _ => vp_updV_set hl v j)⟩ e3) (hD.set he) (hS0.put e2 e3 (hD.2 q0 _ he)) e2
theorem z_iastS (hexec : p.tables.exec = Jvm.exec) (hb : c.code = cc) (hK : va_K D cl tys s) (hP : va_P D cl ws H) (hD : va_D A ws) (hS : va_S A H0 H locs) (q0 t0 : Nat) {cA : ClassId} {n : Nat} {f : Nat → Int32} (ha : ws[q0]? = some (a, .inl (cA, n, .inl f))) (ht : tys[t0]? = some (cA, .int)) {i : Int32} {x : Int32} (hin : vp_in i n) (hdg : decode cc pc = .ok (.iastore, 1))
    (kk : ∀ (H1 : Heap) (locs1 : List Loc), va_P D cl (ws.set q0 (a, .inl (cA, n, .inl (upd f i.toNatClampNeg x)))) H1 → va_D A (ws.set q0 (a, .inl (cA, n, .inl (upd f i.toNatClampNeg x)))) → va_S A H0 H1 locs1 → H1.size = H.size → W p l e R s m args below meth c H1 locs1 cells slots Q (F0 m (pc + 1) ls rest)) : W p l e R s m args below meth c H locs cells slots Q (F0 m pc ls (.int x :: .int i :: .ref a :: rest)) := by
  refine W.iast hexec hb (hP q0 _ ha) ((hK.2 t0 _ ht).1 n (fun j => .int (f j))) (fun q => by cases q) (by show ¬ (i < 0 ∨ (arrV _ _ _).slots.size ≤ _); rw [arrV_size]; exact hin) rfl rfl hdg fun H1 e z oq => ?_
  refine kk H1 _ (hP.set hD ha ?_ oq) (hD.set ha) (hS.put z oq (hD.2 q0 _ ha)) z
  show H1[a]? = some (vp_cell _ _)
  rw [e]
  rw [vp_cell_i, vp_cell_i, arrV_store]
  congr 2
  funext q
  by_cases hq : q = i.toNatClampNeg
  · subst hq
    simp [updV, upd]
    
  · simp [updV, upd, hq]
end ZS
/-- as ZG, without addresses -/
abbrev ZE : Type := (Nat → ClassId) × (Nat → Nat → Nat) × ClassId × ClassId × ClassId × ClassId
abbrev zeD (E : ZE) : va_G := (E.1, E.2.1)
abbrev zeT (E : ZE) : List (ClassId × FieldType) := [(E.2.2.1, .byte), (E.2.2.2.1, .int), (E.2.2.2.2.1, .long), (E.2.2.2.2.2, .array .int)]
abbrev zb (base : Nat) : Nat → Prop := fun q => base ≤ q
def z_nest : List Cond := [Cond.methodLinkNest "LoveLocks" 9 yX9_init "LoveLocks", Cond.methodLinkNest "LoveLocks$State" 9 yX4_init "LoveLocks", Cond.methodLinkNest "LoveLocks$State" 18 yX8_init "LoveLocks", Cond.methodLinkNest "LoveLocks$State" 25 yX2_init "LoveLocks", Cond.methodLinkNest "LoveLocks$State" 32 yX3_init "LoveLocks", Cond.methodLinkNest "LoveLocks" 21 yX5_init "LoveLocks", Cond.methodLinkNest "LoveLocks" 28 yX6_init "LoveLocks", Cond.methodLinkNest "LoveLocks" 35 yX1_init "LoveLocks", Cond.methodLinkNest "LoveLocks" 42 yX10_init "LoveLocks"]
def zX (U : State) : Prop := (∀ w ∈ z_nest, va_Nw w U) ∧ va_AOA .int U
theorem z_fidx {u U : State} (hvm : u.vm.Alike U.vm) (g : Kind → Bool) : U.vm.classes.findIdx? (fun x => g x.kind) = u.vm.classes.findIdx? (fun x => g x.kind) := by
  have hb : ∀ vm : Vm, vm.bare.classes.findIdx? (fun x => g x.kind) = vm.classes.findIdx? (fun x => g x.kind) := by
    intro vm
    simp only [Vm.bare, Array.findIdx?_map]
    rfl
  rw [← hb U.vm, ← hb u.vm]
  first | rw [hvm.bare_eq] | rw [← hvm.bare_eq]
theorem va_AOA.warm {t : FieldType} {u U : State} (hW : u.WarmedH U.vm) (h : va_AOA t u) : va_AOA t U := by
  have hvm := hW.alike
  obtain ⟨comp, c, k, h1, h3, h4, h5⟩ := Cond.arrayOver_specA h
  have hi0 : ∃ c0, (u.vm.classes.findIdx? fun (x : Class) => match x.kind with | .array component _ => component == comp | _ => false) = some c0 ∧ ∃ k0, u.vm.classes[c0]? = some k0 ∧ (match k0.kind with | .array _ ty => decide (ty = FieldType.array t) && decide (u.vm.findClass ("[" ++ (FieldType.array t).toString) = some c0) | _ => false) = true := by
    unfold va_AOA Cond.before Cond.holds at h
    simp only [Cond.value] at h
    rw [h1] at h
    simp only [Option.bind_some, beq_iff_eq, Option.bind_eq_some_iff, Option.map_eq_some_iff] at h
    obtain ⟨c0, a1, k0, a2, a3⟩ := h
    exact ⟨c0, a1, k0, a2, a3⟩
  obtain ⟨c0, hi1, k0, hk0, hm⟩ := hi0
  obtain ⟨k1, hk1, he1⟩ := hvm.2.2 _ _ hk0
  have hkd : k1.kind = k0.kind := by rw [he1]
  have hi : (U.vm.classes.findIdx? fun (x : Class) => match x.kind with | .array component _ => component == comp | _ => false) = some c0 := (z_fidx hvm (fun k => match k with | .array component _ => component == comp | _ => false)).trans hi1
  have f1 : U.vm.findClass (FieldType.array t).toString = some comp := by rw [hvm.findClass]; exact h1
  unfold va_AOA Cond.before Cond.holds
  simp only [Cond.value]
  rw [f1, Option.bind_some]
  refine (congrArg (fun o : Option Nat => (o.bind (fun c => (U.vm.classes[c]?).map fun (k : Class) => match k.kind with | .array _ ty => decide (ty = FieldType.array t) && decide (U.vm.findClass ("[" ++ (FieldType.array t).toString) = some c) | _ => false) == some true)) hi).trans ?_
  simp only [Option.bind_some, hk1, Option.map_some, hkd, hvm.findClass, hm]
  rfl
theorem va_AOA.same {t : FieldType} {u U : State} (hv : u.vm = U.vm) (h : va_AOA t u) : va_AOA t U := by
  unfold va_AOA Cond.before Cond.holds at h ⊢
  simp only [Cond.value] at h ⊢
  rw [← hv]
  exact h
theorem zX.warm {s U : State} (hW : s.WarmedH U.vm) (h : zX s) : zX U := by
  refine ⟨?_, va_AOA.warm hW h.2⟩
  have h1 := h.1
  unfold z_nest at h1 ⊢
  simp only [List.forall_mem_cons] at h1 ⊢
  obtain ⟨g0, g1, g2, g3, g4, g5, g6, g7, g8, -⟩ := h1
  exact ⟨va_Nw.warmM hW g0, va_Nw.warmM hW g1, va_Nw.warmM hW g2, va_Nw.warmM hW g3, va_Nw.warmM hW g4, va_Nw.warmM hW g5, va_Nw.warmM hW g6, va_Nw.warmM hW g7, va_Nw.warmM hW g8, fun _ h => absurd h List.not_mem_nil⟩
theorem zX.same {u U : State} (hv : u.vm = U.vm) (h : zX u) : zX U := by
  refine ⟨?_, va_AOA.same hv h.2⟩
  have h1 := h.1
  unfold z_nest at h1 ⊢
  simp only [List.forall_mem_cons] at h1 ⊢
  obtain ⟨g0, g1, g2, g3, g4, g5, g6, g7, g8, -⟩ := h1
  exact ⟨va_Nw.same rfl hv g0, va_Nw.same rfl hv g1, va_Nw.same rfl hv g2, va_Nw.same rfl hv g3, va_Nw.same rfl hv g4, va_Nw.same rfl hv g5, va_Nw.same rfl hv g6, va_Nw.same rfl hv g7, va_Nw.same rfl hv g8, fun _ h => absurd h List.not_mem_nil⟩
def z_rmI (d mc ms : Nat) : Room := { frames := d, cells := mc, slots := ms, locals := 48 * d }
def zNQ (E : ZE) (base : Nat) (ws1 : va_W) (sz1 : Nat) : Array Value → State → Outcome → State → Prop := fun _ st oc t => oc = .returned none ∧ va_P (zeD E) vwCl ws1 t.heap ∧ va_D (zb base) ws1 ∧ t.heap.size = sz1 ∧ va_F (zb base) st t
def zNC (E : ZE) (base : Nat) (own : String) (B : ByteArray) (mL : Nat) (nm : String) (ws : va_W) (sz : Nat) (p : Program) (s : State) (m : MethodId) (args : Array Value) (meth : Method) (c : Code) (H : Heap) (locs : List Loc) : Prop :=
  p.tables.exec = Jvm.exec ∧ c.code = B ∧ c.maxLocals = mL ∧ meth.sig.returnType = none ∧ meth.locks = false ∧ s.vm.findClass own = some m.cls ∧ (∀ x ∈ zw_tbl, x.before args s = true) ∧ va_K (zeD E) vwCl (zeT E) s ∧ va_P (zeD E) vwCl ws H ∧ va_D (zb base) ws ∧ va_S (zb base) s.heap H locs ∧ H.size = sz ∧ base ≤ s.heap.size ∧ meth.name = nm ∧ zX s
def zNA (E : ZE) (l : Launch) (base d mc ms : Nat) (own : String) (B : ByteArray) (mL : Nat) (nm : String) (ws1 : va_W) (sz1 : Nat) (pc : Nat) (lv : List (Nat × Value)) (st : List Value) (ws : va_W) (sz cells slots : Nat) : Prop :=
  ∀ (p : Program) (e : Env) (s : State) (m : MethodId) (args : Array Value) (below : List Frame) (meth : Method) (c : Code) (H : Heap) (locs : List Loc) (ls : Array Slot),
    zNC E base own B mL nm ws sz p s m args meth c H locs → lv_has ls mL lv →
    W p l e (z_rmI d mc ms) s m args below meth c H locs cells slots (MQ below (zNQ E base ws1 sz1) args s mc ms (zb base)) (F0 m pc ls st)
def zI (E : ZE) (l : Launch) (base d mc ms : Nat) (y : MethodName) (B : ByteArray) (mL : Nat) (as : List Value) (ws0 : va_W) (sz0 : Nat) (ws1 : va_W) (sz1 : Nat) : Prop :=
  Met l y (Cond.code y B mL none :: zw_tbl) (z_rmI d mc ms) (va_Pc as (fun U => va_P (zeD E) vwCl ws0 U.heap ∧ va_D (zb base) ws0 ∧ U.heap.size = sz0 ∧ base ≤ U.heap.size ∧ va_K (zeD E) vwCl (zeT E) U ∧ zX U)) (zNQ E base ws1 sz1) mc ms (zb base)
section ZN
variable {E : ZE} {l : Launch} {base d mc ms : Nat} {own : String} {B : ByteArray} {mL : Nat} {nm : String} {ws1 : va_W} {sz1 : Nat} {lv : List (Nat × Value)} {st : List Value} {ws : va_W} {sz cells slots : Nat} {pc : Nat}
theorem zI.of {y : MethodName} {as : List Value} {ws0 : va_W} {sz0 : Nat} (lv : List (Nat × Value)) (hy : plainName y.cls = true) (hn : (lg_sl as).length ≤ mL) (hlv : lv_args 0 as = lv)
    (h : zNA E l base d mc ms y.cls B mL y.name ws1 sz1 0 lv [] ws0 sz0 0 0) : zI E l base d mc ms y B mL as ws0 sz0 ws1 sz1 := by
  refine Met.ofW (cc := B) (maxL := mL) (ret := none) hy rfl ?_
  intro p e s m args below meth c s₁ Bo hml hv
  obtain ⟨rfl, hP, hD, hz, hb, hK, hX⟩ := hv
  have hts : ∀ x ∈ Cond.code y B mL none :: zw_tbl, x.before as.toArray s = true := atoms_spec Bo.pre
  have hl := lv_entry as hn
  rw [lg_entry_eq]
  generalize (lg_sl as ++ List.replicate (mL - (lg_sl as).length) Slot.unset).toArray = ls at hl ⊢
  rw [hlv] at hl
  exact h p e s m as.toArray below meth c s.heap [] ls ⟨Bo.exec, Bo.bytes, hml, Bo.returns, Bo.notSynchronized, findClass_of_methodNamed Bo.named, fun x hx => hts x (List.mem_cons_of_mem _ hx), hK, hP, hD, va_S.rf, hz, hb, (name_of_methodNamed Bo.named Bo.method).1, hX⟩ hl
theorem zI_blind {as : List Value} {ws0 : va_W} {sz0 : Nat} : FrameBlind (va_Pc as (fun U => va_P (zeD E) vwCl ws0 U.heap ∧ va_D (zb base) ws0 ∧ U.heap.size = sz0 ∧ base ≤ U.heap.size ∧ va_K (zeD E) vwCl (zeT E) U ∧ zX U)) := by
  intro a U g mk h
  obtain ⟨h1, h2, h3, h4, h5, h6, h7⟩ := h
  exact ⟨h1, h2, h3, h4, h5, va_K.moved (u := U) (U := U.calling g mk a) (Vm.Alike.refl U.vm) h6, zX.same (u := U) (U := U.calling g mk a) rfl h7⟩

def zrow (cI : ClassId) (a N K : Nat) : va_W := (List.range N).map (fun i => (a + i, .inl (cI, K, .inl (fun _ => 0))))
theorem zrow_get {cI : ClassId} {a N K k : Nat} {y : Nat × va_E} (h : (zrow cI a N K)[k]? = some y) : k < N ∧ y = (a + k, .inl (cI, K, .inl (fun _ => 0))) := by
  unfold zrow at h
  rw [List.getElem?_map] at h
  by_cases hk : k < N
  · rw [List.getElem?_range hk] at h
    cases h
    exact ⟨hk, rfl⟩
  · rw [List.getElem?_eq_none (by simpa using Nat.le_of_not_lt hk)] at h
    cases h

theorem n_iconst (n : Nat) {z : Int} {x : Int32} (hd : decode B pc = .ok (.iconst z, 1)) (hn : pc + 1 = n) (hv : Int32.ofInt z = x) (k : zNA E l base d mc ms own B mL nm ws1 sz1 n lv (.int x :: st) ws sz cells slots) : zNA E l base d mc ms own B mL nm ws1 sz1 pc lv st ws sz cells slots := by
  intro p e s m args below meth c H locs ls C hl
  subst hn
  exact lv_iconst C.1 C.2.1  hd hv (k p e s m args below meth c H locs ls C hl)
theorem n_bipush (n : Nat) {z : Int} {x : Int32} (hd : decode B pc = .ok (.bipush z, 2)) (hn : pc + 2 = n) (hv : (Int8.ofInt z).toInt32 = x) (k : zNA E l base d mc ms own B mL nm ws1 sz1 n lv (.int x :: st) ws sz cells slots) : zNA E l base d mc ms own B mL nm ws1 sz1 pc lv st ws sz cells slots := by
  intro p e s m args below meth c H locs ls C hl
  subst hn
  exact lv_bipush C.1 C.2.1  hd hv (k p e s m args below meth c H locs ls C hl)
theorem n_sipush (n : Nat) {z : Int} {x : Int32} (hd : decode B pc = .ok (.sipush z, 3)) (hn : pc + 3 = n) (hv : (Int16.ofInt z).toInt32 = x) (k : zNA E l base d mc ms own B mL nm ws1 sz1 n lv (.int x :: st) ws sz cells slots) : zNA E l base d mc ms own B mL nm ws1 sz1 pc lv st ws sz cells slots := by
  intro p e s m args below meth c H locs ls C hl
  subst hn
  exact lv_sipush C.1 C.2.1  hd hv (k p e s m args below meth c H locs ls C hl)
theorem n_iload_n (n : Nat) {q : Fin 4} {i : Nat} {x : Int32} (hd : decode B pc = .ok (.iload_n q, 1)) (hn : pc + 1 = n) (j : Nat) (hi : (q : Nat) = i) (hj : lv[j]? = some (i, .int x)) (k : zNA E l base d mc ms own B mL nm ws1 sz1 n lv (.int x :: st) ws sz cells slots) : zNA E l base d mc ms own B mL nm ws1 sz1 pc lv st ws sz cells slots := by
  intro p e s m args below meth c H locs ls C hl
  subst hn
  exact lv_iload_n C.1 C.2.1  hd hi (lv_at hl j hj) (k p e s m args below meth c H locs ls C hl)
theorem n_aload_n (n : Nat) {q : Fin 4} {i : Nat} {x : Nat} (hd : decode B pc = .ok (.aload_n q, 1)) (hn : pc + 1 = n) (j : Nat) (hi : (q : Nat) = i) (hj : lv[j]? = some (i, .ref x)) (k : zNA E l base d mc ms own B mL nm ws1 sz1 n lv (.ref x :: st) ws sz cells slots) : zNA E l base d mc ms own B mL nm ws1 sz1 pc lv st ws sz cells slots := by
  intro p e s m args below meth c H locs ls C hl
  subst hn
  exact lv_aload_n C.1 C.2.1  hd hi (lv_at hl j hj) (k p e s m args below meth c H locs ls C hl)
theorem n_dup (n : Nat) {va : Value} (hd : decode B pc = .ok (.dup, 1)) (hn : pc + 1 = n) (hc : va.category = 1) (k : zNA E l base d mc ms own B mL nm ws1 sz1 n lv (va :: va :: st) ws sz cells slots) : zNA E l base d mc ms own B mL nm ws1 sz1 pc lv (va :: st) ws sz cells slots := by
  intro p e s m args below meth c H locs ls C hl
  subst hn
  exact lv_dup C.1 C.2.1  hd hc (k p e s m args below meth c H locs ls C hl)
theorem n_ldc (n : Nat) {ix : Nat} {x : Int32} (hd : decode B pc = .ok (.ldc ix, 2)) (hn : pc + 2 = n) (hw : Cond.constant own ix x ∈ zw_tbl) (k : zNA E l base d mc ms own B mL nm ws1 sz1 n lv (.int x :: st) ws sz cells slots) : zNA E l base d mc ms own B mL nm ws1 sz1 pc lv st ws sz cells slots := by
  intro p e s m args below meth c H locs ls C hl
  subst hn
  exact lv_ldc C.1 C.2.1 C.2.2.2.2.2.1 (C.2.2.2.2.2.2.1 _ hw) hd  (k p e s m args below meth c H locs ls C hl)
theorem n_istore_n (n : Nat) (lv' : List (Nat × Value)) {q : Fin 4} {i : Nat} {x : Int32} (hd : decode B pc = .ok (.istore_n q, 1)) (hn : pc + 1 = n) (hi : (q : Nat) = i) (hlt : i < mL) (hf : (i, Value.int x) :: lv.filter (fun q => !(q.1 == i) && !(q.1 + 1 == i && q.2.category == 2)) = lv') (k : zNA E l base d mc ms own B mL nm ws1 sz1 n lv' st ws sz cells slots) : zNA E l base d mc ms own B mL nm ws1 sz1 pc lv (.int x :: st) ws sz cells slots := by
  intro p e s m args below meth c H locs ls C hl
  subst hn
  exact lv_istore_n C.1 C.2.1 hd hi hl hlt hf (fun ls' hl' => k p e s m args below meth c H locs ls' C hl')
theorem n_astore_n (n : Nat) (lv' : List (Nat × Value)) {q : Fin 4} {i : Nat} {x : Nat} (hd : decode B pc = .ok (.astore_n q, 1)) (hn : pc + 1 = n) (hi : (q : Nat) = i) (hlt : i < mL) (hf : (i, Value.ref x) :: lv.filter (fun q => !(q.1 == i) && !(q.1 + 1 == i && q.2.category == 2)) = lv') (k : zNA E l base d mc ms own B mL nm ws1 sz1 n lv' st ws sz cells slots) : zNA E l base d mc ms own B mL nm ws1 sz1 pc lv (.ref x :: st) ws sz cells slots := by
  intro p e s m args below meth c H locs ls C hl
  subst hn
  exact lv_astore_n C.1 C.2.1 hd hi hl hlt hf (fun ls' hl' => k p e s m args below meth c H locs ls' C hl')
theorem n_iinc (n j : Nat) (lv' : List (Nat × Value)) {i : Nat} {z : Int} {x y : Int32} (hd : decode B pc = .ok (.iinc i z, 3)) (hn : pc + 3 = n) (hj : lv[j]? = some (i, .int x)) (hv : x + Int32.ofInt z = y) (hlt : i < mL) (hf : (i, Value.int y) :: lv.filter (fun q => !(q.1 == i) && !(q.1 + 1 == i && q.2.category == 2)) = lv') (k : zNA E l base d mc ms own B mL nm ws1 sz1 n lv' st ws sz cells slots) : zNA E l base d mc ms own B mL nm ws1 sz1 pc lv st ws sz cells slots := by
  intro p e s m args below meth c H locs ls C hl
  subst hn
  exact lv_iinc C.1 C.2.1 hd hl hj hv hlt hf (fun ls' hl' => k p e s m args below meth c H locs ls' C hl')
theorem n_icmp_ge_y (t : Nat) {x y : Int32} {off : Int} (hd : decode B pc = .ok (.if_icmp .ge off, 3)) (ht : (pc : Int) + off = (t : Int)) (hc : y ≤ x) (k : zNA E l base d mc ms own B mL nm ws1 sz1 t lv st ws sz cells slots) : zNA E l base d mc ms own B mL nm ws1 sz1 pc lv (.int y :: .int x :: st) ws sz cells slots := by
  intro p e s m args below meth c H locs ls C hl
  exact lv_icmp_ge C.1 C.2.1 hd ht (fun _ => (k p e s m args below meth c H locs ls C hl)) (fun h => absurd hc h)
theorem n_icmp_ge_n (n : Nat) {x y : Int32} {off : Int} (t : Nat) (hd : decode B pc = .ok (.if_icmp .ge off, 3)) (ht : (pc : Int) + off = (t : Int)) (hn : pc + 3 = n) (hc : ¬ y ≤ x) (k : zNA E l base d mc ms own B mL nm ws1 sz1 n lv st ws sz cells slots) : zNA E l base d mc ms own B mL nm ws1 sz1 pc lv (.int y :: .int x :: st) ws sz cells slots := by
  intro p e s m args below meth c H locs ls C hl
  subst hn
  exact lv_icmp_ge C.1 C.2.1 hd ht (fun h => absurd h hc) (fun _ => (k p e s m args below meth c H locs ls C hl))
theorem n_icmp_lt_y (t : Nat) {x y : Int32} {off : Int} (hd : decode B pc = .ok (.if_icmp .lt off, 3)) (ht : (pc : Int) + off = (t : Int)) (hc : x < y) (k : zNA E l base d mc ms own B mL nm ws1 sz1 t lv st ws sz cells slots) : zNA E l base d mc ms own B mL nm ws1 sz1 pc lv (.int y :: .int x :: st) ws sz cells slots := by
  intro p e s m args below meth c H locs ls C hl
  exact lv_icmp_lt C.1 C.2.1 hd ht (fun _ => (k p e s m args below meth c H locs ls C hl)) (fun h => absurd hc h)
theorem n_goto (t : Nat) {off : Int} (hd : decode B pc = .ok (.goto off, 3)) (ht : (pc : Int) + off = (t : Int)) (k : zNA E l base d mc ms own B mL nm ws1 sz1 t lv st ws sz cells slots) : zNA E l base d mc ms own B mL nm ws1 sz1 pc lv st ws sz cells slots := by
  intro p e s m args below meth c H locs ls C hl
  exact lv_goto C.1 C.2.1 hd ht (k p e s m args below meth c H locs ls C hl)
theorem n_world (ws' : va_W) (h : ws = ws') (k : zNA E l base d mc ms own B mL nm ws1 sz1 pc lv st ws' sz cells slots) : zNA E l base d mc ms own B mL nm ws1 sz1 pc lv st ws sz cells slots := by subst h; exact k
theorem n_obji (n : Nat) {ix : Nat} {a : Nat} (hd : decode B pc = .ok (.invokespecial ix, 3)) (hn : pc + 3 = n) (hlk : Cond.methodLink own ix objectInit ∈ zw_tbl) (hin : Cond.instanceMethod objectInit ∈ zw_tbl) (hc : Cond.code objectInit ⟨#[0xb1]⟩ 1 none ∈ zw_tbl) (hdd : 1 ≤ d) (hW : (st.map fun v => v.category).sum ≤ 8) (k : zNA E l base d mc ms own B mL nm ws1 sz1 n lv st ws sz cells slots) : zNA E l base d mc ms own B mL nm ws1 sz1 pc lv (.ref a :: st) ws sz cells slots := by
  intro p e s m args below meth c H locs ls C hl
  subst hn
  have C2 := C
  obtain ⟨hx, hb, hml, hr, hlk2, hown, hts, hK, hP, hD, hS, hz, hbase, hnm, hX⟩ := C2
  exact W.objInit hx hb hown (hts _ hlk) (hts _ hin) (hts _ hc) rfl (hl.1.trans hml.symm) rfl hd (by show 1 ≤ d; exact hdd) (by show 2 * 0 + _ + 12 ≤ 48 * d; omega) (k p e s m args below meth c H locs ls C hl)
theorem n_new (n : Nat) {ci N ix : Nat} {Cn : String} {T : u_T} {fs : List Value} {ty : Nat → FieldType} (hd : decode B pc = .ok (.new ix, 3)) (hn : pc + 3 = n) (hc : vwCl[ci]? = some (Cn, T, N)) (hin : ∀ x ∈ u_ws Cn T N, x ∈ zw_tbl) (hty : ∀ k, k < N → parseFieldDescriptor (T k).2.2.1 = some (ty k)) (hcl : Cond.classLink own ix Cn ∈ zw_tbl) (hins : Cond.instantiable Cn N ∈ zw_tbl) (hini : Cond.initialized Cn ∈ zw_tbl) (hfs : ∀ j, j < N → defaultValue (ty j) = vp_V fs j) (hmc : cells + 1 ≤ mc) (hms : slots + N ≤ ms)
    (k : zNA E l base d mc ms own B mL nm ws1 sz1 n lv (.ref sz :: st) (ws ++ [(sz, .inr (ci, fs))]) (sz + 1) (cells + 1) (slots + N)) : zNA E l base d mc ms own B mL nm ws1 sz1 pc lv st ws sz cells slots := by
  intro p e s m args below meth c H locs ls C hl
  subst hn
  have C2 := C
  obtain ⟨hx, hb, hml, hr, hlk, hown, hts, hK, hP, hD, hS, hz, hbase, hnm, hX⟩ := C2
  have hKn := hK.1 ci _ hc
  subst hz
  refine W.newcK hx hb hown (hts _ hcl) (hts _ hins) (hts _ hini) rfl hd (by show cells + 1 ≤ mc; exact hmc) (by show slots + N ≤ ms; exact hms) hKn.2.1 rfl fun H1 kC hkC e1 z1 o1 => ?_
  have hk : ∀ (k : Nat) (x : Nat × va_E), ws[k]? = some x → H1[x.1]? = H[x.1]? := fun k x hx => o1 x.1 ((hP k x hx).lt)
  refine k p e s m args below meth c H1 locs ls ⟨hx, hb, hml, hr, hlk, hown, hts, hK, (hP.kept hk).app (fun k x hx => ?_), hD.push hP rfl (Nat.le_trans hbase hS.1), ⟨Nat.le_trans hS.1 (by omega), fun x h1 h2 => (o1 x (Nat.lt_of_lt_of_le h1 hS.1)).trans (hS.2.1 x h1 h2), hS.2.2⟩, z1, hbase, hnm, hX⟩ hl
  have hz : k < 1 := (List.getElem?_eq_some_iff.mp hx).1
  rw [show k = 0 by omega] at hx
  cases hx
  exact ⟨_, hc, (u_born ty hts hin hKn hkC e1 hty).to hfs⟩
theorem n_newa_I (n : Nat) {x : Int32} {N' : Nat} (hd : decode B pc = .ok (.newarray .int, 2)) (hn : pc + 2 = n) (h0 : ¬ x < 0) (hN : x.toNatClampNeg = N') (hw : Cond.arrayClass .int ∈ zw_tbl) (hby : N' * componentBytes .int ≤ 536870912) (hmc : cells + 1 ≤ mc) (hms : slots + N' ≤ ms)
    (k : zNA E l base d mc ms own B mL nm ws1 sz1 n lv (.ref sz :: st) (ws ++ [(sz, .inl (E.2.2.2.1, N', .inl (fun _ => 0)))]) (sz + 1) (cells + 1) (slots + N')) : zNA E l base d mc ms own B mL nm ws1 sz1 pc lv (.int x :: st) ws sz cells slots := by
  intro p e s m args below meth c H locs ls C hl
  subst hn
  have C2 := C
  obtain ⟨hx, hb, hml, hr, hlk, hown, hts, hK, hP, hD, hS, hz, hbase, hnm, hX⟩ := C2
  subst hz
  refine va_newaK (atype := .int) hx hb (hts _ hw) rfl hd rfl h0 hN hby (by show cells + 1 ≤ mc; exact hmc) (by show slots + N' ≤ ms; exact hms) rfl fun H1 cA e1 z1 o1 hAr hNm => ?_
  have hcA : s.vm.findClass ("[" ++ (FieldType.int).toString) = some (E.2.2.2.1) := (hK.2 1 _ rfl).2
  have ec : some cA = some (E.2.2.2.1) := hNm.symm.trans hcA
  cases ec
  have hk : ∀ (k : Nat) (x : Nat × va_E), ws[k]? = some x → H1[x.1]? = H[x.1]? := fun k x hx => o1 x.1 ((hP k x hx).lt)
  refine k p e s m args below meth c H1 locs ls ⟨hx, hb, hml, hr, hlk, hown, hts, hK, (hP.kept hk).app (fun k x hx => ?_), hD.push hP rfl (Nat.le_trans hbase hS.1), ⟨Nat.le_trans hS.1 (by omega), fun x h1 h2 => (o1 x (Nat.lt_of_lt_of_le h1 hS.1)).trans (hS.2.1 x h1 h2), hS.2.2⟩, z1, hbase, hnm, hX⟩ hl
  have hz : k < 1 := (List.getElem?_eq_some_iff.mp hx).1
  rw [show k = 0 by omega] at hx
  cases hx
  exact e1
theorem n_newa_J (n : Nat) {x : Int32} {N' : Nat} (hd : decode B pc = .ok (.newarray .long, 2)) (hn : pc + 2 = n) (h0 : ¬ x < 0) (hN : x.toNatClampNeg = N') (hw : Cond.arrayClass .long ∈ zw_tbl) (hby : N' * componentBytes .long ≤ 536870912) (hmc : cells + 1 ≤ mc) (hms : slots + N' ≤ ms)
    (k : zNA E l base d mc ms own B mL nm ws1 sz1 n lv (.ref sz :: st) (ws ++ [(sz, .inl (E.2.2.2.2.1, N', .inr (.inl (fun _ => 0))))]) (sz + 1) (cells + 1) (slots + N')) : zNA E l base d mc ms own B mL nm ws1 sz1 pc lv (.int x :: st) ws sz cells slots := by
  intro p e s m args below meth c H locs ls C hl
  subst hn
  have C2 := C
  obtain ⟨hx, hb, hml, hr, hlk, hown, hts, hK, hP, hD, hS, hz, hbase, hnm, hX⟩ := C2
  subst hz
  refine va_newaK (atype := .long) hx hb (hts _ hw) rfl hd rfl h0 hN hby (by show cells + 1 ≤ mc; exact hmc) (by show slots + N' ≤ ms; exact hms) rfl fun H1 cA e1 z1 o1 hAr hNm => ?_
  have hcA : s.vm.findClass ("[" ++ (FieldType.long).toString) = some (E.2.2.2.2.1) := (hK.2 2 _ rfl).2
  have ec : some cA = some (E.2.2.2.2.1) := hNm.symm.trans hcA
  cases ec
  have hk : ∀ (k : Nat) (x : Nat × va_E), ws[k]? = some x → H1[x.1]? = H[x.1]? := fun k x hx => o1 x.1 ((hP k x hx).lt)
  refine k p e s m args below meth c H1 locs ls ⟨hx, hb, hml, hr, hlk, hown, hts, hK, (hP.kept hk).app (fun k x hx => ?_), hD.push hP rfl (Nat.le_trans hbase hS.1), ⟨Nat.le_trans hS.1 (by omega), fun x h1 h2 => (o1 x (Nat.lt_of_lt_of_le h1 hS.1)).trans (hS.2.1 x h1 h2), hS.2.2⟩, z1, hbase, hnm, hX⟩ hl
  have hz : k < 1 := (List.getElem?_eq_some_iff.mp hx).1
  rw [show k = 0 by omega] at hx
  cases hx
  exact e1
theorem n_newa_B (n : Nat) {x : Int32} {N' : Nat} (hd : decode B pc = .ok (.newarray .byte, 2)) (hn : pc + 2 = n) (h0 : ¬ x < 0) (hN : x.toNatClampNeg = N') (hw : Cond.arrayClass .byte ∈ zw_tbl) (hby : N' * componentBytes .byte ≤ 536870912) (hmc : cells + 1 ≤ mc) (hms : slots + N' ≤ ms)
    (k : zNA E l base d mc ms own B mL nm ws1 sz1 n lv (.ref sz :: st) (ws ++ [(sz, .inl (E.2.2.1, N', .inl (fun _ => 0)))]) (sz + 1) (cells + 1) (slots + N')) : zNA E l base d mc ms own B mL nm ws1 sz1 pc lv (.int x :: st) ws sz cells slots := by
  intro p e s m args below meth c H locs ls C hl
  subst hn
  have C2 := C
  obtain ⟨hx, hb, hml, hr, hlk, hown, hts, hK, hP, hD, hS, hz, hbase, hnm, hX⟩ := C2
  subst hz
  refine va_newaK (atype := .byte) hx hb (hts _ hw) rfl hd rfl h0 hN hby (by show cells + 1 ≤ mc; exact hmc) (by show slots + N' ≤ ms; exact hms) rfl fun H1 cA e1 z1 o1 hAr hNm => ?_
  have hcA : s.vm.findClass ("[" ++ (FieldType.byte).toString) = some (E.2.2.1) := (hK.2 0 _ rfl).2
  have ec : some cA = some (E.2.2.1) := hNm.symm.trans hcA
  cases ec
  have hk : ∀ (k : Nat) (x : Nat × va_E), ws[k]? = some x → H1[x.1]? = H[x.1]? := fun k x hx => o1 x.1 ((hP k x hx).lt)
  refine k p e s m args below meth c H1 locs ls ⟨hx, hb, hml, hr, hlk, hown, hts, hK, (hP.kept hk).app (fun k x hx => ?_), hD.push hP rfl (Nat.le_trans hbase hS.1), ⟨Nat.le_trans hS.1 (by omega), fun x h1 h2 => (o1 x (Nat.lt_of_lt_of_le h1 hS.1)).trans (hS.2.1 x h1 h2), hS.2.2⟩, z1, hbase, hnm, hX⟩ hl
  have hz : k < 1 := (List.getElem?_eq_some_iff.mp hx).1
  rw [show k = 0 by omega] at hx
  cases hx
  exact e1
theorem n_mna (n : Nat) {ix : Nat} {x z : Int32} {N' K' : Nat} (hd : decode B pc = .ok (.multianewarray ix 2, 4)) (hn : pc + 4 = n) (hx0 : ¬ x < 0) (hz0 : ¬ z < 0) (hN : x.toNatClampNeg = N') (hM : z.toNatClampNeg = K') (hcl : Cond.classLink own ix "[[I" ∈ zw_tbl) (hw : Cond.arrayClass .int ∈ zw_tbl) (hb1 : N' * 4 ≤ 536870912) (hb2 : K' * 4 ≤ 536870912) (hmc : cells + (1 + N') ≤ mc) (hms : slots + (N' + N' * K') ≤ ms)
    (k : zNA E l base d mc ms own B mL nm ws1 sz1 n lv (.ref sz :: st) (ws ++ (sz, .inl (E.2.2.2.2.2, N', .inr (.inr (.inr (.inr (fun i => if i < N' then some (sz + 1 + i) else none)))))) :: zrow E.2.2.2.1 (sz + 1) N' K') (sz + 1 + N') (cells + 1 + N') (slots + N' + N' * K')) : zNA E l base d mc ms own B mL nm ws1 sz1 pc lv (.int z :: .int x :: st) ws sz cells slots := by
  intro p e s m args below meth c H locs ls C hl
  subst hn
  subst hN
  subst hM
  have C2 := C
  obtain ⟨hx, hb, hml, hr, hlk, hown, hts, hK, hP, hD, hS, hz, hbase, hnm, hX⟩ := C2
  subst hz
  intro T hT Xs
  obtain ⟨vm₁, cA, comp, -, fA, fC, hO, -, X', step⟩ := Xs.multianewarray2F hx (ty := .int) hown (hts _ hcl) (va_AOA.use hX.2) (hts _ hw) (g := F0 m pc ls (.int z :: .int x :: st)) rfl (by rw [hb]; exact hd) rfl hx0 hz0 hb1 hb2 (by omega) rfl rfl (by show cells + _ ≤ mc; exact hmc) (by show slots + _ ≤ ms; exact hms)
  have hcA : s.vm.findClass ("[" ++ (FieldType.array .int).toString) = some (E.2.2.2.2.2) := (hK.2 3 _ rfl).2
  have ec : some cA = some (E.2.2.2.2.2) := fA.symm.trans hcA
  cases ec
  have hcC : s.vm.findClass (FieldType.array .int).toString = some (E.2.2.2.1) := (hK.2 1 _ rfl).2
  have ec2 : some comp = some (E.2.2.2.1) := fC.symm.trans hcC
  cases ec2
  generalize hF : Jvm.Free.Multi.fill (T.setVm vm₁) E.2.2.2.2.2 E.2.2.2.1 x.toNatClampNeg z.toNatClampNeg (defaultValue .int) x.toNatClampNeg = F at X' step
  have hTh : (T.setVm vm₁).heap = H := hT
  obtain ⟨f1, f2, -, -⟩ := Jvm.Free.Multi.fill_facts (T.setVm vm₁) E.2.2.2.2.2 E.2.2.2.1 x.toNatClampNeg z.toNatClampNeg (defaultValue .int) x.toNatClampNeg
  rw [hF, hTh] at f1 f2
  have hold : ∀ x : Nat, x < H.size → F.heap[x]? = H[x]? := fun y hy => by
    have := Jvm.Free.Multi.fill_old (T.setVm vm₁) E.2.2.2.2.2 E.2.2.2.1 x.toNatClampNeg z.toNatClampNeg (defaultValue .int) (a := y) (by rw [hTh]; exact hy) x.toNatClampNeg
    rw [hF, hTh] at this
    exact this
  have hzz : Jvm.Free.Multi.innerC E.2.2.2.1 z.toNatClampNeg (defaultValue .int) = vp_cell E.2.2.2.1 (z.toNatClampNeg, .inl (fun _ => 0)) := by
    rw [vp_cell_i]
    show ({ cls := E.2.2.2.1, slots := Array.replicate z.toNatClampNeg (.int 0), vm := .none } : Cell) = _
    rw [arrV_new]
  have hrow : ∀ j : Nat, j < x.toNatClampNeg → F.heap[H.size + 1 + j]? = some (vp_cell E.2.2.2.1 (z.toNatClampNeg, .inl (fun _ => 0))) := fun j hj => by
    have := Jvm.Free.Multi.fill_inner (T.setVm vm₁) E.2.2.2.2.2 E.2.2.2.1 x.toNatClampNeg z.toNatClampNeg (defaultValue .int) x.toNatClampNeg j hj
    rw [hF, hTh, hzz] at this
    exact this
  have hout : Jvm.Free.Multi.outerC E.2.2.2.2.2 x.toNatClampNeg H.size x.toNatClampNeg = vp_cell E.2.2.2.2.2 (x.toNatClampNeg, .inr (.inr (.inr (.inr (fun i => if i < x.toNatClampNeg then some (H.size + 1 + i) else none))))) := by
    rw [vp_cell_q]
    exact vr_outer E.2.2.2.2.2 x.toNatClampNeg H.size x.toNatClampNeg
  rw [hout] at f2
  have hP0 : va_P (zeD E) vwCl ws F.heap := hP.kept (fun k9 y hy => hold y.1 ((hP k9 y hy).lt))
  have hP1 : va_P (zeD E) vwCl (ws ++ (H.size, .inl (E.2.2.2.2.2, x.toNatClampNeg, .inr (.inr (.inr (.inr (fun i => if i < x.toNatClampNeg then some (H.size + 1 + i) else none)))))) :: zrow E.2.2.2.1 (H.size + 1) x.toNatClampNeg z.toNatClampNeg) F.heap := by
    refine hP0.app (fun k9 y hy => ?_)
    cases k9 with
    | zero => cases hy; exact f2
    | succ k9 =>
      have hy2 : (zrow E.2.2.2.1 (H.size + 1) x.toNatClampNeg z.toNatClampNeg)[k9]? = some y := hy
      obtain ⟨hlt, rfl⟩ := zrow_get hy2
      exact hrow k9 hlt
  have hle : ∀ (k9 : Nat) (y : Nat × va_E), ws[k9]? = some y → y.1 < H.size := fun k9 y hy => (hP k9 y hy).lt
  have hD1 : va_D (zb base) (ws ++ (H.size, .inl (E.2.2.2.2.2, x.toNatClampNeg, .inr (.inr (.inr (.inr (fun i => if i < x.toNatClampNeg then some (H.size + 1 + i) else none)))))) :: zrow E.2.2.2.1 (H.size + 1) x.toNatClampNeg z.toNatClampNeg) := by
    have hq : ∀ (k9 : Nat) (y : Nat × va_E), ((H.size, Sum.inl (E.2.2.2.2.2, x.toNatClampNeg, .inr (.inr (.inr (.inr (fun i => if i < x.toNatClampNeg then some (H.size + 1 + i) else none)))))) :: zrow E.2.2.2.1 (H.size + 1) x.toNatClampNeg z.toNatClampNeg : va_W)[k9]? = some y → y.1 = H.size + k9 := by
      intro k9 y hy
      cases k9 with
      | zero => cases hy; rfl
      | succ k9 =>
        obtain ⟨hlt, rfl⟩ := zrow_get (show (zrow E.2.2.2.1 (H.size + 1) x.toNatClampNeg z.toNatClampNeg)[k9]? = some y from hy)
        show H.size + 1 + k9 = _
        omega
    refine va_D.app hD ⟨fun i j p q hi hj hpq => ?_, fun k9 y hy => ?_⟩ (fun i j p q hi hj hpq => ?_)
    · have a1 := hq i p hi
      have a2 := hq j q hj
      omega
    · have a1 := hq k9 y hy
      show base ≤ y.1
      have := hS.1
      omega
    · have a1 := hle i p hi
      have a2 := hq j q hj
      omega
  obtain ⟨t, a1, b1⟩ := k p e s m args below meth c F.heap locs ls ⟨hx, hb, hml, hr, hlk, hown, hts, hK, hP1, hD1, ⟨by rw [f1]; have := hS.1; omega, fun y h1 h2 => (hold y (Nat.lt_of_lt_of_le h1 hS.1)).trans (hS.2.1 y h1 h2), hS.2.2⟩, by rw [f1], hbase, hnm, hX⟩ hl F rfl X'
  refine ⟨t, step t ?_, b1⟩
  have e : T.heap.size = H.size := by rw [hT]
  rw [e]
  exact a1
theorem z_at {P R : va_W} {x : Nat × va_E} {i : Nat} (h : R[i]? = some x) : (P ++ R)[P.length + i]? = some x := by
  rw [List.getElem?_append_right (by omega)]
  rw [show P.length + i - P.length = i by omega]
  exact h
theorem z_setat {P R : va_W} {x : Nat × va_E} {i : Nat} : (P ++ R).set (P.length + i) x = P ++ R.set i x := by
  rw [List.set_append_right _ _ (by omega)]
  rw [show P.length + i - P.length = i by omega]
theorem n_put (n i j : Nat) {P R : va_W} (R' : va_W) {a ci N ix : Nat} {Cn : String} {T : u_T} {fs : List Value} {va : Value} {ty0 : Nat → FieldType} {ty : FieldType} (hd : decode B pc = .ok (.putfield ix, 3)) (hn : pc + 3 = n) (hget : R[i]? = some (a, .inr (ci, fs))) (hc : vwCl[ci]? = some (Cn, T, N)) (hin : ∀ x ∈ u_ws Cn T N, x ∈ zw_tbl) (hty : ∀ k, k < N → parseFieldDescriptor (T k).2.2.1 = some (ty0 k)) (hnmm : ∀ a, a < N → ∀ b, b < N → a ≠ b → (T a).2.1 ≠ (T b).2.1) (hj : j < N) (hw : Cond.fieldLink own ix (T j).1 (T j).2.1 (T j).2.2.1 ∈ zw_tbl) (hfin : (T j).2.2.2 = false)  (hd2 : ty0 j = ty) (hnr : narrow ty va = va) (hfit : fits ty va = true) (hl2 : j < fs.length) (hset : R.set i (a, .inr (ci, fs.set j va)) = R')
    (k : zNA E l base d mc ms own B mL nm ws1 sz1 n lv st (P ++ R') sz cells slots) : zNA E l base d mc ms own B mL nm ws1 sz1 pc lv (va :: .ref a :: st) (P ++ R) sz cells slots := by
  intro p e s m args below meth c H locs ls C hl
  subst hn
  have C2 := C
  obtain ⟨hx, hb, hml, hr, hlk, hown, hts, hK, hP, hD, hS, hz, hbase, hnm, hX⟩ := C2
  refine z_putS (D := zeD E) (cl := vwCl) hx hb hts hin ty0 hty hnmm hown hK hP hD hS (P.length + i) (z_at hget) hc j hj (hts _ hw) (fun _ h => h) hfin  (ty := ty) (by rw [hty j hj, hd2]) hnr hfit hl2 hd (fun H1 locs1 hP1 hD1 hS1 hz0 => ?_)
  rw [z_setat, hset] at hP1 hD1
  have hz1 : H1.size = sz := hz0.trans hz
  exact k p e s m args below meth c H1 locs1 ls ⟨hx, hb, hml, hr, hlk, hown, hts, hK, hP1, hD1, hS1, hz1, hbase, hnm, hX⟩ hl
theorem n_putF (n i j : Nat) {P R : va_W} (R' : va_W) {a ci N ix : Nat} {Cn : String} {T : u_T} {fs : List Value} {va : Value} {ty0 : Nat → FieldType} {ty : FieldType} (hd : decode B pc = .ok (.putfield ix, 3)) (hn : pc + 3 = n) (hget : R[i]? = some (a, .inr (ci, fs))) (hc : vwCl[ci]? = some (Cn, T, N)) (hin : ∀ x ∈ u_ws Cn T N, x ∈ zw_tbl) (hty : ∀ k, k < N → parseFieldDescriptor (T k).2.2.1 = some (ty0 k)) (hnmm : ∀ a, a < N → ∀ b, b < N → a ≠ b → (T a).2.1 ≠ (T b).2.1) (hj : j < N) (hw : Cond.fieldLink own ix (T j).1 (T j).2.1 (T j).2.2.1 ∈ zw_tbl) (hfin : (T j).2.2.2 = true) (hin2 : nm = "<init>") (hdecl : (T j).1 = own) (hd2 : ty0 j = ty) (hnr : narrow ty va = va) (hfit : fits ty va = true) (hl2 : j < fs.length) (hset : R.set i (a, .inr (ci, fs.set j va)) = R')
    (k : zNA E l base d mc ms own B mL nm ws1 sz1 n lv st (P ++ R') sz cells slots) : zNA E l base d mc ms own B mL nm ws1 sz1 pc lv (va :: .ref a :: st) (P ++ R) sz cells slots := by
  intro p e s m args below meth c H locs ls C hl
  subst hn
  have C2 := C
  obtain ⟨hx, hb, hml, hr, hlk, hown, hts, hK, hP, hD, hS, hz, hbase, hnm, hX⟩ := C2
  refine z_putFS (D := zeD E) (cl := vwCl) hx hb hts hin ty0 hty hnmm hown hK hP hD hS (P.length + i) (z_at hget) hc j hj (hts _ hw) (fun _ h => h) hfin (hnm.trans hin2) hdecl (ty := ty) (by rw [hty j hj, hd2]) hnr hfit hl2 hd (fun H1 locs1 hP1 hD1 hS1 hz0 => ?_)
  rw [z_setat, hset] at hP1 hD1
  have hz1 : H1.size = sz := hz0.trans hz
  exact k p e s m args below meth c H1 locs1 ls ⟨hx, hb, hml, hr, hlk, hown, hts, hK, hP1, hD1, hS1, hz1, hbase, hnm, hX⟩ hl
theorem n_get (n i j : Nat) {P R : va_W} {a ci N ix : Nat} {Cn : String} {T : u_T} {fs : List Value} {va : Value} (hd : decode B pc = .ok (.getfield ix, 3)) (hn : pc + 3 = n) (hget : R[i]? = some (a, .inr (ci, fs))) (hc : vwCl[ci]? = some (Cn, T, N)) (hin : ∀ x ∈ u_ws Cn T N, x ∈ zw_tbl) (hj : j < N) (hw : Cond.fieldLink own ix (T j).1 (T j).2.1 (T j).2.2.1 ∈ zw_tbl) (hv : fs[j]? = some va)
    (k : zNA E l base d mc ms own B mL nm ws1 sz1 n lv (va :: st) (P ++ R) sz cells slots) : zNA E l base d mc ms own B mL nm ws1 sz1 pc lv (.ref a :: st) (P ++ R) sz cells slots := by
  intro p e s m args below meth c H locs ls C hl
  subst hn
  have C2 := C
  obtain ⟨hx, hb, hml, hr, hlk, hown, hts, hK, hP, hD, hS, hz, hbase, hnm, hX⟩ := C2
  exact va_get (D := zeD E) (cl := vwCl) hx hb hts hin hown hK hP (P.length + i) (z_at hget) hc j hj (hts _ hw) (fun _ h => h) hv hd (k p e s m args below meth c H locs ls C hl)
theorem n_iast (n i : Nat) {P R : va_W} (R' : va_W) {a N' : Nat} {f : Nat → Int32} {ix x : Int32} (hd : decode B pc = .ok (.iastore, 1)) (hn : pc + 1 = n) (hget : R[i]? = some (a, .inl (E.2.2.2.1, N', .inl f))) (hg : z_in ix N' = true) (hset : R.set i (a, .inl (E.2.2.2.1, N', .inl (upd f ix.toNatClampNeg x))) = R')
    (k : zNA E l base d mc ms own B mL nm ws1 sz1 n lv st (P ++ R') sz cells slots) : zNA E l base d mc ms own B mL nm ws1 sz1 pc lv (.int x :: .int ix :: .ref a :: st) (P ++ R) sz cells slots := by
  intro p e s m args below meth c H locs ls C hl
  subst hn
  have C2 := C
  obtain ⟨hx, hb, hml, hr, hlk, hown, hts, hK, hP, hD, hS, hz, hbase, hnm, hX⟩ := C2
  refine z_iastS (D := zeD E) (cl := vwCl) hx hb hK hP hD hS (P.length + i) 1 (z_at hget) rfl (z_in_vp hg) hd (fun H1 locs1 hP1 hD1 hS1 hz0 => ?_)
  rw [z_setat, hset] at hP1 hD1
  exact k p e s m args below meth c H1 locs1 ls ⟨hx, hb, hml, hr, hlk, hown, hts, hK, hP1, hD1, hS1, hz0.trans hz, hbase, hnm, hX⟩ hl
theorem n_alen (n i : Nat) {P R : va_W} {a N' : Nat} {f : Nat → Int32} {x : Int32} (hd : decode B pc = .ok (.arraylength, 1)) (hn : pc + 1 = n) (hget : R[i]? = some (a, .inl (E.2.2.2.1, N', .inl f))) (hv : Int32.ofNat N' = x) (k : zNA E l base d mc ms own B mL nm ws1 sz1 n lv (.int x :: st) (P ++ R) sz cells slots) : zNA E l base d mc ms own B mL nm ws1 sz1 pc lv (.ref a :: st) (P ++ R) sz cells slots := by
  intro p e s m args below meth c H locs ls C hl
  subst hn
  have C2 := C
  obtain ⟨hx, hb, hml, hr, hlk, hown, hts, hK, hP, hD, hS, hz, hbase, hnm, hX⟩ := C2
  exact va_alen (D := zeD E) (cl := vwCl) hx hb hK hP (P.length + i) 1 (z_at hget) rfl hv hd (k p e s m args below meth c H locs ls C hl)
theorem n_ret (hd : decode B pc = .ok (.return_, 1)) (hmc : cells ≤ mc) (hms : slots ≤ ms) (hw : ws = ws1) (hsz : sz = sz1) : zNA E l base d mc ms own B mL nm ws1 sz1 pc lv [] ws sz cells slots := by
  intro p e s m args below meth c H locs ls C hl
  subst hw
  subst hsz
  have C2 := C
  obtain ⟨hx, hb, hml, hr, hlk, hown, hts, hK, hP, hD, hS, hz, hbase, hnm, hX⟩ := C2
  refine W.widen hmc hms ?_
  exact W.vret hx hb hr (fun t ht _ => ⟨rfl, by rw [ht]; exact hP, hD, by rw [ht]; exact hz, hS.F ht⟩) hS.2.2 hd hlk
theorem n_after {p : Program} {e : Env} {s : State} {m : MethodId} {args : Array Value} {below : List Frame} {meth : Method} {c : Code} {H : Heap} {locs : List Loc} {ls : Array Slot} {a : Array Value} {rest st0 : List Value} {ws2 : va_W} {sz2 mc1 ms1 : Nat}
    (C : zNC E base own B mL nm ws sz p s m args meth c H locs) (hl : lv_has ls mL lv)
    (hr : va_Run p l e (z_rmI d mc ms) s m args below meth c H locs cells slots mc1 ms1 (F0 m pc ls st0) rest (zNQ E base ws2 sz2 a) (zb base))
    (k : zNA E l base d mc ms own B mL nm ws1 sz1 (pc + 3) lv rest ws2 sz2 (cells + mc1) (slots + ms1)) :
    W p l e (z_rmI d mc ms) s m args below meth c H locs cells slots (MQ below (zNQ E base ws1 sz1) args s mc ms (zb base)) (F0 m pc ls st0) := by
  obtain ⟨hx, hb, hml, hrt, hlk, hown, hts, hK, hP, hD, hS, hz, hbase, hnm, hX⟩ := C
  intro T hT X
  obtain ⟨v2, st₀, t, T', L, h0, X', hL, e1, e2, ⟨hv, hP2, hD2, hz2, hzz, hk⟩, step⟩ := hr T hT X
  cases hv
  rw [h0] at hzz hk
  have hS' : va_S (zb base) s.heap T'.heap (locs ++ L) := ⟨Nat.le_trans hS.1 (by rw [e1]; exact hzz), fun q h1 h2 => by rw [e1, hk q (Nat.lt_of_lt_of_le h1 hS.1) h2]; exact hS.2.1 q h1 h2, fun q hq => by
      rcases List.mem_append.mp hq with h | h
      · exact hS.2.2 q h
      · exact hL q h⟩
  obtain ⟨t2, a1, b1⟩ := k p e s m args below meth c T'.heap (locs ++ L) ls ⟨hx, hb, hml, hrt, hlk, hown, hts, hK, by rw [e1]; exact hP2, hD2, hS', by rw [e1]; exact hz2, hbase, hnm, hX⟩ hl T' rfl X'
  exact ⟨t2, step t2 a1, b1⟩
theorem n_callN (n : Nat) (ws3 : va_W) (sz3 : Nat) {y : MethodName} {ix d1 mL1 mc1 ms1 : Nat} {q : Nat} {ws0 : va_W} {B1 : ByteArray} {ws2 : va_W} {sz2 : Nat}  (hd : decode B pc = .ok (.invokespecial ix, 3)) (hn : pc + 3 = n) (hpre : ws = ws0) (hC : zI E l base d1 mc1 ms1 y B1 mL1 [.ref q] ws0 sz ws2 sz2) (hpost : ws2 = ws3) (hsz : sz2 = sz3) (hc : Cond.code y B1 mL1 none ∈ zw_tbl) (hi : Cond.initialized y.cls ∈ zw_tbl) (hlk : Cond.methodLinkNest own ix y "LoveLocks" ∈ z_nest) (hyn : y.name = "<init>") (hin : Cond.instanceMethod y ∈ zw_tbl)
    (hdes : y.cls ≠ "java/lang/invoke/MethodHandle" ∧ y.cls ≠ "java/lang/invoke/VarHandle" ∧ (parseMethodDescriptor y.desc).map (fun d => d.parameters.length) = some 0) (hm : mL1 ≤ 29) (hdd : d1 + 1 ≤ d) (hW : (st.map fun v => v.category).sum ≤ 8) (hmc : cells + mc1 ≤ mc) (hms : slots + ms1 ≤ ms)
    (k : zNA E l base d mc ms own B mL nm ws1 sz1 n lv st ws3 sz3 (cells + mc1) (slots + ms1)) : zNA E l base d mc ms own B mL nm ws1 sz1 pc lv (.ref q :: st) ws sz cells slots := by
  intro p e s m args below meth c H locs ls C hl
  subst hn
  subst hpre
  subst hpost
  subst hsz
  have C2 := C
  obtain ⟨hx, hb, hml, hrt, hlk2, hown, hts, hK, hP, hD, hS, hz, hbase, hnm, hX⟩ := C2
  refine n_after (a := #[Value.ref q]) (rest := st) C hl ?_ k
  have hnw := va_Nw.use (A := args) rfl (hX.1 _ hlk)
  exact va_runIN (Ts := zw_tbl) (cc := B) (nL := mL) (n := 0) (bytes := B1) (maxL := mL1) (host := "LoveLocks") (As := []) ⟨hx, hb, hml, hown, hts⟩ hC ⟨⟨⟨rfl, rfl, by show d1 + 1 ≤ d; omega, by show 8 + (mL1 + 11) + 48 * d1 ≤ 48 * d; omega, z_pay hts hc, List.mem_cons_self⟩, hts _ hc, hts _ hi, ⟨hdes.1, hdes.2.1⟩, (fun sig h => by have h2 := hdes.2.2; rw [h] at h2; exact (Option.some.inj h2).symm), hnw⟩, hyn, hts _ hin⟩ ⟨zI_blind, fun U hU hW => ⟨rfl, by rw [hU]; exact hP, hD, by rw [hU]; exact hz, by rw [hU]; exact Nat.le_trans hbase hS.1, va_K.moved hW.alike hK, hX.warm hW⟩⟩ rfl rfl hl.1 rfl (lv_room hW) hd ⟨by show cells + mc1 ≤ mc; exact hmc, by show slots + ms1 ≤ ms; exact hms⟩
theorem n_callI (n : Nat) (ws3 : va_W) (sz3 : Nat) {y : MethodName} {ix d1 mL1 mc1 ms1 : Nat} {q : Nat} {ws0 : va_W} {B1 : ByteArray} {ws2 : va_W} {sz2 : Nat}  (hd : decode B pc = .ok (.invokespecial ix, 3)) (hn : pc + 3 = n) (hpre : ws = ws0) (hC : zI E l base d1 mc1 ms1 y B1 mL1 [.ref q] ws0 sz ws2 sz2) (hpost : ws2 = ws3) (hsz : sz2 = sz3) (hc : Cond.code y B1 mL1 none ∈ zw_tbl) (hi : Cond.initialized y.cls ∈ zw_tbl) (hlk : Cond.methodLink own ix y ∈ zw_tbl) (hyn : y.name = "<init>") (hin : Cond.instanceMethod y ∈ zw_tbl)
    (hdes : y.cls ≠ "java/lang/invoke/MethodHandle" ∧ y.cls ≠ "java/lang/invoke/VarHandle" ∧ (parseMethodDescriptor y.desc).map (fun d => d.parameters.length) = some 0) (hm : mL1 ≤ 29) (hdd : d1 + 1 ≤ d) (hW : (st.map fun v => v.category).sum ≤ 8) (hmc : cells + mc1 ≤ mc) (hms : slots + ms1 ≤ ms)
    (k : zNA E l base d mc ms own B mL nm ws1 sz1 n lv st ws3 sz3 (cells + mc1) (slots + ms1)) : zNA E l base d mc ms own B mL nm ws1 sz1 pc lv (.ref q :: st) ws sz cells slots := by
  intro p e s m args below meth c H locs ls C hl
  subst hn
  subst hpre
  subst hpost
  subst hsz
  have C2 := C
  obtain ⟨hx, hb, hml, hrt, hlk2, hown, hts, hK, hP, hD, hS, hz, hbase, hnm, hX⟩ := C2
  refine n_after (a := #[Value.ref q]) (rest := st) C hl ?_ k
  exact va_runI (Ts := zw_tbl) (cc := B) (nL := mL) (n := 0) (bytes := B1) (maxL := mL1) (As := []) ⟨hx, hb, hml, hown, hts⟩ hC ⟨⟨rfl, rfl, by show d1 + 1 ≤ d; omega, by show 8 + (mL1 + 11) + 48 * d1 ≤ 48 * d; omega, z_pay hts hc, List.mem_cons_self, hts _ hc, hts _ hi, ⟨hdes.1, hdes.2.1⟩, (fun sig h => by have h2 := hdes.2.2; rw [h] at h2; exact (Option.some.inj h2).symm), hts _ hlk⟩, hyn, hts _ hin⟩ ⟨zI_blind, fun U hU hW => ⟨rfl, by rw [hU]; exact hP, hD, by rw [hU]; exact hz, by rw [hU]; exact Nat.le_trans hbase hS.1, va_K.moved hW.alike hK, hX.warm hW⟩⟩ rfl rfl hl.1 rfl (lv_room hW) hd ⟨by show cells + mc1 ≤ mc; exact hmc, by show slots + ms1 ≤ ms; exact hms⟩
theorem n_callS (n : Nat) (ws3 : va_W) (sz3 : Nat) {y : MethodName} {ix d1 mL1 mc1 ms1 : Nat}  {ws0 : va_W} {B1 : ByteArray} {ws2 : va_W} {sz2 : Nat} (As : List Value) {st0 : List Value} (n1 : Nat) (hn1 : As.length = n1) (hstack : st0 = As.reverse ++ st) (hd : decode B pc = .ok (.invokestatic ix, 3)) (hn : pc + 3 = n) (hpre : ws = ws0) (hC : zI E l base d1 mc1 ms1 y B1 mL1 As ws0 sz ws2 sz2) (hpost : ws2 = ws3) (hsz : sz2 = sz3) (hc : Cond.code y B1 mL1 none ∈ zw_tbl) (hi : Cond.initialized y.cls ∈ zw_tbl) (hlk : Cond.methodLink own ix y ∈ zw_tbl) (hst : Cond.static y ∈ zw_tbl) 
    (hdes : y.cls ≠ "java/lang/invoke/MethodHandle" ∧ y.cls ≠ "java/lang/invoke/VarHandle" ∧ (parseMethodDescriptor y.desc).map (fun d => d.parameters.length) = some n1) (hm : mL1 ≤ 29) (hdd : d1 + 1 ≤ d) (hW : (st.map fun v => v.category).sum ≤ 8) (hmc : cells + mc1 ≤ mc) (hms : slots + ms1 ≤ ms)
    (k : zNA E l base d mc ms own B mL nm ws1 sz1 n lv st ws3 sz3 (cells + mc1) (slots + ms1)) : zNA E l base d mc ms own B mL nm ws1 sz1 pc lv st0 ws sz cells slots := by
  intro p e s m args below meth c H locs ls C hl
  subst hn
  subst hpre
  subst hpost
  subst hsz
  have C2 := C
  obtain ⟨hx, hb, hml, hrt, hlk2, hown, hts, hK, hP, hD, hS, hz, hbase, hnm, hX⟩ := C2
  refine n_after (a := As.toArray) (rest := st) C hl ?_ k
  exact va_runS (Ts := zw_tbl) (cc := B) (nL := mL) (n := n1) (bytes := B1) (maxL := mL1) (ret := none) ⟨hx, hb, hml, hown, hts⟩ hC ⟨⟨rfl, rfl, by show d1 + 1 ≤ d; omega, by show 8 + (mL1 + 11) + 48 * d1 ≤ 48 * d; omega, z_pay hts hc, List.mem_cons_self, hts _ hc, hts _ hi, ⟨hdes.1, hdes.2.1⟩, (fun sig h => by have h2 := hdes.2.2; rw [h] at h2; exact (Option.some.inj h2).symm), hts _ hlk⟩, hts _ hst⟩ ⟨zI_blind, fun U hU hW => ⟨rfl, by rw [hU]; exact hP, hD, by rw [hU]; exact hz, by rw [hU]; exact Nat.le_trans hbase hS.1, va_K.moved hW.alike hK, hX.warm hW⟩⟩ rfl hn1 hl.1 hstack (lv_room hW) hd ⟨by show cells + mc1 ≤ mc; exact hmc, by show slots + ms1 ≤ ms; exact hms⟩
end ZN
