section ZR
variable {G : ZG} {l : Launch} {d : Nat} {own : String} {B : ByteArray} {mL : Nat} {rt : Option FieldType} {v : Option Value} {w' : ZW} {α : Type} {K : α → Prop} {lv : List (Nat × Value)} {st : List Value} {w : ZW} {X : Option α} {pc : Nat} {o : α}

theorem r_iconst (n : Nat) {z : Int} {x : Int32} (hd : decode B pc = .ok (.iconst z, 1)) (hn : pc + 1 = n) (hv : Int32.ofInt z = x) (k : zR G l d own B mL rt v w' K n lv (.int x :: st) w X) : zR G l d own B mL rt v w' K pc lv st w X := by
  intro o h1 h2 p e s m args below meth c H locs ls C hl
  subst hn
  exact lv_iconst C.1 C.2.1 hd hv (k o h1 h2 p e s m args below meth c H locs ls C hl)
theorem r_bipush (n : Nat) {z : Int} {x : Int32} (hd : decode B pc = .ok (.bipush z, 2)) (hn : pc + 2 = n) (hv : (Int8.ofInt z).toInt32 = x) (k : zR G l d own B mL rt v w' K n lv (.int x :: st) w X) : zR G l d own B mL rt v w' K pc lv st w X := by
  intro o h1 h2 p e s m args below meth c H locs ls C hl
  subst hn
  exact lv_bipush C.1 C.2.1 hd hv (k o h1 h2 p e s m args below meth c H locs ls C hl)
theorem r_sipush (n : Nat) {z : Int} {x : Int32} (hd : decode B pc = .ok (.sipush z, 3)) (hn : pc + 3 = n) (hv : (Int16.ofInt z).toInt32 = x) (k : zR G l d own B mL rt v w' K n lv (.int x :: st) w X) : zR G l d own B mL rt v w' K pc lv st w X := by
  intro o h1 h2 p e s m args below meth c H locs ls C hl
  subst hn
  exact lv_sipush C.1 C.2.1 hd hv (k o h1 h2 p e s m args below meth c H locs ls C hl)
theorem r_lconst (n : Nat) {z : Fin 2} {x : Int64} (hd : decode B pc = .ok (.lconst z, 1)) (hn : pc + 1 = n) (hv : Int64.ofNat (z : Nat) = x) (k : zR G l d own B mL rt v w' K n lv (.long x :: st) w X) : zR G l d own B mL rt v w' K pc lv st w X := by
  intro o h1 h2 p e s m args below meth c H locs ls C hl
  subst hn
  exact lv_lconst C.1 C.2.1 hd hv (k o h1 h2 p e s m args below meth c H locs ls C hl)
theorem r_iload_n (n : Nat) {q : Fin 4} {i : Nat} {x : Int32} (hd : decode B pc = .ok (.iload_n q, 1)) (hn : pc + 1 = n) (j : Nat) (hi : (q : Nat) = i) (hj : lv[j]? = some (i, .int x)) (k : zR G l d own B mL rt v w' K n lv (.int x :: st) w X) : zR G l d own B mL rt v w' K pc lv st w X := by
  intro o h1 h2 p e s m args below meth c H locs ls C hl
  subst hn
  exact lv_iload_n C.1 C.2.1 hd hi (lv_at hl j hj) (k o h1 h2 p e s m args below meth c H locs ls C hl)
theorem r_iload (n : Nat) {i : Nat} {x : Int32} (hd : decode B pc = .ok (.iload i, 2)) (hn : pc + 2 = n) (j : Nat) (hj : lv[j]? = some (i, .int x)) (k : zR G l d own B mL rt v w' K n lv (.int x :: st) w X) : zR G l d own B mL rt v w' K pc lv st w X := by
  intro o h1 h2 p e s m args below meth c H locs ls C hl
  subst hn
  exact lv_iload C.1 C.2.1 hd (lv_at hl j hj) (k o h1 h2 p e s m args below meth c H locs ls C hl)
theorem r_lload_n (n : Nat) {q : Fin 4} {i : Nat} {x : Int64} (hd : decode B pc = .ok (.lload_n q, 1)) (hn : pc + 1 = n) (j : Nat) (hi : (q : Nat) = i) (hj : lv[j]? = some (i, .long x)) (k : zR G l d own B mL rt v w' K n lv (.long x :: st) w X) : zR G l d own B mL rt v w' K pc lv st w X := by
  intro o h1 h2 p e s m args below meth c H locs ls C hl
  subst hn
  exact lv_lload_n C.1 C.2.1 hd hi (lv_at hl j hj) (k o h1 h2 p e s m args below meth c H locs ls C hl)
theorem r_lload (n : Nat) {i : Nat} {x : Int64} (hd : decode B pc = .ok (.lload i, 2)) (hn : pc + 2 = n) (j : Nat) (hj : lv[j]? = some (i, .long x)) (k : zR G l d own B mL rt v w' K n lv (.long x :: st) w X) : zR G l d own B mL rt v w' K pc lv st w X := by
  intro o h1 h2 p e s m args below meth c H locs ls C hl
  subst hn
  exact lv_lload C.1 C.2.1 hd (lv_at hl j hj) (k o h1 h2 p e s m args below meth c H locs ls C hl)
theorem r_aload_n (n : Nat) {q : Fin 4} {i : Nat} {x : Nat} (hd : decode B pc = .ok (.aload_n q, 1)) (hn : pc + 1 = n) (j : Nat) (hi : (q : Nat) = i) (hj : lv[j]? = some (i, .ref x)) (k : zR G l d own B mL rt v w' K n lv (.ref x :: st) w X) : zR G l d own B mL rt v w' K pc lv st w X := by
  intro o h1 h2 p e s m args below meth c H locs ls C hl
  subst hn
  exact lv_aload_n C.1 C.2.1 hd hi (lv_at hl j hj) (k o h1 h2 p e s m args below meth c H locs ls C hl)
theorem r_aload (n : Nat) {i : Nat} {x : Nat} (hd : decode B pc = .ok (.aload i, 2)) (hn : pc + 2 = n) (j : Nat) (hj : lv[j]? = some (i, .ref x)) (k : zR G l d own B mL rt v w' K n lv (.ref x :: st) w X) : zR G l d own B mL rt v w' K pc lv st w X := by
  intro o h1 h2 p e s m args below meth c H locs ls C hl
  subst hn
  exact lv_aload C.1 C.2.1 hd (lv_at hl j hj) (k o h1 h2 p e s m args below meth c H locs ls C hl)
theorem r_iadd (n : Nat) {x y : Int32} (hd : decode B pc = .ok (.iadd, 1)) (hn : pc + 1 = n)  (k : zR G l d own B mL rt v w' K n lv (.int (x + y) :: st) w X) : zR G l d own B mL rt v w' K pc lv (.int y :: .int x :: st) w X := by
  intro o h1 h2 p e s m args below meth c H locs ls C hl
  subst hn
  exact lv_iadd C.1 C.2.1 hd  (k o h1 h2 p e s m args below meth c H locs ls C hl)
theorem r_isub (n : Nat) {x y : Int32} (hd : decode B pc = .ok (.isub, 1)) (hn : pc + 1 = n)  (k : zR G l d own B mL rt v w' K n lv (.int (x - y) :: st) w X) : zR G l d own B mL rt v w' K pc lv (.int y :: .int x :: st) w X := by
  intro o h1 h2 p e s m args below meth c H locs ls C hl
  subst hn
  exact lv_isub C.1 C.2.1 hd  (k o h1 h2 p e s m args below meth c H locs ls C hl)
theorem r_imul (n : Nat) {x y : Int32} (hd : decode B pc = .ok (.imul, 1)) (hn : pc + 1 = n)  (k : zR G l d own B mL rt v w' K n lv (.int (x * y) :: st) w X) : zR G l d own B mL rt v w' K pc lv (.int y :: .int x :: st) w X := by
  intro o h1 h2 p e s m args below meth c H locs ls C hl
  subst hn
  exact lv_imul C.1 C.2.1 hd  (k o h1 h2 p e s m args below meth c H locs ls C hl)
theorem r_iand (n : Nat) {x y : Int32} (hd : decode B pc = .ok (.iand, 1)) (hn : pc + 1 = n)  (k : zR G l d own B mL rt v w' K n lv (.int (x &&& y) :: st) w X) : zR G l d own B mL rt v w' K pc lv (.int y :: .int x :: st) w X := by
  intro o h1 h2 p e s m args below meth c H locs ls C hl
  subst hn
  exact lv_iand C.1 C.2.1 hd  (k o h1 h2 p e s m args below meth c H locs ls C hl)
theorem r_ior (n : Nat) {x y : Int32} (hd : decode B pc = .ok (.ior, 1)) (hn : pc + 1 = n)  (k : zR G l d own B mL rt v w' K n lv (.int (x ||| y) :: st) w X) : zR G l d own B mL rt v w' K pc lv (.int y :: .int x :: st) w X := by
  intro o h1 h2 p e s m args below meth c H locs ls C hl
  subst hn
  exact lv_ior C.1 C.2.1 hd  (k o h1 h2 p e s m args below meth c H locs ls C hl)
theorem r_ixor (n : Nat) {x y : Int32} (hd : decode B pc = .ok (.ixor, 1)) (hn : pc + 1 = n)  (k : zR G l d own B mL rt v w' K n lv (.int (x ^^^ y) :: st) w X) : zR G l d own B mL rt v w' K pc lv (.int y :: .int x :: st) w X := by
  intro o h1 h2 p e s m args below meth c H locs ls C hl
  subst hn
  exact lv_ixor C.1 C.2.1 hd  (k o h1 h2 p e s m args below meth c H locs ls C hl)
theorem r_ishl (n : Nat) {x y : Int32} (hd : decode B pc = .ok (.ishl, 1)) (hn : pc + 1 = n)  (k : zR G l d own B mL rt v w' K n lv (.int (x <<< (y &&& 31)) :: st) w X) : zR G l d own B mL rt v w' K pc lv (.int y :: .int x :: st) w X := by
  intro o h1 h2 p e s m args below meth c H locs ls C hl
  subst hn
  exact lv_ishl C.1 C.2.1 hd  (k o h1 h2 p e s m args below meth c H locs ls C hl)
theorem r_ishr (n : Nat) {x y : Int32} (hd : decode B pc = .ok (.ishr, 1)) (hn : pc + 1 = n)  (k : zR G l d own B mL rt v w' K n lv (.int (x >>> (y &&& 31)) :: st) w X) : zR G l d own B mL rt v w' K pc lv (.int y :: .int x :: st) w X := by
  intro o h1 h2 p e s m args below meth c H locs ls C hl
  subst hn
  exact lv_ishr C.1 C.2.1 hd  (k o h1 h2 p e s m args below meth c H locs ls C hl)
theorem r_iushr (n : Nat) {x y : Int32} (hd : decode B pc = .ok (.iushr, 1)) (hn : pc + 1 = n)  (k : zR G l d own B mL rt v w' K n lv (.int ((x.toUInt32 >>> (y.toUInt32 &&& Int32.toUInt32 31)).toInt32) :: st) w X) : zR G l d own B mL rt v w' K pc lv (.int y :: .int x :: st) w X := by
  intro o h1 h2 p e s m args below meth c H locs ls C hl
  subst hn
  exact lv_iushr C.1 C.2.1 hd rfl (k o h1 h2 p e s m args below meth c H locs ls C hl)
theorem r_ladd (n : Nat) {x y : Int64} (hd : decode B pc = .ok (.ladd, 1)) (hn : pc + 1 = n)  (k : zR G l d own B mL rt v w' K n lv (.long (x + y) :: st) w X) : zR G l d own B mL rt v w' K pc lv (.long y :: .long x :: st) w X := by
  intro o h1 h2 p e s m args below meth c H locs ls C hl
  subst hn
  exact lv_ladd C.1 C.2.1 hd  (k o h1 h2 p e s m args below meth c H locs ls C hl)
theorem r_lmul (n : Nat) {x y : Int64} (hd : decode B pc = .ok (.lmul, 1)) (hn : pc + 1 = n)  (k : zR G l d own B mL rt v w' K n lv (.long (x * y) :: st) w X) : zR G l d own B mL rt v w' K pc lv (.long y :: .long x :: st) w X := by
  intro o h1 h2 p e s m args below meth c H locs ls C hl
  subst hn
  exact lv_lmul C.1 C.2.1 hd  (k o h1 h2 p e s m args below meth c H locs ls C hl)
theorem r_land (n : Nat) {x y : Int64} (hd : decode B pc = .ok (.land, 1)) (hn : pc + 1 = n)  (k : zR G l d own B mL rt v w' K n lv (.long (x &&& y) :: st) w X) : zR G l d own B mL rt v w' K pc lv (.long y :: .long x :: st) w X := by
  intro o h1 h2 p e s m args below meth c H locs ls C hl
  subst hn
  exact lv_land C.1 C.2.1 hd  (k o h1 h2 p e s m args below meth c H locs ls C hl)
theorem r_lor (n : Nat) {x y : Int64} (hd : decode B pc = .ok (.lor, 1)) (hn : pc + 1 = n)  (k : zR G l d own B mL rt v w' K n lv (.long (x ||| y) :: st) w X) : zR G l d own B mL rt v w' K pc lv (.long y :: .long x :: st) w X := by
  intro o h1 h2 p e s m args below meth c H locs ls C hl
  subst hn
  exact lv_lor C.1 C.2.1 hd  (k o h1 h2 p e s m args below meth c H locs ls C hl)
theorem r_lshl (n : Nat) {x : Int64} {y : Int32} (hd : decode B pc = .ok (.lshl, 1)) (hn : pc + 1 = n)  (k : zR G l d own B mL rt v w' K n lv (.long (x <<< (y.toInt64 &&& 63)) :: st) w X) : zR G l d own B mL rt v w' K pc lv (.int y :: .long x :: st) w X := by
  intro o h1 h2 p e s m args below meth c H locs ls C hl
  subst hn
  exact lv_lshl C.1 C.2.1 hd rfl (k o h1 h2 p e s m args below meth c H locs ls C hl)
theorem r_lshr (n : Nat) {x : Int64} {y : Int32} (hd : decode B pc = .ok (.lshr, 1)) (hn : pc + 1 = n)  (k : zR G l d own B mL rt v w' K n lv (.long (x >>> (y.toInt64 &&& 63)) :: st) w X) : zR G l d own B mL rt v w' K pc lv (.int y :: .long x :: st) w X := by
  intro o h1 h2 p e s m args below meth c H locs ls C hl
  subst hn
  exact lv_lshr C.1 C.2.1 hd rfl (k o h1 h2 p e s m args below meth c H locs ls C hl)
theorem r_i2l (n : Nat) {x : Int32} (hd : decode B pc = .ok (.i2l, 1)) (hn : pc + 1 = n)  (k : zR G l d own B mL rt v w' K n lv (.long x.toInt64 :: st) w X) : zR G l d own B mL rt v w' K pc lv (.int x :: st) w X := by
  intro o h1 h2 p e s m args below meth c H locs ls C hl
  subst hn
  exact lv_i2l C.1 C.2.1 hd rfl (k o h1 h2 p e s m args below meth c H locs ls C hl)
theorem r_l2i (n : Nat) {x : Int64} (hd : decode B pc = .ok (.l2i, 1)) (hn : pc + 1 = n)  (k : zR G l d own B mL rt v w' K n lv (.int x.toInt32 :: st) w X) : zR G l d own B mL rt v w' K pc lv (.long x :: st) w X := by
  intro o h1 h2 p e s m args below meth c H locs ls C hl
  subst hn
  exact lv_l2i C.1 C.2.1 hd rfl (k o h1 h2 p e s m args below meth c H locs ls C hl)
theorem r_i2b (n : Nat) {x : Int32} (hd : decode B pc = .ok (.i2b, 1)) (hn : pc + 1 = n)  (k : zR G l d own B mL rt v w' K n lv (.int x.toInt8.toInt32 :: st) w X) : zR G l d own B mL rt v w' K pc lv (.int x :: st) w X := by
  intro o h1 h2 p e s m args below meth c H locs ls C hl
  subst hn
  exact lv_i2b C.1 C.2.1 hd rfl (k o h1 h2 p e s m args below meth c H locs ls C hl)
theorem r_i2s (n : Nat) {x : Int32} (hd : decode B pc = .ok (.i2s, 1)) (hn : pc + 1 = n)  (k : zR G l d own B mL rt v w' K n lv (.int x.toInt16.toInt32 :: st) w X) : zR G l d own B mL rt v w' K pc lv (.int x :: st) w X := by
  intro o h1 h2 p e s m args below meth c H locs ls C hl
  subst hn
  exact lv_i2s C.1 C.2.1 hd rfl (k o h1 h2 p e s m args below meth c H locs ls C hl)
theorem r_idiv (n : Nat) {x y : Int32} (hd : decode B pc = .ok (.idiv, 1)) (hn : pc + 1 = n) (hy : ¬ y = 0) (k : zR G l d own B mL rt v w' K n lv (.int (x / y) :: st) w X) : zR G l d own B mL rt v w' K pc lv (.int y :: .int x :: st) w X := by
  intro o h1 h2 p e s m args below meth c H locs ls C hl
  subst hn
  exact lv_idiv C.1 C.2.1 hd hy (k o h1 h2 p e s m args below meth c H locs ls C hl)
theorem r_irem (n : Nat) {x y : Int32} (hd : decode B pc = .ok (.irem, 1)) (hn : pc + 1 = n) (hy : ¬ y = 0) (k : zR G l d own B mL rt v w' K n lv (.int (x - x / y * y) :: st) w X) : zR G l d own B mL rt v w' K pc lv (.int y :: .int x :: st) w X := by
  intro o h1 h2 p e s m args below meth c H locs ls C hl
  subst hn
  exact lv_irem C.1 C.2.1 hd hy (k o h1 h2 p e s m args below meth c H locs ls C hl)
theorem r_dup (n : Nat) {va : Value} (hd : decode B pc = .ok (.dup, 1)) (hn : pc + 1 = n) (hc : va.category = 1) (k : zR G l d own B mL rt v w' K n lv (va :: va :: st) w X) : zR G l d own B mL rt v w' K pc lv (va :: st) w X := by
  intro o h1 h2 p e s m args below meth c H locs ls C hl
  subst hn
  exact lv_dup C.1 C.2.1 hd hc (k o h1 h2 p e s m args below meth c H locs ls C hl)
theorem r_pop (n : Nat) {va : Value} (hd : decode B pc = .ok (.pop, 1)) (hn : pc + 1 = n) (hc : va.category = 1) (k : zR G l d own B mL rt v w' K n lv st w X) : zR G l d own B mL rt v w' K pc lv (va :: st) w X := by
  intro o h1 h2 p e s m args below meth c H locs ls C hl
  subst hn
  exact lv_pop C.1 C.2.1 hd hc (k o h1 h2 p e s m args below meth c H locs ls C hl)
theorem r_dup_x1 (n : Nat) {va vb : Value} (hd : decode B pc = .ok (.dup_x1, 1)) (hn : pc + 1 = n) (hc : va.category = 1) (hc2 : vb.category = 1) (k : zR G l d own B mL rt v w' K n lv (va :: vb :: va :: st) w X) : zR G l d own B mL rt v w' K pc lv (va :: vb :: st) w X := by
  intro o h1 h2 p e s m args below meth c H locs ls C hl
  subst hn
  exact lv_dup_x1 C.1 C.2.1 hd hc hc2 (k o h1 h2 p e s m args below meth c H locs ls C hl)
theorem r_dup2 (n : Nat) {va vb : Value} (hd : decode B pc = .ok (.dup2, 1)) (hn : pc + 1 = n) (hc : va.category = 1) (hc2 : vb.category = 1) (k : zR G l d own B mL rt v w' K n lv (va :: vb :: va :: vb :: st) w X) : zR G l d own B mL rt v w' K pc lv (va :: vb :: st) w X := by
  intro o h1 h2 p e s m args below meth c H locs ls C hl
  subst hn
  exact lv_dup2_11 C.1 C.2.1 hd hc hc2 (k o h1 h2 p e s m args below meth c H locs ls C hl)
theorem r_lcmp (n : Nat) {x y : Int64} (hd : decode B pc = .ok (.lcmp, 1)) (hn : pc + 1 = n)  (k : zR G l d own B mL rt v w' K n lv (.int (lg_cmp x y) :: st) w X) : zR G l d own B mL rt v w' K pc lv (.long y :: .long x :: st) w X := by
  intro o h1 h2 p e s m args below meth c H locs ls C hl
  subst hn
  exact W.lcmp C.1 C.2.1 hd  (k o h1 h2 p e s m args below meth c H locs ls C hl)
theorem r_ldc (n : Nat) {ix : Nat} {x : Int32} (hd : decode B pc = .ok (.ldc ix, 2)) (hn : pc + 2 = n) (hw : Cond.constant own ix x ∈ zw_tbl) (k : zR G l d own B mL rt v w' K n lv (.int x :: st) w X) : zR G l d own B mL rt v w' K pc lv st w X := by
  intro o h1 h2 p e s m args below meth c H locs ls C hl
  subst hn
  exact lv_ldc C.1 C.2.1 C.2.2.2.2.2.1 (C.2.2.2.2.2.2.1 _ hw) hd (k o h1 h2 p e s m args below meth c H locs ls C hl)
theorem r_ldcw (n : Nat) {ix : Nat} {x : Int32} (hd : decode B pc = .ok (.ldc_w ix, 3)) (hn : pc + 3 = n) (hw : Cond.constant own ix x ∈ zw_tbl) (k : zR G l d own B mL rt v w' K n lv (.int x :: st) w X) : zR G l d own B mL rt v w' K pc lv st w X := by
  intro o h1 h2 p e s m args below meth c H locs ls C hl
  subst hn
  exact lv_ldcw C.1 C.2.1 C.2.2.2.2.2.1 (C.2.2.2.2.2.2.1 _ hw) hd (k o h1 h2 p e s m args below meth c H locs ls C hl)
theorem r_ldc2 (n : Nat) {ix : Nat} {x : Int64} (hd : decode B pc = .ok (.ldc2_w ix, 3)) (hn : pc + 3 = n) (hw : Cond.constantLong own ix x ∈ zw_tbl) (k : zR G l d own B mL rt v w' K n lv (.long x :: st) w X) : zR G l d own B mL rt v w' K pc lv st w X := by
  intro o h1 h2 p e s m args below meth c H locs ls C hl
  subst hn
  exact lv_ldc2 C.1 C.2.1 C.2.2.2.2.2.1 (C.2.2.2.2.2.2.1 _ hw) hd (k o h1 h2 p e s m args below meth c H locs ls C hl)
theorem r_istore_n (n : Nat) (lv' : List (Nat × Value)) {q : Fin 4} {i : Nat} {x : Int32} (hd : decode B pc = .ok (.istore_n q, 1)) (hn : pc + 1 = n) (hi : (q : Nat) = i) (hlt : i < mL) (hf : (i, Value.int x) :: lv.filter (fun q => !(q.1 == i) && !(q.1 + 1 == i && q.2.category == 2)) = lv') (k : zR G l d own B mL rt v w' K n lv' st w X) : zR G l d own B mL rt v w' K pc lv (.int x :: st) w X := by
  intro o h1 h2 p e s m args below meth c H locs ls C hl
  subst hn
  exact lv_istore_n C.1 C.2.1 hd hi hl hlt hf (fun ls' hl' => k o h1 h2 p e s m args below meth c H locs ls' C hl')
theorem r_istore (n : Nat) (lv' : List (Nat × Value)) {i : Nat} {x : Int32} (hd : decode B pc = .ok (.istore i, 2)) (hn : pc + 2 = n)  (hlt : i < mL) (hf : (i, Value.int x) :: lv.filter (fun q => !(q.1 == i) && !(q.1 + 1 == i && q.2.category == 2)) = lv') (k : zR G l d own B mL rt v w' K n lv' st w X) : zR G l d own B mL rt v w' K pc lv (.int x :: st) w X := by
  intro o h1 h2 p e s m args below meth c H locs ls C hl
  subst hn
  exact lv_istore C.1 C.2.1 hd  hl hlt hf (fun ls' hl' => k o h1 h2 p e s m args below meth c H locs ls' C hl')
theorem r_lstore_n (n : Nat) (lv' : List (Nat × Value)) {q : Fin 4} {i : Nat} {x : Int64} (hd : decode B pc = .ok (.lstore_n q, 1)) (hn : pc + 1 = n) (hi : (q : Nat) = i) (hlt : i + 1 < mL) (hf : (i, Value.long x) :: lv.filter (fun q => !(q.1 == i) && (!(q.1 == i + 1) && !(q.1 + 1 == i && q.2.category == 2))) = lv') (k : zR G l d own B mL rt v w' K n lv' st w X) : zR G l d own B mL rt v w' K pc lv (.long x :: st) w X := by
  intro o h1 h2 p e s m args below meth c H locs ls C hl
  subst hn
  exact lv_lstore_n C.1 C.2.1 hd hi hl hlt hf (fun ls' hl' => k o h1 h2 p e s m args below meth c H locs ls' C hl')
theorem r_lstore (n : Nat) (lv' : List (Nat × Value)) {i : Nat} {x : Int64} (hd : decode B pc = .ok (.lstore i, 2)) (hn : pc + 2 = n)  (hlt : i + 1 < mL) (hf : (i, Value.long x) :: lv.filter (fun q => !(q.1 == i) && (!(q.1 == i + 1) && !(q.1 + 1 == i && q.2.category == 2))) = lv') (k : zR G l d own B mL rt v w' K n lv' st w X) : zR G l d own B mL rt v w' K pc lv (.long x :: st) w X := by
  intro o h1 h2 p e s m args below meth c H locs ls C hl
  subst hn
  exact lv_lstore C.1 C.2.1 hd  hl hlt hf (fun ls' hl' => k o h1 h2 p e s m args below meth c H locs ls' C hl')
theorem r_astore_n (n : Nat) (lv' : List (Nat × Value)) {q : Fin 4} {i : Nat} {x : Nat} (hd : decode B pc = .ok (.astore_n q, 1)) (hn : pc + 1 = n) (hi : (q : Nat) = i) (hlt : i < mL) (hf : (i, Value.ref x) :: lv.filter (fun q => !(q.1 == i) && !(q.1 + 1 == i && q.2.category == 2)) = lv') (k : zR G l d own B mL rt v w' K n lv' st w X) : zR G l d own B mL rt v w' K pc lv (.ref x :: st) w X := by
  intro o h1 h2 p e s m args below meth c H locs ls C hl
  subst hn
  exact lv_astore_n C.1 C.2.1 hd hi hl hlt hf (fun ls' hl' => k o h1 h2 p e s m args below meth c H locs ls' C hl')
theorem r_astore (n : Nat) (lv' : List (Nat × Value)) {i : Nat} {x : Nat} (hd : decode B pc = .ok (.astore i, 2)) (hn : pc + 2 = n)  (hlt : i < mL) (hf : (i, Value.ref x) :: lv.filter (fun q => !(q.1 == i) && !(q.1 + 1 == i && q.2.category == 2)) = lv') (k : zR G l d own B mL rt v w' K n lv' st w X) : zR G l d own B mL rt v w' K pc lv (.ref x :: st) w X := by
  intro o h1 h2 p e s m args below meth c H locs ls C hl
  subst hn
  exact lv_astore C.1 C.2.1 hd  hl hlt hf (fun ls' hl' => k o h1 h2 p e s m args below meth c H locs ls' C hl')
theorem r_iinc (n j : Nat) (lv' : List (Nat × Value)) {i : Nat} {z : Int} {x y : Int32} (hd : decode B pc = .ok (.iinc i z, 3)) (hn : pc + 3 = n) (hj : lv[j]? = some (i, .int x)) (hz : Int32.ofInt z = y) (hlt : i < mL) (hf : (i, Value.int (x + y)) :: lv.filter (fun q => !(q.1 == i) && !(q.1 + 1 == i && q.2.category == 2)) = lv') (k : zR G l d own B mL rt v w' K n lv' st w X) : zR G l d own B mL rt v w' K pc lv st w X := by
  intro o h1 h2 p e s m args below meth c H locs ls C hl
  subst hn
  subst hz
  exact lv_iinc C.1 C.2.1 hd hl hj rfl hlt hf (fun ls' hl' => k o h1 h2 p e s m args below meth c H locs ls' C hl')
theorem r_if_eq (t n : Nat) {x : Int32} {off : Int} {X1 X2 : Option α} (hd : decode B pc = .ok (.ifCond .eq off, 3)) (ht : (pc : Int) + off = (t : Int)) (hn : pc + 3 = n) (kt : zR G l d own B mL rt v w' K t lv st w X1) (kf : zR G l d own B mL rt v w' K n lv st w X2) : zR G l d own B mL rt v w' K pc lv (.int x :: st) w (if x = 0 then X1 else X2) := by
  intro o h1 h2 p e s m args below meth c H locs ls C hl
  subst hn
  exact lv_if_eq C.1 C.2.1 hd ht (fun c => kt o (by rw [if_pos c] at h1; exact h1) h2 p e s m args below meth _ H locs ls C hl) (fun c => kf o (by rw [if_neg c] at h1; exact h1) h2 p e s m args below meth _ H locs ls C hl)
theorem r_if_ne (t n : Nat) {x : Int32} {off : Int} {X1 X2 : Option α} (hd : decode B pc = .ok (.ifCond .ne off, 3)) (ht : (pc : Int) + off = (t : Int)) (hn : pc + 3 = n) (kt : zR G l d own B mL rt v w' K t lv st w X2) (kf : zR G l d own B mL rt v w' K n lv st w X1) : zR G l d own B mL rt v w' K pc lv (.int x :: st) w (if x = 0 then X1 else X2) := by
  intro o h1 h2 p e s m args below meth c H locs ls C hl
  subst hn
  exact lv_if_ne C.1 C.2.1 hd ht (fun c => kt o (by rw [if_neg c] at h1; exact h1) h2 p e s m args below meth _ H locs ls C hl) (fun c => kf o (by rw [if_pos c] at h1; exact h1) h2 p e s m args below meth _ H locs ls C hl)
theorem r_if_lt (t n : Nat) {x : Int32} {off : Int} {X1 X2 : Option α} (hd : decode B pc = .ok (.ifCond .lt off, 3)) (ht : (pc : Int) + off = (t : Int)) (hn : pc + 3 = n) (kt : zR G l d own B mL rt v w' K t lv st w X1) (kf : zR G l d own B mL rt v w' K n lv st w X2) : zR G l d own B mL rt v w' K pc lv (.int x :: st) w (if x < 0 then X1 else X2) := by
  intro o h1 h2 p e s m args below meth c H locs ls C hl
  subst hn
  exact lv_if_lt C.1 C.2.1 hd ht (fun c => kt o (by rw [if_pos c] at h1; exact h1) h2 p e s m args below meth _ H locs ls C hl) (fun c => kf o (by rw [if_neg c] at h1; exact h1) h2 p e s m args below meth _ H locs ls C hl)
theorem r_if_ge (t n : Nat) {x : Int32} {off : Int} {X1 X2 : Option α} (hd : decode B pc = .ok (.ifCond .ge off, 3)) (ht : (pc : Int) + off = (t : Int)) (hn : pc + 3 = n) (kt : zR G l d own B mL rt v w' K t lv st w X1) (kf : zR G l d own B mL rt v w' K n lv st w X2) : zR G l d own B mL rt v w' K pc lv (.int x :: st) w (if 0 ≤ x then X1 else X2) := by
  intro o h1 h2 p e s m args below meth c H locs ls C hl
  subst hn
  exact lv_if_ge C.1 C.2.1 hd ht (fun c => kt o (by rw [if_pos c] at h1; exact h1) h2 p e s m args below meth _ H locs ls C hl) (fun c => kf o (by rw [if_neg c] at h1; exact h1) h2 p e s m args below meth _ H locs ls C hl)
theorem r_if_gt (t n : Nat) {x : Int32} {off : Int} {X1 X2 : Option α} (hd : decode B pc = .ok (.ifCond .gt off, 3)) (ht : (pc : Int) + off = (t : Int)) (hn : pc + 3 = n) (kt : zR G l d own B mL rt v w' K t lv st w X1) (kf : zR G l d own B mL rt v w' K n lv st w X2) : zR G l d own B mL rt v w' K pc lv (.int x :: st) w (if 0 < x then X1 else X2) := by
  intro o h1 h2 p e s m args below meth c H locs ls C hl
  subst hn
  exact lv_if_gt C.1 C.2.1 hd ht (fun c => kt o (by rw [if_pos c] at h1; exact h1) h2 p e s m args below meth _ H locs ls C hl) (fun c => kf o (by rw [if_neg c] at h1; exact h1) h2 p e s m args below meth _ H locs ls C hl)
theorem r_if_le (t n : Nat) {x : Int32} {off : Int} {X1 X2 : Option α} (hd : decode B pc = .ok (.ifCond .le off, 3)) (ht : (pc : Int) + off = (t : Int)) (hn : pc + 3 = n) (kt : zR G l d own B mL rt v w' K t lv st w X1) (kf : zR G l d own B mL rt v w' K n lv st w X2) : zR G l d own B mL rt v w' K pc lv (.int x :: st) w (if x ≤ 0 then X1 else X2) := by
  intro o h1 h2 p e s m args below meth c H locs ls C hl
  subst hn
  exact lv_if_le C.1 C.2.1 hd ht (fun c => kt o (by rw [if_pos c] at h1; exact h1) h2 p e s m args below meth _ H locs ls C hl) (fun c => kf o (by rw [if_neg c] at h1; exact h1) h2 p e s m args below meth _ H locs ls C hl)
theorem r_icmp_eq (t n : Nat) {x y : Int32} {off : Int} {X1 X2 : Option α} (hd : decode B pc = .ok (.if_icmp .eq off, 3)) (ht : (pc : Int) + off = (t : Int)) (hn : pc + 3 = n) (kt : zR G l d own B mL rt v w' K t lv st w X1) (kf : zR G l d own B mL rt v w' K n lv st w X2) : zR G l d own B mL rt v w' K pc lv (.int y :: .int x :: st) w (if x = y then X1 else X2) := by
  intro o h1 h2 p e s m args below meth c H locs ls C hl
  subst hn
  exact lv_icmp_eq C.1 C.2.1 hd ht (fun c => kt o (by rw [if_pos c] at h1; exact h1) h2 p e s m args below meth _ H locs ls C hl) (fun c => kf o (by rw [if_neg c] at h1; exact h1) h2 p e s m args below meth _ H locs ls C hl)
theorem r_icmp_ne (t n : Nat) {x y : Int32} {off : Int} {X1 X2 : Option α} (hd : decode B pc = .ok (.if_icmp .ne off, 3)) (ht : (pc : Int) + off = (t : Int)) (hn : pc + 3 = n) (kt : zR G l d own B mL rt v w' K t lv st w X2) (kf : zR G l d own B mL rt v w' K n lv st w X1) : zR G l d own B mL rt v w' K pc lv (.int y :: .int x :: st) w (if x = y then X1 else X2) := by
  intro o h1 h2 p e s m args below meth c H locs ls C hl
  subst hn
  exact lv_icmp_ne C.1 C.2.1 hd ht (fun c => kt o (by rw [if_neg c] at h1; exact h1) h2 p e s m args below meth _ H locs ls C hl) (fun c => kf o (by rw [if_pos c] at h1; exact h1) h2 p e s m args below meth _ H locs ls C hl)
theorem r_icmp_lt (t n : Nat) {x y : Int32} {off : Int} {X1 X2 : Option α} (hd : decode B pc = .ok (.if_icmp .lt off, 3)) (ht : (pc : Int) + off = (t : Int)) (hn : pc + 3 = n) (kt : zR G l d own B mL rt v w' K t lv st w X1) (kf : zR G l d own B mL rt v w' K n lv st w X2) : zR G l d own B mL rt v w' K pc lv (.int y :: .int x :: st) w (if x < y then X1 else X2) := by
  intro o h1 h2 p e s m args below meth c H locs ls C hl
  subst hn
  exact lv_icmp_lt C.1 C.2.1 hd ht (fun c => kt o (by rw [if_pos c] at h1; exact h1) h2 p e s m args below meth _ H locs ls C hl) (fun c => kf o (by rw [if_neg c] at h1; exact h1) h2 p e s m args below meth _ H locs ls C hl)
theorem r_icmp_ge (t n : Nat) {x y : Int32} {off : Int} {X1 X2 : Option α} (hd : decode B pc = .ok (.if_icmp .ge off, 3)) (ht : (pc : Int) + off = (t : Int)) (hn : pc + 3 = n) (kt : zR G l d own B mL rt v w' K t lv st w X1) (kf : zR G l d own B mL rt v w' K n lv st w X2) : zR G l d own B mL rt v w' K pc lv (.int y :: .int x :: st) w (if y ≤ x then X1 else X2) := by
  intro o h1 h2 p e s m args below meth c H locs ls C hl
  subst hn
  exact lv_icmp_ge C.1 C.2.1 hd ht (fun c => kt o (by rw [if_pos c] at h1; exact h1) h2 p e s m args below meth _ H locs ls C hl) (fun c => kf o (by rw [if_neg c] at h1; exact h1) h2 p e s m args below meth _ H locs ls C hl)
theorem r_icmp_gt (t n : Nat) {x y : Int32} {off : Int} {X1 X2 : Option α} (hd : decode B pc = .ok (.if_icmp .gt off, 3)) (ht : (pc : Int) + off = (t : Int)) (hn : pc + 3 = n) (kt : zR G l d own B mL rt v w' K t lv st w X1) (kf : zR G l d own B mL rt v w' K n lv st w X2) : zR G l d own B mL rt v w' K pc lv (.int y :: .int x :: st) w (if y < x then X1 else X2) := by
  intro o h1 h2 p e s m args below meth c H locs ls C hl
  subst hn
  exact lv_icmp_gt C.1 C.2.1 hd ht (fun c => kt o (by rw [if_pos c] at h1; exact h1) h2 p e s m args below meth _ H locs ls C hl) (fun c => kf o (by rw [if_neg c] at h1; exact h1) h2 p e s m args below meth _ H locs ls C hl)
theorem r_icmp_le (t n : Nat) {x y : Int32} {off : Int} {X1 X2 : Option α} (hd : decode B pc = .ok (.if_icmp .le off, 3)) (ht : (pc : Int) + off = (t : Int)) (hn : pc + 3 = n) (kt : zR G l d own B mL rt v w' K t lv st w X1) (kf : zR G l d own B mL rt v w' K n lv st w X2) : zR G l d own B mL rt v w' K pc lv (.int y :: .int x :: st) w (if x ≤ y then X1 else X2) := by
  intro o h1 h2 p e s m args below meth c H locs ls C hl
  subst hn
  exact lv_icmp_le C.1 C.2.1 hd ht (fun c => kt o (by rw [if_pos c] at h1; exact h1) h2 p e s m args below meth _ H locs ls C hl) (fun c => kf o (by rw [if_neg c] at h1; exact h1) h2 p e s m args below meth _ H locs ls C hl)
theorem r_goto (t : Nat) {off : Int} (hd : decode B pc = .ok (.goto off, 3)) (ht : (pc : Int) + off = (t : Int)) (k : zR G l d own B mL rt v w' K t lv st w X) : zR G l d own B mL rt v w' K pc lv st w X := by
  intro o h1 h2 p e s m args below meth c H locs ls C hl
  exact lv_goto C.1 C.2.1 hd ht (k o h1 h2 p e s m args below meth c H locs ls C hl)
theorem r_sub (js : List Nat) {lv2 : List (Nat × Value)} (hp : lv_pick lv js = lv2) (k : zR G l d own B mL rt v w' K pc lv2 st w X) : zR G l d own B mL rt v w' K pc lv st w X := by
  intro o h1 h2 p e s m args below meth c H locs ls C hl
  exact k o h1 h2 p e s m args below meth c H locs ls C (lv_sub hl js hp)
theorem r_leaf (js : List Nat) {lv2 : List (Nat × Value)} (hp : lv_pick lv js = lv2) (hK : K o → zA G l d own B mL rt v w' pc lv2 st w) : zR G l d own B mL rt v w' K pc lv st w (some o) := by
  intro o2 h1 h2 p e s m args below meth c H locs ls C hl
  cases h1
  exact hK h2 p e s m args below meth c H locs ls C (lv_sub hl js hp)
theorem r_none : zR G l d own B mL rt v w' K pc lv st w none := by
  intro o h1
  cases h1
def z_let {β γ : Type} (x : β) (f : β → γ) : γ := f x
theorem r_topi {x : Int32} {f : Int32 → Option α} (k : ∀ y, zR G l d own B mL rt v w' K pc lv (.int y :: st) w (f y)) : zR G l d own B mL rt v w' K pc lv (.int x :: st) w (z_let x f) := k x
theorem r_topl {x : Int64} {f : Int64 → Option α} (k : ∀ y, zR G l d own B mL rt v w' K pc lv (.long y :: st) w (f y)) : zR G l d own B mL rt v w' K pc lv (.long x :: st) w (z_let x f) := k x
theorem r_topw {f : ZW → Option α} (k : ∀ u, zR G l d own B mL rt v w' K pc lv st u (f u)) : zR G l d own B mL rt v w' K pc lv st w (z_let w f) := k w
theorem r_gd {g : Bool} (k : g = true → zR G l d own B mL rt v w' K pc lv st w X) : zR G l d own B mL rt v w' K pc lv st w (if g = true then X else none) := by
  by_cases hg : g = true
  · rw [if_pos hg]; exact k hg
  · rw [if_neg hg]; exact r_none
theorem r_ne {x y : Int32} (k : ¬ x = y → zR G l d own B mL rt v w' K pc lv st w X) : zR G l d own B mL rt v w' K pc lv st w (if x = y then none else X) := by
  by_cases hg : x = y
  · rw [if_pos hg]; exact r_none
  · rw [if_neg hg]; exact k hg
theorem r_iret {x : Int32} (hd : decode B pc = .ok (.ireturn, 1)) (hrt : rt = some .int)  (hK : K o → v = some (.int x) ∧ w' = w) : zR G l d own B mL rt v w' K pc lv [.int x] w (some o) := by
  intro o2 h1 h2 p e s m args below meth c H locs ls C hl
  cases h1
  obtain ⟨e1, e2⟩ := hK h2
  subst e1
  subst e2
  have C2 := C
  obtain ⟨hx, hb, hml, hr, hlk, hown, hts, hK2, hP, hI, hS, hZ⟩ := C2
  exact W.iret hx hb (hr.trans hrt)  (fun t ht _ => ⟨rfl, by rw [ht]; exact hP, hS.F ht⟩) hS.2.2 hd hlk
theorem r_zret {x : Int32} (hd : decode B pc = .ok (.ireturn, 1)) (hrt : rt = some .boolean) (hz : narrow .boolean (.int x) = .int x) (hK : K o → v = some (.int x) ∧ w' = w) : zR G l d own B mL rt v w' K pc lv [.int x] w (some o) := by
  intro o2 h1 h2 p e s m args below meth c H locs ls C hl
  cases h1
  obtain ⟨e1, e2⟩ := hK h2
  subst e1
  subst e2
  have C2 := C
  obtain ⟨hx, hb, hml, hr, hlk, hown, hts, hK2, hP, hI, hS, hZ⟩ := C2
  exact W.zret hx hb (hr.trans hrt) hz (fun t ht _ => ⟨rfl, by rw [ht]; exact hP, hS.F ht⟩) hS.2.2 hd hlk
theorem r_lret {x : Int64} (hd : decode B pc = .ok (.lreturn, 1)) (hrt : rt = some .long)  (hK : K o → v = some (.long x) ∧ w' = w) : zR G l d own B mL rt v w' K pc lv [.long x] w (some o) := by
  intro o2 h1 h2 p e s m args below meth c H locs ls C hl
  cases h1
  obtain ⟨e1, e2⟩ := hK h2
  subst e1
  subst e2
  have C2 := C
  obtain ⟨hx, hb, hml, hr, hlk, hown, hts, hK2, hP, hI, hS, hZ⟩ := C2
  exact W.lret hx hb (hr.trans hrt)  (fun t ht _ => ⟨rfl, by rw [ht]; exact hP, hS.F ht⟩) hS.2.2 hd hlk
theorem r_vret  (hd : decode B pc = .ok (.return_, 1)) (hrt : rt = none)  (hK : K o → v = none ∧ w' = w) : zR G l d own B mL rt v w' K pc lv [] w (some o) := by
  intro o2 h1 h2 p e s m args below meth c H locs ls C hl
  cases h1
  obtain ⟨e1, e2⟩ := hK h2
  subst e1
  subst e2
  have C2 := C
  obtain ⟨hx, hb, hml, hr, hlk, hown, hts, hK2, hP, hI, hS, hZ⟩ := C2
  exact W.vret hx hb (hr.trans hrt)  (fun t ht _ => ⟨rfl, by rw [ht]; exact hP, hS.F ht⟩) hS.2.2 hd hlk
theorem z_bo_n {x : Int32} (h : z_bo x = true) : narrow .boolean (.int x) = .int x := by
  unfold z_bo at h
  simp only [Bool.or_eq_true, decide_eq_true_eq] at h
  rcases h with rfl | rfl <;> rfl
theorem z_bo_f {x : Int32} (h : z_bo x = true) : fits .boolean (.int x) = true := by
  unfold z_bo at h
  simp only [Bool.or_eq_true, decide_eq_true_eq] at h
  rcases h with rfl | rfl <;> rfl
theorem z_ki {x o : Int32} {w : ZW} (h : x = o) : some (Value.int o) = some (Value.int x) ∧ w = w := ⟨by rw [h], rfl⟩
theorem z_kj {x o : Int64} {w : ZW} (h : x = o) : some (Value.long o) = some (Value.long x) ∧ w = w := ⟨by rw [h], rfl⟩
theorem z_kiw {x : Int32} {w : ZW} {o : Int32 × ZW} (h : (x, w) = o) : some (Value.int o.1) = some (Value.int x) ∧ o.2 = w := by cases h; exact ⟨rfl, rfl⟩
theorem z_kjw {x : Int64} {w : ZW} {o : Int64 × ZW} (h : (x, w) = o) : some (Value.long o.1) = some (Value.long x) ∧ o.2 = w := by cases h; exact ⟨rfl, rfl⟩
theorem z_kvw {w u : ZW} (h : w = u) : (none : Option Value) = none ∧ u = w := ⟨rfl, h.symm⟩
def z_iter {σ ρ : Type} (Bd : σ → Option (σ ⊕ ρ)) : Nat → σ → Option ρ
  | 0, _ => none
  | n + 1, s => (Bd s).bind (Sum.elim (z_iter Bd n) some)
def z_fuel : Nat := 100000
theorem r_loop {σ ρ : Type} {Bd : σ → Option (σ ⊕ ρ)} {Xk : ρ → Option α} {N : Nat} {s0 : σ} (js : List Nat) (F : σ → List (Nat × Value)) (Wf : σ → ZW) (Ex : ρ → Prop) (hp : lv_pick lv js = F s0) (hw : Wf s0 = w)
    (hB : ∀ s, zR G l d own B mL rt v w' (Sum.elim (fun s' => zA G l d own B mL rt v w' pc (F s') [] (Wf s')) Ex) pc (F s) [] (Wf s) (Bd s)) (hE : ∀ x o, Xk x = some o → K o → Ex x) :
    zR G l d own B mL rt v w' K pc lv [] w ((z_iter Bd N s0).bind Xk) := by
  have main : ∀ (N : Nat) (s : σ) (x : ρ), z_iter Bd N s = some x → Ex x → zA G l d own B mL rt v w' pc (F s) [] (Wf s) := by
    intro N
    induction N with
    | zero => intro s x h; cases h
    | succ N ih =>
      intro s x h hx
      unfold z_iter at h
      cases hb : Bd s with
      | none => rw [hb] at h; cases h
      | some r =>
        rw [hb] at h
        cases r with
        | inl s' => exact hB s _ hb (ih s' x h hx)
        | inr y => exact hB s _ hb (by have : y = x := Option.some.inj h; subst this; exact hx)
  intro o h1 h2 p e s m args below meth c H locs ls C hl
  subst hw
  cases hz : z_iter Bd N s0 with
  | none => rw [hz] at h1; cases h1
  | some x =>
    rw [hz] at h1
    exact main N s0 x hz (hE x o h1 h2) p e s m args below meth c H locs ls C (lv_sub hl js hp)
theorem r_loopE {σ ρ : Type} {Bd : σ → Option (σ ⊕ ρ)} {Xk : ρ → Option α} {N : Nat} {s0 : σ} (js : List Nat) (F : σ → List (Nat × Value)) (Wf : σ → ZW) (t : Nat) (Fx : ρ → List (Nat × Value)) (Wx : ρ → ZW) (hp : lv_pick lv js = F s0) (hw : Wf s0 = w)
    (hB : ∀ s, zR G l d own B mL rt v w' (Sum.elim (fun s' => zA G l d own B mL rt v w' pc (F s') [] (Wf s')) (fun x => zA G l d own B mL rt v w' t (Fx x) [] (Wx x))) pc (F s) [] (Wf s) (Bd s)) (hE : ∀ x, zR G l d own B mL rt v w' K t (Fx x) [] (Wx x) (Xk x)) :
    zR G l d own B mL rt v w' K pc lv [] w ((z_iter Bd N s0).bind Xk) := r_loop js F Wf _ hp hw hB (fun x o h1 h2 => hE x o h1 h2)
theorem r_loopR {σ ρr ρ : Type} {Bd : σ → Option (σ ⊕ (ρr ⊕ ρ))} {Xr : ρr → Option α} {Xe : ρ → Option α} {N : Nat} {s0 : σ} (js : List Nat) (F : σ → List (Nat × Value)) (Wf : σ → ZW) (Kr : ρr → Prop) (t : Nat) (Fx : ρ → List (Nat × Value)) (Wx : ρ → ZW) (hp : lv_pick lv js = F s0) (hw : Wf s0 = w)
    (hB : ∀ s, zR G l d own B mL rt v w' (Sum.elim (fun s' => zA G l d own B mL rt v w' pc (F s') [] (Wf s')) (Sum.elim Kr (fun x => zA G l d own B mL rt v w' t (Fx x) [] (Wx x)))) pc (F s) [] (Wf s) (Bd s)) (hR : ∀ r o, Xr r = some o → K o → Kr r) (hE : ∀ x, zR G l d own B mL rt v w' K t (Fx x) [] (Wx x) (Xe x)) :
    zR G l d own B mL rt v w' K pc lv [] w ((z_iter Bd N s0).bind (Sum.elim Xr Xe)) := by
  refine r_loop js F Wf _ hp hw hB (fun x o h1 h2 => ?_)
  cases x with
  | inl r => exact hR r o h1 h2
  | inr x => exact hE x o h1 h2
theorem r_case (z : Int32) {x : Int32} {X1 X2 : Option α} (k1 : x = z → zR G l d own B mL rt v w' K pc lv (.int x :: st) w X1) (k2 : ¬ x = z → zR G l d own B mL rt v w' K pc lv (.int x :: st) w X2) : zR G l d own B mL rt v w' K pc lv (.int x :: st) w (if x = z then X1 else X2) := by
  by_cases h : x = z
  · rw [if_pos h]; exact k1 h
  · rw [if_neg h]; exact k2 h
theorem r_tin (t : Nat) (z : Int32) {x : Int32} {dflt lo hi : Int} {offs : Array Int} {len : Nat} {off : Int} (hx : x = z) (hd : decode B pc = .ok (.tableswitch dflt lo hi offs, len)) (h1 : ¬ z.toInt < lo) (h2 : ¬ hi < z.toInt) (ho : offs[(z.toInt - lo).toNat]? = some off) (ht : (pc : Int) + off = (t : Int)) (k : zR G l d own B mL rt v w' K t lv st w X) : zR G l d own B mL rt v w' K pc lv (.int x :: st) w X := by
  intro o g1 g2 p e s m args below meth c H locs ls C hl
  subst hx
  exact lv_tableIn C.1 C.2.1 hd h1 h2 ho ht (k o g1 g2 p e s m args below meth c H locs ls C hl)
theorem r_tout (t : Nat) {x : Int32} {dflt lo hi : Int} {offs : Array Int} {len : Nat} (hd : decode B pc = .ok (.tableswitch dflt lo hi offs, len)) (h1 : x.toInt < lo ∨ hi < x.toInt) (ht : (pc : Int) + dflt = (t : Int)) (k : zR G l d own B mL rt v w' K t lv st w X) : zR G l d own B mL rt v w' K pc lv (.int x :: st) w X := by
  intro o g1 g2 p e s m args below meth c H locs ls C hl
  exact lv_tableOut C.1 C.2.1 hd h1 ht (k o g1 g2 p e s m args below meth c H locs ls C hl)
theorem r_get (n ko j : Nat) {ci N ix : Nat} {Cn : String} {T : u_T} {fs : List Value} {va : Value} (hd : decode B pc = .ok (.getfield ix, 3)) (hn : pc + 3 = n) (hko : ko < z_N G) (hcell : z_cell G w ko = .inr (ci, fs)) (hc : vwCl[ci]? = some (Cn, T, N)) (hin : ∀ x ∈ u_ws Cn T N, x ∈ zw_tbl) (hj : j < N) (hw : Cond.fieldLink own ix (T j).1 (T j).2.1 (T j).2.2.1 ∈ zw_tbl) (hv : fs[j]? = some va)
    (k : zR G l d own B mL rt v w' K n lv (va :: st) w X) : zR G l d own B mL rt v w' K pc lv (.ref (G.1 ko) :: st) w X := by
  intro o h1 h2 p e s m args below meth c H locs ls C hl
  subst hn
  have C2 := C
  obtain ⟨hx, hb, hml, hr, hlk, hown, hts, hK2, hP, hI, hS, hZ⟩ := C2
  exact va_get hx hb hts hin hown hK2 hP ko (by rw [z_ws_get hko, hcell]) hc j hj (hts _ hw) (fun _ h => h) hv hd (k o h1 h2 p e s m args below meth c H locs ls C hl)
theorem r_puti (n ko j : Nat) {ci N ix : Nat} {Cn : String} {T : u_T} {fs : List Value} {x : Int32} (hd : decode B pc = .ok (.putfield ix, 3)) (hn : pc + 3 = n) (hko : ko < z_N G) (hcell : z_cell G w ko = .inr (ci, fs)) (hc : vwCl[ci]? = some (Cn, T, N)) (hin : ∀ x ∈ u_ws Cn T N, x ∈ zw_tbl) {ty0 : Nat → FieldType} (hty : ∀ k, k < N → parseFieldDescriptor (T k).2.2.1 = some (ty0 k)) (hnm : ∀ a, a < N → ∀ b, b < N → a ≠ b → (T a).2.1 ≠ (T b).2.1) (hj : j < N) (hw : Cond.fieldLink own ix (T j).1 (T j).2.1 (T j).2.2.1 ∈ zw_tbl) (hfin : (T j).2.2.2 = false) (hd2 : ty0 j = .int)  (hl2 : j < fs.length) (hset : z_cell G (z_upI w ko j x) ko = .inr (ci, fs.set j (.int x)))
    (k : zR G l d own B mL rt v w' K n lv st (z_upI w ko j x) X) : zR G l d own B mL rt v w' K pc lv (.int x :: .ref (G.1 ko) :: st) w X := by
  intro o h1 h2 p e s m args below meth c H locs ls C hl
  subst hn
  have C2 := C
  obtain ⟨hx, hb, hml, hr, hlk, hown, hts, hK2, hP, hI, hS, hZ⟩ := C2
  refine va_put hx hb hts hin ty0 hty hnm hown hK2 hP (z_Dd hI) hS ko (by rw [z_ws_get hko, hcell]) hc j hj (hts _ hw) (fun _ h => h) hfin (ty := .int) (by rw [hty j hj, hd2]) rfl rfl hl2 hd (fun H1 locs1 hP1 hD1 hS1 => ?_)
  rw [z_ws_set (w' := z_upI w ko j x) hset (fun i hi => z_cell_eq (by funext q; simp [z_upI, hi]) (by rfl))] at hP1
  exact k o h1 h2 p e s m args below meth c H1 locs1 ls ⟨hx, hb, hml, hr, hlk, hown, hts, hK2, hP1, hI, hS1, hZ⟩ hl
theorem r_putz (n ko j : Nat) {ci N ix : Nat} {Cn : String} {T : u_T} {fs : List Value} {x : Int32} (hd : decode B pc = .ok (.putfield ix, 3)) (hn : pc + 3 = n) (hko : ko < z_N G) (hcell : z_cell G w ko = .inr (ci, fs)) (hc : vwCl[ci]? = some (Cn, T, N)) (hin : ∀ x ∈ u_ws Cn T N, x ∈ zw_tbl) {ty0 : Nat → FieldType} (hty : ∀ k, k < N → parseFieldDescriptor (T k).2.2.1 = some (ty0 k)) (hnm : ∀ a, a < N → ∀ b, b < N → a ≠ b → (T a).2.1 ≠ (T b).2.1) (hj : j < N) (hw : Cond.fieldLink own ix (T j).1 (T j).2.1 (T j).2.2.1 ∈ zw_tbl) (hfin : (T j).2.2.2 = false) (hd2 : ty0 j = .boolean) (hz : narrow .boolean (.int x) = .int x) (hfz : fits .boolean (.int x) = true) (hl2 : j < fs.length) (hset : z_cell G (z_upI w ko j x) ko = .inr (ci, fs.set j (.int x)))
    (k : zR G l d own B mL rt v w' K n lv st (z_upI w ko j x) X) : zR G l d own B mL rt v w' K pc lv (.int x :: .ref (G.1 ko) :: st) w X := by
  intro o h1 h2 p e s m args below meth c H locs ls C hl
  subst hn
  have C2 := C
  obtain ⟨hx, hb, hml, hr, hlk, hown, hts, hK2, hP, hI, hS, hZ⟩ := C2
  refine va_put hx hb hts hin ty0 hty hnm hown hK2 hP (z_Dd hI) hS ko (by rw [z_ws_get hko, hcell]) hc j hj (hts _ hw) (fun _ h => h) hfin (ty := .boolean) (by rw [hty j hj, hd2]) hz hfz hl2 hd (fun H1 locs1 hP1 hD1 hS1 => ?_)
  rw [z_ws_set (w' := z_upI w ko j x) hset (fun i hi => z_cell_eq (by funext q; simp [z_upI, hi]) (by rfl))] at hP1
  exact k o h1 h2 p e s m args below meth c H1 locs1 ls ⟨hx, hb, hml, hr, hlk, hown, hts, hK2, hP1, hI, hS1, hZ⟩ hl
theorem r_putj (n ko j : Nat) {ci N ix : Nat} {Cn : String} {T : u_T} {fs : List Value} {x : Int64} (hd : decode B pc = .ok (.putfield ix, 3)) (hn : pc + 3 = n) (hko : ko < z_N G) (hcell : z_cell G w ko = .inr (ci, fs)) (hc : vwCl[ci]? = some (Cn, T, N)) (hin : ∀ x ∈ u_ws Cn T N, x ∈ zw_tbl) {ty0 : Nat → FieldType} (hty : ∀ k, k < N → parseFieldDescriptor (T k).2.2.1 = some (ty0 k)) (hnm : ∀ a, a < N → ∀ b, b < N → a ≠ b → (T a).2.1 ≠ (T b).2.1) (hj : j < N) (hw : Cond.fieldLink own ix (T j).1 (T j).2.1 (T j).2.2.1 ∈ zw_tbl) (hfin : (T j).2.2.2 = false) (hd2 : ty0 j = .long)  (hl2 : j < fs.length) (hset : z_cell G (z_upJ w ko j x) ko = .inr (ci, fs.set j (.long x)))
    (k : zR G l d own B mL rt v w' K n lv st (z_upJ w ko j x) X) : zR G l d own B mL rt v w' K pc lv (.long x :: .ref (G.1 ko) :: st) w X := by
  intro o h1 h2 p e s m args below meth c H locs ls C hl
  subst hn
  have C2 := C
  obtain ⟨hx, hb, hml, hr, hlk, hown, hts, hK2, hP, hI, hS, hZ⟩ := C2
  refine va_put hx hb hts hin ty0 hty hnm hown hK2 hP (z_Dd hI) hS ko (by rw [z_ws_get hko, hcell]) hc j hj (hts _ hw) (fun _ h => h) hfin (ty := .long) (by rw [hty j hj, hd2]) rfl rfl hl2 hd (fun H1 locs1 hP1 hD1 hS1 => ?_)
  rw [z_ws_set (w' := z_upJ w ko j x) hset (fun i hi => z_cell_eq (by rfl) (by funext q; simp [z_upJ, hi]))] at hP1
  exact k o h1 h2 p e s m args below meth c H1 locs1 ls ⟨hx, hb, hml, hr, hlk, hown, hts, hK2, hP1, hI, hS1, hZ⟩ hl
theorem z_in_vp {i : Int32} {n : Nat} (h : z_in i n = true) : vp_in i n := by
  unfold z_in at h
  simp only [Bool.and_eq_true, Bool.not_eq_true', decide_eq_false_iff_not, decide_eq_true_eq] at h
  intro q
  rcases q with q | q
  · exact h.1 q
  · omega
theorem r_iald (n a len : Nat) {i : Int32} (hd : decode B pc = .ok (.iaload, 1)) (hn : pc + 1 = n) (ha : a < z_N G) (hcell : z_cell G w a = z_aI G len (w.1 a)) (k : zR G l d own B mL rt v w' K n lv (.int (w.1 a i.toNatClampNeg) :: st) w X) : zR G l d own B mL rt v w' K pc lv (.int i :: .ref (G.1 a) :: st) w (if z_in i len = true then X else none) := by
  refine r_gd (fun hg => ?_)
  intro o h1 h2 p e s m args below meth c H locs ls C hl
  subst hn
  have C2 := C
  obtain ⟨hx, hb, hml, hr, hlk, hown, hts, hK2, hP, hI, hS, hZ⟩ := C2
  exact va_iald hx hb hK2 hP a 1 (by rw [z_ws_get ha, hcell]) rfl (z_in_vp hg) hd (k o h1 h2 p e s m args below meth c H locs ls C hl)
theorem r_bald (n a len : Nat) {i : Int32} (hd : decode B pc = .ok (.baload, 1)) (hn : pc + 1 = n) (ha : a < z_N G) (hcell : z_cell G w a = z_aB G len (w.1 a)) (k : zR G l d own B mL rt v w' K n lv (.int (w.1 a i.toNatClampNeg) :: st) w X) : zR G l d own B mL rt v w' K pc lv (.int i :: .ref (G.1 a) :: st) w (if z_in i len = true then X else none) := by
  refine r_gd (fun hg => ?_)
  intro o h1 h2 p e s m args below meth c H locs ls C hl
  subst hn
  have C2 := C
  obtain ⟨hx, hb, hml, hr, hlk, hown, hts, hK2, hP, hI, hS, hZ⟩ := C2
  exact va_bald hx hb hK2 hP a 0 (by rw [z_ws_get ha, hcell]) rfl (z_in_vp hg) hd (k o h1 h2 p e s m args below meth c H locs ls C hl)
theorem r_lald (n a len : Nat) {i : Int32} (hd : decode B pc = .ok (.laload, 1)) (hn : pc + 1 = n) (ha : a < z_N G) (hcell : z_cell G w a = z_aJ G len (w.2 a)) (k : zR G l d own B mL rt v w' K n lv (.long (w.2 a i.toNatClampNeg) :: st) w X) : zR G l d own B mL rt v w' K pc lv (.int i :: .ref (G.1 a) :: st) w (if z_in i len = true then X else none) := by
  refine r_gd (fun hg => ?_)
  intro o h1 h2 p e s m args below meth c H locs ls C hl
  subst hn
  have C2 := C
  obtain ⟨hx, hb, hml, hr, hlk, hown, hts, hK2, hP, hI, hS, hZ⟩ := C2
  exact va_lald hx hb hK2 hP a 2 (by rw [z_ws_get ha, hcell]) rfl (z_in_vp hg) hd (k o h1 h2 p e s m args below meth c H locs ls C hl)
theorem r_iast (n a len : Nat) {i : Int32} {x : Int32} (hd : decode B pc = .ok (.iastore, 1)) (hn : pc + 1 = n) (ha : a < z_N G) (hcell : ∀ w, z_cell G w a = z_aI G len (w.1 a)) (k : zR G l d own B mL rt v w' K n lv st (z_upI w a i.toNatClampNeg x) X) : zR G l d own B mL rt v w' K pc lv (.int x :: .int i :: .ref (G.1 a) :: st) w (if z_in i len = true then X else none) := by
  refine r_gd (fun hg => ?_)
  intro o h1 h2 p e s m args below meth c H locs ls C hl
  subst hn
  have C2 := C
  obtain ⟨hx, hb, hml, hr, hlk, hown, hts, hK2, hP, hI, hS, hZ⟩ := C2
  refine va_iast hx hb hK2 hP (z_Dd hI) hS a 1 (by rw [z_ws_get ha, hcell]) rfl (z_in_vp hg) hd (fun H1 locs1 hP1 hD1 hS1 => ?_)
  rw [z_ws_set (w' := z_upI w a i.toNatClampNeg x) (by rw [hcell]; congr; funext q; simp [z_upI, upd]) (fun j hj => z_cell_eq (by funext q; simp [z_upI, hj]) (by rfl))] at hP1
  exact k o h1 h2 p e s m args below meth c H1 locs1 ls ⟨hx, hb, hml, hr, hlk, hown, hts, hK2, hP1, hI, hS1, hZ⟩ hl
theorem r_bast (n a len : Nat) {i : Int32} {x : Int32} (hd : decode B pc = .ok (.bastore, 1)) (hn : pc + 1 = n) (ha : a < z_N G) (hcell : ∀ w, z_cell G w a = z_aB G len (w.1 a)) (k : zR G l d own B mL rt v w' K n lv st (z_upI w a i.toNatClampNeg (vp_nar .byte x)) X) : zR G l d own B mL rt v w' K pc lv (.int x :: .int i :: .ref (G.1 a) :: st) w (if z_in i len = true then X else none) := by
  refine r_gd (fun hg => ?_)
  intro o h1 h2 p e s m args below meth c H locs ls C hl
  subst hn
  have C2 := C
  obtain ⟨hx, hb, hml, hr, hlk, hown, hts, hK2, hP, hI, hS, hZ⟩ := C2
  refine va_bast hx hb hK2 hP (z_Dd hI) hS a 0 (by rw [z_ws_get ha, hcell]) rfl (z_in_vp hg) hd (fun H1 locs1 hP1 hD1 hS1 => ?_)
  rw [z_ws_set (w' := z_upI w a i.toNatClampNeg (vp_nar .byte x)) (by rw [hcell]; congr; funext q; simp [z_upI, upd]) (fun j hj => z_cell_eq (by funext q; simp [z_upI, hj]) (by rfl))] at hP1
  exact k o h1 h2 p e s m args below meth c H1 locs1 ls ⟨hx, hb, hml, hr, hlk, hown, hts, hK2, hP1, hI, hS1, hZ⟩ hl
theorem r_last (n a len : Nat) {i : Int32} {x : Int64} (hd : decode B pc = .ok (.lastore, 1)) (hn : pc + 1 = n) (ha : a < z_N G) (hcell : ∀ w, z_cell G w a = z_aJ G len (w.2 a)) (k : zR G l d own B mL rt v w' K n lv st (z_upJ w a i.toNatClampNeg x) X) : zR G l d own B mL rt v w' K pc lv (.long x :: .int i :: .ref (G.1 a) :: st) w (if z_in i len = true then X else none) := by
  refine r_gd (fun hg => ?_)
  intro o h1 h2 p e s m args below meth c H locs ls C hl
  subst hn
  have C2 := C
  obtain ⟨hx, hb, hml, hr, hlk, hown, hts, hK2, hP, hI, hS, hZ⟩ := C2
  refine va_last hx hb hK2 hP (z_Dd hI) hS a 2 (by rw [z_ws_get ha, hcell]) rfl (z_in_vp hg) hd (fun H1 locs1 hP1 hD1 hS1 => ?_)
  rw [z_ws_set (w' := z_upJ w a i.toNatClampNeg x) (by rw [hcell]; congr; funext q; simp [z_upJ, vp_updL]) (fun j hj => z_cell_eq (by rfl) (by funext q; simp [z_upJ, hj]))] at hP1
  exact k o h1 h2 p e s m args below meth c H1 locs1 ls ⟨hx, hb, hml, hr, hlk, hown, hts, hK2, hP1, hI, hS1, hZ⟩ hl
theorem r_scr (n : Nat) {xs : Nat → Int32} {len : Nat} {i : Int32} (hxs : z_x G = xs) (hlen : z_l G = len) (hd : decode B pc = .ok (.iaload, 1)) (hn : pc + 1 = n) (k : zR G l d own B mL rt v w' K n lv (.int (xs i.toNatClampNeg) :: st) w X) : zR G l d own B mL rt v w' K pc lv (.int i :: .ref (z_b G) :: st) w (if z_in i len = true then X else none) := by
  refine r_gd (fun hg => ?_)
  intro o h1 h2 p e s m args below meth c H locs ls C hl
  subst hn
  subst hxs
  subst hlen
  have C2 := C
  obtain ⟨hx, hb, hml, hr, hlk, hown, hts, hK2, hP, hI, hS, hZ⟩ := C2
  exact va_sld hx hb hZ.1 hZ.2.1 hZ.2.2 hS (z_in_vp hg) hd (k o h1 h2 p e s m args below meth c H locs ls C hl)
theorem r_slen (n : Nat) {len : Nat} (hlen : z_l G = len) (hd : decode B pc = .ok (.arraylength, 1)) (hn : pc + 1 = n) (k : zR G l d own B mL rt v w' K n lv (.int (Int32.ofNat len) :: st) w X) : zR G l d own B mL rt v w' K pc lv (.ref (z_b G) :: st) w X := by
  intro o h1 h2 p e s m args below meth c H locs ls C hl
  subst hn
  subst hlen
  have C2 := C
  obtain ⟨hx, hb, hml, hr, hlk, hown, hts, hK2, hP, hI, hS, hZ⟩ := C2
  exact va_slen hx hb hZ.1 hZ.2.1 hZ.2.2 hS hd (k o h1 h2 p e s m args below meth c H locs ls C hl)
theorem r_alen (n a len : Nat) {x : Int32} {f : Nat → Int32} (hd : decode B pc = .ok (.arraylength, 1)) (hn : pc + 1 = n) (ha : a < z_N G) (hcell : z_cell G w a = z_aI G len f) (hv : Int32.ofNat len = x) (k : zR G l d own B mL rt v w' K n lv (.int x :: st) w X) : zR G l d own B mL rt v w' K pc lv (.ref (G.1 a) :: st) w X := by
  intro o h1 h2 p e s m args below meth c H locs ls C hl
  subst hn
  have C2 := C
  obtain ⟨hx, hb, hml, hr, hlk, hown, hts, hK2, hP, hI, hS, hZ⟩ := C2
  exact va_alen hx hb hK2 hP a 1 (by rw [z_ws_get ha, hcell]) rfl hv hd (k o h1 h2 p e s m args below meth c H locs ls C hl)
theorem r_aald (n a len b : Nat) {i : Int32} (hd : decode B pc = .ok (.aaload, 1)) (hn : pc + 1 = n) (ha : a < z_N G) (hcell : z_cell G w a = z_aQ G len b) (k : z_in i len = true → zR G l d own B mL rt v w' K n lv (.ref (G.1 (b + i.toNatClampNeg)) :: st) w X) : zR G l d own B mL rt v w' K pc lv (.int i :: .ref (G.1 a) :: st) w (if z_in i len = true then X else none) := by
  refine r_gd (fun hg => ?_)
  intro o h1 h2 p e s m args below meth c H locs ls C hl
  subst hn
  have C2 := C
  obtain ⟨hx, hb, hml, hr, hlk, hown, hts, hK2, hP, hI, hS, hZ⟩ := C2
  have hin := z_in_vp hg
  have hlt : i.toNatClampNeg < len := Nat.not_le.mp fun q => hin (Or.inr q)
  have hat : (z_ws G w)[a]? = some (G.1 a, z_aQ G len b) := by rw [z_ws_get ha, hcell]
  exact W.aald (v := .ref (G.1 (b + i.toNatClampNeg))) (ty := .array .int) hx hb (hP a _ hat) ((hK2.2 3 _ rfl).1 len (fun j => va_rf (if j < len then some (G.1 (b + j)) else none))) rfl (fun q => by cases q) (by show ¬ (i < 0 ∨ (arrV _ _ _).slots.size ≤ _); rw [arrV_size]; exact hin) (by show (arrV _ _ _).slots[_]? = _; rw [arrV_read _ _ hlt]; simp [hlt, va_rf]) rfl rfl hd (k hg o h1 h2 p e s m args below meth c H locs ls C hl)
theorem r_copyi (n a0 a1 n0 n1 : Nat) {ix : Nat} {x y z : Int32} (hd : decode B pc = .ok (.invokestatic ix, 3)) (hn : pc + 3 = n) (ha0 : a0 < z_N G) (ha1 : a1 < z_N G) (hc0 : ∀ w, z_cell G w a0 = z_aI G n0 (w.1 a0)) (hc1 : ∀ w, z_cell G w a1 = z_aI G n1 (w.1 a1)) (hlk : Cond.methodLink own ix arraycopyName ∈ zw_tbl) (hdd : 1 ≤ d) (hW : (st.map fun v => v.category).sum ≤ 8) (k : zR G l d own B mL rt v w' K n lv st (z_cpI w a0 a1 x.toNatClampNeg y.toNatClampNeg z.toNatClampNeg) X) : zR G l d own B mL rt v w' K pc lv (.int z :: .int y :: .ref (G.1 a1) :: .int x :: .ref (G.1 a0) :: st) w (if z_cin x y z n0 n1 = true then X else none) := by
  refine r_gd (fun hg => ?_)
  intro o h1 h2 p e s m args below meth c H locs ls C hl
  subst hn
  have C2 := C
  obtain ⟨hx, hb, hml, hr, hlk2, hown, hts, hK2, hP, hI, hS, hZ⟩ := C2
  unfold z_cin at hg
  simp only [Bool.and_eq_true, Bool.not_eq_true', decide_eq_false_iff_not, decide_eq_true_eq] at hg
  obtain ⟨⟨⟨⟨g1, g2⟩, g3⟩, g4⟩, g5⟩ := hg
  refine va_copyi hx hb (hml.trans hl.1.symm) hown (hts _ hlk) (hts _ wnat_arraycopy) (hts _ wst_arraycopy) (hts _ wz_J10) hK2 hP (z_Dd hI) hS a0 a1 1 1 (by rw [z_ws_get ha0, hc0]) (by rw [z_ws_get ha1, hc1]) rfl rfl rfl g1 g2 g3 g4 g5 (fun _ _ => rfl) (by show 1 ≤ d; exact hdd) (by have hq : nativeFrameWords "java/lang/System" "arraycopy" 5 + 11 ≤ 40 := (by decide); show _ ≤ 48 * d; omega) hd (fun H1 locs1 hP1 hD1 hS1 => ?_)
  rw [z_ws_set (w' := z_cpI w a0 a1 x.toNatClampNeg y.toNatClampNeg z.toNatClampNeg) (by rw [hc1]; congr; funext q; simp [z_cpI, va_cpy]) (fun j hj => z_cell_eq (by funext q; simp [z_cpI, hj]) (by rfl))] at hP1
  exact k o h1 h2 p e s m args below meth c H1 locs1 ls ⟨hx, hb, hml, hr, hlk2, hown, hts, hK2, hP1, hI, hS1, hZ⟩ hl
theorem r_copyj (n a0 a1 n0 n1 : Nat) {ix : Nat} {x y z : Int32} (hd : decode B pc = .ok (.invokestatic ix, 3)) (hn : pc + 3 = n) (ha0 : a0 < z_N G) (ha1 : a1 < z_N G) (hc0 : ∀ w, z_cell G w a0 = z_aJ G n0 (w.2 a0)) (hc1 : ∀ w, z_cell G w a1 = z_aJ G n1 (w.2 a1)) (hlk : Cond.methodLink own ix arraycopyName ∈ zw_tbl) (hdd : 1 ≤ d) (hW : (st.map fun v => v.category).sum ≤ 8) (k : zR G l d own B mL rt v w' K n lv st (z_cpJ w a0 a1 x.toNatClampNeg y.toNatClampNeg z.toNatClampNeg) X) : zR G l d own B mL rt v w' K pc lv (.int z :: .int y :: .ref (G.1 a1) :: .int x :: .ref (G.1 a0) :: st) w (if z_cin x y z n0 n1 = true then X else none) := by
  refine r_gd (fun hg => ?_)
  intro o h1 h2 p e s m args below meth c H locs ls C hl
  subst hn
  have C2 := C
  obtain ⟨hx, hb, hml, hr, hlk2, hown, hts, hK2, hP, hI, hS, hZ⟩ := C2
  unfold z_cin at hg
  simp only [Bool.and_eq_true, Bool.not_eq_true', decide_eq_false_iff_not, decide_eq_true_eq] at hg
  obtain ⟨⟨⟨⟨g1, g2⟩, g3⟩, g4⟩, g5⟩ := hg
  refine va_copyl hx hb (hml.trans hl.1.symm) hown (hts _ hlk) (hts _ wnat_arraycopy) (hts _ wst_arraycopy) (hts _ wz_J10) hK2 hP (z_Dd hI) hS a0 a1 2 2 (by rw [z_ws_get ha0, hc0]) (by rw [z_ws_get ha1, hc1]) rfl rfl rfl g1 g2 g3 g4 g5 (fun _ _ => rfl) (by show 1 ≤ d; exact hdd) (by have hq : nativeFrameWords "java/lang/System" "arraycopy" 5 + 11 ≤ 40 := (by decide); show _ ≤ 48 * d; omega) hd (fun H1 locs1 hP1 hD1 hS1 => ?_)
  rw [z_ws_set (w' := z_cpJ w a0 a1 x.toNatClampNeg y.toNatClampNeg z.toNatClampNeg) (by rw [hc1]; congr; funext q; simp [z_cpJ, va_cpy]) (fun j hj => z_cell_eq (by rfl) (by funext q; simp [z_cpJ, hj]))] at hP1
  exact k o h1 h2 p e s m args below meth c H1 locs1 ls ⟨hx, hb, hml, hr, hlk2, hown, hts, hK2, hP1, hI, hS1, hZ⟩ hl
theorem r_callSi (n n1 : Nat) {y : MethodName} {ix : Nat} {d1 mL1 : Nat} {B1 : ByteArray} {rt1 : Option FieldType} (As : List Value) {st0 : List Value} {Y : Option Int32} {Xk : Int32 → Option α} (hd : decode B pc = .ok (.invokestatic ix, 3)) (hn : pc + 3 = n) (hstack : st0 = As.reverse ++ st) (hC : ∀ r, Y = some r → zM G l d1 y B1 mL1 rt1 As w ((fun r => some (.int r)) r) ((fun _ => w) r)) (hc : Cond.code y B1 mL1 rt1 ∈ zw_tbl) (hi : Cond.initialized y.cls ∈ zw_tbl) (hlk : Cond.methodLink own ix y ∈ zw_tbl) (hst : Cond.static y ∈ zw_tbl)
    (hdes : y.cls ≠ "java/lang/invoke/MethodHandle" ∧ y.cls ≠ "java/lang/invoke/VarHandle" ∧ (parseMethodDescriptor y.desc).map (fun d => d.parameters.length) = some n1) (hm : mL1 ≤ 29) (hdd : d1 + 1 ≤ d) (hn1 : As.length = n1) (hW : (st.map fun v => v.category).sum ≤ 8)
    (k : ∀ r, zR G l d own B mL rt v w' K n lv (.int r :: st) w (Xk r)) : zR G l d own B mL rt v w' K pc lv st0 w (Y.bind Xk) := by
  intro o h1 h2
  cases hr : Y with
  | none => rw [hr] at h1; cases h1
  | some r =>
    rw [hr] at h1
    subst hn
    exact z_runS n1 (hC r hr) hc hi hlk hst hdes hm hdd hn1 hstack hW hd (k r o h1 h2)
theorem r_callSiw (n n1 : Nat) {y : MethodName} {ix : Nat} {d1 mL1 : Nat} {B1 : ByteArray} {rt1 : Option FieldType} (As : List Value) {st0 : List Value} {Y : Option (Int32 × ZW)} {Xk : (Int32 × ZW) → Option α} (hd : decode B pc = .ok (.invokestatic ix, 3)) (hn : pc + 3 = n) (hstack : st0 = As.reverse ++ st) (hC : ∀ r, Y = some r → zM G l d1 y B1 mL1 rt1 As w ((fun r => some (.int r.1)) r) ((fun r => r.2) r)) (hc : Cond.code y B1 mL1 rt1 ∈ zw_tbl) (hi : Cond.initialized y.cls ∈ zw_tbl) (hlk : Cond.methodLink own ix y ∈ zw_tbl) (hst : Cond.static y ∈ zw_tbl)
    (hdes : y.cls ≠ "java/lang/invoke/MethodHandle" ∧ y.cls ≠ "java/lang/invoke/VarHandle" ∧ (parseMethodDescriptor y.desc).map (fun d => d.parameters.length) = some n1) (hm : mL1 ≤ 29) (hdd : d1 + 1 ≤ d) (hn1 : As.length = n1) (hW : (st.map fun v => v.category).sum ≤ 8)
    (k : ∀ r, zR G l d own B mL rt v w' K n lv (.int r.1 :: st) r.2 (Xk r)) : zR G l d own B mL rt v w' K pc lv st0 w (Y.bind Xk) := by
  intro o h1 h2
  cases hr : Y with
  | none => rw [hr] at h1; cases h1
  | some r =>
    rw [hr] at h1
    subst hn
    exact z_runS n1 (hC r hr) hc hi hlk hst hdes hm hdd hn1 hstack hW hd (k r o h1 h2)
theorem r_callSj (n n1 : Nat) {y : MethodName} {ix : Nat} {d1 mL1 : Nat} {B1 : ByteArray} {rt1 : Option FieldType} (As : List Value) {st0 : List Value} {Y : Option Int64} {Xk : Int64 → Option α} (hd : decode B pc = .ok (.invokestatic ix, 3)) (hn : pc + 3 = n) (hstack : st0 = As.reverse ++ st) (hC : ∀ r, Y = some r → zM G l d1 y B1 mL1 rt1 As w ((fun r => some (.long r)) r) ((fun _ => w) r)) (hc : Cond.code y B1 mL1 rt1 ∈ zw_tbl) (hi : Cond.initialized y.cls ∈ zw_tbl) (hlk : Cond.methodLink own ix y ∈ zw_tbl) (hst : Cond.static y ∈ zw_tbl)
    (hdes : y.cls ≠ "java/lang/invoke/MethodHandle" ∧ y.cls ≠ "java/lang/invoke/VarHandle" ∧ (parseMethodDescriptor y.desc).map (fun d => d.parameters.length) = some n1) (hm : mL1 ≤ 29) (hdd : d1 + 1 ≤ d) (hn1 : As.length = n1) (hW : (st.map fun v => v.category).sum ≤ 8)
    (k : ∀ r, zR G l d own B mL rt v w' K n lv (.long r :: st) w (Xk r)) : zR G l d own B mL rt v w' K pc lv st0 w (Y.bind Xk) := by
  intro o h1 h2
  cases hr : Y with
  | none => rw [hr] at h1; cases h1
  | some r =>
    rw [hr] at h1
    subst hn
    exact z_runS n1 (hC r hr) hc hi hlk hst hdes hm hdd hn1 hstack hW hd (k r o h1 h2)
theorem r_callSjw (n n1 : Nat) {y : MethodName} {ix : Nat} {d1 mL1 : Nat} {B1 : ByteArray} {rt1 : Option FieldType} (As : List Value) {st0 : List Value} {Y : Option (Int64 × ZW)} {Xk : (Int64 × ZW) → Option α} (hd : decode B pc = .ok (.invokestatic ix, 3)) (hn : pc + 3 = n) (hstack : st0 = As.reverse ++ st) (hC : ∀ r, Y = some r → zM G l d1 y B1 mL1 rt1 As w ((fun r => some (.long r.1)) r) ((fun r => r.2) r)) (hc : Cond.code y B1 mL1 rt1 ∈ zw_tbl) (hi : Cond.initialized y.cls ∈ zw_tbl) (hlk : Cond.methodLink own ix y ∈ zw_tbl) (hst : Cond.static y ∈ zw_tbl)
    (hdes : y.cls ≠ "java/lang/invoke/MethodHandle" ∧ y.cls ≠ "java/lang/invoke/VarHandle" ∧ (parseMethodDescriptor y.desc).map (fun d => d.parameters.length) = some n1) (hm : mL1 ≤ 29) (hdd : d1 + 1 ≤ d) (hn1 : As.length = n1) (hW : (st.map fun v => v.category).sum ≤ 8)
    (k : ∀ r, zR G l d own B mL rt v w' K n lv (.long r.1 :: st) r.2 (Xk r)) : zR G l d own B mL rt v w' K pc lv st0 w (Y.bind Xk) := by
  intro o h1 h2
  cases hr : Y with
  | none => rw [hr] at h1; cases h1
  | some r =>
    rw [hr] at h1
    subst hn
    exact z_runS n1 (hC r hr) hc hi hlk hst hdes hm hdd hn1 hstack hW hd (k r o h1 h2)
theorem r_callSvw (n n1 : Nat) {y : MethodName} {ix : Nat} {d1 mL1 : Nat} {B1 : ByteArray} {rt1 : Option FieldType} (As : List Value) {st0 : List Value} {Y : Option ZW} {Xk : ZW → Option α} (hd : decode B pc = .ok (.invokestatic ix, 3)) (hn : pc + 3 = n) (hstack : st0 = As.reverse ++ st) (hC : ∀ r, Y = some r → zM G l d1 y B1 mL1 rt1 As w ((fun _ => none) r) ((fun r => r) r)) (hc : Cond.code y B1 mL1 rt1 ∈ zw_tbl) (hi : Cond.initialized y.cls ∈ zw_tbl) (hlk : Cond.methodLink own ix y ∈ zw_tbl) (hst : Cond.static y ∈ zw_tbl)
    (hdes : y.cls ≠ "java/lang/invoke/MethodHandle" ∧ y.cls ≠ "java/lang/invoke/VarHandle" ∧ (parseMethodDescriptor y.desc).map (fun d => d.parameters.length) = some n1) (hm : mL1 ≤ 29) (hdd : d1 + 1 ≤ d) (hn1 : As.length = n1) (hW : (st.map fun v => v.category).sum ≤ 8)
    (k : ∀ r, zR G l d own B mL rt v w' K n lv st r (Xk r)) : zR G l d own B mL rt v w' K pc lv st0 w (Y.bind Xk) := by
  intro o h1 h2
  cases hr : Y with
  | none => rw [hr] at h1; cases h1
  | some r =>
    rw [hr] at h1
    subst hn
    exact z_runS n1 (hC r hr) hc hi hlk hst hdes hm hdd hn1 hstack hW hd (k r o h1 h2)
theorem r_callVi (n n1 : Nat) {y : MethodName} {ix ko ci : Nat} {q : vw_C} {fs : List Value} {d1 mL1 : Nat} {B1 : ByteArray} {rt1 : Option FieldType} (As : List Value) {st0 : List Value} {Y : Option Int32} {Xk : Int32 → Option α} (hd : decode B pc = .ok (.invokevirtual ix, 3)) (hn : pc + 3 = n) (hstack : st0 = As.reverse ++ .ref (G.1 ko) :: st) (hC : ∀ r, Y = some r → zM G l d1 y B1 mL1 rt1 (.ref (G.1 ko) :: As) w ((fun r => some (.int r)) r) ((fun _ => w) r)) (hko : ko < z_N G) (hcell : z_cell G w ko = .inr (ci, fs)) (hq : vwCl[ci]? = some q) (hqc : q.1 = y.cls) (hc : Cond.code y B1 mL1 rt1 ∈ zw_tbl) (hi : Cond.initialized y.cls ∈ zw_tbl) (hlk : Cond.methodLink own ix y ∈ zw_tbl) (hin : Cond.instanceMethod y ∈ zw_tbl) (hse : Cond.selects y.cls y y ∈ zw_tbl)
    (hdes : y.cls ≠ "java/lang/invoke/MethodHandle" ∧ y.cls ≠ "java/lang/invoke/VarHandle" ∧ (parseMethodDescriptor y.desc).map (fun d => d.parameters.length) = some n1) (hm : mL1 ≤ 29) (hdd : d1 + 1 ≤ d) (hn1 : As.length = n1) (hW : (st.map fun v => v.category).sum ≤ 8)
    (k : ∀ r, zR G l d own B mL rt v w' K n lv (.int r :: st) w (Xk r)) : zR G l d own B mL rt v w' K pc lv st0 w (Y.bind Xk) := by
  intro o h1 h2
  cases hr : Y with
  | none => rw [hr] at h1; cases h1
  | some r =>
    rw [hr] at h1
    subst hn
    exact z_runV n1 (hC r hr) hko hcell hq hqc hc hi hlk hin hse hdes hm hdd hn1 hstack hW hd (k r o h1 h2)
theorem r_callViw (n n1 : Nat) {y : MethodName} {ix ko ci : Nat} {q : vw_C} {fs : List Value} {d1 mL1 : Nat} {B1 : ByteArray} {rt1 : Option FieldType} (As : List Value) {st0 : List Value} {Y : Option (Int32 × ZW)} {Xk : (Int32 × ZW) → Option α} (hd : decode B pc = .ok (.invokevirtual ix, 3)) (hn : pc + 3 = n) (hstack : st0 = As.reverse ++ .ref (G.1 ko) :: st) (hC : ∀ r, Y = some r → zM G l d1 y B1 mL1 rt1 (.ref (G.1 ko) :: As) w ((fun r => some (.int r.1)) r) ((fun r => r.2) r)) (hko : ko < z_N G) (hcell : z_cell G w ko = .inr (ci, fs)) (hq : vwCl[ci]? = some q) (hqc : q.1 = y.cls) (hc : Cond.code y B1 mL1 rt1 ∈ zw_tbl) (hi : Cond.initialized y.cls ∈ zw_tbl) (hlk : Cond.methodLink own ix y ∈ zw_tbl) (hin : Cond.instanceMethod y ∈ zw_tbl) (hse : Cond.selects y.cls y y ∈ zw_tbl)
    (hdes : y.cls ≠ "java/lang/invoke/MethodHandle" ∧ y.cls ≠ "java/lang/invoke/VarHandle" ∧ (parseMethodDescriptor y.desc).map (fun d => d.parameters.length) = some n1) (hm : mL1 ≤ 29) (hdd : d1 + 1 ≤ d) (hn1 : As.length = n1) (hW : (st.map fun v => v.category).sum ≤ 8)
    (k : ∀ r, zR G l d own B mL rt v w' K n lv (.int r.1 :: st) r.2 (Xk r)) : zR G l d own B mL rt v w' K pc lv st0 w (Y.bind Xk) := by
  intro o h1 h2
  cases hr : Y with
  | none => rw [hr] at h1; cases h1
  | some r =>
    rw [hr] at h1
    subst hn
    exact z_runV n1 (hC r hr) hko hcell hq hqc hc hi hlk hin hse hdes hm hdd hn1 hstack hW hd (k r o h1 h2)
theorem r_callVj (n n1 : Nat) {y : MethodName} {ix ko ci : Nat} {q : vw_C} {fs : List Value} {d1 mL1 : Nat} {B1 : ByteArray} {rt1 : Option FieldType} (As : List Value) {st0 : List Value} {Y : Option Int64} {Xk : Int64 → Option α} (hd : decode B pc = .ok (.invokevirtual ix, 3)) (hn : pc + 3 = n) (hstack : st0 = As.reverse ++ .ref (G.1 ko) :: st) (hC : ∀ r, Y = some r → zM G l d1 y B1 mL1 rt1 (.ref (G.1 ko) :: As) w ((fun r => some (.long r)) r) ((fun _ => w) r)) (hko : ko < z_N G) (hcell : z_cell G w ko = .inr (ci, fs)) (hq : vwCl[ci]? = some q) (hqc : q.1 = y.cls) (hc : Cond.code y B1 mL1 rt1 ∈ zw_tbl) (hi : Cond.initialized y.cls ∈ zw_tbl) (hlk : Cond.methodLink own ix y ∈ zw_tbl) (hin : Cond.instanceMethod y ∈ zw_tbl) (hse : Cond.selects y.cls y y ∈ zw_tbl)
    (hdes : y.cls ≠ "java/lang/invoke/MethodHandle" ∧ y.cls ≠ "java/lang/invoke/VarHandle" ∧ (parseMethodDescriptor y.desc).map (fun d => d.parameters.length) = some n1) (hm : mL1 ≤ 29) (hdd : d1 + 1 ≤ d) (hn1 : As.length = n1) (hW : (st.map fun v => v.category).sum ≤ 8)
    (k : ∀ r, zR G l d own B mL rt v w' K n lv (.long r :: st) w (Xk r)) : zR G l d own B mL rt v w' K pc lv st0 w (Y.bind Xk) := by
  intro o h1 h2
  cases hr : Y with
  | none => rw [hr] at h1; cases h1
  | some r =>
    rw [hr] at h1
    subst hn
    exact z_runV n1 (hC r hr) hko hcell hq hqc hc hi hlk hin hse hdes hm hdd hn1 hstack hW hd (k r o h1 h2)
theorem r_callVjw (n n1 : Nat) {y : MethodName} {ix ko ci : Nat} {q : vw_C} {fs : List Value} {d1 mL1 : Nat} {B1 : ByteArray} {rt1 : Option FieldType} (As : List Value) {st0 : List Value} {Y : Option (Int64 × ZW)} {Xk : (Int64 × ZW) → Option α} (hd : decode B pc = .ok (.invokevirtual ix, 3)) (hn : pc + 3 = n) (hstack : st0 = As.reverse ++ .ref (G.1 ko) :: st) (hC : ∀ r, Y = some r → zM G l d1 y B1 mL1 rt1 (.ref (G.1 ko) :: As) w ((fun r => some (.long r.1)) r) ((fun r => r.2) r)) (hko : ko < z_N G) (hcell : z_cell G w ko = .inr (ci, fs)) (hq : vwCl[ci]? = some q) (hqc : q.1 = y.cls) (hc : Cond.code y B1 mL1 rt1 ∈ zw_tbl) (hi : Cond.initialized y.cls ∈ zw_tbl) (hlk : Cond.methodLink own ix y ∈ zw_tbl) (hin : Cond.instanceMethod y ∈ zw_tbl) (hse : Cond.selects y.cls y y ∈ zw_tbl)
    (hdes : y.cls ≠ "java/lang/invoke/MethodHandle" ∧ y.cls ≠ "java/lang/invoke/VarHandle" ∧ (parseMethodDescriptor y.desc).map (fun d => d.parameters.length) = some n1) (hm : mL1 ≤ 29) (hdd : d1 + 1 ≤ d) (hn1 : As.length = n1) (hW : (st.map fun v => v.category).sum ≤ 8)
    (k : ∀ r, zR G l d own B mL rt v w' K n lv (.long r.1 :: st) r.2 (Xk r)) : zR G l d own B mL rt v w' K pc lv st0 w (Y.bind Xk) := by
  intro o h1 h2
  cases hr : Y with
  | none => rw [hr] at h1; cases h1
  | some r =>
    rw [hr] at h1
    subst hn
    exact z_runV n1 (hC r hr) hko hcell hq hqc hc hi hlk hin hse hdes hm hdd hn1 hstack hW hd (k r o h1 h2)
theorem r_callVvw (n n1 : Nat) {y : MethodName} {ix ko ci : Nat} {q : vw_C} {fs : List Value} {d1 mL1 : Nat} {B1 : ByteArray} {rt1 : Option FieldType} (As : List Value) {st0 : List Value} {Y : Option ZW} {Xk : ZW → Option α} (hd : decode B pc = .ok (.invokevirtual ix, 3)) (hn : pc + 3 = n) (hstack : st0 = As.reverse ++ .ref (G.1 ko) :: st) (hC : ∀ r, Y = some r → zM G l d1 y B1 mL1 rt1 (.ref (G.1 ko) :: As) w ((fun _ => none) r) ((fun r => r) r)) (hko : ko < z_N G) (hcell : z_cell G w ko = .inr (ci, fs)) (hq : vwCl[ci]? = some q) (hqc : q.1 = y.cls) (hc : Cond.code y B1 mL1 rt1 ∈ zw_tbl) (hi : Cond.initialized y.cls ∈ zw_tbl) (hlk : Cond.methodLink own ix y ∈ zw_tbl) (hin : Cond.instanceMethod y ∈ zw_tbl) (hse : Cond.selects y.cls y y ∈ zw_tbl)
    (hdes : y.cls ≠ "java/lang/invoke/MethodHandle" ∧ y.cls ≠ "java/lang/invoke/VarHandle" ∧ (parseMethodDescriptor y.desc).map (fun d => d.parameters.length) = some n1) (hm : mL1 ≤ 29) (hdd : d1 + 1 ≤ d) (hn1 : As.length = n1) (hW : (st.map fun v => v.category).sum ≤ 8)
    (k : ∀ r, zR G l d own B mL rt v w' K n lv st r (Xk r)) : zR G l d own B mL rt v w' K pc lv st0 w (Y.bind Xk) := by
  intro o h1 h2
  cases hr : Y with
  | none => rw [hr] at h1; cases h1
  | some r =>
    rw [hr] at h1
    subst hn
    exact z_runV n1 (hC r hr) hko hcell hq hqc hc hi hlk hin hse hdes hm hdd hn1 hstack hW hd (k r o h1 h2)
end ZR
