/-! ===== BEGIN words of one list among another's, by their places ===== -/
theorem goodIn_r {big : List Cond} (ws : List Cond) (ps : List Nat) (hp : ws = ps.filterMap (fun i => big[i]?)) (h : ws.all goodWord = true) : GoodIn big ws := by
  intro w hw
  have h1 := List.all_eq_true.mp h w hw
  rw [hp] at hw
  obtain ⟨i, -, hi⟩ := List.mem_filterMap.mp hw
  have hm : w ∈ big := by first | exact List.mem_of_getElem? hi | exact List.getElem?_mem hi
  exact ⟨hm, good_of_word h1⟩
theorem goodIn_app {big a b : List Cond} (ha : GoodIn big a) (hb : GoodIn big b) : GoodIn big (a ++ b) := fun w h => (List.mem_append.mp h).elim (ha w) (hb w)
theorem goodIn_ca {big a b : List Cond} {c : Cond} (ha : GoodIn big (c :: a)) (hb : GoodIn big b) : GoodIn big (c :: (a ++ b)) := fun w h => (List.mem_cons.mp h).elim (fun e => ha w (List.mem_cons.mpr (Or.inl e))) (fun h => (List.mem_append.mp h).elim (fun h => ha w (List.mem_cons.mpr (Or.inr h))) (hb w))
theorem goodIn_sub {big ws : List Cond} (hm : ∀ w ∈ ws, w ∈ big) (h : ws.all goodWord = true) : GoodIn big ws := fun w hw => ⟨hm w hw, good_of_word (List.all_eq_true.mp h w hw)⟩
/-! ===== END ===== -/

/-! ===== BEGIN new T[n][m]: the outer array a place, the inner ones among the pooled ===== -/
/-- f, but v at every address of l -/
def vr_up {α : Type} (f : Nat → α) (l : List Nat) (v : α) : Nat → α := fun a => if a ∈ l then v else f a
theorem vr_up_in {α : Type} {f : Nat → α} {l : List Nat} {v : α} {a : Nat} (h : a ∈ l) : vr_up f l v a = v := if_pos h
theorem vr_up_ne {α : Type} {f : Nat → α} {l : List Nat} {v : α} {a : Nat} (h : a ∉ l) : vr_up f l v a = f a := if_neg h
theorem vr_rows {L l : List Nat} {f : Nat → va_E} {e : va_E} (h : ∀ a, a ∈ l → a ∉ L) : va_pl L f ++ l.map (fun a => (a, e)) = va_pl (L ++ l) (vr_up f l e) := by
  unfold va_pl
  rw [List.map_append]
  congr 1
  · apply List.map_congr_left
    intro a ha
    rw [vr_up_ne (fun q => h a q ha)]
  · apply List.map_congr_left
    intro a ha
    rw [vr_up_in ha]
theorem vr_lay {X rows : va_W} {x : Nat × va_E} {pl : va_W} {D : va_G} {cl : List vw_C} {H : Heap} (hP : va_P D cl (((X ++ pl) ++ [x]) ++ rows) H) : va_P D cl ((X ++ [x]) ++ (pl ++ rows)) H := by
  rw [List.append_assoc (X ++ pl)] at hP
  have h := va_P.swap hP
  rw [← List.append_assoc X] at h
  have h2 := va_P.swap h
  rw [List.append_assoc (X ++ [x])] at h2
  exact h2
theorem vr_layD {X rows : va_W} {x : Nat × va_E} {pl : va_W} {A : Nat → Prop} (hD : va_D A (((X ++ pl) ++ [x]) ++ rows)) : va_D A ((X ++ [x]) ++ (pl ++ rows)) := by
  rw [List.append_assoc (X ++ pl)] at hD
  have h := va_D.swap hD
  rw [← List.append_assoc X] at h
  have h2 := va_D.swap h
  rw [List.append_assoc (X ++ [x])] at h2
  exact h2
theorem vr_outer (c : ClassId) (N h0 : Nat) : ∀ i : Nat, Jvm.Free.Multi.outerC c N h0 i = arrV c N (fun j => va_rf (if j < i then some (h0 + 1 + j) else none))
  | 0 => by
    show ({ cls := c, slots := Array.replicate N .null, vm := .none } : Cell) = _
    rw [arrV_new]
    refine congrArg (arrV c N) (funext fun j => ?_)
    simp [va_rf]
  | i + 1 => by
    show (Jvm.Free.Multi.outerC c N h0 i).setSlot i (.ref (h0 + 1 + i)) = _
    rw [vr_outer c N h0 i, arrV_store]
    refine congrArg (arrV c N) (funext fun j => ?_)
    by_cases e : j = i
    · subst e
      simp [updV, va_rf]
    · by_cases h : j < i
      · simp [updV, e, h, Nat.lt_succ_of_lt h]
      · simp [updV, e, h, show ¬ j < i + 1 by omega]
def va_AOA (ty : FieldType) (U : State) : Prop := (Cond.arrayOver (.array ty)).before #[] U = true
theorem va_AOA.use {ty : FieldType} {A : Array Value} {U : State} (h : va_AOA ty U) : (Cond.arrayOver (.array ty)).before A U = true := h
section VGM
variable {p : Program} {l : Launch} {e : Env} {R : Room} {s : State} {m : MethodId} {args : Array Value} {below : List Frame} {meth : Method} {c : Code} {H : Heap} {locs : List Loc} {cells slots : Nat} {Q : State → Prop}
variable {cc : ByteArray} {pc : Nat} {ls : Array Slot} {rest : List Value} {D : va_G} {cl : List vw_C} {A : Nat → Prop} {a : Nat} {tys : List (ClassId × FieldType)} {ws : va_W} {H0 : Heap}
theorem va_mna {X : va_W} {L : List Nat} {f : Nat → va_E} {cc : ByteArray} (hexec : p.tables.exec = Jvm.exec) (hb : c.code = cc) {own : String} {index : Nat} {ty : FieldType} {cy : ClassId} (hown : s.vm.findClass own = some m.cls) (hclink : (Cond.classLink own index ("[" ++ (FieldType.array ty).toString)).before args s = true) (hover : va_AOA ty s) (harr : (Cond.arrayClass ty).before args s = true) (hcy : s.vm.findClass (FieldType.array ty).toString = some cy)
    (hK : va_K D cl tys s) (hP : va_P D cl (X ++ va_pl L f) H) (hD : va_D A (X ++ va_pl L f)) (hS : va_S A H0 H locs) (hA : ∀ q, H0.size ≤ q → A q) {n k : Int32} {N' K' : Nat} {z : vp_A} (hn : ¬ n < 0) (hk : ¬ k < 0) (hN : n.toNatClampNeg = N') (hM : k.toNatClampNeg = K')
    (hb1 : N' * 4 ≤ 536870912) (hb2 : K' * componentBytes ty ≤ 536870912) (hb3 : K' ≤ 536870912) (hdf : fits ty (defaultValue ty) = true) (hdd : (defaultValue ty).isDefault = true) (hcells : cells + (1 + N') ≤ R.cells) (hslots : slots + (N' + N' * K') ≤ R.slots) (hz : ∀ c : ClassId, Jvm.Free.Multi.innerC c K' (defaultValue ty) = vp_cell c z) (hdg : decode cc pc = .ok (.multianewarray index 2, 4))
    (kk : ∀ (q : Nat) (r : Nat → Nat) (cA : ClassId) (H1 : Heap), (∀ i j : Nat, i < N' → j < N' → r i = r j → i = j) → (∀ i : Nat, i < N' → r i ∉ L) → va_K D cl (tys ++ [(cA, .array ty)]) s →
      va_P D cl ((X ++ [(q, .inl (cA, N', .inr (.inr (.inr (.inr (fun i => if i < N' then some (r i) else none))))))]) ++ va_pl (L ++ (List.range N').map r) (vr_up f ((List.range N').map r) (.inl (cy, z)))) H1 → va_D A ((X ++ [(q, .inl (cA, N', .inr (.inr (.inr (.inr (fun i => if i < N' then some (r i) else none))))))]) ++ va_pl (L ++ (List.range N').map r) (vr_up f ((List.range N').map r) (.inl (cy, z)))) → va_S A H0 H1 locs →
      W p l e R s m args below meth c H1 locs (cells + 1 + N') (slots + N' + N' * K') Q (F0 m (pc + 4) ls (.ref q :: rest))) : W p l e R s m args below meth c H locs cells slots Q (F0 m pc ls (.int k :: .int n :: rest)) := by
  subst hN
  subst hM
  intro T hT Xs
  obtain ⟨vm₁, cA, comp, -, fA, fC, hO, -, X', step⟩ := Xs.multianewarray2F hexec hown hclink (va_AOA.use hover) harr (g := F0 m pc ls (.int k :: .int n :: rest)) rfl (by rw [hb]; exact hdg) rfl hn hk hb1 hb2 hb3 hdf hdd hcells hslots
  have ec : some cy = some comp := hcy.symm.trans fC
  cases ec
  generalize hF : Jvm.Free.Multi.fill (T.setVm vm₁) cA cy n.toNatClampNeg k.toNatClampNeg (defaultValue ty) n.toNatClampNeg = F at X' step
  have hTh : (T.setVm vm₁).heap = H := hT
  obtain ⟨f1, f2, -, -⟩ := Jvm.Free.Multi.fill_facts (T.setVm vm₁) cA cy n.toNatClampNeg k.toNatClampNeg (defaultValue ty) n.toNatClampNeg
  rw [hF, hTh] at f1 f2
  have hold : ∀ x : Nat, x < H.size → F.heap[x]? = H[x]? := fun x hx => by
    have := Jvm.Free.Multi.fill_old (T.setVm vm₁) cA cy n.toNatClampNeg k.toNatClampNeg (defaultValue ty) (a := x) (by rw [hTh]; exact hx) n.toNatClampNeg
    rw [hF, hTh] at this
    exact this
  have hrow : ∀ j : Nat, j < n.toNatClampNeg → F.heap[H.size + 1 + j]? = some (vp_cell cy z) := fun j hj => by
    have := Jvm.Free.Multi.fill_inner (T.setVm vm₁) cA cy n.toNatClampNeg k.toNatClampNeg (defaultValue ty) n.toNatClampNeg j hj
    rw [hF, hTh, hz] at this
    exact this
  have hout : Jvm.Free.Multi.outerC cA n.toNatClampNeg H.size n.toNatClampNeg = vp_cell cA (n.toNatClampNeg, .inr (.inr (.inr (.inr (fun i => if i < n.toNatClampNeg then some (H.size + 1 + i) else none))))) := by
    rw [vp_cell_q]
    exact vr_outer cA n.toNatClampNeg H.size n.toNatClampNeg
  rw [hout] at f2
  have hlt : ∀ a, a ∈ L → a < H.size := fun a ha => by
    obtain ⟨k9, hk9⟩ := va_pl_get (X := X) (f := f) ha
    exact (hP k9 _ hk9).lt
  have hnl : ∀ i : Nat, i < n.toNatClampNeg → H.size + 1 + i ∉ L := fun i _ h => by
    have := hlt _ h
    omega
  have hnm : ∀ a, a ∈ (List.range n.toNatClampNeg).map (fun i => H.size + 1 + i) → a ∉ L := fun a ha h => by
    obtain ⟨i, -, rfl⟩ := List.mem_map.mp ha
    have := hlt _ h
    omega
  have hP0 : va_P D cl (X ++ va_pl L f) F.heap := hP.kept (fun k9 x hx => hold x.1 ((hP k9 x hx).lt))
  have hP1 : va_P D cl ((X ++ va_pl L f) ++ [(H.size, .inl (cA, n.toNatClampNeg, .inr (.inr (.inr (.inr (fun i => if i < n.toNatClampNeg then some (H.size + 1 + i) else none))))))]) F.heap := hP0.app (fun k9 x hx => by
    have h0 : k9 < 1 := (List.getElem?_eq_some_iff.mp hx).1
    rw [show k9 = 0 by omega] at hx
    cases hx
    exact f2)
  have hP2 : va_P D cl (((X ++ va_pl L f) ++ [(H.size, .inl (cA, n.toNatClampNeg, .inr (.inr (.inr (.inr (fun i => if i < n.toNatClampNeg then some (H.size + 1 + i) else none))))))]) ++ ((List.range n.toNatClampNeg).map (fun i => H.size + 1 + i)).map (fun a => (a, .inl (cy, z)))) F.heap := hP1.app (fun k9 x hx => by
    obtain ⟨a, ha, rfl⟩ := List.mem_map.mp (List.mem_of_getElem? hx)
    obtain ⟨i, hi, rfl⟩ := List.mem_map.mp ha
    exact hrow i (List.mem_range.mp hi))
  have hD2 : va_D A (((X ++ va_pl L f) ++ [(H.size, .inl (cA, n.toNatClampNeg, .inr (.inr (.inr (.inr (fun i => if i < n.toNatClampNeg then some (H.size + 1 + i) else none))))))]) ++ ((List.range n.toNatClampNeg).map (fun i => H.size + 1 + i)).map (fun a => (a, .inl (cy, z)))) := by
    have hD1 := hD.push (e := .inl (cA, n.toNatClampNeg, .inr (.inr (.inr (.inr (fun i => if i < n.toNatClampNeg then some (H.size + 1 + i) else none)))))) hP rfl (hA _ hS.1)
    generalize hW1 : (X ++ va_pl L f) ++ [(H.size, .inl (cA, n.toNatClampNeg, .inr (.inr (.inr (.inr (fun i => if i < n.toNatClampNeg then some (H.size + 1 + i) else none))))))] = W1 at hD1 hP1 ⊢
    have hle : ∀ (k9 : Nat) (x : Nat × va_E), W1[k9]? = some x → x.1 ≤ H.size := fun k9 x hx => by
      rw [← hW1] at hx
      by_cases hl : k9 < (X ++ va_pl L f).length
      · rw [List.getElem?_append_left hl] at hx
        exact Nat.le_of_lt ((hP k9 x hx).lt)
      · rw [List.getElem?_append_right (by omega)] at hx
        have h0 : k9 - (X ++ va_pl L f).length < 1 := (List.getElem?_eq_some_iff.mp hx).1
        rw [show k9 - (X ++ va_pl L f).length = 0 by omega] at hx
        cases hx
        exact Nat.le_refl _
    have hr : ∀ (k9 : Nat) (x : Nat × va_E), (((List.range n.toNatClampNeg).map (fun i => H.size + 1 + i)).map (fun a => ((a, .inl (cy, z)) : Nat × va_E)))[k9]? = some x → x.1 = H.size + 1 + k9 := fun k9 x hx => by
      rw [List.getElem?_map, List.getElem?_map] at hx
      by_cases h9 : k9 < n.toNatClampNeg
      · rw [List.getElem?_range h9] at hx
        cases hx
        rfl
      · have hn0 : (List.range n.toNatClampNeg)[k9]? = none := List.getElem?_eq_none (by rw [List.length_range]; omega)
        rw [hn0] at hx
        cases hx
    refine ⟨fun i j x y hi hj hxy => ?_, fun k9 x hx => ?_⟩
    · by_cases h1 : i < W1.length <;> by_cases h2 : j < W1.length
      · rw [List.getElem?_append_left h1] at hi
        rw [List.getElem?_append_left h2] at hj
        exact hD1.1 i j x y hi hj hxy
      · rw [List.getElem?_append_left h1] at hi
        rw [List.getElem?_append_right (by omega)] at hj
        have := hle _ _ hi
        have := hr _ _ hj
        omega
      · rw [List.getElem?_append_right (by omega)] at hi
        rw [List.getElem?_append_left h2] at hj
        have := hle _ _ hj
        have := hr _ _ hi
        omega
      · rw [List.getElem?_append_right (by omega)] at hi hj
        have := hr _ _ hi
        have := hr _ _ hj
        omega
    · by_cases h1 : k9 < W1.length
      · rw [List.getElem?_append_left h1] at hx
        exact hD1.2 k9 x hx
      · rw [List.getElem?_append_right (by omega)] at hx
        have := hr _ _ hx
        exact hA _ (by have := hS.1; omega)
  have hAr : ArrOfT s cA (.array ty) := fun N9 z9 => by
    obtain ⟨-, k9, hk9, cm9, hkk9⟩ := (hO 0 0 0).1
    exact ⟨(fun q hq => by cases hq), k9, hk9, cm9, hkk9⟩
  have hK2 : va_K D cl (tys ++ [(cA, .array ty)]) s := ⟨hK.1, fun k9 x hx => by
    by_cases hl : k9 < tys.length
    · rw [List.getElem?_append_left hl] at hx
      exact hK.2 k9 x hx
    · rw [List.getElem?_append_right (by omega)] at hx
      have h0 : k9 - tys.length < 1 := (List.getElem?_eq_some_iff.mp hx).1
      rw [show k9 - tys.length = 0 by omega] at hx
      cases hx
      exact ⟨hAr, fA⟩⟩
  obtain ⟨t, a1, b1⟩ := kk H.size (fun i => H.size + 1 + i) cA F.heap (fun i j _ _ h => by have h9 : H.size + 1 + i = H.size + 1 + j := h; omega) hnl hK2 (by rw [← vr_rows hnm]; exact vr_lay hP2) (by rw [← vr_rows hnm]; exact vr_layD hD2) ⟨by rw [f1]; have := hS.1; omega, fun x h1 h2 => (hold x (Nat.lt_of_lt_of_le h1 hS.1)).trans (hS.2.1 x h1 h2), hS.2.2⟩ F rfl X'
  refine ⟨t, step t ?_, b1⟩
  have e : T.heap.size = H.size := by rw [hT]
  rw [e]
  exact a1
end VGM
/-! ===== END ===== -/

/-! ===== BEGIN printed: names, fields, word lists, decode rows ===== -/
def RX0 : String := "LoveLocks$Growth"
def TX0 : u_T := fun k => match k with
  | 0 => ("LoveLocks$Growth", "least", "[I", true)
  | 1 => ("LoveLocks$Growth", "most", "[I", true)
  | 2 => ("LoveLocks$Growth", "lowest", "I", false)
  | _ => ("LoveLocks$Growth", "highest", "I", false)
def tyX0 : Nat → FieldType := fun k => match k with
  | 0 => .array .int
  | 1 => .array .int
  | 2 => .int
  | _ => .int
abbrev wsX00 : List Cond := u_ws RX0 TX0 4
theorem nmX0 : ∀ a, a < 4 → ∀ b, b < 4 → a ≠ b → (TX0 a).2.1 ≠ (TX0 b).2.1 := by decide +kernel
theorem tyX0_ok : ∀ k, k < 4 → parseFieldDescriptor (TX0 k).2.2.1 = some (tyX0 k) := by decide +kernel
abbrev cX0_init : ByteArray := prog_2_method_1_code
def yX0_init : MethodName := ⟨RX0, "<init>", "()V"⟩
abbrev cX0_takeOver : ByteArray := prog_2_method_2_code
def yX0_takeOver : MethodName := ⟨RX0, "takeOver", "(LLoveLocks$Growth;)V"⟩
def RX1 : String := "LoveLocks$Looter"
def TX1 : u_T := fun k => match k with
  | 0 => ("LoveLocks$Looter", "loots", "I", false)
  | 1 => ("LoveLocks$Looter", "inAll", "I", false)
  | _ => ("LoveLocks$Looter", "inSome", "I", false)
def tyX1 : Nat → FieldType := fun k => match k with
  | 0 => .int
  | 1 => .int
  | _ => .int
abbrev wsX10 : List Cond := u_ws RX1 TX1 3
theorem nmX1 : ∀ a, a < 3 → ∀ b, b < 3 → a ≠ b → (TX1 a).2.1 ≠ (TX1 b).2.1 := by decide +kernel
theorem tyX1_ok : ∀ k, k < 3 → parseFieldDescriptor (TX1 k).2.2.1 = some (tyX1 k) := by decide +kernel
abbrev cX1_init : ByteArray := prog_3_method_1_code
def yX1_init : MethodName := ⟨RX1, "<init>", "()V"⟩
abbrev cX1_findLoots : ByteArray := prog_3_method_2_code
def yX1_findLoots : MethodName := ⟨RX1, "findLoots", "(LLoveLocks$Rail;II)V"⟩
abbrev cX1_takeFrom : ByteArray := prog_3_method_3_code
def yX1_takeFrom : MethodName := ⟨RX1, "takeFrom", "(LLoveLocks$Looter;LLoveLocks$Rail;IIII)V"⟩
abbrev cX1_keepLoot : ByteArray := prog_3_method_4_code
def yX1_keepLoot : MethodName := ⟨RX1, "keepLoot", "(I)V"⟩
def RX2 : String := "LoveLocks$Names"
def TX2 : u_T := fun k => match k with
  | 0 => ("LoveLocks$Names", "people", "I", false)
  | 1 => ("LoveLocks$Names", "lettered", "I", false)
  | 2 => ("LoveLocks$Names", "name", "[J", true)
  | 3 => ("LoveLocks$Names", "first", "[J", true)
  | _ => ("LoveLocks$Names", "second", "[J", true)
def tyX2 : Nat → FieldType := fun k => match k with
  | 0 => .int
  | 1 => .int
  | 2 => .array .long
  | 3 => .array .long
  | _ => .array .long
abbrev wsX20 : List Cond := u_ws RX2 TX2 5
theorem nmX2 : ∀ a, a < 5 → ∀ b, b < 5 → a ≠ b → (TX2 a).2.1 ≠ (TX2 b).2.1 := by decide +kernel
theorem tyX2_ok : ∀ k, k < 5 → parseFieldDescriptor (TX2 k).2.2.1 = some (tyX2 k) := by decide +kernel
abbrev cX2_init : ByteArray := prog_4_method_1_code
def yX2_init : MethodName := ⟨RX2, "<init>", "()V"⟩
abbrev cX2_takeOver : ByteArray := prog_4_method_2_code
def yX2_takeOver : MethodName := ⟨RX2, "takeOver", "(LLoveLocks$Names;)V"⟩
abbrev cX2_addPerson : ByteArray := prog_4_method_3_code
def yX2_addPerson : MethodName := ⟨RX2, "addPerson", "(J)I"⟩
abbrev cX2_hasLetters : ByteArray := prog_4_method_4_code
def yX2_hasLetters : MethodName := ⟨RX2, "hasLetters", "(I)Z"⟩
abbrev cX2_putLetters : ByteArray := prog_4_method_5_code
def yX2_putLetters : MethodName := ⟨RX2, "putLetters", "(IJJ)Z"⟩
abbrev cX2_agree : ByteArray := prog_4_method_6_code
def yX2_agree : MethodName := ⟨RX2, "agree", "(JJ)Z"⟩
abbrev cX2_allWhoAgree : ByteArray := prog_4_method_7_code
def yX2_allWhoAgree : MethodName := ⟨RX2, "allWhoAgree", "(J)I"⟩
abbrev cX2_peopleOfFirst : ByteArray := prog_4_method_8_code
def yX2_peopleOfFirst : MethodName := ⟨RX2, "peopleOfFirst", "(I)I"⟩
abbrev cX2_peopleOfSecond : ByteArray := prog_4_method_9_code
def yX2_peopleOfSecond : MethodName := ⟨RX2, "peopleOfSecond", "(I)I"⟩
abbrev cX2_readingsOf : ByteArray := prog_4_method_10_code
def yX2_readingsOf : MethodName := ⟨RX2, "readingsOf", "(I)I"⟩
abbrev cX2_canBe : ByteArray := prog_4_method_11_code
def yX2_canBe : MethodName := ⟨RX2, "canBe", "(IIII)Z"⟩
def RX3 : String := "LoveLocks$Nights"
def TX3 : u_T := fun k => match k with
  | 0 => ("LoveLocks$Nights", "nightly", "I", false)
  | 1 => ("LoveLocks$Nights", "risk", "[I", true)
  | 2 => ("LoveLocks$Nights", "grows", "[I", true)
  | 3 => ("LoveLocks$Nights", "till", "[I", true)
  | 4 => ("LoveLocks$Nights", "cost", "[[I", true)
  | 5 => ("LoveLocks$Nights", "choice", "[[I", true)
  | 6 => ("LoveLocks$Nights", "waiting", "[I", true)
  | 7 => ("LoveLocks$Nights", "night", "[I", true)
  | _ => ("LoveLocks$Nights", "inAll", "I", false)
def tyX3 : Nat → FieldType := fun k => match k with
  | 0 => .int
  | 1 => .array .int
  | 2 => .array .int
  | 3 => .array .int
  | 4 => .array (.array .int)
  | 5 => .array (.array .int)
  | 6 => .array .int
  | 7 => .array .int
  | _ => .int
abbrev wsX30 : List Cond := u_ws RX3 TX3 9
theorem nmX3 : ∀ a, a < 9 → ∀ b, b < 9 → a ≠ b → (TX3 a).2.1 ≠ (TX3 b).2.1 := by decide +kernel
theorem tyX3_ok : ∀ k, k < 9 → parseFieldDescriptor (TX3 k).2.2.1 = some (tyX3 k) := by decide +kernel
abbrev cX3_init : ByteArray := prog_5_method_1_code
def yX3_init : MethodName := ⟨RX3, "<init>", "()V"⟩
abbrev cX3_takeOver : ByteArray := prog_5_method_2_code
def yX3_takeOver : MethodName := ⟨RX3, "takeOver", "(LLoveLocks$Nights;)V"⟩
abbrev cX3_setNightly : ByteArray := prog_5_method_3_code
def yX3_setNightly : MethodName := ⟨RX3, "setNightly", "(I)I"⟩
abbrev cX3_setTerm : ByteArray := prog_5_method_4_code
def yX3_setTerm : MethodName := ⟨RX3, "setTerm", "(III)I"⟩
abbrev cX3_change : ByteArray := prog_5_method_5_code
def yX3_change : MethodName := ⟨RX3, "change", "([IIII)I"⟩
abbrev cX3_costInAll : ByteArray := prog_5_method_6_code
def yX3_costInAll : MethodName := ⟨RX3, "costInAll", "()I"⟩
abbrev cX3_nightOf : ByteArray := prog_5_method_7_code
def yX3_nightOf : MethodName := ⟨RX3, "nightOf", "(I)I"⟩
abbrev cX3_plan : ByteArray := prog_5_method_8_code
def yX3_plan : MethodName := ⟨RX3, "plan", "(I)V"⟩
abbrev cX3_costOfWaiting : ByteArray := prog_5_method_9_code
def yX3_costOfWaiting : MethodName := ⟨RX3, "costOfWaiting", "(II)I"⟩
abbrev cX3_chooseBest : ByteArray := prog_5_method_10_code
def yX3_chooseBest : MethodName := ⟨RX3, "chooseBest", "(III)V"⟩
abbrev cX3_followChoices : ByteArray := prog_5_method_11_code
def yX3_followChoices : MethodName := ⟨RX3, "followChoices", "(I)V"⟩
def RX4 : String := "LoveLocks$Rail"
def TX4 : u_T := fun k => match k with
  | 0 => ("LoveLocks$Rail", "panels", "I", false)
  | 1 => ("LoveLocks$Rail", "barLimit", "[I", true)
  | 2 => ("LoveLocks$Rail", "allLimit", "[I", true)
  | 3 => ("LoveLocks$Rail", "sagLimit", "[I", true)
  | 4 => ("LoveLocks$Rail", "locks", "I", false)
  | 5 => ("LoveLocks$Rail", "gone", "I", false)
  | 6 => ("LoveLocks$Rail", "weight", "[I", true)
  | 7 => ("LoveLocks$Rail", "kind", "[I", true)
  | 8 => ("LoveLocks$Rail", "year", "[I", true)
  | 9 => ("LoveLocks$Rail", "panelOf", "[I", true)
  | 10 => ("LoveLocks$Rail", "barOf", "[I", true)
  | _ => ("LoveLocks$Rail", "holder", "[I", true)
def tyX4 : Nat → FieldType := fun k => match k with
  | 0 => .int
  | 1 => .array .int
  | 2 => .array .int
  | 3 => .array .int
  | 4 => .int
  | 5 => .int
  | 6 => .array .int
  | 7 => .array .int
  | 8 => .array .int
  | 9 => .array .int
  | 10 => .array .int
  | _ => .array .int
abbrev wsX40 : List Cond := u_ws RX4 TX4 12
theorem nmX4 : ∀ a, a < 12 → ∀ b, b < 12 → a ≠ b → (TX4 a).2.1 ≠ (TX4 b).2.1 := by decide +kernel
theorem tyX4_ok : ∀ k, k < 12 → parseFieldDescriptor (TX4 k).2.2.1 = some (tyX4 k) := by decide +kernel
abbrev cX4_init : ByteArray := prog_6_method_1_code
def yX4_init : MethodName := ⟨RX4, "<init>", "()V"⟩
abbrev cX4_takeOver : ByteArray := prog_6_method_2_code
def yX4_takeOver : MethodName := ⟨RX4, "takeOver", "(LLoveLocks$Rail;)V"⟩
abbrev cX4_hasPanel : ByteArray := prog_6_method_3_code
def yX4_hasPanel : MethodName := ⟨RX4, "hasPanel", "(I)Z"⟩
abbrev cX4_hasLock : ByteArray := prog_6_method_4_code
def yX4_hasLock : MethodName := ⟨RX4, "hasLock", "(I)Z"⟩
abbrev cX4_isGone : ByteArray := prog_6_method_5_code
def yX4_isGone : MethodName := ⟨RX4, "isGone", "(I)Z"⟩
abbrev cX4_addPanel : ByteArray := prog_6_method_6_code
def yX4_addPanel : MethodName := ⟨RX4, "addPanel", "(III)I"⟩
abbrev cX4_addToBar : ByteArray := prog_6_method_7_code
def yX4_addToBar : MethodName := ⟨RX4, "addToBar", "(IIIII)I"⟩
abbrev cX4_addToLock : ByteArray := prog_6_method_8_code
def yX4_addToLock : MethodName := ⟨RX4, "addToLock", "(IIII)I"⟩
abbrev cX4_tell : ByteArray := prog_6_method_9_code
def yX4_tell : MethodName := ⟨RX4, "tell", "(II)I"⟩
abbrev cX4_withAllOn : ByteArray := prog_6_method_10_code
def yX4_withAllOn : MethodName := ⟨RX4, "withAllOn", "(I)I"⟩
abbrev cX4_weightOf : ByteArray := prog_6_method_11_code
def yX4_weightOf : MethodName := ⟨RX4, "weightOf", "(I)I"⟩
abbrev cX4_borneBy : ByteArray := prog_6_method_12_code
def yX4_borneBy : MethodName := ⟨RX4, "borneBy", "(I)I"⟩
abbrev cX4_hangingAt : ByteArray := prog_6_method_13_code
def yX4_hangingAt : MethodName := ⟨RX4, "hangingAt", "(II)I"⟩
abbrev cX4_barLoad : ByteArray := prog_6_method_14_code
def yX4_barLoad : MethodName := ⟨RX4, "barLoad", "(II)I"⟩
abbrev cX4_panelLoad : ByteArray := prog_6_method_15_code
def yX4_panelLoad : MethodName := ⟨RX4, "panelLoad", "(I)I"⟩
abbrev cX4_sagOf : ByteArray := prog_6_method_16_code
def yX4_sagOf : MethodName := ⟨RX4, "sagOf", "(I)I"⟩
abbrev cX4_loadOf : ByteArray := prog_6_method_17_code
def yX4_loadOf : MethodName := ⟨RX4, "loadOf", "(II)I"⟩
abbrev cX4_isOver : ByteArray := prog_6_method_18_code
def yX4_isOver : MethodName := ⟨RX4, "isOver", "(I)Z"⟩
abbrev cX4_firstOver : ByteArray := prog_6_method_19_code
def yX4_firstOver : MethodName := ⟨RX4, "firstOver", "()I"⟩
abbrev cX4_hangingFrom : ByteArray := prog_6_method_20_code
def yX4_hangingFrom : MethodName := ⟨RX4, "hangingFrom", "(I)I"⟩
abbrev cX4_fall : ByteArray := prog_6_method_21_code
def yX4_fall : MethodName := ⟨RX4, "fall", "(I)I"⟩
abbrev cX4_fallWhileOver : ByteArray := prog_6_method_22_code
def yX4_fallWhileOver : MethodName := ⟨RX4, "fallWhileOver", "()I"⟩
def RX5 : String := "LoveLocks$Reader"
def TX5 : u_T := fun k => match k with
  | 0 => ("LoveLocks$Reader", "ways", "J", false)
  | 1 => ("LoveLocks$Reader", "people", "I", false)
  | 2 => ("LoveLocks$Reader", "lettered", "I", false)
  | 3 => ("LoveLocks$Reader", "one", "[I", true)
  | 4 => ("LoveLocks$Reader", "other", "[I", true)
  | 5 => ("LoveLocks$Reader", "pair", "[I", true)
  | 6 => ("LoveLocks$Reader", "some", "[I", true)
  | _ => ("LoveLocks$Reader", "all", "[I", true)
def tyX5 : Nat → FieldType := fun k => match k with
  | 0 => .long
  | 1 => .int
  | 2 => .int
  | 3 => .array .int
  | 4 => .array .int
  | 5 => .array .int
  | 6 => .array .int
  | _ => .array .int
abbrev wsX50 : List Cond := u_ws RX5 TX5 8
theorem nmX5 : ∀ a, a < 8 → ∀ b, b < 8 → a ≠ b → (TX5 a).2.1 ≠ (TX5 b).2.1 := by decide +kernel
theorem tyX5_ok : ∀ k, k < 8 → parseFieldDescriptor (TX5 k).2.2.1 = some (tyX5 k) := by decide +kernel
abbrev cX5_init : ByteArray := prog_7_method_1_code
def yX5_init : MethodName := ⟨RX5, "<init>", "()V"⟩
abbrev cX5_findWays : ByteArray := prog_7_method_2_code
def yX5_findWays : MethodName := ⟨RX5, "findWays", "(LLoveLocks$Names;LLoveLocks$Rail;)V"⟩
abbrev cX5_locksOfYear : ByteArray := prog_7_method_3_code
def yX5_locksOfYear : MethodName := ⟨RX5, "locksOfYear", "(LLoveLocks$Rail;I)I"⟩
abbrev cX5_waysToRead : ByteArray := prog_7_method_4_code
def yX5_waysToRead : MethodName := ⟨RX5, "waysToRead", "(LLoveLocks$Reader;IIII)J"⟩
abbrev cX5_keepPairs : ByteArray := prog_7_method_5_code
def yX5_keepPairs : MethodName := ⟨RX5, "keepPairs", "(I)V"⟩
abbrev cX5_peopleOn : ByteArray := prog_7_method_6_code
def yX5_peopleOn : MethodName := ⟨RX5, "peopleOn", "(II)I"⟩
abbrev cX5_locksOf : ByteArray := prog_7_method_7_code
def yX5_locksOf : MethodName := ⟨RX5, "locksOf", "(II)I"⟩
def RX6 : String := "LoveLocks$Seeker"
def TX6 : u_T := fun k => match k with
  | _ => ("LoveLocks$Seeker", "yes", "[I", true)
def tyX6 : Nat → FieldType := fun k => match k with
  | _ => .array .int
abbrev wsX60 : List Cond := u_ws RX6 TX6 1
theorem nmX6 : ∀ a, a < 1 → ∀ b, b < 1 → a ≠ b → (TX6 a).2.1 ≠ (TX6 b).2.1 := by decide +kernel
theorem tyX6_ok : ∀ k, k < 1 → parseFieldDescriptor (TX6 k).2.2.1 = some (tyX6 k) := by decide +kernel
abbrev cX6_init : ByteArray := prog_8_method_1_code
def yX6_init : MethodName := ⟨RX6, "<init>", "()V"⟩
abbrev cX6_answer : ByteArray := prog_8_method_3_code
def yX6_answer : MethodName := ⟨RX6, "answer", "(LLoveLocks$Rail;II)Z"⟩
abbrev cX6_learn : ByteArray := prog_8_method_4_code
def yX6_learn : MethodName := ⟨RX6, "learn", "(LLoveLocks$Rail;)V"⟩
abbrev cX6_questionsFor : ByteArray := prog_8_method_7_code
def yX6_questionsFor : MethodName := ⟨RX6, "questionsFor", "(I)I"⟩
abbrev cX6_areApart : ByteArray := prog_8_method_8_code
def yX6_areApart : MethodName := ⟨RX6, "areApart", "(I)Z"⟩
abbrev cX6_areEnough : ByteArray := prog_8_method_9_code
def yX6_areEnough : MethodName := ⟨RX6, "areEnough", "(LLoveLocks$Seeker;II)Z"⟩
def RX7 : String := "LoveLocks$Sheets"
def TX7 : u_T := fun k => match k with
  | 0 => ("LoveLocks$Sheets", "lane", "[I", true)
  | 1 => ("LoveLocks$Sheets", "size", "[I", true)
  | _ => ("LoveLocks$Sheets", "items", "[[I", true)
def tyX7 : Nat → FieldType := fun k => match k with
  | 0 => .array .int
  | 1 => .array .int
  | _ => .array (.array .int)
abbrev wsX70 : List Cond := u_ws RX7 TX7 3
theorem nmX7 : ∀ a, a < 3 → ∀ b, b < 3 → a ≠ b → (TX7 a).2.1 ≠ (TX7 b).2.1 := by decide +kernel
theorem tyX7_ok : ∀ k, k < 3 → parseFieldDescriptor (TX7 k).2.2.1 = some (tyX7 k) := by decide +kernel
abbrev cX7_init : ByteArray := prog_9_method_1_code
def yX7_init : MethodName := ⟨RX7, "<init>", "()V"⟩
def RX8 : String := "LoveLocks$Sights"
def TX8 : u_T := fun k => match k with
  | 0 => ("LoveLocks$Sights", "sights", "I", false)
  | 1 => ("LoveLocks$Sights", "of", "[I", true)
  | 2 => ("LoveLocks$Sights", "least", "[I", true)
  | _ => ("LoveLocks$Sights", "most", "[I", true)
def tyX8 : Nat → FieldType := fun k => match k with
  | 0 => .int
  | 1 => .array .int
  | 2 => .array .int
  | _ => .array .int
abbrev wsX80 : List Cond := u_ws RX8 TX8 4
theorem nmX8 : ∀ a, a < 4 → ∀ b, b < 4 → a ≠ b → (TX8 a).2.1 ≠ (TX8 b).2.1 := by decide +kernel
theorem tyX8_ok : ∀ k, k < 4 → parseFieldDescriptor (TX8 k).2.2.1 = some (tyX8 k) := by decide +kernel
abbrev cX8_init : ByteArray := prog_10_method_1_code
def yX8_init : MethodName := ⟨RX8, "<init>", "()V"⟩
abbrev cX8_takeOver : ByteArray := prog_10_method_2_code
def yX8_takeOver : MethodName := ⟨RX8, "takeOver", "(LLoveLocks$Sights;)V"⟩
def RX9 : String := "LoveLocks$State"
def TX9 : u_T := fun k => match k with
  | 0 => ("LoveLocks$State", "rail", "LLoveLocks$Rail;", true)
  | 1 => ("LoveLocks$State", "sights", "LLoveLocks$Sights;", true)
  | 2 => ("LoveLocks$State", "names", "LLoveLocks$Names;", true)
  | 3 => ("LoveLocks$State", "nights", "LLoveLocks$Nights;", true)
  | _ => ("LoveLocks$State", "growth", "LLoveLocks$Growth;", true)
def tyX9 : Nat → FieldType := fun k => match k with
  | 0 => .object "LoveLocks$Rail"
  | 1 => .object "LoveLocks$Sights"
  | 2 => .object "LoveLocks$Names"
  | 3 => .object "LoveLocks$Nights"
  | _ => .object "LoveLocks$Growth"
abbrev wsX90 : List Cond := u_ws RX9 TX9 5
theorem nmX9 : ∀ a, a < 5 → ∀ b, b < 5 → a ≠ b → (TX9 a).2.1 ≠ (TX9 b).2.1 := by decide +kernel
theorem tyX9_ok : ∀ k, k < 5 → parseFieldDescriptor (TX9 k).2.2.1 = some (tyX9 k) := by decide +kernel
abbrev cX9_init : ByteArray := prog_11_method_1_code
def yX9_init : MethodName := ⟨RX9, "<init>", "()V"⟩
abbrev cX9_takeOver : ByteArray := prog_11_method_2_code
def yX9_takeOver : MethodName := ⟨RX9, "takeOver", "(LLoveLocks$State;)V"⟩
def RX10 : String := "LoveLocks$Tape"
def TX10 : u_T := fun k => match k with
  | 0 => ("LoveLocks$Tape", "length", "I", false)
  | 1 => ("LoveLocks$Tape", "first", "J", false)
  | 2 => ("LoveLocks$Tape", "second", "J", false)
  | _ => ("LoveLocks$Tape", "bytes", "[B", true)
def tyX10 : Nat → FieldType := fun k => match k with
  | 0 => .int
  | 1 => .long
  | 2 => .long
  | _ => .array .byte
abbrev wsX100 : List Cond := u_ws RX10 TX10 4
theorem nmX10 : ∀ a, a < 4 → ∀ b, b < 4 → a ≠ b → (TX10 a).2.1 ≠ (TX10 b).2.1 := by decide +kernel
theorem tyX10_ok : ∀ k, k < 4 → parseFieldDescriptor (TX10 k).2.2.1 = some (tyX10 k) := by decide +kernel
abbrev cX10_init : ByteArray := prog_12_method_1_code
def yX10_init : MethodName := ⟨RX10, "<init>", "()V"⟩
abbrev cX10_add : ByteArray := prog_12_method_2_code
def yX10_add : MethodName := ⟨RX10, "add", "(JI)I"⟩
abbrev cX10_isSign : ByteArray := prog_12_method_3_code
def yX10_isSign : MethodName := ⟨RX10, "isSign", "(J)Z"⟩
abbrev cX10_readName : ByteArray := prog_12_method_4_code
def yX10_readName : MethodName := ⟨RX10, "readName", "()I"⟩
abbrev cX10_readPair : ByteArray := prog_12_method_5_code
def yX10_readPair : MethodName := ⟨RX10, "readPair", "()I"⟩
abbrev cX10_read : ByteArray := prog_12_method_6_code
def yX10_read : MethodName := ⟨RX10, "read", "(Z)I"⟩
abbrev cX10_isLetter : ByteArray := prog_12_method_7_code
def yX10_isLetter : MethodName := ⟨RX10, "isLetter", "(IZ)Z"⟩
def RX11 : String := "LoveLocks"
def TX11 : u_T := fun k => match k with
  | 0 => ("LoveLocks", "now", "LLoveLocks$State;", true)
  | 1 => ("LoveLocks", "kept", "LLoveLocks$State;", true)
  | 2 => ("LoveLocks", "hasImage", "Z", false)
  | 3 => ("LoveLocks", "reader", "LLoveLocks$Reader;", true)
  | 4 => ("LoveLocks", "seeker", "LLoveLocks$Seeker;", true)
  | 5 => ("LoveLocks", "looter", "LLoveLocks$Looter;", true)
  | 6 => ("LoveLocks", "tape", "LLoveLocks$Tape;", true)
  | _ => ("LoveLocks", "sheets", "LLoveLocks$Sheets;", true)
def tyX11 : Nat → FieldType := fun k => match k with
  | 0 => .object "LoveLocks$State"
  | 1 => .object "LoveLocks$State"
  | 2 => .boolean
  | 3 => .object "LoveLocks$Reader"
  | 4 => .object "LoveLocks$Seeker"
  | 5 => .object "LoveLocks$Looter"
  | 6 => .object "LoveLocks$Tape"
  | _ => .object "LoveLocks$Sheets"
abbrev wsX110 : List Cond := u_ws RX11 TX11 8
theorem nmX11 : ∀ a, a < 8 → ∀ b, b < 8 → a ≠ b → (TX11 a).2.1 ≠ (TX11 b).2.1 := by decide +kernel
theorem tyX11_ok : ∀ k, k < 8 → parseFieldDescriptor (TX11 k).2.2.1 = some (tyX11 k) := by decide +kernel
abbrev cX11_init : ByteArray := prog_1_method_1_code
def yX11_init : MethodName := ⟨RX11, "<init>", "()V"⟩
abbrev cX11_within : ByteArray := prog_1_method_2_code
def yX11_within : MethodName := ⟨RX11, "within", "(III)Z"⟩
abbrev cX11_panel : ByteArray := prog_1_method_3_code
def yX11_panel : MethodName := ⟨RX11, "panel", "(III)I"⟩
abbrev cX11_isLock : ByteArray := prog_1_method_4_code
def yX11_isLock : MethodName := ⟨RX11, "isLock", "(III)Z"⟩
abbrev cX11_isBar : ByteArray := prog_1_method_5_code
def yX11_isBar : MethodName := ⟨RX11, "isBar", "(II)Z"⟩
abbrev cX11_hang : ByteArray := prog_1_method_6_code
def yX11_hang : MethodName := ⟨RX11, "hang", "(IIIII)I"⟩
abbrev cX11_hangOn : ByteArray := prog_1_method_7_code
def yX11_hangOn : MethodName := ⟨RX11, "hangOn", "(IIII)I"⟩
abbrev cX11_told : ByteArray := prog_1_method_8_code
def yX11_told : MethodName := ⟨RX11, "told", "(II)I"⟩
abbrev cX11_load : ByteArray := prog_1_method_9_code
def yX11_load : MethodName := ⟨RX11, "load", "(II)I"⟩
abbrev cX11_over : ByteArray := prog_1_method_12_code
def yX11_over : MethodName := ⟨RX11, "over", "()I"⟩
abbrev cX11_giveWay : ByteArray := prog_1_method_13_code
def yX11_giveWay : MethodName := ⟨RX11, "giveWay", "()I"⟩
abbrev cX11_count : ByteArray := prog_1_method_14_code
def yX11_count : MethodName := ⟨RX11, "count", "(I)I"⟩
abbrev cX11_type : ByteArray := prog_1_method_19_code
def yX11_type : MethodName := ⟨RX11, "type", "(JI)I"⟩
abbrev cX11_person : ByteArray := prog_1_method_20_code
def yX11_person : MethodName := ⟨RX11, "person", "()I"⟩
abbrev cX11_letters : ByteArray := prog_1_method_21_code
def yX11_letters : MethodName := ⟨RX11, "letters", "(I)I"⟩
abbrev cX11_readings : ByteArray := prog_1_method_22_code
def yX11_readings : MethodName := ⟨RX11, "readings", "(I)I"⟩
abbrev cX11_ways : ByteArray := prog_1_method_23_code
def yX11_ways : MethodName := ⟨RX11, "ways", "()J"⟩
abbrev cX11_where : ByteArray := prog_1_method_25_code
def yX11_where : MethodName := ⟨RX11, "where", "(II)I"⟩
abbrev cX11_nightly : ByteArray := prog_1_method_26_code
def yX11_nightly : MethodName := ⟨RX11, "nightly", "(I)I"⟩
abbrev cX11_risk : ByteArray := prog_1_method_27_code
def yX11_risk : MethodName := ⟨RX11, "risk", "(III)I"⟩
abbrev cX11_order : ByteArray := prog_1_method_28_code
def yX11_order : MethodName := ⟨RX11, "order", "(I)I"⟩
abbrev cX11_isSought : ByteArray := prog_1_method_32_code
def yX11_isSought : MethodName := ⟨RX11, "isSought", "(I)Z"⟩
abbrev cX11_needed : ByteArray := prog_1_method_34_code
def yX11_needed : MethodName := ⟨RX11, "needed", "(I)I"⟩
abbrev cX11_stolen : ByteArray := prog_1_method_35_code
def yX11_stolen : MethodName := ⟨RX11, "stolen", "(IIII)I"⟩
abbrev cX11_image : ByteArray := prog_1_method_36_code
def yX11_image : MethodName := ⟨RX11, "image", "()I"⟩
abbrev cX11_restore : ByteArray := prog_1_method_37_code
def yX11_restore : MethodName := ⟨RX11, "restore", "()I"⟩
def RX12 : String := "LoveLocksModel"
def TX12 : u_T := fun k => match k with
  | _ => ("", "", "", false)
def tyX12 : Nat → FieldType := fun k => match k with
  | _ => .int
abbrev wsX120 : List Cond := u_ws RX12 TX12 0
theorem nmX12 : ∀ a, a < 0 → ∀ b, b < 0 → a ≠ b → (TX12 a).2.1 ≠ (TX12 b).2.1 := by decide +kernel
theorem tyX12_ok : ∀ k, k < 0 → parseFieldDescriptor (TX12 k).2.2.1 = some (tyX12 k) := by decide +kernel
def RJ6 : String := "java/lang/Integer"
def TJ6 : u_T := fun k => match k with
  | _ => ("", "", "", false)
def tyJ6 : Nat → FieldType := fun k => match k with
  | _ => .int
abbrev wsJ60 : List Cond := u_ws RJ6 TJ6 0
theorem nmJ6 : ∀ a, a < 0 → ∀ b, b < 0 → a ≠ b → (TJ6 a).2.1 ≠ (TJ6 b).2.1 := by decide +kernel
theorem tyJ6_ok : ∀ k, k < 0 → parseFieldDescriptor (TJ6 k).2.2.1 = some (tyJ6 k) := by decide +kernel
abbrev cJ6_numberOfTrailingZeros_0f7a4 : ByteArray := prog_15_method_48_code
def yJ6_numberOfTrailingZeros_0f7a4 : MethodName := ⟨RJ6, "numberOfTrailingZeros", "(I)I"⟩
abbrev cJ6_bitCount_0f7a4 : ByteArray := prog_15_method_49_code
def yJ6_bitCount_0f7a4 : MethodName := ⟨RJ6, "bitCount", "(I)I"⟩
def RJ10 : String := "java/lang/System"
def TJ10 : u_T := fun k => match k with
  | _ => ("", "", "", false)
def tyJ10 : Nat → FieldType := fun k => match k with
  | _ => .int
abbrev wsJ100 : List Cond := u_ws RJ10 TJ10 0
theorem nmJ10 : ∀ a, a < 0 → ∀ b, b < 0 → a ≠ b → (TJ10 a).2.1 ≠ (TJ10 b).2.1 := by decide +kernel
theorem tyJ10_ok : ∀ k, k < 0 → parseFieldDescriptor (TJ10 k).2.2.1 = some (tyJ10 k) := by decide +kernel
def RJ7 : String := "java/util/Arrays"
def TJ7 : u_T := fun k => match k with
  | _ => ("", "", "", false)
def tyJ7 : Nat → FieldType := fun k => match k with
  | _ => .int
abbrev wsJ70 : List Cond := u_ws RJ7 TJ7 0
theorem nmJ7 : ∀ a, a < 0 → ∀ b, b < 0 → a ≠ b → (TJ7 a).2.1 ≠ (TJ7 b).2.1 := by decide +kernel
theorem tyJ7_ok : ∀ k, k < 0 → parseFieldDescriptor (TJ7 k).2.2.1 = some (tyJ7 k) := by decide +kernel
abbrev cJ7_fill_53178 : ByteArray := prog_17_method_103_code
def yJ7_fill_53178 : MethodName := ⟨RJ7, "fill", "([II)V"⟩
def RL : String := "LoveLocksLaw"
abbrev cL_cell : ByteArray := method_2_code
def yL_cell : MethodName := ⟨RL, "cell", "([II)I"⟩
abbrev cL_size : ByteArray := method_3_code
def yL_size : MethodName := ⟨RL, "size", "(I)I"⟩
abbrev cL_lays : ByteArray := method_4_code
def yL_lays : MethodName := ⟨RL, "lays", "(LLoveLocks;[II[I)I"⟩
abbrev cL_under : ByteArray := method_5_code
def yL_under : MethodName := ⟨RL, "under", "([IIII)I"⟩
abbrev cL_weigh : ByteArray := method_6_code
def yL_weigh : MethodName := ⟨RL, "weigh", "([III)I"⟩
abbrev cL_hung : ByteArray := method_7_code
def yL_hung : MethodName := ⟨RL, "hung", "([IIIII)I"⟩
abbrev cL_law : ByteArray := code
def yL_law : MethodName := ⟨RL, "law", "([I)Z"⟩
abbrev vwCl : List vw_C := [(RX0, TX0, 4), (RX1, TX1, 3), (RX2, TX2, 5), (RX3, TX3, 9), (RX4, TX4, 12), (RX5, TX5, 8), (RX6, TX6, 1), (RX7, TX7, 3), (RX8, TX8, 4), (RX9, TX9, 5), (RX10, TX10, 4), (RX11, TX11, 8)]
