theorem n_norm {E : ZE} {l : Launch} {base d mc ms : Nat} {own : String} {B : ByteArray} {mL : Nat} {nm : String} {ws1 : va_W} {sz1 : Nat} {lv : List (Nat × Value)} {st : List Value} {ws : va_W} {sz cells slots : Nat} {pc : Nat} (ws' : va_W) (sz' : Nat) (h : ws = ws') (h2 : sz = sz') (k : zNA E l base d mc ms own B mL nm ws1 sz1 pc lv st ws' sz' cells slots) : zNA E l base d mc ms own B mL nm ws1 sz1 pc lv st ws sz cells slots := by subst h; subst h2; exact k
def z_fill (n : Nat) (v : Int32) (f : Nat → Int32) : Nat → Int32 := fun j => if j < n then v else f j
theorem zcb_24 : (Int8.ofInt (24)).toInt32 = ((24 : Int32)) := by decide
theorem zcs_9999 : (Int16.ofInt (9999)).toInt32 = ((9999 : Int32)) := by decide
theorem zd_X0_init : yX0_init.cls ≠ "java/lang/invoke/MethodHandle" ∧ yX0_init.cls ≠ "java/lang/invoke/VarHandle" ∧ (parseMethodDescriptor yX0_init.desc).map (fun d => d.parameters.length) = some 0 := by decide +kernel
theorem zd_X10_init : yX10_init.cls ≠ "java/lang/invoke/MethodHandle" ∧ yX10_init.cls ≠ "java/lang/invoke/VarHandle" ∧ (parseMethodDescriptor yX10_init.desc).map (fun d => d.parameters.length) = some 0 := by decide +kernel
theorem zd_X1_init : yX1_init.cls ≠ "java/lang/invoke/MethodHandle" ∧ yX1_init.cls ≠ "java/lang/invoke/VarHandle" ∧ (parseMethodDescriptor yX1_init.desc).map (fun d => d.parameters.length) = some 0 := by decide +kernel
theorem zd_X2_init : yX2_init.cls ≠ "java/lang/invoke/MethodHandle" ∧ yX2_init.cls ≠ "java/lang/invoke/VarHandle" ∧ (parseMethodDescriptor yX2_init.desc).map (fun d => d.parameters.length) = some 0 := by decide +kernel
theorem zd_X3_init : yX3_init.cls ≠ "java/lang/invoke/MethodHandle" ∧ yX3_init.cls ≠ "java/lang/invoke/VarHandle" ∧ (parseMethodDescriptor yX3_init.desc).map (fun d => d.parameters.length) = some 0 := by decide +kernel
theorem zd_X4_init : yX4_init.cls ≠ "java/lang/invoke/MethodHandle" ∧ yX4_init.cls ≠ "java/lang/invoke/VarHandle" ∧ (parseMethodDescriptor yX4_init.desc).map (fun d => d.parameters.length) = some 0 := by decide +kernel
theorem zd_X5_init : yX5_init.cls ≠ "java/lang/invoke/MethodHandle" ∧ yX5_init.cls ≠ "java/lang/invoke/VarHandle" ∧ (parseMethodDescriptor yX5_init.desc).map (fun d => d.parameters.length) = some 0 := by decide +kernel
theorem zd_X6_init : yX6_init.cls ≠ "java/lang/invoke/MethodHandle" ∧ yX6_init.cls ≠ "java/lang/invoke/VarHandle" ∧ (parseMethodDescriptor yX6_init.desc).map (fun d => d.parameters.length) = some 0 := by decide +kernel
theorem zd_X7_init : yX7_init.cls ≠ "java/lang/invoke/MethodHandle" ∧ yX7_init.cls ≠ "java/lang/invoke/VarHandle" ∧ (parseMethodDescriptor yX7_init.desc).map (fun d => d.parameters.length) = some 0 := by decide +kernel
theorem zd_X8_init : yX8_init.cls ≠ "java/lang/invoke/MethodHandle" ∧ yX8_init.cls ≠ "java/lang/invoke/VarHandle" ∧ (parseMethodDescriptor yX8_init.desc).map (fun d => d.parameters.length) = some 0 := by decide +kernel
theorem zd_X9_init : yX9_init.cls ≠ "java/lang/invoke/MethodHandle" ∧ yX9_init.cls ≠ "java/lang/invoke/VarHandle" ∧ (parseMethodDescriptor yX9_init.desc).map (fun d => d.parameters.length) = some 0 := by decide +kernel
set_option maxHeartbeats 4000000 in
set_option maxRecDepth 100000 in
theorem k_fill (E : ZE) (l : Launch) (base d : Nat) (hd : 1 ≤ d) (P S : va_W) (h n : Nat) (hn : n < 1000) (v : Int32) (f : Nat → Int32) (sz : Nat) : zI E l base d 0 0 yJ7_fill_53178 cJ7_fill_53178 4 [.ref h, .int v] (P ++ ((h, .inl (E.2.2.2.1, n, .inl f)) :: S)) sz (P ++ ((h, .inl (E.2.2.2.1, n, .inl (z_fill n v f))) :: S)) sz := by
  refine zI.of [(0, .ref h), (1, .int v)] (by decide) (Nat.le_of_ble_eq_true rfl) rfl ?_
  have main : ∀ (k i : Nat) (g : Nat → Int32), i + k = n → (∀ j, g j = if j < i then v else f j) → zNA E l base d 0 0 "java/util/Arrays" cJ7_fill_53178 4 "fill" (P ++ ((h, .inl (E.2.2.2.1, n, .inl (z_fill n v f))) :: S)) sz 5 [(3, .int (nI n)), (2, .int (nI i)), (0, .ref h), (1, .int v)] [] (P ++ ((h, .inl (E.2.2.2.1, n, .inl g)) :: S)) sz 0 0 := by
    intro k
    induction k with
    | zero =>
      intro i g hi hg
      have e : i = n := by omega
      subst e
      have eg : g = z_fill i v f := by funext j; rw [hg]; rfl
      subst eg
      refine n_iload_n 6 dJ7_fill_53178_5 rfl 1 rfl rfl ?_
      refine n_iload_n 7 dJ7_fill_53178_6 rfl 0 rfl rfl ?_
      refine n_icmp_ge_y 20 dJ7_fill_53178_7 (by decide) (nI_le (Nat.le_refl _) (by omega)) ?_
      exact n_ret dJ7_fill_53178_20 (Nat.le_refl _) (Nat.le_refl _) rfl rfl
    | succ k ih =>
      intro i g hi hg
      refine n_iload_n 6 dJ7_fill_53178_5 rfl 1 rfl rfl ?_
      refine n_iload_n 7 dJ7_fill_53178_6 rfl 0 rfl rfl ?_
      refine n_icmp_ge_n 10 20 dJ7_fill_53178_7 (by decide) rfl (nI_ge (by omega) (by omega)) ?_
      refine n_aload_n 11 dJ7_fill_53178_10 rfl 2 rfl rfl ?_
      refine n_iload_n 12 dJ7_fill_53178_11 rfl 1 rfl rfl ?_
      refine n_iload_n 13 dJ7_fill_53178_12 rfl 3 rfl rfl ?_
      refine n_iast 14 0 ((h, .inl (E.2.2.2.1, n, .inl (upd g (nI i).toNatClampNeg v))) :: S) dJ7_fill_53178_13 rfl rfl ?_ rfl ?_
      · unfold z_in
        rw [nI_clamp (by omega)]
        simp only [Bool.and_eq_true, Bool.not_eq_true', decide_eq_false_iff_not, decide_eq_true_eq]
        exact ⟨nI_pos (by omega), by omega⟩
      · refine n_iinc 17 1 [(2, .int (nI (i + 1))), (3, .int (nI n)), (0, .ref h), (1, .int v)] dJ7_fill_53178_14 rfl rfl (nI_1 i) (by decide) rfl ?_
        refine n_goto 5 dJ7_fill_53178_17 (by decide) ?_
        have h2 := ih (i + 1) (upd g (nI i).toNatClampNeg v) (by omega) (fun j => by
          rw [nI_clamp (by omega)]
          unfold upd
          rw [hg]
          by_cases e1 : j = i
          · subst e1; simp
          · by_cases e2 : j < i
            · simp [e1, e2, show j < i + 1 by omega]
            · simp [e1, e2, show ¬ j < i + 1 by omega])
        intro p e s m args below meth c H locs ls C hl
        exact h2 p e s m args below meth c H locs ls C (lv_sub hl [1, 0, 2, 3] rfl)
  show zNA E l base d 0 0 "java/util/Arrays" cJ7_fill_53178 4 "fill" (P ++ ((h, .inl (E.2.2.2.1, n, .inl (z_fill n v f))) :: S)) sz 0 [(0, .ref h), (1, .int v)] [] (P ++ ((h, .inl (E.2.2.2.1, n, .inl f)) :: S)) sz 0 0
  refine n_iconst 1 dJ7_fill_53178_0 rfl zci_0 ?_
  refine n_istore_n 2 [(2, .int (nI 0)), (0, .ref h), (1, .int v)] dJ7_fill_53178_1 rfl rfl (by decide) rfl ?_
  refine n_aload_n 3 dJ7_fill_53178_2 rfl 1 rfl rfl ?_
  refine n_alen 4 0 dJ7_fill_53178_3 rfl rfl (x := nI n) rfl ?_
  refine n_istore_n 5 [(3, .int (nI n)), (2, .int (nI 0)), (0, .ref h), (1, .int v)] dJ7_fill_53178_4 rfl rfl (by decide) rfl ?_
  exact main n 0 f (by omega) (fun j => by simp)

def tX4 (E : ZE) (a : Nat) : va_W := ((a, .inr (4, [.int 0, .ref (a + 1), .ref (a + 2), .ref (a + 3), .int 0, .int 0, .ref (a + 4), .ref (a + 5), .ref (a + 6), .ref (a + 7), .ref (a + 8), .ref (a + 9)])) :: ([(a + 1, .inl (E.2.2.2.1, 6, .inl (fun _ => 0))), (a + 2, .inl (E.2.2.2.1, 6, .inl (fun _ => 0))), (a + 3, .inl (E.2.2.2.1, 6, .inl (fun _ => 0))), (a + 4, .inl (E.2.2.2.1, 14, .inl (fun _ => 0))), (a + 5, .inl (E.2.2.2.1, 14, .inl (fun _ => 0))), (a + 6, .inl (E.2.2.2.1, 14, .inl (fun _ => 0))), (a + 7, .inl (E.2.2.2.1, 14, .inl (fun _ => 0))), (a + 8, .inl (E.2.2.2.1, 14, .inl (fun _ => 0))), (a + 9, .inl (E.2.2.2.1, 14, .inl (fun _ => 0)))] : va_W))
set_option maxHeartbeats 4000000 in
set_option maxRecDepth 100000 in
theorem k_X4 (E : ZE) (l : Launch) (base d : Nat) (hd : 2 ≤ d) (P : va_W) (a : Nat) : zI E l base d 9 102 yX4_init cX4_init 1 [.ref a] (P ++ [(a, .inr (4, [.int 0, .null, .null, .null, .int 0, .int 0, .null, .null, .null, .null, .null, .null]))]) (a + 1) (P ++ tX4 E a) (a + 10) := by
  refine zI.of [(0, .ref a)] (by decide) (Nat.le_of_ble_eq_true rfl) rfl ?_
  show zNA E l base d 9 102 "LoveLocks$Rail" cX4_init 1 "<init>" (P ++ tX4 E a) (a + 10) 0 [(0, .ref a)] [] (P ++ ((a, .inr (4, [.int 0, .null, .null, .null, .int 0, .int 0, .null, .null, .null, .null, .null, .null])) :: [])) (a + 1) 0 0
  refine n_aload_n 1 dX4_init_0 rfl 0 rfl rfl ?_
  refine n_obji 4 dX4_init_1 rfl wl_X4_3 wi_objinit wc_objinit (by omega) (Nat.le_of_ble_eq_true rfl) ?_
  refine n_aload_n 5 dX4_init_4 rfl 0 rfl rfl ?_
  refine n_bipush 7 dX4_init_5 rfl zcb_6 ?_
  refine n_newa_I 9 dX4_init_7 rfl (by decide) (by decide : _ = 6) wa_int (Nat.le_of_ble_eq_true rfl) (Nat.le_of_ble_eq_true rfl) (Nat.le_of_ble_eq_true rfl) ?_
  refine n_norm (P ++ ((a, .inr (4, [.int 0, .null, .null, .null, .int 0, .int 0, .null, .null, .null, .null, .null, .null])) :: ([(a + 1, .inl (E.2.2.2.1, 6, .inl (fun _ => 0)))] : va_W))) (a + 2) (List.append_assoc _ _ _) rfl ?_
  refine n_putF 12 0 1 ((a, .inr (4, [.int 0, .ref (a + 1), .null, .null, .int 0, .int 0, .null, .null, .null, .null, .null, .null])) :: ([(a + 1, .inl (E.2.2.2.1, 6, .inl (fun _ => 0)))] : va_W)) dX4_init_9 rfl rfl (ci := 4) rfl inz4 tyX4_ok nmX4 (by decide) wf_X4_9 rfl rfl rfl rfl rfl rfl (Nat.le_of_ble_eq_true rfl) rfl ?_
  refine n_aload_n 13 dX4_init_12 rfl 0 rfl rfl ?_
  refine n_bipush 15 dX4_init_13 rfl zcb_6 ?_
  refine n_newa_I 17 dX4_init_15 rfl (by decide) (by decide : _ = 6) wa_int (Nat.le_of_ble_eq_true rfl) (Nat.le_of_ble_eq_true rfl) (Nat.le_of_ble_eq_true rfl) ?_
  refine n_norm (P ++ ((a, .inr (4, [.int 0, .ref (a + 1), .null, .null, .int 0, .int 0, .null, .null, .null, .null, .null, .null])) :: ([(a + 1, .inl (E.2.2.2.1, 6, .inl (fun _ => 0))), (a + 2, .inl (E.2.2.2.1, 6, .inl (fun _ => 0)))] : va_W))) (a + 3) (List.append_assoc _ _ _) rfl ?_
  refine n_putF 20 0 2 ((a, .inr (4, [.int 0, .ref (a + 1), .ref (a + 2), .null, .int 0, .int 0, .null, .null, .null, .null, .null, .null])) :: ([(a + 1, .inl (E.2.2.2.1, 6, .inl (fun _ => 0))), (a + 2, .inl (E.2.2.2.1, 6, .inl (fun _ => 0)))] : va_W)) dX4_init_17 rfl rfl (ci := 4) rfl inz4 tyX4_ok nmX4 (by decide) wf_X4_15 rfl rfl rfl rfl rfl rfl (Nat.le_of_ble_eq_true rfl) rfl ?_
  refine n_aload_n 21 dX4_init_20 rfl 0 rfl rfl ?_
  refine n_bipush 23 dX4_init_21 rfl zcb_6 ?_
  refine n_newa_I 25 dX4_init_23 rfl (by decide) (by decide : _ = 6) wa_int (Nat.le_of_ble_eq_true rfl) (Nat.le_of_ble_eq_true rfl) (Nat.le_of_ble_eq_true rfl) ?_
  refine n_norm (P ++ ((a, .inr (4, [.int 0, .ref (a + 1), .ref (a + 2), .null, .int 0, .int 0, .null, .null, .null, .null, .null, .null])) :: ([(a + 1, .inl (E.2.2.2.1, 6, .inl (fun _ => 0))), (a + 2, .inl (E.2.2.2.1, 6, .inl (fun _ => 0))), (a + 3, .inl (E.2.2.2.1, 6, .inl (fun _ => 0)))] : va_W))) (a + 4) (List.append_assoc _ _ _) rfl ?_
  refine n_putF 28 0 3 ((a, .inr (4, [.int 0, .ref (a + 1), .ref (a + 2), .ref (a + 3), .int 0, .int 0, .null, .null, .null, .null, .null, .null])) :: ([(a + 1, .inl (E.2.2.2.1, 6, .inl (fun _ => 0))), (a + 2, .inl (E.2.2.2.1, 6, .inl (fun _ => 0))), (a + 3, .inl (E.2.2.2.1, 6, .inl (fun _ => 0)))] : va_W)) dX4_init_25 rfl rfl (ci := 4) rfl inz4 tyX4_ok nmX4 (by decide) wf_X4_18 rfl rfl rfl rfl rfl rfl (Nat.le_of_ble_eq_true rfl) rfl ?_
  refine n_aload_n 29 dX4_init_28 rfl 0 rfl rfl ?_
  refine n_bipush 31 dX4_init_29 rfl zcb_14 ?_
  refine n_newa_I 33 dX4_init_31 rfl (by decide) (by decide : _ = 14) wa_int (Nat.le_of_ble_eq_true rfl) (Nat.le_of_ble_eq_true rfl) (Nat.le_of_ble_eq_true rfl) ?_
  refine n_norm (P ++ ((a, .inr (4, [.int 0, .ref (a + 1), .ref (a + 2), .ref (a + 3), .int 0, .int 0, .null, .null, .null, .null, .null, .null])) :: ([(a + 1, .inl (E.2.2.2.1, 6, .inl (fun _ => 0))), (a + 2, .inl (E.2.2.2.1, 6, .inl (fun _ => 0))), (a + 3, .inl (E.2.2.2.1, 6, .inl (fun _ => 0))), (a + 4, .inl (E.2.2.2.1, 14, .inl (fun _ => 0)))] : va_W))) (a + 5) (List.append_assoc _ _ _) rfl ?_
  refine n_putF 36 0 6 ((a, .inr (4, [.int 0, .ref (a + 1), .ref (a + 2), .ref (a + 3), .int 0, .int 0, .ref (a + 4), .null, .null, .null, .null, .null])) :: ([(a + 1, .inl (E.2.2.2.1, 6, .inl (fun _ => 0))), (a + 2, .inl (E.2.2.2.1, 6, .inl (fun _ => 0))), (a + 3, .inl (E.2.2.2.1, 6, .inl (fun _ => 0))), (a + 4, .inl (E.2.2.2.1, 14, .inl (fun _ => 0)))] : va_W)) dX4_init_33 rfl rfl (ci := 4) rfl inz4 tyX4_ok nmX4 (by decide) wf_X4_21 rfl rfl rfl rfl rfl rfl (Nat.le_of_ble_eq_true rfl) rfl ?_
  refine n_aload_n 37 dX4_init_36 rfl 0 rfl rfl ?_
  refine n_bipush 39 dX4_init_37 rfl zcb_14 ?_
  refine n_newa_I 41 dX4_init_39 rfl (by decide) (by decide : _ = 14) wa_int (Nat.le_of_ble_eq_true rfl) (Nat.le_of_ble_eq_true rfl) (Nat.le_of_ble_eq_true rfl) ?_
  refine n_norm (P ++ ((a, .inr (4, [.int 0, .ref (a + 1), .ref (a + 2), .ref (a + 3), .int 0, .int 0, .ref (a + 4), .null, .null, .null, .null, .null])) :: ([(a + 1, .inl (E.2.2.2.1, 6, .inl (fun _ => 0))), (a + 2, .inl (E.2.2.2.1, 6, .inl (fun _ => 0))), (a + 3, .inl (E.2.2.2.1, 6, .inl (fun _ => 0))), (a + 4, .inl (E.2.2.2.1, 14, .inl (fun _ => 0))), (a + 5, .inl (E.2.2.2.1, 14, .inl (fun _ => 0)))] : va_W))) (a + 6) (List.append_assoc _ _ _) rfl ?_
  refine n_putF 44 0 7 ((a, .inr (4, [.int 0, .ref (a + 1), .ref (a + 2), .ref (a + 3), .int 0, .int 0, .ref (a + 4), .ref (a + 5), .null, .null, .null, .null])) :: ([(a + 1, .inl (E.2.2.2.1, 6, .inl (fun _ => 0))), (a + 2, .inl (E.2.2.2.1, 6, .inl (fun _ => 0))), (a + 3, .inl (E.2.2.2.1, 6, .inl (fun _ => 0))), (a + 4, .inl (E.2.2.2.1, 14, .inl (fun _ => 0))), (a + 5, .inl (E.2.2.2.1, 14, .inl (fun _ => 0)))] : va_W)) dX4_init_41 rfl rfl (ci := 4) rfl inz4 tyX4_ok nmX4 (by decide) wf_X4_24 rfl rfl rfl rfl rfl rfl (Nat.le_of_ble_eq_true rfl) rfl ?_
  refine n_aload_n 45 dX4_init_44 rfl 0 rfl rfl ?_
  refine n_bipush 47 dX4_init_45 rfl zcb_14 ?_
  refine n_newa_I 49 dX4_init_47 rfl (by decide) (by decide : _ = 14) wa_int (Nat.le_of_ble_eq_true rfl) (Nat.le_of_ble_eq_true rfl) (Nat.le_of_ble_eq_true rfl) ?_
  refine n_norm (P ++ ((a, .inr (4, [.int 0, .ref (a + 1), .ref (a + 2), .ref (a + 3), .int 0, .int 0, .ref (a + 4), .ref (a + 5), .null, .null, .null, .null])) :: ([(a + 1, .inl (E.2.2.2.1, 6, .inl (fun _ => 0))), (a + 2, .inl (E.2.2.2.1, 6, .inl (fun _ => 0))), (a + 3, .inl (E.2.2.2.1, 6, .inl (fun _ => 0))), (a + 4, .inl (E.2.2.2.1, 14, .inl (fun _ => 0))), (a + 5, .inl (E.2.2.2.1, 14, .inl (fun _ => 0))), (a + 6, .inl (E.2.2.2.1, 14, .inl (fun _ => 0)))] : va_W))) (a + 7) (List.append_assoc _ _ _) rfl ?_
  refine n_putF 52 0 8 ((a, .inr (4, [.int 0, .ref (a + 1), .ref (a + 2), .ref (a + 3), .int 0, .int 0, .ref (a + 4), .ref (a + 5), .ref (a + 6), .null, .null, .null])) :: ([(a + 1, .inl (E.2.2.2.1, 6, .inl (fun _ => 0))), (a + 2, .inl (E.2.2.2.1, 6, .inl (fun _ => 0))), (a + 3, .inl (E.2.2.2.1, 6, .inl (fun _ => 0))), (a + 4, .inl (E.2.2.2.1, 14, .inl (fun _ => 0))), (a + 5, .inl (E.2.2.2.1, 14, .inl (fun _ => 0))), (a + 6, .inl (E.2.2.2.1, 14, .inl (fun _ => 0)))] : va_W)) dX4_init_49 rfl rfl (ci := 4) rfl inz4 tyX4_ok nmX4 (by decide) wf_X4_27 rfl rfl rfl rfl rfl rfl (Nat.le_of_ble_eq_true rfl) rfl ?_
  refine n_aload_n 53 dX4_init_52 rfl 0 rfl rfl ?_
  refine n_bipush 55 dX4_init_53 rfl zcb_14 ?_
  refine n_newa_I 57 dX4_init_55 rfl (by decide) (by decide : _ = 14) wa_int (Nat.le_of_ble_eq_true rfl) (Nat.le_of_ble_eq_true rfl) (Nat.le_of_ble_eq_true rfl) ?_
  refine n_norm (P ++ ((a, .inr (4, [.int 0, .ref (a + 1), .ref (a + 2), .ref (a + 3), .int 0, .int 0, .ref (a + 4), .ref (a + 5), .ref (a + 6), .null, .null, .null])) :: ([(a + 1, .inl (E.2.2.2.1, 6, .inl (fun _ => 0))), (a + 2, .inl (E.2.2.2.1, 6, .inl (fun _ => 0))), (a + 3, .inl (E.2.2.2.1, 6, .inl (fun _ => 0))), (a + 4, .inl (E.2.2.2.1, 14, .inl (fun _ => 0))), (a + 5, .inl (E.2.2.2.1, 14, .inl (fun _ => 0))), (a + 6, .inl (E.2.2.2.1, 14, .inl (fun _ => 0))), (a + 7, .inl (E.2.2.2.1, 14, .inl (fun _ => 0)))] : va_W))) (a + 8) (List.append_assoc _ _ _) rfl ?_
  refine n_putF 60 0 9 ((a, .inr (4, [.int 0, .ref (a + 1), .ref (a + 2), .ref (a + 3), .int 0, .int 0, .ref (a + 4), .ref (a + 5), .ref (a + 6), .ref (a + 7), .null, .null])) :: ([(a + 1, .inl (E.2.2.2.1, 6, .inl (fun _ => 0))), (a + 2, .inl (E.2.2.2.1, 6, .inl (fun _ => 0))), (a + 3, .inl (E.2.2.2.1, 6, .inl (fun _ => 0))), (a + 4, .inl (E.2.2.2.1, 14, .inl (fun _ => 0))), (a + 5, .inl (E.2.2.2.1, 14, .inl (fun _ => 0))), (a + 6, .inl (E.2.2.2.1, 14, .inl (fun _ => 0))), (a + 7, .inl (E.2.2.2.1, 14, .inl (fun _ => 0)))] : va_W)) dX4_init_57 rfl rfl (ci := 4) rfl inz4 tyX4_ok nmX4 (by decide) wf_X4_30 rfl rfl rfl rfl rfl rfl (Nat.le_of_ble_eq_true rfl) rfl ?_
  refine n_aload_n 61 dX4_init_60 rfl 0 rfl rfl ?_
  refine n_bipush 63 dX4_init_61 rfl zcb_14 ?_
  refine n_newa_I 65 dX4_init_63 rfl (by decide) (by decide : _ = 14) wa_int (Nat.le_of_ble_eq_true rfl) (Nat.le_of_ble_eq_true rfl) (Nat.le_of_ble_eq_true rfl) ?_
  refine n_norm (P ++ ((a, .inr (4, [.int 0, .ref (a + 1), .ref (a + 2), .ref (a + 3), .int 0, .int 0, .ref (a + 4), .ref (a + 5), .ref (a + 6), .ref (a + 7), .null, .null])) :: ([(a + 1, .inl (E.2.2.2.1, 6, .inl (fun _ => 0))), (a + 2, .inl (E.2.2.2.1, 6, .inl (fun _ => 0))), (a + 3, .inl (E.2.2.2.1, 6, .inl (fun _ => 0))), (a + 4, .inl (E.2.2.2.1, 14, .inl (fun _ => 0))), (a + 5, .inl (E.2.2.2.1, 14, .inl (fun _ => 0))), (a + 6, .inl (E.2.2.2.1, 14, .inl (fun _ => 0))), (a + 7, .inl (E.2.2.2.1, 14, .inl (fun _ => 0))), (a + 8, .inl (E.2.2.2.1, 14, .inl (fun _ => 0)))] : va_W))) (a + 9) (List.append_assoc _ _ _) rfl ?_
  refine n_putF 68 0 10 ((a, .inr (4, [.int 0, .ref (a + 1), .ref (a + 2), .ref (a + 3), .int 0, .int 0, .ref (a + 4), .ref (a + 5), .ref (a + 6), .ref (a + 7), .ref (a + 8), .null])) :: ([(a + 1, .inl (E.2.2.2.1, 6, .inl (fun _ => 0))), (a + 2, .inl (E.2.2.2.1, 6, .inl (fun _ => 0))), (a + 3, .inl (E.2.2.2.1, 6, .inl (fun _ => 0))), (a + 4, .inl (E.2.2.2.1, 14, .inl (fun _ => 0))), (a + 5, .inl (E.2.2.2.1, 14, .inl (fun _ => 0))), (a + 6, .inl (E.2.2.2.1, 14, .inl (fun _ => 0))), (a + 7, .inl (E.2.2.2.1, 14, .inl (fun _ => 0))), (a + 8, .inl (E.2.2.2.1, 14, .inl (fun _ => 0)))] : va_W)) dX4_init_65 rfl rfl (ci := 4) rfl inz4 tyX4_ok nmX4 (by decide) wf_X4_33 rfl rfl rfl rfl rfl rfl (Nat.le_of_ble_eq_true rfl) rfl ?_
  refine n_aload_n 69 dX4_init_68 rfl 0 rfl rfl ?_
  refine n_bipush 71 dX4_init_69 rfl zcb_14 ?_
  refine n_newa_I 73 dX4_init_71 rfl (by decide) (by decide : _ = 14) wa_int (Nat.le_of_ble_eq_true rfl) (Nat.le_of_ble_eq_true rfl) (Nat.le_of_ble_eq_true rfl) ?_
  refine n_norm (P ++ ((a, .inr (4, [.int 0, .ref (a + 1), .ref (a + 2), .ref (a + 3), .int 0, .int 0, .ref (a + 4), .ref (a + 5), .ref (a + 6), .ref (a + 7), .ref (a + 8), .null])) :: ([(a + 1, .inl (E.2.2.2.1, 6, .inl (fun _ => 0))), (a + 2, .inl (E.2.2.2.1, 6, .inl (fun _ => 0))), (a + 3, .inl (E.2.2.2.1, 6, .inl (fun _ => 0))), (a + 4, .inl (E.2.2.2.1, 14, .inl (fun _ => 0))), (a + 5, .inl (E.2.2.2.1, 14, .inl (fun _ => 0))), (a + 6, .inl (E.2.2.2.1, 14, .inl (fun _ => 0))), (a + 7, .inl (E.2.2.2.1, 14, .inl (fun _ => 0))), (a + 8, .inl (E.2.2.2.1, 14, .inl (fun _ => 0))), (a + 9, .inl (E.2.2.2.1, 14, .inl (fun _ => 0)))] : va_W))) (a + 10) (List.append_assoc _ _ _) rfl ?_
  refine n_putF 76 0 11 ((a, .inr (4, [.int 0, .ref (a + 1), .ref (a + 2), .ref (a + 3), .int 0, .int 0, .ref (a + 4), .ref (a + 5), .ref (a + 6), .ref (a + 7), .ref (a + 8), .ref (a + 9)])) :: ([(a + 1, .inl (E.2.2.2.1, 6, .inl (fun _ => 0))), (a + 2, .inl (E.2.2.2.1, 6, .inl (fun _ => 0))), (a + 3, .inl (E.2.2.2.1, 6, .inl (fun _ => 0))), (a + 4, .inl (E.2.2.2.1, 14, .inl (fun _ => 0))), (a + 5, .inl (E.2.2.2.1, 14, .inl (fun _ => 0))), (a + 6, .inl (E.2.2.2.1, 14, .inl (fun _ => 0))), (a + 7, .inl (E.2.2.2.1, 14, .inl (fun _ => 0))), (a + 8, .inl (E.2.2.2.1, 14, .inl (fun _ => 0))), (a + 9, .inl (E.2.2.2.1, 14, .inl (fun _ => 0)))] : va_W)) dX4_init_73 rfl rfl (ci := 4) rfl inz4 tyX4_ok nmX4 (by decide) wf_X4_36 rfl rfl rfl rfl rfl rfl (Nat.le_of_ble_eq_true rfl) rfl ?_
  exact n_ret dX4_init_76 (Nat.le_of_ble_eq_true rfl) (Nat.le_of_ble_eq_true rfl) rfl rfl
def tX8 (E : ZE) (a : Nat) : va_W := ((a, .inr (8, [.int 0, .ref (a + 1), .ref (a + 2), .ref (a + 3)])) :: ([(a + 1, .inl (E.2.2.2.1, 6, .inl (fun _ => 0))), (a + 2, .inl (E.2.2.2.1, 6, .inl (fun _ => 0))), (a + 3, .inl (E.2.2.2.1, 6, .inl (fun _ => 0)))] : va_W))
set_option maxHeartbeats 4000000 in
set_option maxRecDepth 100000 in
theorem k_X8 (E : ZE) (l : Launch) (base d : Nat) (hd : 2 ≤ d) (P : va_W) (a : Nat) : zI E l base d 3 18 yX8_init cX8_init 1 [.ref a] (P ++ [(a, .inr (8, [.int 0, .null, .null, .null]))]) (a + 1) (P ++ tX8 E a) (a + 4) := by
  refine zI.of [(0, .ref a)] (by decide) (Nat.le_of_ble_eq_true rfl) rfl ?_
  show zNA E l base d 3 18 "LoveLocks$Sights" cX8_init 1 "<init>" (P ++ tX8 E a) (a + 4) 0 [(0, .ref a)] [] (P ++ ((a, .inr (8, [.int 0, .null, .null, .null])) :: [])) (a + 1) 0 0
  refine n_aload_n 1 dX8_init_0 rfl 0 rfl rfl ?_
  refine n_obji 4 dX8_init_1 rfl wl_X8_3 wi_objinit wc_objinit (by omega) (Nat.le_of_ble_eq_true rfl) ?_
  refine n_aload_n 5 dX8_init_4 rfl 0 rfl rfl ?_
  refine n_bipush 7 dX8_init_5 rfl zcb_6 ?_
  refine n_newa_I 9 dX8_init_7 rfl (by decide) (by decide : _ = 6) wa_int (Nat.le_of_ble_eq_true rfl) (Nat.le_of_ble_eq_true rfl) (Nat.le_of_ble_eq_true rfl) ?_
  refine n_norm (P ++ ((a, .inr (8, [.int 0, .null, .null, .null])) :: ([(a + 1, .inl (E.2.2.2.1, 6, .inl (fun _ => 0)))] : va_W))) (a + 2) (List.append_assoc _ _ _) rfl ?_
  refine n_putF 12 0 1 ((a, .inr (8, [.int 0, .ref (a + 1), .null, .null])) :: ([(a + 1, .inl (E.2.2.2.1, 6, .inl (fun _ => 0)))] : va_W)) dX8_init_9 rfl rfl (ci := 8) rfl inz8 tyX8_ok nmX8 (by decide) wf_X8_9 rfl rfl rfl rfl rfl rfl (Nat.le_of_ble_eq_true rfl) rfl ?_
  refine n_aload_n 13 dX8_init_12 rfl 0 rfl rfl ?_
  refine n_bipush 15 dX8_init_13 rfl zcb_6 ?_
  refine n_newa_I 17 dX8_init_15 rfl (by decide) (by decide : _ = 6) wa_int (Nat.le_of_ble_eq_true rfl) (Nat.le_of_ble_eq_true rfl) (Nat.le_of_ble_eq_true rfl) ?_
  refine n_norm (P ++ ((a, .inr (8, [.int 0, .ref (a + 1), .null, .null])) :: ([(a + 1, .inl (E.2.2.2.1, 6, .inl (fun _ => 0))), (a + 2, .inl (E.2.2.2.1, 6, .inl (fun _ => 0)))] : va_W))) (a + 3) (List.append_assoc _ _ _) rfl ?_
  refine n_putF 20 0 2 ((a, .inr (8, [.int 0, .ref (a + 1), .ref (a + 2), .null])) :: ([(a + 1, .inl (E.2.2.2.1, 6, .inl (fun _ => 0))), (a + 2, .inl (E.2.2.2.1, 6, .inl (fun _ => 0)))] : va_W)) dX8_init_17 rfl rfl (ci := 8) rfl inz8 tyX8_ok nmX8 (by decide) wf_X8_15 rfl rfl rfl rfl rfl rfl (Nat.le_of_ble_eq_true rfl) rfl ?_
  refine n_aload_n 21 dX8_init_20 rfl 0 rfl rfl ?_
  refine n_bipush 23 dX8_init_21 rfl zcb_6 ?_
  refine n_newa_I 25 dX8_init_23 rfl (by decide) (by decide : _ = 6) wa_int (Nat.le_of_ble_eq_true rfl) (Nat.le_of_ble_eq_true rfl) (Nat.le_of_ble_eq_true rfl) ?_
  refine n_norm (P ++ ((a, .inr (8, [.int 0, .ref (a + 1), .ref (a + 2), .null])) :: ([(a + 1, .inl (E.2.2.2.1, 6, .inl (fun _ => 0))), (a + 2, .inl (E.2.2.2.1, 6, .inl (fun _ => 0))), (a + 3, .inl (E.2.2.2.1, 6, .inl (fun _ => 0)))] : va_W))) (a + 4) (List.append_assoc _ _ _) rfl ?_
  refine n_putF 28 0 3 ((a, .inr (8, [.int 0, .ref (a + 1), .ref (a + 2), .ref (a + 3)])) :: ([(a + 1, .inl (E.2.2.2.1, 6, .inl (fun _ => 0))), (a + 2, .inl (E.2.2.2.1, 6, .inl (fun _ => 0))), (a + 3, .inl (E.2.2.2.1, 6, .inl (fun _ => 0)))] : va_W)) dX8_init_25 rfl rfl (ci := 8) rfl inz8 tyX8_ok nmX8 (by decide) wf_X8_18 rfl rfl rfl rfl rfl rfl (Nat.le_of_ble_eq_true rfl) rfl ?_
  exact n_ret dX8_init_28 (Nat.le_of_ble_eq_true rfl) (Nat.le_of_ble_eq_true rfl) rfl rfl
def tX2 (E : ZE) (a : Nat) : va_W := ((a, .inr (2, [.int 0, .int 0, .ref (a + 1), .ref (a + 2), .ref (a + 3)])) :: ([(a + 1, .inl (E.2.2.2.2.1, 8, .inr (.inl (fun _ => 0)))), (a + 2, .inl (E.2.2.2.2.1, 14, .inr (.inl (fun _ => 0)))), (a + 3, .inl (E.2.2.2.2.1, 14, .inr (.inl (fun _ => 0))))] : va_W))
set_option maxHeartbeats 4000000 in
set_option maxRecDepth 100000 in
theorem k_X2 (E : ZE) (l : Launch) (base d : Nat) (hd : 2 ≤ d) (P : va_W) (a : Nat) : zI E l base d 3 36 yX2_init cX2_init 1 [.ref a] (P ++ [(a, .inr (2, [.int 0, .int 0, .null, .null, .null]))]) (a + 1) (P ++ tX2 E a) (a + 4) := by
  refine zI.of [(0, .ref a)] (by decide) (Nat.le_of_ble_eq_true rfl) rfl ?_
  show zNA E l base d 3 36 "LoveLocks$Names" cX2_init 1 "<init>" (P ++ tX2 E a) (a + 4) 0 [(0, .ref a)] [] (P ++ ((a, .inr (2, [.int 0, .int 0, .null, .null, .null])) :: [])) (a + 1) 0 0
  refine n_aload_n 1 dX2_init_0 rfl 0 rfl rfl ?_
  refine n_obji 4 dX2_init_1 rfl wl_X2_3 wi_objinit wc_objinit (by omega) (Nat.le_of_ble_eq_true rfl) ?_
  refine n_aload_n 5 dX2_init_4 rfl 0 rfl rfl ?_
  refine n_bipush 7 dX2_init_5 rfl zcb_8 ?_
  refine n_newa_J 9 dX2_init_7 rfl (by decide) (by decide : _ = 8) wa_long (Nat.le_of_ble_eq_true rfl) (Nat.le_of_ble_eq_true rfl) (Nat.le_of_ble_eq_true rfl) ?_
  refine n_norm (P ++ ((a, .inr (2, [.int 0, .int 0, .null, .null, .null])) :: ([(a + 1, .inl (E.2.2.2.2.1, 8, .inr (.inl (fun _ => 0))))] : va_W))) (a + 2) (List.append_assoc _ _ _) rfl ?_
  refine n_putF 12 0 2 ((a, .inr (2, [.int 0, .int 0, .ref (a + 1), .null, .null])) :: ([(a + 1, .inl (E.2.2.2.2.1, 8, .inr (.inl (fun _ => 0))))] : va_W)) dX2_init_9 rfl rfl (ci := 2) rfl inz2 tyX2_ok nmX2 (by decide) wf_X2_9 rfl rfl rfl rfl rfl rfl (Nat.le_of_ble_eq_true rfl) rfl ?_
  refine n_aload_n 13 dX2_init_12 rfl 0 rfl rfl ?_
  refine n_bipush 15 dX2_init_13 rfl zcb_14 ?_
  refine n_newa_J 17 dX2_init_15 rfl (by decide) (by decide : _ = 14) wa_long (Nat.le_of_ble_eq_true rfl) (Nat.le_of_ble_eq_true rfl) (Nat.le_of_ble_eq_true rfl) ?_
  refine n_norm (P ++ ((a, .inr (2, [.int 0, .int 0, .ref (a + 1), .null, .null])) :: ([(a + 1, .inl (E.2.2.2.2.1, 8, .inr (.inl (fun _ => 0)))), (a + 2, .inl (E.2.2.2.2.1, 14, .inr (.inl (fun _ => 0))))] : va_W))) (a + 3) (List.append_assoc _ _ _) rfl ?_
  refine n_putF 20 0 3 ((a, .inr (2, [.int 0, .int 0, .ref (a + 1), .ref (a + 2), .null])) :: ([(a + 1, .inl (E.2.2.2.2.1, 8, .inr (.inl (fun _ => 0)))), (a + 2, .inl (E.2.2.2.2.1, 14, .inr (.inl (fun _ => 0))))] : va_W)) dX2_init_17 rfl rfl (ci := 2) rfl inz2 tyX2_ok nmX2 (by decide) wf_X2_15 rfl rfl rfl rfl rfl rfl (Nat.le_of_ble_eq_true rfl) rfl ?_
  refine n_aload_n 21 dX2_init_20 rfl 0 rfl rfl ?_
  refine n_bipush 23 dX2_init_21 rfl zcb_14 ?_
  refine n_newa_J 25 dX2_init_23 rfl (by decide) (by decide : _ = 14) wa_long (Nat.le_of_ble_eq_true rfl) (Nat.le_of_ble_eq_true rfl) (Nat.le_of_ble_eq_true rfl) ?_
  refine n_norm (P ++ ((a, .inr (2, [.int 0, .int 0, .ref (a + 1), .ref (a + 2), .null])) :: ([(a + 1, .inl (E.2.2.2.2.1, 8, .inr (.inl (fun _ => 0)))), (a + 2, .inl (E.2.2.2.2.1, 14, .inr (.inl (fun _ => 0)))), (a + 3, .inl (E.2.2.2.2.1, 14, .inr (.inl (fun _ => 0))))] : va_W))) (a + 4) (List.append_assoc _ _ _) rfl ?_
  refine n_putF 28 0 4 ((a, .inr (2, [.int 0, .int 0, .ref (a + 1), .ref (a + 2), .ref (a + 3)])) :: ([(a + 1, .inl (E.2.2.2.2.1, 8, .inr (.inl (fun _ => 0)))), (a + 2, .inl (E.2.2.2.2.1, 14, .inr (.inl (fun _ => 0)))), (a + 3, .inl (E.2.2.2.2.1, 14, .inr (.inl (fun _ => 0))))] : va_W)) dX2_init_25 rfl rfl (ci := 2) rfl inz2 tyX2_ok nmX2 (by decide) wf_X2_18 rfl rfl rfl rfl rfl rfl (Nat.le_of_ble_eq_true rfl) rfl ?_
  exact n_ret dX2_init_28 (Nat.le_of_ble_eq_true rfl) (Nat.le_of_ble_eq_true rfl) rfl rfl
def tX3 (E : ZE) (a : Nat) : va_W := ((a, .inr (3, [.int (2 : Int32), .ref (a + 1), .ref (a + 2), .ref (a + 3), .ref (a + 4), .ref (a + 18), .ref (a + 31), .ref (a + 32), .int 0])) :: (((([(a + 1, .inl (E.2.2.2.1, 6, .inl (fun _ => 0))), (a + 2, .inl (E.2.2.2.1, 6, .inl (fun _ => 0))), (a + 3, .inl (E.2.2.2.1, 6, .inl (fun _ => 0)))] : va_W) ++ ((a + 4, .inl (E.2.2.2.2.2, 13, .inr (.inr (.inr (.inr (fun i => if i < 13 then some (a + 4 + 1 + i) else none)))))) :: zrow E.2.2.2.1 (a + 4 + 1) 13 64)) ++ ((a + 18, .inl (E.2.2.2.2.2, 12, .inr (.inr (.inr (.inr (fun i => if i < 12 then some (a + 18 + 1 + i) else none)))))) :: zrow E.2.2.2.1 (a + 18 + 1) 12 64)) ++ ([(a + 31, .inl (E.2.2.2.1, 64, .inl (fun _ => 0))), (a + 32, .inl (E.2.2.2.1, 6, .inl (fun _ => 0)))] : va_W)))
set_option maxHeartbeats 4000000 in
set_option maxRecDepth 100000 in
theorem k_X3 (E : ZE) (l : Launch) (base d : Nat) (hd : 2 ≤ d) (P : va_W) (a : Nat) : zI E l base d 32 1713 yX3_init cX3_init 1 [.ref a] (P ++ [(a, .inr (3, [.int 0, .null, .null, .null, .null, .null, .null, .null, .int 0]))]) (a + 1) (P ++ tX3 E a) (a + 33) := by
  refine zI.of [(0, .ref a)] (by decide) (Nat.le_of_ble_eq_true rfl) rfl ?_
  show zNA E l base d 32 1713 "LoveLocks$Nights" cX3_init 1 "<init>" (P ++ tX3 E a) (a + 33) 0 [(0, .ref a)] [] (P ++ ((a, .inr (3, [.int 0, .null, .null, .null, .null, .null, .null, .null, .int 0])) :: [])) (a + 1) 0 0
  refine n_aload_n 1 dX3_init_0 rfl 0 rfl rfl ?_
  refine n_obji 4 dX3_init_1 rfl wl_X3_3 wi_objinit wc_objinit (by omega) (Nat.le_of_ble_eq_true rfl) ?_
  refine n_aload_n 5 dX3_init_4 rfl 0 rfl rfl ?_
  refine n_iconst 6 dX3_init_5 rfl zci_2 ?_
  refine n_put 9 0 0 ((a, .inr (3, [.int (2 : Int32), .null, .null, .null, .null, .null, .null, .null, .int 0])) :: []) dX3_init_6 rfl rfl (ci := 3) rfl inz3 tyX3_ok nmX3 (by decide) wf_X3_9 rfl rfl rfl rfl (Nat.le_of_ble_eq_true rfl) rfl ?_
  refine n_aload_n 10 dX3_init_9 rfl 0 rfl rfl ?_
  refine n_bipush 12 dX3_init_10 rfl zcb_6 ?_
  refine n_newa_I 14 dX3_init_12 rfl (by decide) (by decide : _ = 6) wa_int (Nat.le_of_ble_eq_true rfl) (Nat.le_of_ble_eq_true rfl) (Nat.le_of_ble_eq_true rfl) ?_
  refine n_norm (P ++ ((a, .inr (3, [.int (2 : Int32), .null, .null, .null, .null, .null, .null, .null, .int 0])) :: ([(a + 1, .inl (E.2.2.2.1, 6, .inl (fun _ => 0)))] : va_W))) (a + 2) (List.append_assoc _ _ _) rfl ?_
  refine n_putF 17 0 1 ((a, .inr (3, [.int (2 : Int32), .ref (a + 1), .null, .null, .null, .null, .null, .null, .int 0])) :: ([(a + 1, .inl (E.2.2.2.1, 6, .inl (fun _ => 0)))] : va_W)) dX3_init_14 rfl rfl (ci := 3) rfl inz3 tyX3_ok nmX3 (by decide) wf_X3_15 rfl rfl rfl rfl rfl rfl (Nat.le_of_ble_eq_true rfl) rfl ?_
  refine n_aload_n 18 dX3_init_17 rfl 0 rfl rfl ?_
  refine n_bipush 20 dX3_init_18 rfl zcb_6 ?_
  refine n_newa_I 22 dX3_init_20 rfl (by decide) (by decide : _ = 6) wa_int (Nat.le_of_ble_eq_true rfl) (Nat.le_of_ble_eq_true rfl) (Nat.le_of_ble_eq_true rfl) ?_
  refine n_norm (P ++ ((a, .inr (3, [.int (2 : Int32), .ref (a + 1), .null, .null, .null, .null, .null, .null, .int 0])) :: ([(a + 1, .inl (E.2.2.2.1, 6, .inl (fun _ => 0))), (a + 2, .inl (E.2.2.2.1, 6, .inl (fun _ => 0)))] : va_W))) (a + 3) (List.append_assoc _ _ _) rfl ?_
  refine n_putF 25 0 2 ((a, .inr (3, [.int (2 : Int32), .ref (a + 1), .ref (a + 2), .null, .null, .null, .null, .null, .int 0])) :: ([(a + 1, .inl (E.2.2.2.1, 6, .inl (fun _ => 0))), (a + 2, .inl (E.2.2.2.1, 6, .inl (fun _ => 0)))] : va_W)) dX3_init_22 rfl rfl (ci := 3) rfl inz3 tyX3_ok nmX3 (by decide) wf_X3_19 rfl rfl rfl rfl rfl rfl (Nat.le_of_ble_eq_true rfl) rfl ?_
  refine n_aload_n 26 dX3_init_25 rfl 0 rfl rfl ?_
  refine n_bipush 28 dX3_init_26 rfl zcb_6 ?_
  refine n_newa_I 30 dX3_init_28 rfl (by decide) (by decide : _ = 6) wa_int (Nat.le_of_ble_eq_true rfl) (Nat.le_of_ble_eq_true rfl) (Nat.le_of_ble_eq_true rfl) ?_
  refine n_norm (P ++ ((a, .inr (3, [.int (2 : Int32), .ref (a + 1), .ref (a + 2), .null, .null, .null, .null, .null, .int 0])) :: ([(a + 1, .inl (E.2.2.2.1, 6, .inl (fun _ => 0))), (a + 2, .inl (E.2.2.2.1, 6, .inl (fun _ => 0))), (a + 3, .inl (E.2.2.2.1, 6, .inl (fun _ => 0)))] : va_W))) (a + 4) (List.append_assoc _ _ _) rfl ?_
  refine n_putF 33 0 3 ((a, .inr (3, [.int (2 : Int32), .ref (a + 1), .ref (a + 2), .ref (a + 3), .null, .null, .null, .null, .int 0])) :: ([(a + 1, .inl (E.2.2.2.1, 6, .inl (fun _ => 0))), (a + 2, .inl (E.2.2.2.1, 6, .inl (fun _ => 0))), (a + 3, .inl (E.2.2.2.1, 6, .inl (fun _ => 0)))] : va_W)) dX3_init_30 rfl rfl (ci := 3) rfl inz3 tyX3_ok nmX3 (by decide) wf_X3_22 rfl rfl rfl rfl rfl rfl (Nat.le_of_ble_eq_true rfl) rfl ?_
  refine n_aload_n 34 dX3_init_33 rfl 0 rfl rfl ?_
  refine n_bipush 36 dX3_init_34 rfl zcb_13 ?_
  refine n_bipush 38 dX3_init_36 rfl zcb_64 ?_
  refine n_mna 42 dX3_init_38 rfl (by decide) (by decide) (by decide : _ = 13) (by decide : _ = 64) wcl_X3_25 wa_int (Nat.le_of_ble_eq_true rfl) (Nat.le_of_ble_eq_true rfl) (Nat.le_of_ble_eq_true rfl) (Nat.le_of_ble_eq_true rfl) ?_
  refine n_norm (P ++ ((a, .inr (3, [.int (2 : Int32), .ref (a + 1), .ref (a + 2), .ref (a + 3), .null, .null, .null, .null, .int 0])) :: (([(a + 1, .inl (E.2.2.2.1, 6, .inl (fun _ => 0))), (a + 2, .inl (E.2.2.2.1, 6, .inl (fun _ => 0))), (a + 3, .inl (E.2.2.2.1, 6, .inl (fun _ => 0)))] : va_W) ++ ((a + 4, .inl (E.2.2.2.2.2, 13, .inr (.inr (.inr (.inr (fun i => if i < 13 then some (a + 4 + 1 + i) else none)))))) :: zrow E.2.2.2.1 (a + 4 + 1) 13 64)))) (a + 18) (List.append_assoc _ _ _) rfl ?_
  refine n_putF 45 0 4 ((a, .inr (3, [.int (2 : Int32), .ref (a + 1), .ref (a + 2), .ref (a + 3), .ref (a + 4), .null, .null, .null, .int 0])) :: (([(a + 1, .inl (E.2.2.2.1, 6, .inl (fun _ => 0))), (a + 2, .inl (E.2.2.2.1, 6, .inl (fun _ => 0))), (a + 3, .inl (E.2.2.2.1, 6, .inl (fun _ => 0)))] : va_W) ++ ((a + 4, .inl (E.2.2.2.2.2, 13, .inr (.inr (.inr (.inr (fun i => if i < 13 then some (a + 4 + 1 + i) else none)))))) :: zrow E.2.2.2.1 (a + 4 + 1) 13 64))) dX3_init_42 rfl rfl (ci := 3) rfl inz3 tyX3_ok nmX3 (by decide) wf_X3_27 rfl rfl rfl rfl rfl rfl (Nat.le_of_ble_eq_true rfl) rfl ?_
  refine n_aload_n 46 dX3_init_45 rfl 0 rfl rfl ?_
  refine n_bipush 48 dX3_init_46 rfl zcb_12 ?_
  refine n_bipush 50 dX3_init_48 rfl zcb_64 ?_
  refine n_mna 54 dX3_init_50 rfl (by decide) (by decide) (by decide : _ = 12) (by decide : _ = 64) wcl_X3_25 wa_int (Nat.le_of_ble_eq_true rfl) (Nat.le_of_ble_eq_true rfl) (Nat.le_of_ble_eq_true rfl) (Nat.le_of_ble_eq_true rfl) ?_
  refine n_norm (P ++ ((a, .inr (3, [.int (2 : Int32), .ref (a + 1), .ref (a + 2), .ref (a + 3), .ref (a + 4), .null, .null, .null, .int 0])) :: ((([(a + 1, .inl (E.2.2.2.1, 6, .inl (fun _ => 0))), (a + 2, .inl (E.2.2.2.1, 6, .inl (fun _ => 0))), (a + 3, .inl (E.2.2.2.1, 6, .inl (fun _ => 0)))] : va_W) ++ ((a + 4, .inl (E.2.2.2.2.2, 13, .inr (.inr (.inr (.inr (fun i => if i < 13 then some (a + 4 + 1 + i) else none)))))) :: zrow E.2.2.2.1 (a + 4 + 1) 13 64)) ++ ((a + 18, .inl (E.2.2.2.2.2, 12, .inr (.inr (.inr (.inr (fun i => if i < 12 then some (a + 18 + 1 + i) else none)))))) :: zrow E.2.2.2.1 (a + 18 + 1) 12 64)))) (a + 31) (List.append_assoc _ _ _) rfl ?_
  refine n_putF 57 0 5 ((a, .inr (3, [.int (2 : Int32), .ref (a + 1), .ref (a + 2), .ref (a + 3), .ref (a + 4), .ref (a + 18), .null, .null, .int 0])) :: ((([(a + 1, .inl (E.2.2.2.1, 6, .inl (fun _ => 0))), (a + 2, .inl (E.2.2.2.1, 6, .inl (fun _ => 0))), (a + 3, .inl (E.2.2.2.1, 6, .inl (fun _ => 0)))] : va_W) ++ ((a + 4, .inl (E.2.2.2.2.2, 13, .inr (.inr (.inr (.inr (fun i => if i < 13 then some (a + 4 + 1 + i) else none)))))) :: zrow E.2.2.2.1 (a + 4 + 1) 13 64)) ++ ((a + 18, .inl (E.2.2.2.2.2, 12, .inr (.inr (.inr (.inr (fun i => if i < 12 then some (a + 18 + 1 + i) else none)))))) :: zrow E.2.2.2.1 (a + 18 + 1) 12 64))) dX3_init_54 rfl rfl (ci := 3) rfl inz3 tyX3_ok nmX3 (by decide) wf_X3_30 rfl rfl rfl rfl rfl rfl (Nat.le_of_ble_eq_true rfl) rfl ?_
  refine n_aload_n 58 dX3_init_57 rfl 0 rfl rfl ?_
  refine n_bipush 60 dX3_init_58 rfl zcb_64 ?_
  refine n_newa_I 62 dX3_init_60 rfl (by decide) (by decide : _ = 64) wa_int (Nat.le_of_ble_eq_true rfl) (Nat.le_of_ble_eq_true rfl) (Nat.le_of_ble_eq_true rfl) ?_
  refine n_norm (P ++ ((a, .inr (3, [.int (2 : Int32), .ref (a + 1), .ref (a + 2), .ref (a + 3), .ref (a + 4), .ref (a + 18), .null, .null, .int 0])) :: (((([(a + 1, .inl (E.2.2.2.1, 6, .inl (fun _ => 0))), (a + 2, .inl (E.2.2.2.1, 6, .inl (fun _ => 0))), (a + 3, .inl (E.2.2.2.1, 6, .inl (fun _ => 0)))] : va_W) ++ ((a + 4, .inl (E.2.2.2.2.2, 13, .inr (.inr (.inr (.inr (fun i => if i < 13 then some (a + 4 + 1 + i) else none)))))) :: zrow E.2.2.2.1 (a + 4 + 1) 13 64)) ++ ((a + 18, .inl (E.2.2.2.2.2, 12, .inr (.inr (.inr (.inr (fun i => if i < 12 then some (a + 18 + 1 + i) else none)))))) :: zrow E.2.2.2.1 (a + 18 + 1) 12 64)) ++ ([(a + 31, .inl (E.2.2.2.1, 64, .inl (fun _ => 0)))] : va_W)))) (a + 32) (List.append_assoc _ _ _) rfl ?_
  refine n_putF 65 0 6 ((a, .inr (3, [.int (2 : Int32), .ref (a + 1), .ref (a + 2), .ref (a + 3), .ref (a + 4), .ref (a + 18), .ref (a + 31), .null, .int 0])) :: (((([(a + 1, .inl (E.2.2.2.1, 6, .inl (fun _ => 0))), (a + 2, .inl (E.2.2.2.1, 6, .inl (fun _ => 0))), (a + 3, .inl (E.2.2.2.1, 6, .inl (fun _ => 0)))] : va_W) ++ ((a + 4, .inl (E.2.2.2.2.2, 13, .inr (.inr (.inr (.inr (fun i => if i < 13 then some (a + 4 + 1 + i) else none)))))) :: zrow E.2.2.2.1 (a + 4 + 1) 13 64)) ++ ((a + 18, .inl (E.2.2.2.2.2, 12, .inr (.inr (.inr (.inr (fun i => if i < 12 then some (a + 18 + 1 + i) else none)))))) :: zrow E.2.2.2.1 (a + 18 + 1) 12 64)) ++ ([(a + 31, .inl (E.2.2.2.1, 64, .inl (fun _ => 0)))] : va_W))) dX3_init_62 rfl rfl (ci := 3) rfl inz3 tyX3_ok nmX3 (by decide) wf_X3_33 rfl rfl rfl rfl rfl rfl (Nat.le_of_ble_eq_true rfl) rfl ?_
  refine n_aload_n 66 dX3_init_65 rfl 0 rfl rfl ?_
  refine n_bipush 68 dX3_init_66 rfl zcb_6 ?_
  refine n_newa_I 70 dX3_init_68 rfl (by decide) (by decide : _ = 6) wa_int (Nat.le_of_ble_eq_true rfl) (Nat.le_of_ble_eq_true rfl) (Nat.le_of_ble_eq_true rfl) ?_
  refine n_norm (P ++ ((a, .inr (3, [.int (2 : Int32), .ref (a + 1), .ref (a + 2), .ref (a + 3), .ref (a + 4), .ref (a + 18), .ref (a + 31), .null, .int 0])) :: (((([(a + 1, .inl (E.2.2.2.1, 6, .inl (fun _ => 0))), (a + 2, .inl (E.2.2.2.1, 6, .inl (fun _ => 0))), (a + 3, .inl (E.2.2.2.1, 6, .inl (fun _ => 0)))] : va_W) ++ ((a + 4, .inl (E.2.2.2.2.2, 13, .inr (.inr (.inr (.inr (fun i => if i < 13 then some (a + 4 + 1 + i) else none)))))) :: zrow E.2.2.2.1 (a + 4 + 1) 13 64)) ++ ((a + 18, .inl (E.2.2.2.2.2, 12, .inr (.inr (.inr (.inr (fun i => if i < 12 then some (a + 18 + 1 + i) else none)))))) :: zrow E.2.2.2.1 (a + 18 + 1) 12 64)) ++ ([(a + 31, .inl (E.2.2.2.1, 64, .inl (fun _ => 0))), (a + 32, .inl (E.2.2.2.1, 6, .inl (fun _ => 0)))] : va_W)))) (a + 33) (List.append_assoc _ _ _) rfl ?_
  refine n_putF 73 0 7 ((a, .inr (3, [.int (2 : Int32), .ref (a + 1), .ref (a + 2), .ref (a + 3), .ref (a + 4), .ref (a + 18), .ref (a + 31), .ref (a + 32), .int 0])) :: (((([(a + 1, .inl (E.2.2.2.1, 6, .inl (fun _ => 0))), (a + 2, .inl (E.2.2.2.1, 6, .inl (fun _ => 0))), (a + 3, .inl (E.2.2.2.1, 6, .inl (fun _ => 0)))] : va_W) ++ ((a + 4, .inl (E.2.2.2.2.2, 13, .inr (.inr (.inr (.inr (fun i => if i < 13 then some (a + 4 + 1 + i) else none)))))) :: zrow E.2.2.2.1 (a + 4 + 1) 13 64)) ++ ((a + 18, .inl (E.2.2.2.2.2, 12, .inr (.inr (.inr (.inr (fun i => if i < 12 then some (a + 18 + 1 + i) else none)))))) :: zrow E.2.2.2.1 (a + 18 + 1) 12 64)) ++ ([(a + 31, .inl (E.2.2.2.1, 64, .inl (fun _ => 0))), (a + 32, .inl (E.2.2.2.1, 6, .inl (fun _ => 0)))] : va_W))) dX3_init_70 rfl rfl (ci := 3) rfl inz3 tyX3_ok nmX3 (by decide) wf_X3_36 rfl rfl rfl rfl rfl rfl (Nat.le_of_ble_eq_true rfl) rfl ?_
  exact n_ret dX3_init_73 (Nat.le_of_ble_eq_true rfl) (Nat.le_of_ble_eq_true rfl) rfl rfl
def tX0 (E : ZE) (a : Nat) : va_W := ((a, .inr (0, [.ref (a + 1), .ref (a + 2), .int 0, .int 0])) :: ([(a + 1, .inl (E.2.2.2.1, 12, .inl (fun _ => 0))), (a + 2, .inl (E.2.2.2.1, 12, .inl (upd (z_fill 12 (1000000 : Int32) (fun _ => 0)) 0 (9999 : Int32))))] : va_W))
set_option maxHeartbeats 4000000 in
set_option maxRecDepth 100000 in
theorem k_X0 (E : ZE) (l : Launch) (base d : Nat) (hd : 4 ≤ d) (P : va_W) (a : Nat) : zI E l base d 2 24 yX0_init cX0_init 1 [.ref a] (P ++ [(a, .inr (0, [.null, .null, .int 0, .int 0]))]) (a + 1) (P ++ tX0 E a) (a + 3) := by
  refine zI.of [(0, .ref a)] (by decide) (Nat.le_of_ble_eq_true rfl) rfl ?_
  show zNA E l base d 2 24 "LoveLocks$Growth" cX0_init 1 "<init>" (P ++ tX0 E a) (a + 3) 0 [(0, .ref a)] [] (P ++ ((a, .inr (0, [.null, .null, .int 0, .int 0])) :: [])) (a + 1) 0 0
  refine n_aload_n 1 dX0_init_0 rfl 0 rfl rfl ?_
  refine n_obji 4 dX0_init_1 rfl wl_X0_3 wi_objinit wc_objinit (by omega) (Nat.le_of_ble_eq_true rfl) ?_
  refine n_aload_n 5 dX0_init_4 rfl 0 rfl rfl ?_
  refine n_bipush 7 dX0_init_5 rfl zcb_12 ?_
  refine n_newa_I 9 dX0_init_7 rfl (by decide) (by decide : _ = 12) wa_int (Nat.le_of_ble_eq_true rfl) (Nat.le_of_ble_eq_true rfl) (Nat.le_of_ble_eq_true rfl) ?_
  refine n_norm (P ++ ((a, .inr (0, [.null, .null, .int 0, .int 0])) :: ([(a + 1, .inl (E.2.2.2.1, 12, .inl (fun _ => 0)))] : va_W))) (a + 2) (List.append_assoc _ _ _) rfl ?_
  refine n_putF 12 0 0 ((a, .inr (0, [.ref (a + 1), .null, .int 0, .int 0])) :: ([(a + 1, .inl (E.2.2.2.1, 12, .inl (fun _ => 0)))] : va_W)) dX0_init_9 rfl rfl (ci := 0) rfl inz0 tyX0_ok nmX0 (by decide) wf_X0_9 rfl rfl rfl rfl rfl rfl (Nat.le_of_ble_eq_true rfl) rfl ?_
  refine n_aload_n 13 dX0_init_12 rfl 0 rfl rfl ?_
  refine n_bipush 15 dX0_init_13 rfl zcb_12 ?_
  refine n_newa_I 17 dX0_init_15 rfl (by decide) (by decide : _ = 12) wa_int (Nat.le_of_ble_eq_true rfl) (Nat.le_of_ble_eq_true rfl) (Nat.le_of_ble_eq_true rfl) ?_
  refine n_norm (P ++ ((a, .inr (0, [.ref (a + 1), .null, .int 0, .int 0])) :: ([(a + 1, .inl (E.2.2.2.1, 12, .inl (fun _ => 0))), (a + 2, .inl (E.2.2.2.1, 12, .inl (fun _ => 0)))] : va_W))) (a + 3) (List.append_assoc _ _ _) rfl ?_
  refine n_putF 20 0 1 ((a, .inr (0, [.ref (a + 1), .ref (a + 2), .int 0, .int 0])) :: ([(a + 1, .inl (E.2.2.2.1, 12, .inl (fun _ => 0))), (a + 2, .inl (E.2.2.2.1, 12, .inl (fun _ => 0)))] : va_W)) dX0_init_17 rfl rfl (ci := 0) rfl inz0 tyX0_ok nmX0 (by decide) wf_X0_15 rfl rfl rfl rfl rfl rfl (Nat.le_of_ble_eq_true rfl) rfl ?_
  refine n_aload_n 21 dX0_init_20 rfl 0 rfl rfl ?_
  refine n_get (P := P) (R := ((a, .inr (0, [.ref (a + 1), .ref (a + 2), .int 0, .int 0])) :: ([(a + 1, .inl (E.2.2.2.1, 12, .inl (fun _ => 0))), (a + 2, .inl (E.2.2.2.1, 12, .inl (fun _ => 0)))] : va_W))) 24 0 1 dX0_init_21 rfl rfl (ci := 0) rfl inz0 (by decide) wf_X0_15 rfl ?_
  refine n_ldc 26 dX0_init_24 rfl wk_X0_18 ?_
  refine n_callS 29 (P ++ ((a, .inr (0, [.ref (a + 1), .ref (a + 2), .int 0, .int 0])) :: ([(a + 1, .inl (E.2.2.2.1, 12, .inl (fun _ => 0))), (a + 2, .inl (E.2.2.2.1, 12, .inl (z_fill 12 (1000000 : Int32) (fun _ => 0))))] : va_W))) (a + 3) [.ref (a + 2), .int (1000000 : Int32)] 2 rfl (st := []) rfl dX0_init_26 rfl (List.append_assoc P ([(a, .inr (0, [.ref (a + 1), .ref (a + 2), .int 0, .int 0])), (a + 1, .inl (E.2.2.2.1, 12, .inl (fun _ => 0)))] : va_W) ((a + 2, .inl (E.2.2.2.1, 12, .inl (fun _ => 0))) :: [])).symm (k_fill E l base (d - 1) (by omega) (P ++ ([(a, .inr (0, [.ref (a + 1), .ref (a + 2), .int 0, .int 0])), (a + 1, .inl (E.2.2.2.1, 12, .inl (fun _ => 0)))] : va_W)) [] (a + 2) 12 (by decide) (1000000 : Int32) (fun _ => 0) (a + 3)) (List.append_assoc P ([(a, .inr (0, [.ref (a + 1), .ref (a + 2), .int 0, .int 0])), (a + 1, .inl (E.2.2.2.1, 12, .inl (fun _ => 0)))] : va_W) _) rfl wc_J7_fill_53178 wz_J7 wl_X0_19 wst_J7_fill_53178 zd_J7_fill_53178 (by decide) (by omega) (Nat.le_of_ble_eq_true rfl) (Nat.le_of_ble_eq_true rfl) (Nat.le_of_ble_eq_true rfl) ?_
  refine n_aload_n 30 dX0_init_29 rfl 0 rfl rfl ?_
  refine n_get (P := P) (R := ((a, .inr (0, [.ref (a + 1), .ref (a + 2), .int 0, .int 0])) :: ([(a + 1, .inl (E.2.2.2.1, 12, .inl (fun _ => 0))), (a + 2, .inl (E.2.2.2.1, 12, .inl (z_fill 12 (1000000 : Int32) (fun _ => 0))))] : va_W))) 33 0 1 dX0_init_30 rfl rfl (ci := 0) rfl inz0 (by decide) wf_X0_15 rfl ?_
  refine n_iconst 34 dX0_init_33 rfl zci_0 ?_
  refine n_sipush 37 dX0_init_34 rfl zcs_9999 ?_
  refine n_iast (P := P) (R := ((a, .inr (0, [.ref (a + 1), .ref (a + 2), .int 0, .int 0])) :: ([(a + 1, .inl (E.2.2.2.1, 12, .inl (fun _ => 0))), (a + 2, .inl (E.2.2.2.1, 12, .inl (z_fill 12 (1000000 : Int32) (fun _ => 0))))] : va_W))) 38 2 ((a, .inr (0, [.ref (a + 1), .ref (a + 2), .int 0, .int 0])) :: ([(a + 1, .inl (E.2.2.2.1, 12, .inl (fun _ => 0))), (a + 2, .inl (E.2.2.2.1, 12, .inl (upd (z_fill 12 (1000000 : Int32) (fun _ => 0)) 0 (9999 : Int32))))] : va_W)) (N' := 12) dX0_init_37 rfl rfl (by decide) rfl ?_
  exact n_ret dX0_init_38 (Nat.le_of_ble_eq_true rfl) (Nat.le_of_ble_eq_true rfl) rfl rfl
def tX9 (E : ZE) (a : Nat) : va_W := ((a, .inr (9, [.ref (a + 1), .ref (a + 11), .ref (a + 15), .ref (a + 19), .ref (a + 52)])) :: ((((tX4 E (a + 1) ++ tX8 E (a + 11)) ++ tX2 E (a + 15)) ++ tX3 E (a + 19)) ++ tX0 E (a + 52)))
set_option maxHeartbeats 4000000 in
set_option maxRecDepth 100000 in
theorem k_X9 (E : ZE) (l : Launch) (base d : Nat) (hd : 6 ≤ d) (P : va_W) (a : Nat) : zI E l base d 54 1927 yX9_init cX9_init 1 [.ref a] (P ++ [(a, .inr (9, [.null, .null, .null, .null, .null]))]) (a + 1) (P ++ tX9 E a) (a + 55) := by
  refine zI.of [(0, .ref a)] (by decide) (Nat.le_of_ble_eq_true rfl) rfl ?_
  show zNA E l base d 54 1927 "LoveLocks$State" cX9_init 1 "<init>" (P ++ tX9 E a) (a + 55) 0 [(0, .ref a)] [] (P ++ ((a, .inr (9, [.null, .null, .null, .null, .null])) :: [])) (a + 1) 0 0
  refine n_aload_n 1 dX9_init_0 rfl 0 rfl rfl ?_
  refine n_obji 4 dX9_init_1 rfl wl_X9_1 wi_objinit wc_objinit (by omega) (Nat.le_of_ble_eq_true rfl) ?_
  refine n_aload_n 5 dX9_init_4 rfl 0 rfl rfl ?_
  refine n_new (fs := [.int 0, .null, .null, .null, .int 0, .int 0, .null, .null, .null, .null, .null, .null]) 8 dX9_init_5 rfl (ci := 4) rfl inz4 tyX4_ok wcl_X9_7 wit_X4 wz_X4 (fun j hj => match j, hj with | 0, _ => rfl | 1, _ => rfl | 2, _ => rfl | 3, _ => rfl | 4, _ => rfl | 5, _ => rfl | 6, _ => rfl | 7, _ => rfl | 8, _ => rfl | 9, _ => rfl | 10, _ => rfl | 11, _ => rfl | k + 12, h => absurd h (by omega)) (Nat.le_of_ble_eq_true rfl) (Nat.le_of_ble_eq_true rfl) ?_
  refine n_norm (P ++ ((a, .inr (9, [.null, .null, .null, .null, .null])) :: ([(a + 1, .inr (4, [.int 0, .null, .null, .null, .int 0, .int 0, .null, .null, .null, .null, .null, .null]))] : va_W))) (a + 2) (List.append_assoc _ _ _) rfl ?_
  refine n_dup 9 dX9_init_8 rfl rfl ?_
  refine n_callN 12 (P ++ ((a, .inr (9, [.null, .null, .null, .null, .null])) :: tX4 E (a + 1))) (a + 11) dX9_init_9 rfl (List.append_assoc P ((a, .inr (9, [.null, .null, .null, .null, .null])) :: []) _).symm (k_X4 E l base (d - 1) (by omega) (P ++ ((a, .inr (9, [.null, .null, .null, .null, .null])) :: [])) (a + 1)) (List.append_assoc P ((a, .inr (9, [.null, .null, .null, .null, .null])) :: []) _) rfl wc_X4_init wz_X4 (by unfold z_nest; simp) rfl wi_X4_init zd_X4_init (by decide) (by omega) (Nat.le_of_ble_eq_true rfl) (Nat.le_of_ble_eq_true rfl) (Nat.le_of_ble_eq_true rfl) ?_
  refine n_putF 15 0 0 ((a, .inr (9, [.ref (a + 1), .null, .null, .null, .null])) :: tX4 E (a + 1)) dX9_init_12 rfl rfl (ci := 9) rfl inz9 tyX9_ok nmX9 (by decide) wf_X9_10 rfl rfl rfl rfl rfl rfl (Nat.le_of_ble_eq_true rfl) rfl ?_
  refine n_aload_n 16 dX9_init_15 rfl 0 rfl rfl ?_
  refine n_new (fs := [.int 0, .null, .null, .null]) 19 dX9_init_16 rfl (ci := 8) rfl inz8 tyX8_ok wcl_X9_16 wit_X8 wz_X8 (fun j hj => match j, hj with | 0, _ => rfl | 1, _ => rfl | 2, _ => rfl | 3, _ => rfl | k + 4, h => absurd h (by omega)) (Nat.le_of_ble_eq_true rfl) (Nat.le_of_ble_eq_true rfl) ?_
  refine n_norm (P ++ ((a, .inr (9, [.ref (a + 1), .null, .null, .null, .null])) :: (tX4 E (a + 1) ++ ([(a + 11, .inr (8, [.int 0, .null, .null, .null]))] : va_W)))) (a + 12) (List.append_assoc _ _ _) rfl ?_
  refine n_dup 20 dX9_init_19 rfl rfl ?_
  refine n_callN 23 (P ++ ((a, .inr (9, [.ref (a + 1), .null, .null, .null, .null])) :: (tX4 E (a + 1) ++ tX8 E (a + 11)))) (a + 15) dX9_init_20 rfl (List.append_assoc P ((a, .inr (9, [.ref (a + 1), .null, .null, .null, .null])) :: tX4 E (a + 1)) _).symm (k_X8 E l base (d - 1) (by omega) (P ++ ((a, .inr (9, [.ref (a + 1), .null, .null, .null, .null])) :: tX4 E (a + 1))) (a + 11)) (List.append_assoc P ((a, .inr (9, [.ref (a + 1), .null, .null, .null, .null])) :: tX4 E (a + 1)) _) rfl wc_X8_init wz_X8 (by unfold z_nest; simp) rfl wi_X8_init zd_X8_init (by decide) (by omega) (Nat.le_of_ble_eq_true rfl) (Nat.le_of_ble_eq_true rfl) (Nat.le_of_ble_eq_true rfl) ?_
  refine n_putF 26 0 1 ((a, .inr (9, [.ref (a + 1), .ref (a + 11), .null, .null, .null])) :: (tX4 E (a + 1) ++ tX8 E (a + 11))) dX9_init_23 rfl rfl (ci := 9) rfl inz9 tyX9_ok nmX9 (by decide) wf_X9_19 rfl rfl rfl rfl rfl rfl (Nat.le_of_ble_eq_true rfl) rfl ?_
  refine n_aload_n 27 dX9_init_26 rfl 0 rfl rfl ?_
  refine n_new (fs := [.int 0, .int 0, .null, .null, .null]) 30 dX9_init_27 rfl (ci := 2) rfl inz2 tyX2_ok wcl_X9_23 wit_X2 wz_X2 (fun j hj => match j, hj with | 0, _ => rfl | 1, _ => rfl | 2, _ => rfl | 3, _ => rfl | 4, _ => rfl | k + 5, h => absurd h (by omega)) (Nat.le_of_ble_eq_true rfl) (Nat.le_of_ble_eq_true rfl) ?_
  refine n_norm (P ++ ((a, .inr (9, [.ref (a + 1), .ref (a + 11), .null, .null, .null])) :: ((tX4 E (a + 1) ++ tX8 E (a + 11)) ++ ([(a + 15, .inr (2, [.int 0, .int 0, .null, .null, .null]))] : va_W)))) (a + 16) (List.append_assoc _ _ _) rfl ?_
  refine n_dup 31 dX9_init_30 rfl rfl ?_
  refine n_callN 34 (P ++ ((a, .inr (9, [.ref (a + 1), .ref (a + 11), .null, .null, .null])) :: ((tX4 E (a + 1) ++ tX8 E (a + 11)) ++ tX2 E (a + 15)))) (a + 19) dX9_init_31 rfl (List.append_assoc P ((a, .inr (9, [.ref (a + 1), .ref (a + 11), .null, .null, .null])) :: (tX4 E (a + 1) ++ tX8 E (a + 11))) _).symm (k_X2 E l base (d - 1) (by omega) (P ++ ((a, .inr (9, [.ref (a + 1), .ref (a + 11), .null, .null, .null])) :: (tX4 E (a + 1) ++ tX8 E (a + 11)))) (a + 15)) (List.append_assoc P ((a, .inr (9, [.ref (a + 1), .ref (a + 11), .null, .null, .null])) :: (tX4 E (a + 1) ++ tX8 E (a + 11))) _) rfl wc_X2_init wz_X2 (by unfold z_nest; simp) rfl wi_X2_init zd_X2_init (by decide) (by omega) (Nat.le_of_ble_eq_true rfl) (Nat.le_of_ble_eq_true rfl) (Nat.le_of_ble_eq_true rfl) ?_
  refine n_putF 37 0 2 ((a, .inr (9, [.ref (a + 1), .ref (a + 11), .ref (a + 15), .null, .null])) :: ((tX4 E (a + 1) ++ tX8 E (a + 11)) ++ tX2 E (a + 15))) dX9_init_34 rfl rfl (ci := 9) rfl inz9 tyX9_ok nmX9 (by decide) wf_X9_26 rfl rfl rfl rfl rfl rfl (Nat.le_of_ble_eq_true rfl) rfl ?_
  refine n_aload_n 38 dX9_init_37 rfl 0 rfl rfl ?_
  refine n_new (fs := [.int 0, .null, .null, .null, .null, .null, .null, .null, .int 0]) 41 dX9_init_38 rfl (ci := 3) rfl inz3 tyX3_ok wcl_X9_30 wit_X3 wz_X3 (fun j hj => match j, hj with | 0, _ => rfl | 1, _ => rfl | 2, _ => rfl | 3, _ => rfl | 4, _ => rfl | 5, _ => rfl | 6, _ => rfl | 7, _ => rfl | 8, _ => rfl | k + 9, h => absurd h (by omega)) (Nat.le_of_ble_eq_true rfl) (Nat.le_of_ble_eq_true rfl) ?_
  refine n_norm (P ++ ((a, .inr (9, [.ref (a + 1), .ref (a + 11), .ref (a + 15), .null, .null])) :: (((tX4 E (a + 1) ++ tX8 E (a + 11)) ++ tX2 E (a + 15)) ++ ([(a + 19, .inr (3, [.int 0, .null, .null, .null, .null, .null, .null, .null, .int 0]))] : va_W)))) (a + 20) (List.append_assoc _ _ _) rfl ?_
  refine n_dup 42 dX9_init_41 rfl rfl ?_
  refine n_callN 45 (P ++ ((a, .inr (9, [.ref (a + 1), .ref (a + 11), .ref (a + 15), .null, .null])) :: (((tX4 E (a + 1) ++ tX8 E (a + 11)) ++ tX2 E (a + 15)) ++ tX3 E (a + 19)))) (a + 52) dX9_init_42 rfl (List.append_assoc P ((a, .inr (9, [.ref (a + 1), .ref (a + 11), .ref (a + 15), .null, .null])) :: ((tX4 E (a + 1) ++ tX8 E (a + 11)) ++ tX2 E (a + 15))) _).symm (k_X3 E l base (d - 1) (by omega) (P ++ ((a, .inr (9, [.ref (a + 1), .ref (a + 11), .ref (a + 15), .null, .null])) :: ((tX4 E (a + 1) ++ tX8 E (a + 11)) ++ tX2 E (a + 15)))) (a + 19)) (List.append_assoc P ((a, .inr (9, [.ref (a + 1), .ref (a + 11), .ref (a + 15), .null, .null])) :: ((tX4 E (a + 1) ++ tX8 E (a + 11)) ++ tX2 E (a + 15))) _) rfl wc_X3_init wz_X3 (by unfold z_nest; simp) rfl wi_X3_init zd_X3_init (by decide) (by omega) (Nat.le_of_ble_eq_true rfl) (Nat.le_of_ble_eq_true rfl) (Nat.le_of_ble_eq_true rfl) ?_
  refine n_putF 48 0 3 ((a, .inr (9, [.ref (a + 1), .ref (a + 11), .ref (a + 15), .ref (a + 19), .null])) :: (((tX4 E (a + 1) ++ tX8 E (a + 11)) ++ tX2 E (a + 15)) ++ tX3 E (a + 19))) dX9_init_45 rfl rfl (ci := 9) rfl inz9 tyX9_ok nmX9 (by decide) wf_X9_33 rfl rfl rfl rfl rfl rfl (Nat.le_of_ble_eq_true rfl) rfl ?_
  refine n_aload_n 49 dX9_init_48 rfl 0 rfl rfl ?_
  refine n_new (fs := [.null, .null, .int 0, .int 0]) 52 dX9_init_49 rfl (ci := 0) rfl inz0 tyX0_ok wcl_X9_37 wit_X0 wz_X0 (fun j hj => match j, hj with | 0, _ => rfl | 1, _ => rfl | 2, _ => rfl | 3, _ => rfl | k + 4, h => absurd h (by omega)) (Nat.le_of_ble_eq_true rfl) (Nat.le_of_ble_eq_true rfl) ?_
  refine n_norm (P ++ ((a, .inr (9, [.ref (a + 1), .ref (a + 11), .ref (a + 15), .ref (a + 19), .null])) :: ((((tX4 E (a + 1) ++ tX8 E (a + 11)) ++ tX2 E (a + 15)) ++ tX3 E (a + 19)) ++ ([(a + 52, .inr (0, [.null, .null, .int 0, .int 0]))] : va_W)))) (a + 53) (List.append_assoc _ _ _) rfl ?_
  refine n_dup 53 dX9_init_52 rfl rfl ?_
  refine n_callI 56 (P ++ ((a, .inr (9, [.ref (a + 1), .ref (a + 11), .ref (a + 15), .ref (a + 19), .null])) :: ((((tX4 E (a + 1) ++ tX8 E (a + 11)) ++ tX2 E (a + 15)) ++ tX3 E (a + 19)) ++ tX0 E (a + 52)))) (a + 55) dX9_init_53 rfl (List.append_assoc P ((a, .inr (9, [.ref (a + 1), .ref (a + 11), .ref (a + 15), .ref (a + 19), .null])) :: (((tX4 E (a + 1) ++ tX8 E (a + 11)) ++ tX2 E (a + 15)) ++ tX3 E (a + 19))) _).symm (k_X0 E l base (d - 1) (by omega) (P ++ ((a, .inr (9, [.ref (a + 1), .ref (a + 11), .ref (a + 15), .ref (a + 19), .null])) :: (((tX4 E (a + 1) ++ tX8 E (a + 11)) ++ tX2 E (a + 15)) ++ tX3 E (a + 19)))) (a + 52)) (List.append_assoc P ((a, .inr (9, [.ref (a + 1), .ref (a + 11), .ref (a + 15), .ref (a + 19), .null])) :: (((tX4 E (a + 1) ++ tX8 E (a + 11)) ++ tX2 E (a + 15)) ++ tX3 E (a + 19))) _) rfl wc_X0_init wz_X0 wl_X9_39 rfl wi_X0_init zd_X0_init (by decide) (by omega) (Nat.le_of_ble_eq_true rfl) (Nat.le_of_ble_eq_true rfl) (Nat.le_of_ble_eq_true rfl) ?_
  refine n_putF 59 0 4 ((a, .inr (9, [.ref (a + 1), .ref (a + 11), .ref (a + 15), .ref (a + 19), .ref (a + 52)])) :: ((((tX4 E (a + 1) ++ tX8 E (a + 11)) ++ tX2 E (a + 15)) ++ tX3 E (a + 19)) ++ tX0 E (a + 52))) dX9_init_56 rfl rfl (ci := 9) rfl inz9 tyX9_ok nmX9 (by decide) wf_X9_40 rfl rfl rfl rfl rfl rfl (Nat.le_of_ble_eq_true rfl) rfl ?_
  exact n_ret dX9_init_59 (Nat.le_of_ble_eq_true rfl) (Nat.le_of_ble_eq_true rfl) rfl rfl
def tX5 (E : ZE) (a : Nat) : va_W := ((a, .inr (5, [.long 0, .int 0, .int 0, .ref (a + 1), .ref (a + 2), .ref (a + 3), .ref (a + 4), .ref (a + 5)])) :: ([(a + 1, .inl (E.2.2.2.1, 14, .inl (fun _ => 0))), (a + 2, .inl (E.2.2.2.1, 14, .inl (fun _ => 0))), (a + 3, .inl (E.2.2.2.1, 14, .inl (fun _ => 0))), (a + 4, .inl (E.2.2.2.1, 14, .inl (fun _ => 0))), (a + 5, .inl (E.2.2.2.1, 14, .inl (fun _ => 0)))] : va_W))
set_option maxHeartbeats 4000000 in
set_option maxRecDepth 100000 in
theorem k_X5 (E : ZE) (l : Launch) (base d : Nat) (hd : 2 ≤ d) (P : va_W) (a : Nat) : zI E l base d 5 70 yX5_init cX5_init 1 [.ref a] (P ++ [(a, .inr (5, [.long 0, .int 0, .int 0, .null, .null, .null, .null, .null]))]) (a + 1) (P ++ tX5 E a) (a + 6) := by
  refine zI.of [(0, .ref a)] (by decide) (Nat.le_of_ble_eq_true rfl) rfl ?_
  show zNA E l base d 5 70 "LoveLocks$Reader" cX5_init 1 "<init>" (P ++ tX5 E a) (a + 6) 0 [(0, .ref a)] [] (P ++ ((a, .inr (5, [.long 0, .int 0, .int 0, .null, .null, .null, .null, .null])) :: [])) (a + 1) 0 0
  refine n_aload_n 1 dX5_init_0 rfl 0 rfl rfl ?_
  refine n_obji 4 dX5_init_1 rfl wl_X5_3 wi_objinit wc_objinit (by omega) (Nat.le_of_ble_eq_true rfl) ?_
  refine n_aload_n 5 dX5_init_4 rfl 0 rfl rfl ?_
  refine n_bipush 7 dX5_init_5 rfl zcb_14 ?_
  refine n_newa_I 9 dX5_init_7 rfl (by decide) (by decide : _ = 14) wa_int (Nat.le_of_ble_eq_true rfl) (Nat.le_of_ble_eq_true rfl) (Nat.le_of_ble_eq_true rfl) ?_
  refine n_norm (P ++ ((a, .inr (5, [.long 0, .int 0, .int 0, .null, .null, .null, .null, .null])) :: ([(a + 1, .inl (E.2.2.2.1, 14, .inl (fun _ => 0)))] : va_W))) (a + 2) (List.append_assoc _ _ _) rfl ?_
  refine n_putF 12 0 3 ((a, .inr (5, [.long 0, .int 0, .int 0, .ref (a + 1), .null, .null, .null, .null])) :: ([(a + 1, .inl (E.2.2.2.1, 14, .inl (fun _ => 0)))] : va_W)) dX5_init_9 rfl rfl (ci := 5) rfl inz5 tyX5_ok nmX5 (by decide) wf_X5_9 rfl rfl rfl rfl rfl rfl (Nat.le_of_ble_eq_true rfl) rfl ?_
  refine n_aload_n 13 dX5_init_12 rfl 0 rfl rfl ?_
  refine n_bipush 15 dX5_init_13 rfl zcb_14 ?_
  refine n_newa_I 17 dX5_init_15 rfl (by decide) (by decide : _ = 14) wa_int (Nat.le_of_ble_eq_true rfl) (Nat.le_of_ble_eq_true rfl) (Nat.le_of_ble_eq_true rfl) ?_
  refine n_norm (P ++ ((a, .inr (5, [.long 0, .int 0, .int 0, .ref (a + 1), .null, .null, .null, .null])) :: ([(a + 1, .inl (E.2.2.2.1, 14, .inl (fun _ => 0))), (a + 2, .inl (E.2.2.2.1, 14, .inl (fun _ => 0)))] : va_W))) (a + 3) (List.append_assoc _ _ _) rfl ?_
  refine n_putF 20 0 4 ((a, .inr (5, [.long 0, .int 0, .int 0, .ref (a + 1), .ref (a + 2), .null, .null, .null])) :: ([(a + 1, .inl (E.2.2.2.1, 14, .inl (fun _ => 0))), (a + 2, .inl (E.2.2.2.1, 14, .inl (fun _ => 0)))] : va_W)) dX5_init_17 rfl rfl (ci := 5) rfl inz5 tyX5_ok nmX5 (by decide) wf_X5_15 rfl rfl rfl rfl rfl rfl (Nat.le_of_ble_eq_true rfl) rfl ?_
  refine n_aload_n 21 dX5_init_20 rfl 0 rfl rfl ?_
  refine n_bipush 23 dX5_init_21 rfl zcb_14 ?_
  refine n_newa_I 25 dX5_init_23 rfl (by decide) (by decide : _ = 14) wa_int (Nat.le_of_ble_eq_true rfl) (Nat.le_of_ble_eq_true rfl) (Nat.le_of_ble_eq_true rfl) ?_
  refine n_norm (P ++ ((a, .inr (5, [.long 0, .int 0, .int 0, .ref (a + 1), .ref (a + 2), .null, .null, .null])) :: ([(a + 1, .inl (E.2.2.2.1, 14, .inl (fun _ => 0))), (a + 2, .inl (E.2.2.2.1, 14, .inl (fun _ => 0))), (a + 3, .inl (E.2.2.2.1, 14, .inl (fun _ => 0)))] : va_W))) (a + 4) (List.append_assoc _ _ _) rfl ?_
  refine n_putF 28 0 5 ((a, .inr (5, [.long 0, .int 0, .int 0, .ref (a + 1), .ref (a + 2), .ref (a + 3), .null, .null])) :: ([(a + 1, .inl (E.2.2.2.1, 14, .inl (fun _ => 0))), (a + 2, .inl (E.2.2.2.1, 14, .inl (fun _ => 0))), (a + 3, .inl (E.2.2.2.1, 14, .inl (fun _ => 0)))] : va_W)) dX5_init_25 rfl rfl (ci := 5) rfl inz5 tyX5_ok nmX5 (by decide) wf_X5_18 rfl rfl rfl rfl rfl rfl (Nat.le_of_ble_eq_true rfl) rfl ?_
  refine n_aload_n 29 dX5_init_28 rfl 0 rfl rfl ?_
  refine n_bipush 31 dX5_init_29 rfl zcb_14 ?_
  refine n_newa_I 33 dX5_init_31 rfl (by decide) (by decide : _ = 14) wa_int (Nat.le_of_ble_eq_true rfl) (Nat.le_of_ble_eq_true rfl) (Nat.le_of_ble_eq_true rfl) ?_
  refine n_norm (P ++ ((a, .inr (5, [.long 0, .int 0, .int 0, .ref (a + 1), .ref (a + 2), .ref (a + 3), .null, .null])) :: ([(a + 1, .inl (E.2.2.2.1, 14, .inl (fun _ => 0))), (a + 2, .inl (E.2.2.2.1, 14, .inl (fun _ => 0))), (a + 3, .inl (E.2.2.2.1, 14, .inl (fun _ => 0))), (a + 4, .inl (E.2.2.2.1, 14, .inl (fun _ => 0)))] : va_W))) (a + 5) (List.append_assoc _ _ _) rfl ?_
  refine n_putF 36 0 6 ((a, .inr (5, [.long 0, .int 0, .int 0, .ref (a + 1), .ref (a + 2), .ref (a + 3), .ref (a + 4), .null])) :: ([(a + 1, .inl (E.2.2.2.1, 14, .inl (fun _ => 0))), (a + 2, .inl (E.2.2.2.1, 14, .inl (fun _ => 0))), (a + 3, .inl (E.2.2.2.1, 14, .inl (fun _ => 0))), (a + 4, .inl (E.2.2.2.1, 14, .inl (fun _ => 0)))] : va_W)) dX5_init_33 rfl rfl (ci := 5) rfl inz5 tyX5_ok nmX5 (by decide) wf_X5_21 rfl rfl rfl rfl rfl rfl (Nat.le_of_ble_eq_true rfl) rfl ?_
  refine n_aload_n 37 dX5_init_36 rfl 0 rfl rfl ?_
  refine n_bipush 39 dX5_init_37 rfl zcb_14 ?_
  refine n_newa_I 41 dX5_init_39 rfl (by decide) (by decide : _ = 14) wa_int (Nat.le_of_ble_eq_true rfl) (Nat.le_of_ble_eq_true rfl) (Nat.le_of_ble_eq_true rfl) ?_
  refine n_norm (P ++ ((a, .inr (5, [.long 0, .int 0, .int 0, .ref (a + 1), .ref (a + 2), .ref (a + 3), .ref (a + 4), .null])) :: ([(a + 1, .inl (E.2.2.2.1, 14, .inl (fun _ => 0))), (a + 2, .inl (E.2.2.2.1, 14, .inl (fun _ => 0))), (a + 3, .inl (E.2.2.2.1, 14, .inl (fun _ => 0))), (a + 4, .inl (E.2.2.2.1, 14, .inl (fun _ => 0))), (a + 5, .inl (E.2.2.2.1, 14, .inl (fun _ => 0)))] : va_W))) (a + 6) (List.append_assoc _ _ _) rfl ?_
  refine n_putF 44 0 7 ((a, .inr (5, [.long 0, .int 0, .int 0, .ref (a + 1), .ref (a + 2), .ref (a + 3), .ref (a + 4), .ref (a + 5)])) :: ([(a + 1, .inl (E.2.2.2.1, 14, .inl (fun _ => 0))), (a + 2, .inl (E.2.2.2.1, 14, .inl (fun _ => 0))), (a + 3, .inl (E.2.2.2.1, 14, .inl (fun _ => 0))), (a + 4, .inl (E.2.2.2.1, 14, .inl (fun _ => 0))), (a + 5, .inl (E.2.2.2.1, 14, .inl (fun _ => 0)))] : va_W)) dX5_init_41 rfl rfl (ci := 5) rfl inz5 tyX5_ok nmX5 (by decide) wf_X5_24 rfl rfl rfl rfl rfl rfl (Nat.le_of_ble_eq_true rfl) rfl ?_
  exact n_ret dX5_init_44 (Nat.le_of_ble_eq_true rfl) (Nat.le_of_ble_eq_true rfl) rfl rfl
def tX6 (E : ZE) (a : Nat) : va_W := ((a, .inr (6, [.ref (a + 1)])) :: ([(a + 1, .inl (E.2.2.2.1, 28, .inl (fun _ => 0)))] : va_W))
set_option maxHeartbeats 4000000 in
set_option maxRecDepth 100000 in
theorem k_X6 (E : ZE) (l : Launch) (base d : Nat) (hd : 2 ≤ d) (P : va_W) (a : Nat) : zI E l base d 1 28 yX6_init cX6_init 1 [.ref a] (P ++ [(a, .inr (6, [.null]))]) (a + 1) (P ++ tX6 E a) (a + 2) := by
  refine zI.of [(0, .ref a)] (by decide) (Nat.le_of_ble_eq_true rfl) rfl ?_
  show zNA E l base d 1 28 "LoveLocks$Seeker" cX6_init 1 "<init>" (P ++ tX6 E a) (a + 2) 0 [(0, .ref a)] [] (P ++ ((a, .inr (6, [.null])) :: [])) (a + 1) 0 0
  refine n_aload_n 1 dX6_init_0 rfl 0 rfl rfl ?_
  refine n_obji 4 dX6_init_1 rfl wl_X6_3 wi_objinit wc_objinit (by omega) (Nat.le_of_ble_eq_true rfl) ?_
  refine n_aload_n 5 dX6_init_4 rfl 0 rfl rfl ?_
  refine n_bipush 7 dX6_init_5 rfl zcb_28 ?_
  refine n_newa_I 9 dX6_init_7 rfl (by decide) (by decide : _ = 28) wa_int (Nat.le_of_ble_eq_true rfl) (Nat.le_of_ble_eq_true rfl) (Nat.le_of_ble_eq_true rfl) ?_
  refine n_norm (P ++ ((a, .inr (6, [.null])) :: ([(a + 1, .inl (E.2.2.2.1, 28, .inl (fun _ => 0)))] : va_W))) (a + 2) (List.append_assoc _ _ _) rfl ?_
  refine n_putF 12 0 0 ((a, .inr (6, [.ref (a + 1)])) :: ([(a + 1, .inl (E.2.2.2.1, 28, .inl (fun _ => 0)))] : va_W)) dX6_init_9 rfl rfl (ci := 6) rfl inz6 tyX6_ok nmX6 (by decide) wf_X6_11 rfl rfl rfl rfl rfl rfl (Nat.le_of_ble_eq_true rfl) rfl ?_
  exact n_ret dX6_init_12 (Nat.le_of_ble_eq_true rfl) (Nat.le_of_ble_eq_true rfl) rfl rfl
def tX1 (E : ZE) (a : Nat) : va_W := ((a, .inr (1, [.int 0, .int 0, .int 0])) :: [])
set_option maxHeartbeats 4000000 in
set_option maxRecDepth 100000 in
theorem k_X1 (E : ZE) (l : Launch) (base d : Nat) (hd : 2 ≤ d) (P : va_W) (a : Nat) : zI E l base d 0 0 yX1_init cX1_init 1 [.ref a] (P ++ [(a, .inr (1, [.int 0, .int 0, .int 0]))]) (a + 1) (P ++ tX1 E a) (a + 1) := by
  refine zI.of [(0, .ref a)] (by decide) (Nat.le_of_ble_eq_true rfl) rfl ?_
  show zNA E l base d 0 0 "LoveLocks$Looter" cX1_init 1 "<init>" (P ++ tX1 E a) (a + 1) 0 [(0, .ref a)] [] (P ++ ((a, .inr (1, [.int 0, .int 0, .int 0])) :: [])) (a + 1) 0 0
  refine n_aload_n 1 dX1_init_0 rfl 0 rfl rfl ?_
  refine n_obji 4 dX1_init_1 rfl wl_X1_3 wi_objinit wc_objinit (by omega) (Nat.le_of_ble_eq_true rfl) ?_
  exact n_ret dX1_init_4 (Nat.le_of_ble_eq_true rfl) (Nat.le_of_ble_eq_true rfl) rfl rfl
def tX10 (E : ZE) (a : Nat) : va_W := ((a, .inr (10, [.int 0, .long 0, .long 0, .ref (a + 1)])) :: ([(a + 1, .inl (E.2.2.1, 40, .inl (fun _ => 0)))] : va_W))
set_option maxHeartbeats 4000000 in
set_option maxRecDepth 100000 in
theorem k_X10 (E : ZE) (l : Launch) (base d : Nat) (hd : 2 ≤ d) (P : va_W) (a : Nat) : zI E l base d 1 40 yX10_init cX10_init 1 [.ref a] (P ++ [(a, .inr (10, [.int 0, .long 0, .long 0, .null]))]) (a + 1) (P ++ tX10 E a) (a + 2) := by
  refine zI.of [(0, .ref a)] (by decide) (Nat.le_of_ble_eq_true rfl) rfl ?_
  show zNA E l base d 1 40 "LoveLocks$Tape" cX10_init 1 "<init>" (P ++ tX10 E a) (a + 2) 0 [(0, .ref a)] [] (P ++ ((a, .inr (10, [.int 0, .long 0, .long 0, .null])) :: [])) (a + 1) 0 0
  refine n_aload_n 1 dX10_init_0 rfl 0 rfl rfl ?_
  refine n_obji 4 dX10_init_1 rfl wl_X10_3 wi_objinit wc_objinit (by omega) (Nat.le_of_ble_eq_true rfl) ?_
  refine n_aload_n 5 dX10_init_4 rfl 0 rfl rfl ?_
  refine n_bipush 7 dX10_init_5 rfl zcb_40 ?_
  refine n_newa_B 9 dX10_init_7 rfl (by decide) (by decide : _ = 40) wa_byte (Nat.le_of_ble_eq_true rfl) (Nat.le_of_ble_eq_true rfl) (Nat.le_of_ble_eq_true rfl) ?_
  refine n_norm (P ++ ((a, .inr (10, [.int 0, .long 0, .long 0, .null])) :: ([(a + 1, .inl (E.2.2.1, 40, .inl (fun _ => 0)))] : va_W))) (a + 2) (List.append_assoc _ _ _) rfl ?_
  refine n_putF 12 0 3 ((a, .inr (10, [.int 0, .long 0, .long 0, .ref (a + 1)])) :: ([(a + 1, .inl (E.2.2.1, 40, .inl (fun _ => 0)))] : va_W)) dX10_init_9 rfl rfl (ci := 10) rfl inz10 tyX10_ok nmX10 (by decide) wf_X10_9 rfl rfl rfl rfl rfl rfl (Nat.le_of_ble_eq_true rfl) rfl ?_
  exact n_ret dX10_init_12 (Nat.le_of_ble_eq_true rfl) (Nat.le_of_ble_eq_true rfl) rfl rfl
def tX7 (E : ZE) (a : Nat) : va_W := ((a, .inr (7, [.ref (a + 1), .ref (a + 2), .ref (a + 3)])) :: (([(a + 1, .inl (E.2.2.2.1, 4, .inl (z_fill 4 (-1 : Int32) (fun _ => 0)))), (a + 2, .inl (E.2.2.2.1, 4, .inl (fun _ => 0)))] : va_W) ++ ((a + 3, .inl (E.2.2.2.2.2, 4, .inr (.inr (.inr (.inr (fun i => if i < 4 then some (a + 3 + 1 + i) else none)))))) :: zrow E.2.2.2.1 (a + 3 + 1) 4 24)))
set_option maxHeartbeats 4000000 in
set_option maxRecDepth 100000 in
theorem k_X7 (E : ZE) (l : Launch) (base d : Nat) (hd : 4 ≤ d) (P : va_W) (a : Nat) : zI E l base d 7 108 yX7_init cX7_init 1 [.ref a] (P ++ [(a, .inr (7, [.null, .null, .null]))]) (a + 1) (P ++ tX7 E a) (a + 8) := by
  refine zI.of [(0, .ref a)] (by decide) (Nat.le_of_ble_eq_true rfl) rfl ?_
  show zNA E l base d 7 108 "LoveLocks$Sheets" cX7_init 1 "<init>" (P ++ tX7 E a) (a + 8) 0 [(0, .ref a)] [] (P ++ ((a, .inr (7, [.null, .null, .null])) :: [])) (a + 1) 0 0
  refine n_aload_n 1 dX7_init_0 rfl 0 rfl rfl ?_
  refine n_obji 4 dX7_init_1 rfl wl_X7_3 wi_objinit wc_objinit (by omega) (Nat.le_of_ble_eq_true rfl) ?_
  refine n_aload_n 5 dX7_init_4 rfl 0 rfl rfl ?_
  refine n_iconst 6 dX7_init_5 rfl zci_4 ?_
  refine n_newa_I 8 dX7_init_6 rfl (by decide) (by decide : _ = 4) wa_int (Nat.le_of_ble_eq_true rfl) (Nat.le_of_ble_eq_true rfl) (Nat.le_of_ble_eq_true rfl) ?_
  refine n_norm (P ++ ((a, .inr (7, [.null, .null, .null])) :: ([(a + 1, .inl (E.2.2.2.1, 4, .inl (fun _ => 0)))] : va_W))) (a + 2) (List.append_assoc _ _ _) rfl ?_
  refine n_putF 11 0 0 ((a, .inr (7, [.ref (a + 1), .null, .null])) :: ([(a + 1, .inl (E.2.2.2.1, 4, .inl (fun _ => 0)))] : va_W)) dX7_init_8 rfl rfl (ci := 7) rfl inz7 tyX7_ok nmX7 (by decide) wf_X7_9 rfl rfl rfl rfl rfl rfl (Nat.le_of_ble_eq_true rfl) rfl ?_
  refine n_aload_n 12 dX7_init_11 rfl 0 rfl rfl ?_
  refine n_iconst 13 dX7_init_12 rfl zci_4 ?_
  refine n_newa_I 15 dX7_init_13 rfl (by decide) (by decide : _ = 4) wa_int (Nat.le_of_ble_eq_true rfl) (Nat.le_of_ble_eq_true rfl) (Nat.le_of_ble_eq_true rfl) ?_
  refine n_norm (P ++ ((a, .inr (7, [.ref (a + 1), .null, .null])) :: ([(a + 1, .inl (E.2.2.2.1, 4, .inl (fun _ => 0))), (a + 2, .inl (E.2.2.2.1, 4, .inl (fun _ => 0)))] : va_W))) (a + 3) (List.append_assoc _ _ _) rfl ?_
  refine n_putF 18 0 1 ((a, .inr (7, [.ref (a + 1), .ref (a + 2), .null])) :: ([(a + 1, .inl (E.2.2.2.1, 4, .inl (fun _ => 0))), (a + 2, .inl (E.2.2.2.1, 4, .inl (fun _ => 0)))] : va_W)) dX7_init_15 rfl rfl (ci := 7) rfl inz7 tyX7_ok nmX7 (by decide) wf_X7_15 rfl rfl rfl rfl rfl rfl (Nat.le_of_ble_eq_true rfl) rfl ?_
  refine n_aload_n 19 dX7_init_18 rfl 0 rfl rfl ?_
  refine n_iconst 20 dX7_init_19 rfl zci_4 ?_
  refine n_bipush 22 dX7_init_20 rfl zcb_24 ?_
  refine n_mna 26 dX7_init_22 rfl (by decide) (by decide) (by decide : _ = 4) (by decide : _ = 24) wcl_X7_18 wa_int (Nat.le_of_ble_eq_true rfl) (Nat.le_of_ble_eq_true rfl) (Nat.le_of_ble_eq_true rfl) (Nat.le_of_ble_eq_true rfl) ?_
  refine n_norm (P ++ ((a, .inr (7, [.ref (a + 1), .ref (a + 2), .null])) :: (([(a + 1, .inl (E.2.2.2.1, 4, .inl (fun _ => 0))), (a + 2, .inl (E.2.2.2.1, 4, .inl (fun _ => 0)))] : va_W) ++ ((a + 3, .inl (E.2.2.2.2.2, 4, .inr (.inr (.inr (.inr (fun i => if i < 4 then some (a + 3 + 1 + i) else none)))))) :: zrow E.2.2.2.1 (a + 3 + 1) 4 24)))) (a + 8) (List.append_assoc _ _ _) rfl ?_
  refine n_putF 29 0 2 ((a, .inr (7, [.ref (a + 1), .ref (a + 2), .ref (a + 3)])) :: (([(a + 1, .inl (E.2.2.2.1, 4, .inl (fun _ => 0))), (a + 2, .inl (E.2.2.2.1, 4, .inl (fun _ => 0)))] : va_W) ++ ((a + 3, .inl (E.2.2.2.2.2, 4, .inr (.inr (.inr (.inr (fun i => if i < 4 then some (a + 3 + 1 + i) else none)))))) :: zrow E.2.2.2.1 (a + 3 + 1) 4 24))) dX7_init_26 rfl rfl (ci := 7) rfl inz7 tyX7_ok nmX7 (by decide) wf_X7_20 rfl rfl rfl rfl rfl rfl (Nat.le_of_ble_eq_true rfl) rfl ?_
  refine n_aload_n 30 dX7_init_29 rfl 0 rfl rfl ?_
  refine n_get (P := P) (R := ((a, .inr (7, [.ref (a + 1), .ref (a + 2), .ref (a + 3)])) :: (([(a + 1, .inl (E.2.2.2.1, 4, .inl (fun _ => 0))), (a + 2, .inl (E.2.2.2.1, 4, .inl (fun _ => 0)))] : va_W) ++ ((a + 3, .inl (E.2.2.2.2.2, 4, .inr (.inr (.inr (.inr (fun i => if i < 4 then some (a + 3 + 1 + i) else none)))))) :: zrow E.2.2.2.1 (a + 3 + 1) 4 24)))) 33 0 0 dX7_init_30 rfl rfl (ci := 7) rfl inz7 (by decide) wf_X7_9 rfl ?_
  refine n_iconst 34 dX7_init_33 rfl zci_m1 ?_
  refine n_callS 37 (P ++ ((a, .inr (7, [.ref (a + 1), .ref (a + 2), .ref (a + 3)])) :: (([(a + 1, .inl (E.2.2.2.1, 4, .inl (z_fill 4 (-1 : Int32) (fun _ => 0)))), (a + 2, .inl (E.2.2.2.1, 4, .inl (fun _ => 0)))] : va_W) ++ ((a + 3, .inl (E.2.2.2.2.2, 4, .inr (.inr (.inr (.inr (fun i => if i < 4 then some (a + 3 + 1 + i) else none)))))) :: zrow E.2.2.2.1 (a + 3 + 1) 4 24)))) (a + 8) [.ref (a + 1), .int (-1 : Int32)] 2 rfl (st := []) rfl dX7_init_34 rfl (List.append_assoc P ([(a, .inr (7, [.ref (a + 1), .ref (a + 2), .ref (a + 3)]))] : va_W) ((a + 1, .inl (E.2.2.2.1, 4, .inl (fun _ => 0))) :: (([(a + 2, .inl (E.2.2.2.1, 4, .inl (fun _ => 0)))] : va_W) ++ ((a + 3, .inl (E.2.2.2.2.2, 4, .inr (.inr (.inr (.inr (fun i => if i < 4 then some (a + 3 + 1 + i) else none)))))) :: zrow E.2.2.2.1 (a + 3 + 1) 4 24)))).symm (k_fill E l base (d - 1) (by omega) (P ++ ([(a, .inr (7, [.ref (a + 1), .ref (a + 2), .ref (a + 3)]))] : va_W)) (([(a + 2, .inl (E.2.2.2.1, 4, .inl (fun _ => 0)))] : va_W) ++ ((a + 3, .inl (E.2.2.2.2.2, 4, .inr (.inr (.inr (.inr (fun i => if i < 4 then some (a + 3 + 1 + i) else none)))))) :: zrow E.2.2.2.1 (a + 3 + 1) 4 24)) (a + 1) 4 (by decide) (-1 : Int32) (fun _ => 0) (a + 8)) (List.append_assoc P ([(a, .inr (7, [.ref (a + 1), .ref (a + 2), .ref (a + 3)]))] : va_W) _) rfl wc_J7_fill_53178 wz_J7 wl_X7_23 wst_J7_fill_53178 zd_J7_fill_53178 (by decide) (by omega) (Nat.le_of_ble_eq_true rfl) (Nat.le_of_ble_eq_true rfl) (Nat.le_of_ble_eq_true rfl) ?_
  exact n_ret dX7_init_37 (Nat.le_of_ble_eq_true rfl) (Nat.le_of_ble_eq_true rfl) rfl rfl
def tX11 (E : ZE) (a : Nat) : va_W := ((a, .inr (11, [.ref (a + 1), .ref (a + 56), .int 0, .ref (a + 111), .ref (a + 117), .ref (a + 119), .ref (a + 120), .ref (a + 122)])) :: ((((((tX9 E (a + 1) ++ tX9 E (a + 56)) ++ tX5 E (a + 111)) ++ tX6 E (a + 117)) ++ tX1 E (a + 119)) ++ tX10 E (a + 120)) ++ tX7 E (a + 122)))
set_option maxHeartbeats 4000000 in
set_option maxRecDepth 100000 in
theorem k_X11 (E : ZE) (l : Launch) (base d : Nat) (hd : 8 ≤ d) (P : va_W) (a : Nat) : zI E l base d 129 4129 yX11_init cX11_init 1 [.ref a] (P ++ [(a, .inr (11, [.null, .null, .int 0, .null, .null, .null, .null, .null]))]) (a + 1) (P ++ tX11 E a) (a + 130) := by
  refine zI.of [(0, .ref a)] (by decide) (Nat.le_of_ble_eq_true rfl) rfl ?_
  show zNA E l base d 129 4129 "LoveLocks" cX11_init 1 "<init>" (P ++ tX11 E a) (a + 130) 0 [(0, .ref a)] [] (P ++ ((a, .inr (11, [.null, .null, .int 0, .null, .null, .null, .null, .null])) :: [])) (a + 1) 0 0
  refine n_aload_n 1 dX11_init_0 rfl 0 rfl rfl ?_
  refine n_obji 4 dX11_init_1 rfl wl_X11_1 wi_objinit wc_objinit (by omega) (Nat.le_of_ble_eq_true rfl) ?_
  refine n_aload_n 5 dX11_init_4 rfl 0 rfl rfl ?_
  refine n_new (fs := [.null, .null, .null, .null, .null]) 8 dX11_init_5 rfl (ci := 9) rfl inz9 tyX9_ok wcl_X11_7 wit_X9 wz_X9 (fun j hj => match j, hj with | 0, _ => rfl | 1, _ => rfl | 2, _ => rfl | 3, _ => rfl | 4, _ => rfl | k + 5, h => absurd h (by omega)) (Nat.le_of_ble_eq_true rfl) (Nat.le_of_ble_eq_true rfl) ?_
  refine n_norm (P ++ ((a, .inr (11, [.null, .null, .int 0, .null, .null, .null, .null, .null])) :: ([(a + 1, .inr (9, [.null, .null, .null, .null, .null]))] : va_W))) (a + 2) (List.append_assoc _ _ _) rfl ?_
  refine n_dup 9 dX11_init_8 rfl rfl ?_
  refine n_callN 12 (P ++ ((a, .inr (11, [.null, .null, .int 0, .null, .null, .null, .null, .null])) :: tX9 E (a + 1))) (a + 56) dX11_init_9 rfl (List.append_assoc P ((a, .inr (11, [.null, .null, .int 0, .null, .null, .null, .null, .null])) :: []) _).symm (k_X9 E l base (d - 1) (by omega) (P ++ ((a, .inr (11, [.null, .null, .int 0, .null, .null, .null, .null, .null])) :: [])) (a + 1)) (List.append_assoc P ((a, .inr (11, [.null, .null, .int 0, .null, .null, .null, .null, .null])) :: []) _) rfl wc_X9_init wz_X9 (by unfold z_nest; simp) rfl wi_X9_init zd_X9_init (by decide) (by omega) (Nat.le_of_ble_eq_true rfl) (Nat.le_of_ble_eq_true rfl) (Nat.le_of_ble_eq_true rfl) ?_
  refine n_putF 15 0 0 ((a, .inr (11, [.ref (a + 1), .null, .int 0, .null, .null, .null, .null, .null])) :: tX9 E (a + 1)) dX11_init_12 rfl rfl (ci := 11) rfl inz11 tyX11_ok nmX11 (by decide) wf_X11_10 rfl rfl rfl rfl rfl rfl (Nat.le_of_ble_eq_true rfl) rfl ?_
  refine n_aload_n 16 dX11_init_15 rfl 0 rfl rfl ?_
  refine n_new (fs := [.null, .null, .null, .null, .null]) 19 dX11_init_16 rfl (ci := 9) rfl inz9 tyX9_ok wcl_X11_7 wit_X9 wz_X9 (fun j hj => match j, hj with | 0, _ => rfl | 1, _ => rfl | 2, _ => rfl | 3, _ => rfl | 4, _ => rfl | k + 5, h => absurd h (by omega)) (Nat.le_of_ble_eq_true rfl) (Nat.le_of_ble_eq_true rfl) ?_
  refine n_norm (P ++ ((a, .inr (11, [.ref (a + 1), .null, .int 0, .null, .null, .null, .null, .null])) :: (tX9 E (a + 1) ++ ([(a + 56, .inr (9, [.null, .null, .null, .null, .null]))] : va_W)))) (a + 57) (List.append_assoc _ _ _) rfl ?_
  refine n_dup 20 dX11_init_19 rfl rfl ?_
  refine n_callN 23 (P ++ ((a, .inr (11, [.ref (a + 1), .null, .int 0, .null, .null, .null, .null, .null])) :: (tX9 E (a + 1) ++ tX9 E (a + 56)))) (a + 111) dX11_init_20 rfl (List.append_assoc P ((a, .inr (11, [.ref (a + 1), .null, .int 0, .null, .null, .null, .null, .null])) :: tX9 E (a + 1)) _).symm (k_X9 E l base (d - 1) (by omega) (P ++ ((a, .inr (11, [.ref (a + 1), .null, .int 0, .null, .null, .null, .null, .null])) :: tX9 E (a + 1))) (a + 56)) (List.append_assoc P ((a, .inr (11, [.ref (a + 1), .null, .int 0, .null, .null, .null, .null, .null])) :: tX9 E (a + 1)) _) rfl wc_X9_init wz_X9 (by unfold z_nest; simp) rfl wi_X9_init zd_X9_init (by decide) (by omega) (Nat.le_of_ble_eq_true rfl) (Nat.le_of_ble_eq_true rfl) (Nat.le_of_ble_eq_true rfl) ?_
  refine n_putF 26 0 1 ((a, .inr (11, [.ref (a + 1), .ref (a + 56), .int 0, .null, .null, .null, .null, .null])) :: (tX9 E (a + 1) ++ tX9 E (a + 56))) dX11_init_23 rfl rfl (ci := 11) rfl inz11 tyX11_ok nmX11 (by decide) wf_X11_16 rfl rfl rfl rfl rfl rfl (Nat.le_of_ble_eq_true rfl) rfl ?_
  refine n_aload_n 27 dX11_init_26 rfl 0 rfl rfl ?_
  refine n_new (fs := [.long 0, .int 0, .int 0, .null, .null, .null, .null, .null]) 30 dX11_init_27 rfl (ci := 5) rfl inz5 tyX5_ok wcl_X11_19 wit_X5 wz_X5 (fun j hj => match j, hj with | 0, _ => rfl | 1, _ => rfl | 2, _ => rfl | 3, _ => rfl | 4, _ => rfl | 5, _ => rfl | 6, _ => rfl | 7, _ => rfl | k + 8, h => absurd h (by omega)) (Nat.le_of_ble_eq_true rfl) (Nat.le_of_ble_eq_true rfl) ?_
  refine n_norm (P ++ ((a, .inr (11, [.ref (a + 1), .ref (a + 56), .int 0, .null, .null, .null, .null, .null])) :: ((tX9 E (a + 1) ++ tX9 E (a + 56)) ++ ([(a + 111, .inr (5, [.long 0, .int 0, .int 0, .null, .null, .null, .null, .null]))] : va_W)))) (a + 112) (List.append_assoc _ _ _) rfl ?_
  refine n_dup 31 dX11_init_30 rfl rfl ?_
  refine n_callN 34 (P ++ ((a, .inr (11, [.ref (a + 1), .ref (a + 56), .int 0, .null, .null, .null, .null, .null])) :: ((tX9 E (a + 1) ++ tX9 E (a + 56)) ++ tX5 E (a + 111)))) (a + 117) dX11_init_31 rfl (List.append_assoc P ((a, .inr (11, [.ref (a + 1), .ref (a + 56), .int 0, .null, .null, .null, .null, .null])) :: (tX9 E (a + 1) ++ tX9 E (a + 56))) _).symm (k_X5 E l base (d - 1) (by omega) (P ++ ((a, .inr (11, [.ref (a + 1), .ref (a + 56), .int 0, .null, .null, .null, .null, .null])) :: (tX9 E (a + 1) ++ tX9 E (a + 56)))) (a + 111)) (List.append_assoc P ((a, .inr (11, [.ref (a + 1), .ref (a + 56), .int 0, .null, .null, .null, .null, .null])) :: (tX9 E (a + 1) ++ tX9 E (a + 56))) _) rfl wc_X5_init wz_X5 (by unfold z_nest; simp) rfl wi_X5_init zd_X5_init (by decide) (by omega) (Nat.le_of_ble_eq_true rfl) (Nat.le_of_ble_eq_true rfl) (Nat.le_of_ble_eq_true rfl) ?_
  refine n_putF 37 0 3 ((a, .inr (11, [.ref (a + 1), .ref (a + 56), .int 0, .ref (a + 111), .null, .null, .null, .null])) :: ((tX9 E (a + 1) ++ tX9 E (a + 56)) ++ tX5 E (a + 111))) dX11_init_34 rfl rfl (ci := 11) rfl inz11 tyX11_ok nmX11 (by decide) wf_X11_22 rfl rfl rfl rfl rfl rfl (Nat.le_of_ble_eq_true rfl) rfl ?_
  refine n_aload_n 38 dX11_init_37 rfl 0 rfl rfl ?_
  refine n_new (fs := [.null]) 41 dX11_init_38 rfl (ci := 6) rfl inz6 tyX6_ok wcl_X11_26 wit_X6 wz_X6 (fun j hj => match j, hj with | 0, _ => rfl | k + 1, h => absurd h (by omega)) (Nat.le_of_ble_eq_true rfl) (Nat.le_of_ble_eq_true rfl) ?_
  refine n_norm (P ++ ((a, .inr (11, [.ref (a + 1), .ref (a + 56), .int 0, .ref (a + 111), .null, .null, .null, .null])) :: (((tX9 E (a + 1) ++ tX9 E (a + 56)) ++ tX5 E (a + 111)) ++ ([(a + 117, .inr (6, [.null]))] : va_W)))) (a + 118) (List.append_assoc _ _ _) rfl ?_
  refine n_dup 42 dX11_init_41 rfl rfl ?_
  refine n_callN 45 (P ++ ((a, .inr (11, [.ref (a + 1), .ref (a + 56), .int 0, .ref (a + 111), .null, .null, .null, .null])) :: (((tX9 E (a + 1) ++ tX9 E (a + 56)) ++ tX5 E (a + 111)) ++ tX6 E (a + 117)))) (a + 119) dX11_init_42 rfl (List.append_assoc P ((a, .inr (11, [.ref (a + 1), .ref (a + 56), .int 0, .ref (a + 111), .null, .null, .null, .null])) :: ((tX9 E (a + 1) ++ tX9 E (a + 56)) ++ tX5 E (a + 111))) _).symm (k_X6 E l base (d - 1) (by omega) (P ++ ((a, .inr (11, [.ref (a + 1), .ref (a + 56), .int 0, .ref (a + 111), .null, .null, .null, .null])) :: ((tX9 E (a + 1) ++ tX9 E (a + 56)) ++ tX5 E (a + 111)))) (a + 117)) (List.append_assoc P ((a, .inr (11, [.ref (a + 1), .ref (a + 56), .int 0, .ref (a + 111), .null, .null, .null, .null])) :: ((tX9 E (a + 1) ++ tX9 E (a + 56)) ++ tX5 E (a + 111))) _) rfl wc_X6_init wz_X6 (by unfold z_nest; simp) rfl wi_X6_init zd_X6_init (by decide) (by omega) (Nat.le_of_ble_eq_true rfl) (Nat.le_of_ble_eq_true rfl) (Nat.le_of_ble_eq_true rfl) ?_
  refine n_putF 48 0 4 ((a, .inr (11, [.ref (a + 1), .ref (a + 56), .int 0, .ref (a + 111), .ref (a + 117), .null, .null, .null])) :: (((tX9 E (a + 1) ++ tX9 E (a + 56)) ++ tX5 E (a + 111)) ++ tX6 E (a + 117))) dX11_init_45 rfl rfl (ci := 11) rfl inz11 tyX11_ok nmX11 (by decide) wf_X11_29 rfl rfl rfl rfl rfl rfl (Nat.le_of_ble_eq_true rfl) rfl ?_
  refine n_aload_n 49 dX11_init_48 rfl 0 rfl rfl ?_
  refine n_new (fs := [.int 0, .int 0, .int 0]) 52 dX11_init_49 rfl (ci := 1) rfl inz1 tyX1_ok wcl_X11_33 wit_X1 wz_X1 (fun j hj => match j, hj with | 0, _ => rfl | 1, _ => rfl | 2, _ => rfl | k + 3, h => absurd h (by omega)) (Nat.le_of_ble_eq_true rfl) (Nat.le_of_ble_eq_true rfl) ?_
  refine n_norm (P ++ ((a, .inr (11, [.ref (a + 1), .ref (a + 56), .int 0, .ref (a + 111), .ref (a + 117), .null, .null, .null])) :: ((((tX9 E (a + 1) ++ tX9 E (a + 56)) ++ tX5 E (a + 111)) ++ tX6 E (a + 117)) ++ ([(a + 119, .inr (1, [.int 0, .int 0, .int 0]))] : va_W)))) (a + 120) (List.append_assoc _ _ _) rfl ?_
  refine n_dup 53 dX11_init_52 rfl rfl ?_
  refine n_callN 56 (P ++ ((a, .inr (11, [.ref (a + 1), .ref (a + 56), .int 0, .ref (a + 111), .ref (a + 117), .null, .null, .null])) :: ((((tX9 E (a + 1) ++ tX9 E (a + 56)) ++ tX5 E (a + 111)) ++ tX6 E (a + 117)) ++ tX1 E (a + 119)))) (a + 120) dX11_init_53 rfl (List.append_assoc P ((a, .inr (11, [.ref (a + 1), .ref (a + 56), .int 0, .ref (a + 111), .ref (a + 117), .null, .null, .null])) :: (((tX9 E (a + 1) ++ tX9 E (a + 56)) ++ tX5 E (a + 111)) ++ tX6 E (a + 117))) _).symm (k_X1 E l base (d - 1) (by omega) (P ++ ((a, .inr (11, [.ref (a + 1), .ref (a + 56), .int 0, .ref (a + 111), .ref (a + 117), .null, .null, .null])) :: (((tX9 E (a + 1) ++ tX9 E (a + 56)) ++ tX5 E (a + 111)) ++ tX6 E (a + 117)))) (a + 119)) (List.append_assoc P ((a, .inr (11, [.ref (a + 1), .ref (a + 56), .int 0, .ref (a + 111), .ref (a + 117), .null, .null, .null])) :: (((tX9 E (a + 1) ++ tX9 E (a + 56)) ++ tX5 E (a + 111)) ++ tX6 E (a + 117))) _) rfl wc_X1_init wz_X1 (by unfold z_nest; simp) rfl wi_X1_init zd_X1_init (by decide) (by omega) (Nat.le_of_ble_eq_true rfl) (Nat.le_of_ble_eq_true rfl) (Nat.le_of_ble_eq_true rfl) ?_
  refine n_putF 59 0 5 ((a, .inr (11, [.ref (a + 1), .ref (a + 56), .int 0, .ref (a + 111), .ref (a + 117), .ref (a + 119), .null, .null])) :: ((((tX9 E (a + 1) ++ tX9 E (a + 56)) ++ tX5 E (a + 111)) ++ tX6 E (a + 117)) ++ tX1 E (a + 119))) dX11_init_56 rfl rfl (ci := 11) rfl inz11 tyX11_ok nmX11 (by decide) wf_X11_36 rfl rfl rfl rfl rfl rfl (Nat.le_of_ble_eq_true rfl) rfl ?_
  refine n_aload_n 60 dX11_init_59 rfl 0 rfl rfl ?_
  refine n_new (fs := [.int 0, .long 0, .long 0, .null]) 63 dX11_init_60 rfl (ci := 10) rfl inz10 tyX10_ok wcl_X11_40 wit_X10 wz_X10 (fun j hj => match j, hj with | 0, _ => rfl | 1, _ => rfl | 2, _ => rfl | 3, _ => rfl | k + 4, h => absurd h (by omega)) (Nat.le_of_ble_eq_true rfl) (Nat.le_of_ble_eq_true rfl) ?_
  refine n_norm (P ++ ((a, .inr (11, [.ref (a + 1), .ref (a + 56), .int 0, .ref (a + 111), .ref (a + 117), .ref (a + 119), .null, .null])) :: (((((tX9 E (a + 1) ++ tX9 E (a + 56)) ++ tX5 E (a + 111)) ++ tX6 E (a + 117)) ++ tX1 E (a + 119)) ++ ([(a + 120, .inr (10, [.int 0, .long 0, .long 0, .null]))] : va_W)))) (a + 121) (List.append_assoc _ _ _) rfl ?_
  refine n_dup 64 dX11_init_63 rfl rfl ?_
  refine n_callN 67 (P ++ ((a, .inr (11, [.ref (a + 1), .ref (a + 56), .int 0, .ref (a + 111), .ref (a + 117), .ref (a + 119), .null, .null])) :: (((((tX9 E (a + 1) ++ tX9 E (a + 56)) ++ tX5 E (a + 111)) ++ tX6 E (a + 117)) ++ tX1 E (a + 119)) ++ tX10 E (a + 120)))) (a + 122) dX11_init_64 rfl (List.append_assoc P ((a, .inr (11, [.ref (a + 1), .ref (a + 56), .int 0, .ref (a + 111), .ref (a + 117), .ref (a + 119), .null, .null])) :: ((((tX9 E (a + 1) ++ tX9 E (a + 56)) ++ tX5 E (a + 111)) ++ tX6 E (a + 117)) ++ tX1 E (a + 119))) _).symm (k_X10 E l base (d - 1) (by omega) (P ++ ((a, .inr (11, [.ref (a + 1), .ref (a + 56), .int 0, .ref (a + 111), .ref (a + 117), .ref (a + 119), .null, .null])) :: ((((tX9 E (a + 1) ++ tX9 E (a + 56)) ++ tX5 E (a + 111)) ++ tX6 E (a + 117)) ++ tX1 E (a + 119)))) (a + 120)) (List.append_assoc P ((a, .inr (11, [.ref (a + 1), .ref (a + 56), .int 0, .ref (a + 111), .ref (a + 117), .ref (a + 119), .null, .null])) :: ((((tX9 E (a + 1) ++ tX9 E (a + 56)) ++ tX5 E (a + 111)) ++ tX6 E (a + 117)) ++ tX1 E (a + 119))) _) rfl wc_X10_init wz_X10 (by unfold z_nest; simp) rfl wi_X10_init zd_X10_init (by decide) (by omega) (Nat.le_of_ble_eq_true rfl) (Nat.le_of_ble_eq_true rfl) (Nat.le_of_ble_eq_true rfl) ?_
  refine n_putF 70 0 6 ((a, .inr (11, [.ref (a + 1), .ref (a + 56), .int 0, .ref (a + 111), .ref (a + 117), .ref (a + 119), .ref (a + 120), .null])) :: (((((tX9 E (a + 1) ++ tX9 E (a + 56)) ++ tX5 E (a + 111)) ++ tX6 E (a + 117)) ++ tX1 E (a + 119)) ++ tX10 E (a + 120))) dX11_init_67 rfl rfl (ci := 11) rfl inz11 tyX11_ok nmX11 (by decide) wf_X11_43 rfl rfl rfl rfl rfl rfl (Nat.le_of_ble_eq_true rfl) rfl ?_
  refine n_aload_n 71 dX11_init_70 rfl 0 rfl rfl ?_
  refine n_new (fs := [.null, .null, .null]) 74 dX11_init_71 rfl (ci := 7) rfl inz7 tyX7_ok wcl_X11_47 wit_X7 wz_X7 (fun j hj => match j, hj with | 0, _ => rfl | 1, _ => rfl | 2, _ => rfl | k + 3, h => absurd h (by omega)) (Nat.le_of_ble_eq_true rfl) (Nat.le_of_ble_eq_true rfl) ?_
  refine n_norm (P ++ ((a, .inr (11, [.ref (a + 1), .ref (a + 56), .int 0, .ref (a + 111), .ref (a + 117), .ref (a + 119), .ref (a + 120), .null])) :: ((((((tX9 E (a + 1) ++ tX9 E (a + 56)) ++ tX5 E (a + 111)) ++ tX6 E (a + 117)) ++ tX1 E (a + 119)) ++ tX10 E (a + 120)) ++ ([(a + 122, .inr (7, [.null, .null, .null]))] : va_W)))) (a + 123) (List.append_assoc _ _ _) rfl ?_
  refine n_dup 75 dX11_init_74 rfl rfl ?_
  refine n_callI 78 (P ++ ((a, .inr (11, [.ref (a + 1), .ref (a + 56), .int 0, .ref (a + 111), .ref (a + 117), .ref (a + 119), .ref (a + 120), .null])) :: ((((((tX9 E (a + 1) ++ tX9 E (a + 56)) ++ tX5 E (a + 111)) ++ tX6 E (a + 117)) ++ tX1 E (a + 119)) ++ tX10 E (a + 120)) ++ tX7 E (a + 122)))) (a + 130) dX11_init_75 rfl (List.append_assoc P ((a, .inr (11, [.ref (a + 1), .ref (a + 56), .int 0, .ref (a + 111), .ref (a + 117), .ref (a + 119), .ref (a + 120), .null])) :: (((((tX9 E (a + 1) ++ tX9 E (a + 56)) ++ tX5 E (a + 111)) ++ tX6 E (a + 117)) ++ tX1 E (a + 119)) ++ tX10 E (a + 120))) _).symm (k_X7 E l base (d - 1) (by omega) (P ++ ((a, .inr (11, [.ref (a + 1), .ref (a + 56), .int 0, .ref (a + 111), .ref (a + 117), .ref (a + 119), .ref (a + 120), .null])) :: (((((tX9 E (a + 1) ++ tX9 E (a + 56)) ++ tX5 E (a + 111)) ++ tX6 E (a + 117)) ++ tX1 E (a + 119)) ++ tX10 E (a + 120)))) (a + 122)) (List.append_assoc P ((a, .inr (11, [.ref (a + 1), .ref (a + 56), .int 0, .ref (a + 111), .ref (a + 117), .ref (a + 119), .ref (a + 120), .null])) :: (((((tX9 E (a + 1) ++ tX9 E (a + 56)) ++ tX5 E (a + 111)) ++ tX6 E (a + 117)) ++ tX1 E (a + 119)) ++ tX10 E (a + 120))) _) rfl wc_X7_init wz_X7 wl_X11_49 rfl wi_X7_init zd_X7_init (by decide) (by omega) (Nat.le_of_ble_eq_true rfl) (Nat.le_of_ble_eq_true rfl) (Nat.le_of_ble_eq_true rfl) ?_
  refine n_putF 81 0 7 ((a, .inr (11, [.ref (a + 1), .ref (a + 56), .int 0, .ref (a + 111), .ref (a + 117), .ref (a + 119), .ref (a + 120), .ref (a + 122)])) :: ((((((tX9 E (a + 1) ++ tX9 E (a + 56)) ++ tX5 E (a + 111)) ++ tX6 E (a + 117)) ++ tX1 E (a + 119)) ++ tX10 E (a + 120)) ++ tX7 E (a + 122))) dX11_init_78 rfl rfl (ci := 11) rfl inz11 tyX11_ok nmX11 (by decide) wf_X11_50 rfl rfl rfl rfl rfl rfl (Nat.le_of_ble_eq_true rfl) rfl ?_
  exact n_ret dX11_init_81 (Nat.le_of_ble_eq_true rfl) (Nat.le_of_ble_eq_true rfl) rfl rfl
