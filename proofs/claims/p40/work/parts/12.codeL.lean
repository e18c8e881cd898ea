-- L_cell
def f_L_cell (xs : Nat → Int32) (len : Nat) (a1 : Int32) : Option (Int32) :=
  if (Int32.ofNat len) ≤ a1 then
  some ((((15485957 : Int32) * a1) + (107 : Int32)) &&& (2147483647 : Int32))
else
  if z_in a1 len then
    some ((xs a1.toNatClampNeg) &&& (2147483647 : Int32))
  else none
set_option maxHeartbeats 4000000 in
set_option maxRecDepth 100000 in
theorem c_L_cell (G : ZG) (l : Launch) (d : Nat) (hd : 1 ≤ d) (w0 : ZW) (xs : Nat → Int32) (len : Nat) (a1 : Int32) (hxs : z_x G = xs) (hlen : z_l G = len) : ∀ o, f_L_cell xs len a1 = some o → zM G l d yL_cell cL_cell 2 (some .int) [.ref (z_b G), .int a1] w0 (some (.int o)) w0 := by
  intro o ho
  refine zM.of [(0, .ref (z_b G)), (1, .int a1)] (by decide) (Nat.le_of_ble_eq_true rfl) rfl ?_
  refine (?_ : zR G l d "LoveLocksLaw" cL_cell 2 (some .int) (some (.int o)) w0 (fun x => x = o) 0 [(0, .ref (z_b G)), (1, .int a1)] [] w0 (f_L_cell xs len a1)) o ho rfl
  rw [f_L_cell]
  refine r_iload_n 1 dL_cell_0 rfl 1 rfl rfl ?_
  refine r_aload_n 2 dL_cell_1 rfl 0 rfl rfl ?_
  refine r_slen 3 hlen dL_cell_2 rfl ?_
  refine r_icmp_ge 12 6 dL_cell_3 (by decide) rfl ?_ ?_
  · refine r_ldc 14 dL_cell_12 rfl wk_L_7 ?_
    refine r_iload_n 15 dL_cell_14 rfl 1 rfl rfl ?_
    refine r_imul 16 dL_cell_15 rfl ?_
    refine r_bipush 18 dL_cell_16 rfl zcb_107 ?_
    refine r_iadd 19 dL_cell_18 rfl ?_
    refine r_ldc 21 dL_cell_19 rfl wk_L_8 ?_
    refine r_iand 22 dL_cell_21 rfl ?_
    exact r_iret dL_cell_22 rfl z_ki
  · refine r_aload_n 7 dL_cell_6 rfl 0 rfl rfl ?_
    refine r_iload_n 8 dL_cell_7 rfl 1 rfl rfl ?_
    refine r_scr 9 hxs hlen dL_cell_8 rfl ?_
    refine r_goto 19 dL_cell_9 (by decide) ?_
    refine r_ldc 21 dL_cell_19 rfl wk_L_8 ?_
    refine r_iand 22 dL_cell_21 rfl ?_
    exact r_iret dL_cell_22 rfl z_ki
-- L_size
def f_L_size_L4 (a0 : Int32) (s1 : Int32 × Int32) : Option ((Int32 × Int32) ⊕ (Int32)) :=
  if (16 : Int32) ≤ s1.2 then
  some (.inr s1.1)
else
  z_let (s1.1 + ((a0 >>> (s1.2 &&& 31)) &&& (1 : Int32))) fun y3 =>
    some (.inl (y3, s1.2 + (1 : Int32)))
def f_L_size (a0 : Int32) : Option (Int32) :=
  (z_iter (f_L_size_L4 a0) z_fuel ((0 : Int32), (0 : Int32))).bind (fun q2 : Int32 =>
  some q2)
set_option maxHeartbeats 4000000 in
set_option maxRecDepth 100000 in
theorem c_L_size (G : ZG) (l : Launch) (d : Nat) (hd : 1 ≤ d) (w0 : ZW) (a0 : Int32) : ∀ o, f_L_size a0 = some o → zM G l d yL_size cL_size 3 (some .int) [.int a0] w0 (some (.int o)) w0 := by
  intro o ho
  refine zM.of [(0, .int a0)] (by decide) (Nat.le_of_ble_eq_true rfl) rfl ?_
  refine (?_ : zR G l d "LoveLocksLaw" cL_size 3 (some .int) (some (.int o)) w0 (fun x => x = o) 0 [(0, .int a0)] [] w0 (f_L_size a0)) o ho rfl
  rw [f_L_size]
  refine r_iconst 1 dL_size_0 rfl zci_0 ?_
  refine r_istore_n 2 [(1, .int (0 : Int32)), (0, .int a0)] dL_size_1 rfl rfl (by decide) rfl ?_
  refine r_iconst 3 dL_size_2 rfl zci_0 ?_
  refine r_istore_n 4 [(2, .int (0 : Int32)), (1, .int (0 : Int32)), (0, .int a0)] dL_size_3 rfl rfl (by decide) rfl ?_
  refine r_loopE [2, 1, 0] (fun s1 => [(0, .int a0), (1, .int s1.1), (2, .int s1.2)]) (fun s1 => w0) 24 (fun q2 => [(1, .int q2)]) (fun q2 => w0) rfl rfl (fun s1 => ?_) (fun q2 => ?_)
  · rw [f_L_size_L4]
    refine r_iload_n 5 dL_size_4 rfl 2 rfl rfl ?_
    refine r_bipush 7 dL_size_5 rfl zcb_16 ?_
    refine r_icmp_ge 24 10 dL_size_7 (by decide) rfl ?_ ?_
    · exact r_leaf [1] (lv2 := [(1, .int s1.1)]) rfl (fun h => h)
    · refine r_iload_n 11 dL_size_10 rfl 1 rfl rfl ?_
      refine r_iload_n 12 dL_size_11 rfl 0 rfl rfl ?_
      refine r_iload_n 13 dL_size_12 rfl 2 rfl rfl ?_
      refine r_ishr 14 dL_size_13 rfl ?_
      refine r_iconst 15 dL_size_14 rfl zci_1 ?_
      refine r_iand 16 dL_size_15 rfl ?_
      refine r_iadd 17 dL_size_16 rfl ?_
      refine r_topi (fun y3 => ?_)
      refine r_istore_n 18 [(1, .int y3), (0, .int a0), (2, .int s1.2)] dL_size_17 rfl rfl (by decide) rfl ?_
      refine r_iinc 21 2 [(2, .int (s1.2 + (1 : Int32))), (1, .int y3), (0, .int a0)] dL_size_18 rfl rfl zci_1 (by decide) rfl ?_
      refine r_goto 4 dL_size_21 (by decide) ?_
      exact r_leaf [2, 1, 0] (lv2 := [(0, .int a0), (1, .int y3), (2, .int (s1.2 + (1 : Int32)))]) rfl (fun h => h)
  · refine r_iload_n 25 dL_size_24 rfl 0 rfl rfl ?_
    exact r_iret dL_size_25 rfl z_ki
-- L_under
def f_L_under_L14 (a1 : Int32) (a2 : Int32) (n0 : Nat) (w : ZW) (b0 : Nat) (s2 : Int32 × Int32) : Option ((Int32 × Int32) ⊕ (Int32)) :=
  if a1 ≤ s2.2 then
  some (.inr s2.1)
else
  if ((a2 >>> (s2.2 &&& 31)) &&& (1 : Int32)) = 0 then
    if z_in (((6 : Int32) * s2.2) + (5 : Int32)) n0 then
      if (w.1 b0 (((6 : Int32) * s2.2) + (5 : Int32)).toNatClampNeg) < 0 then
      some (.inl (s2.1 ||| (0 : Int32), s2.2 + (1 : Int32)))
    else
      if z_in (((6 : Int32) * s2.2) + (5 : Int32)) n0 then
        if ((s2.1 >>> ((w.1 b0 (((6 : Int32) * s2.2) + (5 : Int32)).toNatClampNeg) &&& 31)) &&& (1 : Int32)) = (1 : Int32) then
        z_let (s2.1 ||| ((1 : Int32) <<< (s2.2 &&& 31))) fun y4 =>
          some (.inl (y4, s2.2 + (1 : Int32)))
      else
        some (.inl (s2.1 ||| (0 : Int32), s2.2 + (1 : Int32)))
      else none
    else none
  else
    some (.inl (s2.1 ||| (0 : Int32), s2.2 + (1 : Int32)))
def f_L_under (w : ZW) (b0 : Nat) (n0 : Nat) (a1 : Int32) (a2 : Int32) (a3 : Int32) : Option (Int32) :=
  z_let (((1 : Int32) <<< (a3 &&& 31)) &&& (a2 ^^^ (-1 : Int32))) fun y1 =>
  (z_iter (f_L_under_L14 a1 a2 n0 w b0) z_fuel (y1, a3 + (1 : Int32))).bind (fun q3 : Int32 =>
  some q3)
set_option maxHeartbeats 4000000 in
set_option maxRecDepth 100000 in
theorem c_L_under (G : ZG) (l : Launch) (d : Nat) (hd : 1 ≤ d) (w : ZW) (b0 : Nat) (n0 : Nat) (a1 : Int32) (a2 : Int32) (a3 : Int32) (ha_b0 : b0 < z_N G) (hc_b0 : ∀ w, z_cell G w b0 = z_aI G n0 (w.1 b0)) : ∀ o, f_L_under w b0 n0 a1 a2 a3 = some o → zM G l d yL_under cL_under 6 (some .int) [.ref (G.1 b0), .int a1, .int a2, .int a3] w (some (.int o)) w := by
  intro o ho
  refine zM.of [(0, .ref (G.1 b0)), (1, .int a1), (2, .int a2), (3, .int a3)] (by decide) (Nat.le_of_ble_eq_true rfl) rfl ?_
  refine (?_ : zR G l d "LoveLocksLaw" cL_under 6 (some .int) (some (.int o)) w (fun x => x = o) 0 [(0, .ref (G.1 b0)), (1, .int a1), (2, .int a2), (3, .int a3)] [] w (f_L_under w b0 n0 a1 a2 a3)) o ho rfl
  rw [f_L_under]
  refine r_iconst 1 dL_under_0 rfl zci_1 ?_
  refine r_iload_n 2 dL_under_1 rfl 3 rfl rfl ?_
  refine r_ishl 3 dL_under_2 rfl ?_
  refine r_iload_n 4 dL_under_3 rfl 2 rfl rfl ?_
  refine r_iconst 5 dL_under_4 rfl zci_m1 ?_
  refine r_ixor 6 dL_under_5 rfl ?_
  refine r_iand 7 dL_under_6 rfl ?_
  refine r_topi (fun y1 => ?_)
  refine r_istore 9 [(4, .int y1), (0, .ref (G.1 b0)), (1, .int a1), (2, .int a2), (3, .int a3)] dL_under_7 rfl (by decide) rfl ?_
  refine r_iload_n 10 dL_under_9 rfl 4 rfl rfl ?_
  refine r_iconst 11 dL_under_10 rfl zci_1 ?_
  refine r_iadd 12 dL_under_11 rfl ?_
  refine r_istore 14 [(5, .int (a3 + (1 : Int32))), (4, .int y1), (0, .ref (G.1 b0)), (1, .int a1), (2, .int a2), (3, .int a3)] dL_under_12 rfl (by decide) rfl ?_
  refine r_loopE [2, 3, 4, 1, 0] (fun s2 => [(0, .ref (G.1 b0)), (1, .int a1), (2, .int a2), (4, .int s2.1), (5, .int s2.2)]) (fun s2 => w) 78 (fun q3 => [(4, .int q3)]) (fun q3 => w) rfl rfl (fun s2 => ?_) (fun q3 => ?_)
  · rw [f_L_under_L14]
    refine r_iload 16 dL_under_14 rfl 4 rfl ?_
    refine r_iload_n 17 dL_under_16 rfl 1 rfl rfl ?_
    refine r_icmp_ge 78 20 dL_under_17 (by decide) rfl ?_ ?_
    · exact r_leaf [3] (lv2 := [(4, .int s2.1)]) rfl (fun h => h)
    · refine r_iload 22 dL_under_20 rfl 3 rfl ?_
      refine r_iload_n 23 dL_under_22 rfl 2 rfl rfl ?_
      refine r_iload 25 dL_under_23 rfl 4 rfl ?_
      refine r_ishr 26 dL_under_25 rfl ?_
      refine r_iconst 27 dL_under_26 rfl zci_1 ?_
      refine r_iand 28 dL_under_27 rfl ?_
      refine r_if_ne 68 31 dL_under_28 (by decide) rfl ?_ ?_
      · refine r_iconst 69 dL_under_68 rfl zci_0 ?_
        refine r_ior 70 dL_under_69 rfl ?_
        refine r_istore 72 [(4, .int (s2.1 ||| (0 : Int32))), (0, .ref (G.1 b0)), (1, .int a1), (2, .int a2), (5, .int s2.2)] dL_under_70 rfl (by decide) rfl ?_
        refine r_iinc 75 4 [(5, .int (s2.2 + (1 : Int32))), (4, .int (s2.1 ||| (0 : Int32))), (0, .ref (G.1 b0)), (1, .int a1), (2, .int a2)] dL_under_72 rfl rfl zci_1 (by decide) rfl ?_
        refine r_goto 14 dL_under_75 (by decide) ?_
        exact r_leaf [2, 3, 4, 1, 0] (lv2 := [(0, .ref (G.1 b0)), (1, .int a1), (2, .int a2), (4, .int (s2.1 ||| (0 : Int32))), (5, .int (s2.2 + (1 : Int32)))]) rfl (fun h => h)
      · refine r_aload_n 32 dL_under_31 rfl 0 rfl rfl ?_
        refine r_bipush 34 dL_under_32 rfl zcb_6 ?_
        refine r_iload 36 dL_under_34 rfl 4 rfl ?_
        refine r_imul 37 dL_under_36 rfl ?_
        refine r_iconst 38 dL_under_37 rfl zci_5 ?_
        refine r_iadd 39 dL_under_38 rfl ?_
        refine r_iald 40 b0 n0 dL_under_39 rfl ha_b0 (hc_b0 _) ?_
        refine r_if_lt 68 43 dL_under_40 (by decide) rfl ?_ ?_
        · refine r_iconst 69 dL_under_68 rfl zci_0 ?_
          refine r_ior 70 dL_under_69 rfl ?_
          refine r_istore 72 [(4, .int (s2.1 ||| (0 : Int32))), (0, .ref (G.1 b0)), (1, .int a1), (2, .int a2), (5, .int s2.2)] dL_under_70 rfl (by decide) rfl ?_
          refine r_iinc 75 4 [(5, .int (s2.2 + (1 : Int32))), (4, .int (s2.1 ||| (0 : Int32))), (0, .ref (G.1 b0)), (1, .int a1), (2, .int a2)] dL_under_72 rfl rfl zci_1 (by decide) rfl ?_
          refine r_goto 14 dL_under_75 (by decide) ?_
          exact r_leaf [2, 3, 4, 1, 0] (lv2 := [(0, .ref (G.1 b0)), (1, .int a1), (2, .int a2), (4, .int (s2.1 ||| (0 : Int32))), (5, .int (s2.2 + (1 : Int32)))]) rfl (fun h => h)
        · refine r_iload 45 dL_under_43 rfl 3 rfl ?_
          refine r_aload_n 46 dL_under_45 rfl 0 rfl rfl ?_
          refine r_bipush 48 dL_under_46 rfl zcb_6 ?_
          refine r_iload 50 dL_under_48 rfl 4 rfl ?_
          refine r_imul 51 dL_under_50 rfl ?_
          refine r_iconst 52 dL_under_51 rfl zci_5 ?_
          refine r_iadd 53 dL_under_52 rfl ?_
          refine r_iald 54 b0 n0 dL_under_53 rfl ha_b0 (hc_b0 _) ?_
          refine r_ishr 55 dL_under_54 rfl ?_
          refine r_iconst 56 dL_under_55 rfl zci_1 ?_
          refine r_iand 57 dL_under_56 rfl ?_
          refine r_iconst 58 dL_under_57 rfl zci_1 ?_
          refine r_icmp_ne 68 61 dL_under_58 (by decide) rfl ?_ ?_
          · refine r_iconst 69 dL_under_68 rfl zci_0 ?_
            refine r_ior 70 dL_under_69 rfl ?_
            refine r_istore 72 [(4, .int (s2.1 ||| (0 : Int32))), (0, .ref (G.1 b0)), (1, .int a1), (2, .int a2), (5, .int s2.2)] dL_under_70 rfl (by decide) rfl ?_
            refine r_iinc 75 4 [(5, .int (s2.2 + (1 : Int32))), (4, .int (s2.1 ||| (0 : Int32))), (0, .ref (G.1 b0)), (1, .int a1), (2, .int a2)] dL_under_72 rfl rfl zci_1 (by decide) rfl ?_
            refine r_goto 14 dL_under_75 (by decide) ?_
            exact r_leaf [2, 3, 4, 1, 0] (lv2 := [(0, .ref (G.1 b0)), (1, .int a1), (2, .int a2), (4, .int (s2.1 ||| (0 : Int32))), (5, .int (s2.2 + (1 : Int32)))]) rfl (fun h => h)
          · refine r_iconst 62 dL_under_61 rfl zci_1 ?_
            refine r_iload 64 dL_under_62 rfl 4 rfl ?_
            refine r_ishl 65 dL_under_64 rfl ?_
            refine r_goto 69 dL_under_65 (by decide) ?_
            refine r_ior 70 dL_under_69 rfl ?_
            refine r_topi (fun y4 => ?_)
            refine r_istore 72 [(4, .int y4), (0, .ref (G.1 b0)), (1, .int a1), (2, .int a2), (5, .int s2.2)] dL_under_70 rfl (by decide) rfl ?_
            refine r_iinc 75 4 [(5, .int (s2.2 + (1 : Int32))), (4, .int y4), (0, .ref (G.1 b0)), (1, .int a1), (2, .int a2)] dL_under_72 rfl rfl zci_1 (by decide) rfl ?_
            refine r_goto 14 dL_under_75 (by decide) ?_
            exact r_leaf [2, 3, 4, 1, 0] (lv2 := [(0, .ref (G.1 b0)), (1, .int a1), (2, .int a2), (4, .int y4), (5, .int (s2.2 + (1 : Int32)))]) rfl (fun h => h)
  · refine r_iload 80 dL_under_78 rfl 0 rfl ?_
    exact r_iret dL_under_80 rfl z_ki
-- L_weigh
def f_L_weigh_L5 (a1 : Int32) (a2 : Int32) (n0 : Nat) (w : ZW) (b0 : Nat) (s1 : Int32 × Int32) : Option ((Int32 × Int32) ⊕ (Int32)) :=
  if a1 ≤ s1.2 then
  some (.inr s1.1)
else
  if ((a2 >>> (s1.2 &&& 31)) &&& (1 : Int32)) = (1 : Int32) then
    if z_in ((6 : Int32) * s1.2) n0 then
      z_let (s1.1 + (w.1 b0 ((6 : Int32) * s1.2).toNatClampNeg)) fun y3 =>
      some (.inl (y3, s1.2 + (1 : Int32)))
    else none
  else
    some (.inl (s1.1 + (0 : Int32), s1.2 + (1 : Int32)))
def f_L_weigh (w : ZW) (b0 : Nat) (n0 : Nat) (a1 : Int32) (a2 : Int32) : Option (Int32) :=
  (z_iter (f_L_weigh_L5 a1 a2 n0 w b0) z_fuel ((0 : Int32), (0 : Int32))).bind (fun q2 : Int32 =>
  some q2)
set_option maxHeartbeats 4000000 in
set_option maxRecDepth 100000 in
theorem c_L_weigh (G : ZG) (l : Launch) (d : Nat) (hd : 1 ≤ d) (w : ZW) (b0 : Nat) (n0 : Nat) (a1 : Int32) (a2 : Int32) (ha_b0 : b0 < z_N G) (hc_b0 : ∀ w, z_cell G w b0 = z_aI G n0 (w.1 b0)) : ∀ o, f_L_weigh w b0 n0 a1 a2 = some o → zM G l d yL_weigh cL_weigh 5 (some .int) [.ref (G.1 b0), .int a1, .int a2] w (some (.int o)) w := by
  intro o ho
  refine zM.of [(0, .ref (G.1 b0)), (1, .int a1), (2, .int a2)] (by decide) (Nat.le_of_ble_eq_true rfl) rfl ?_
  refine (?_ : zR G l d "LoveLocksLaw" cL_weigh 5 (some .int) (some (.int o)) w (fun x => x = o) 0 [(0, .ref (G.1 b0)), (1, .int a1), (2, .int a2)] [] w (f_L_weigh w b0 n0 a1 a2)) o ho rfl
  rw [f_L_weigh]
  refine r_iconst 1 dL_weigh_0 rfl zci_0 ?_
  refine r_istore_n 2 [(3, .int (0 : Int32)), (0, .ref (G.1 b0)), (1, .int a1), (2, .int a2)] dL_weigh_1 rfl rfl (by decide) rfl ?_
  refine r_iconst 3 dL_weigh_2 rfl zci_0 ?_
  refine r_istore 5 [(4, .int (0 : Int32)), (3, .int (0 : Int32)), (0, .ref (G.1 b0)), (1, .int a1), (2, .int a2)] dL_weigh_3 rfl (by decide) rfl ?_
  refine r_loopE [2, 3, 4, 1, 0] (fun s1 => [(0, .ref (G.1 b0)), (1, .int a1), (2, .int a2), (3, .int s1.1), (4, .int s1.2)]) (fun s1 => w) 41 (fun q2 => [(3, .int q2)]) (fun q2 => w) rfl rfl (fun s1 => ?_) (fun q2 => ?_)
  · rw [f_L_weigh_L5]
    refine r_iload 7 dL_weigh_5 rfl 4 rfl ?_
    refine r_iload_n 8 dL_weigh_7 rfl 1 rfl rfl ?_
    refine r_icmp_ge 41 11 dL_weigh_8 (by decide) rfl ?_ ?_
    · exact r_leaf [3] (lv2 := [(3, .int s1.1)]) rfl (fun h => h)
    · refine r_iload_n 12 dL_weigh_11 rfl 3 rfl rfl ?_
      refine r_iload_n 13 dL_weigh_12 rfl 2 rfl rfl ?_
      refine r_iload 15 dL_weigh_13 rfl 4 rfl ?_
      refine r_ishr 16 dL_weigh_15 rfl ?_
      refine r_iconst 17 dL_weigh_16 rfl zci_1 ?_
      refine r_iand 18 dL_weigh_17 rfl ?_
      refine r_iconst 19 dL_weigh_18 rfl zci_1 ?_
      refine r_icmp_ne 32 22 dL_weigh_19 (by decide) rfl ?_ ?_
      · refine r_iconst 33 dL_weigh_32 rfl zci_0 ?_
        refine r_iadd 34 dL_weigh_33 rfl ?_
        refine r_istore_n 35 [(3, .int (s1.1 + (0 : Int32))), (0, .ref (G.1 b0)), (1, .int a1), (2, .int a2), (4, .int s1.2)] dL_weigh_34 rfl rfl (by decide) rfl ?_
        refine r_iinc 38 4 [(4, .int (s1.2 + (1 : Int32))), (3, .int (s1.1 + (0 : Int32))), (0, .ref (G.1 b0)), (1, .int a1), (2, .int a2)] dL_weigh_35 rfl rfl zci_1 (by decide) rfl ?_
        refine r_goto 5 dL_weigh_38 (by decide) ?_
        exact r_leaf [2, 3, 4, 1, 0] (lv2 := [(0, .ref (G.1 b0)), (1, .int a1), (2, .int a2), (3, .int (s1.1 + (0 : Int32))), (4, .int (s1.2 + (1 : Int32)))]) rfl (fun h => h)
      · refine r_aload_n 23 dL_weigh_22 rfl 0 rfl rfl ?_
        refine r_bipush 25 dL_weigh_23 rfl zcb_6 ?_
        refine r_iload 27 dL_weigh_25 rfl 4 rfl ?_
        refine r_imul 28 dL_weigh_27 rfl ?_
        refine r_iald 29 b0 n0 dL_weigh_28 rfl ha_b0 (hc_b0 _) ?_
        refine r_goto 33 dL_weigh_29 (by decide) ?_
        refine r_iadd 34 dL_weigh_33 rfl ?_
        refine r_topi (fun y3 => ?_)
        refine r_istore_n 35 [(3, .int y3), (0, .ref (G.1 b0)), (1, .int a1), (2, .int a2), (4, .int s1.2)] dL_weigh_34 rfl rfl (by decide) rfl ?_
        refine r_iinc 38 4 [(4, .int (s1.2 + (1 : Int32))), (3, .int y3), (0, .ref (G.1 b0)), (1, .int a1), (2, .int a2)] dL_weigh_35 rfl rfl zci_1 (by decide) rfl ?_
        refine r_goto 5 dL_weigh_38 (by decide) ?_
        exact r_leaf [2, 3, 4, 1, 0] (lv2 := [(0, .ref (G.1 b0)), (1, .int a1), (2, .int a2), (3, .int y3), (4, .int (s1.2 + (1 : Int32)))]) rfl (fun h => h)
  · refine r_iload_n 42 dL_weigh_41 rfl 0 rfl rfl ?_
    exact r_iret dL_weigh_42 rfl z_ki
-- L_hung
def f_L_hung_J56 (x6_3 : Int32) (k4 : Int32) : Option ((Int32 × Int32) ⊕ (Int32)) :=
  z_let (k4 ||| ((1 : Int32) <<< (x6_3 &&& 31))) fun y5 =>
  some (.inl (y5, x6_3 + (1 : Int32)))
def f_L_hung_L6 (a1 : Int32) (a2 : Int32) (n0 : Nat) (w : ZW) (b0 : Nat) (a3 : Int32) (a4 : Int32) (s1 : Int32 × Int32) : Option ((Int32 × Int32) ⊕ (Int32)) :=
  if a1 ≤ s1.2 then
  some (.inr s1.1)
else
  if ((a2 >>> (s1.2 &&& 31)) &&& (1 : Int32)) = 0 then
    if z_in (((6 : Int32) * s1.2) + (3 : Int32)) n0 then
      if (w.1 b0 (((6 : Int32) * s1.2) + (3 : Int32)).toNatClampNeg) = a3 then
      if a4 = (3 : Int32) then
        f_L_hung_J56 s1.2 s1.1
      else
        if z_in (((6 : Int32) * s1.2) + (4 : Int32)) n0 then
          if (w.1 b0 (((6 : Int32) * s1.2) + (4 : Int32)).toNatClampNeg) = a4 then
          f_L_hung_J56 s1.2 s1.1
        else
          some (.inl (s1.1 ||| (0 : Int32), s1.2 + (1 : Int32)))
        else none
    else
      some (.inl (s1.1 ||| (0 : Int32), s1.2 + (1 : Int32)))
    else none
  else
    some (.inl (s1.1 ||| (0 : Int32), s1.2 + (1 : Int32)))
def f_L_hung (w : ZW) (b0 : Nat) (n0 : Nat) (a1 : Int32) (a2 : Int32) (a3 : Int32) (a4 : Int32) : Option (Int32) :=
  (z_iter (f_L_hung_L6 a1 a2 n0 w b0 a3 a4) z_fuel ((0 : Int32), (0 : Int32))).bind (fun q2 : Int32 =>
  some q2)
set_option maxHeartbeats 4000000 in
set_option maxRecDepth 100000 in
theorem c_L_hung (G : ZG) (l : Launch) (d : Nat) (hd : 1 ≤ d) (w : ZW) (b0 : Nat) (n0 : Nat) (a1 : Int32) (a2 : Int32) (a3 : Int32) (a4 : Int32) (ha_b0 : b0 < z_N G) (hc_b0 : ∀ w, z_cell G w b0 = z_aI G n0 (w.1 b0)) : ∀ o, f_L_hung w b0 n0 a1 a2 a3 a4 = some o → zM G l d yL_hung cL_hung 7 (some .int) [.ref (G.1 b0), .int a1, .int a2, .int a3, .int a4] w (some (.int o)) w := by
  intro o ho
  refine zM.of [(0, .ref (G.1 b0)), (1, .int a1), (2, .int a2), (3, .int a3), (4, .int a4)] (by decide) (Nat.le_of_ble_eq_true rfl) rfl ?_
  refine (?_ : zR G l d "LoveLocksLaw" cL_hung 7 (some .int) (some (.int o)) w (fun x => x = o) 0 [(0, .ref (G.1 b0)), (1, .int a1), (2, .int a2), (3, .int a3), (4, .int a4)] [] w (f_L_hung w b0 n0 a1 a2 a3 a4)) o ho rfl
  rw [f_L_hung]
  refine r_iconst 1 dL_hung_0 rfl zci_0 ?_
  refine r_istore 3 [(5, .int (0 : Int32)), (0, .ref (G.1 b0)), (1, .int a1), (2, .int a2), (3, .int a3), (4, .int a4)] dL_hung_1 rfl (by decide) rfl ?_
  refine r_iconst 4 dL_hung_3 rfl zci_0 ?_
  refine r_istore 6 [(6, .int (0 : Int32)), (5, .int (0 : Int32)), (0, .ref (G.1 b0)), (1, .int a1), (2, .int a2), (3, .int a3), (4, .int a4)] dL_hung_4 rfl (by decide) rfl ?_
  refine r_loopE [2, 3, 4, 5, 6, 1, 0] (fun s1 => [(0, .ref (G.1 b0)), (1, .int a1), (2, .int a2), (3, .int a3), (4, .int a4), (5, .int s1.1), (6, .int s1.2)]) (fun s1 => w) 73 (fun q2 => [(5, .int q2)]) (fun q2 => w) rfl rfl (fun s1 => ?_) (fun q2 => ?_)
  · rw [f_L_hung_L6]
    have hJ56 : ∀ (x6_3 : Int32) (k4 : Int32), zR G l d "LoveLocksLaw" cL_hung 7 (some .int) (some (.int o)) w (Sum.elim (fun s1 => zA G l d "LoveLocksLaw" cL_hung 7 (some .int) (some (.int o)) w 6 [(0, .ref (G.1 b0)), (1, .int a1), (2, .int a2), (3, .int a3), (4, .int a4), (5, .int s1.1), (6, .int s1.2)] [] w) (fun q2 => zA G l d "LoveLocksLaw" cL_hung 7 (some .int) (some (.int o)) w 73 [(5, .int q2)] [] w)) 56 [(0, .ref (G.1 b0)), (1, .int a1), (2, .int a2), (3, .int a3), (4, .int a4), (6, .int x6_3)] [.int k4] w (f_L_hung_J56 x6_3 k4) := by
      intro x6_3 k4
      rw [f_L_hung_J56]
      refine r_iconst 57 dL_hung_56 rfl zci_1 ?_
      refine r_iload 59 dL_hung_57 rfl 5 rfl ?_
      refine r_ishl 60 dL_hung_59 rfl ?_
      refine r_goto 64 dL_hung_60 (by decide) ?_
      refine r_ior 65 dL_hung_64 rfl ?_
      refine r_topi (fun y5 => ?_)
      refine r_istore 67 [(5, .int y5), (0, .ref (G.1 b0)), (1, .int a1), (2, .int a2), (3, .int a3), (4, .int a4), (6, .int x6_3)] dL_hung_65 rfl (by decide) rfl ?_
      refine r_iinc 70 6 [(6, .int (x6_3 + (1 : Int32))), (5, .int y5), (0, .ref (G.1 b0)), (1, .int a1), (2, .int a2), (3, .int a3), (4, .int a4)] dL_hung_67 rfl rfl zci_1 (by decide) rfl ?_
      refine r_goto 6 dL_hung_70 (by decide) ?_
      exact r_leaf [2, 3, 4, 5, 6, 1, 0] (lv2 := [(0, .ref (G.1 b0)), (1, .int a1), (2, .int a2), (3, .int a3), (4, .int a4), (5, .int y5), (6, .int (x6_3 + (1 : Int32)))]) rfl (fun h => h)
    refine r_iload 8 dL_hung_6 rfl 6 rfl ?_
    refine r_iload_n 9 dL_hung_8 rfl 1 rfl rfl ?_
    refine r_icmp_ge 73 12 dL_hung_9 (by decide) rfl ?_ ?_
    · exact r_leaf [5] (lv2 := [(5, .int s1.1)]) rfl (fun h => h)
    · refine r_iload 14 dL_hung_12 rfl 5 rfl ?_
      refine r_iload_n 15 dL_hung_14 rfl 2 rfl rfl ?_
      refine r_iload 17 dL_hung_15 rfl 6 rfl ?_
      refine r_ishr 18 dL_hung_17 rfl ?_
      refine r_iconst 19 dL_hung_18 rfl zci_1 ?_
      refine r_iand 20 dL_hung_19 rfl ?_
      refine r_if_ne 63 23 dL_hung_20 (by decide) rfl ?_ ?_
      · refine r_iconst 64 dL_hung_63 rfl zci_0 ?_
        refine r_ior 65 dL_hung_64 rfl ?_
        refine r_istore 67 [(5, .int (s1.1 ||| (0 : Int32))), (0, .ref (G.1 b0)), (1, .int a1), (2, .int a2), (3, .int a3), (4, .int a4), (6, .int s1.2)] dL_hung_65 rfl (by decide) rfl ?_
        refine r_iinc 70 6 [(6, .int (s1.2 + (1 : Int32))), (5, .int (s1.1 ||| (0 : Int32))), (0, .ref (G.1 b0)), (1, .int a1), (2, .int a2), (3, .int a3), (4, .int a4)] dL_hung_67 rfl rfl zci_1 (by decide) rfl ?_
        refine r_goto 6 dL_hung_70 (by decide) ?_
        exact r_leaf [2, 3, 4, 5, 6, 1, 0] (lv2 := [(0, .ref (G.1 b0)), (1, .int a1), (2, .int a2), (3, .int a3), (4, .int a4), (5, .int (s1.1 ||| (0 : Int32))), (6, .int (s1.2 + (1 : Int32)))]) rfl (fun h => h)
      · refine r_aload_n 24 dL_hung_23 rfl 0 rfl rfl ?_
        refine r_bipush 26 dL_hung_24 rfl zcb_6 ?_
        refine r_iload 28 dL_hung_26 rfl 6 rfl ?_
        refine r_imul 29 dL_hung_28 rfl ?_
        refine r_iconst 30 dL_hung_29 rfl zci_3 ?_
        refine r_iadd 31 dL_hung_30 rfl ?_
        refine r_iald 32 b0 n0 dL_hung_31 rfl ha_b0 (hc_b0 _) ?_
        refine r_iload_n 33 dL_hung_32 rfl 3 rfl rfl ?_
        refine r_icmp_ne 63 36 dL_hung_33 (by decide) rfl ?_ ?_
        · refine r_iconst 64 dL_hung_63 rfl zci_0 ?_
          refine r_ior 65 dL_hung_64 rfl ?_
          refine r_istore 67 [(5, .int (s1.1 ||| (0 : Int32))), (0, .ref (G.1 b0)), (1, .int a1), (2, .int a2), (3, .int a3), (4, .int a4), (6, .int s1.2)] dL_hung_65 rfl (by decide) rfl ?_
          refine r_iinc 70 6 [(6, .int (s1.2 + (1 : Int32))), (5, .int (s1.1 ||| (0 : Int32))), (0, .ref (G.1 b0)), (1, .int a1), (2, .int a2), (3, .int a3), (4, .int a4)] dL_hung_67 rfl rfl zci_1 (by decide) rfl ?_
          refine r_goto 6 dL_hung_70 (by decide) ?_
          exact r_leaf [2, 3, 4, 5, 6, 1, 0] (lv2 := [(0, .ref (G.1 b0)), (1, .int a1), (2, .int a2), (3, .int a3), (4, .int a4), (5, .int (s1.1 ||| (0 : Int32))), (6, .int (s1.2 + (1 : Int32)))]) rfl (fun h => h)
        · refine r_iload 38 dL_hung_36 rfl 4 rfl ?_
          refine r_iconst 39 dL_hung_38 rfl zci_3 ?_
          refine r_icmp_eq 56 42 dL_hung_39 (by decide) rfl ?_ ?_
          · exact r_sub [0, 1, 2, 3, 4, 6] (lv2 := [(0, .ref (G.1 b0)), (1, .int a1), (2, .int a2), (3, .int a3), (4, .int a4), (6, .int s1.2)]) rfl (hJ56 s1.2 s1.1)
          · refine r_aload_n 43 dL_hung_42 rfl 0 rfl rfl ?_
            refine r_bipush 45 dL_hung_43 rfl zcb_6 ?_
            refine r_iload 47 dL_hung_45 rfl 6 rfl ?_
            refine r_imul 48 dL_hung_47 rfl ?_
            refine r_iconst 49 dL_hung_48 rfl zci_4 ?_
            refine r_iadd 50 dL_hung_49 rfl ?_
            refine r_iald 51 b0 n0 dL_hung_50 rfl ha_b0 (hc_b0 _) ?_
            refine r_iload 53 dL_hung_51 rfl 4 rfl ?_
            refine r_icmp_ne 63 56 dL_hung_53 (by decide) rfl ?_ ?_
            · refine r_iconst 64 dL_hung_63 rfl zci_0 ?_
              refine r_ior 65 dL_hung_64 rfl ?_
              refine r_istore 67 [(5, .int (s1.1 ||| (0 : Int32))), (0, .ref (G.1 b0)), (1, .int a1), (2, .int a2), (3, .int a3), (4, .int a4), (6, .int s1.2)] dL_hung_65 rfl (by decide) rfl ?_
              refine r_iinc 70 6 [(6, .int (s1.2 + (1 : Int32))), (5, .int (s1.1 ||| (0 : Int32))), (0, .ref (G.1 b0)), (1, .int a1), (2, .int a2), (3, .int a3), (4, .int a4)] dL_hung_67 rfl rfl zci_1 (by decide) rfl ?_
              refine r_goto 6 dL_hung_70 (by decide) ?_
              exact r_leaf [2, 3, 4, 5, 6, 1, 0] (lv2 := [(0, .ref (G.1 b0)), (1, .int a1), (2, .int a2), (3, .int a3), (4, .int a4), (5, .int (s1.1 ||| (0 : Int32))), (6, .int (s1.2 + (1 : Int32)))]) rfl (fun h => h)
            · exact r_sub [0, 1, 2, 3, 4, 6] (lv2 := [(0, .ref (G.1 b0)), (1, .int a1), (2, .int a2), (3, .int a3), (4, .int a4), (6, .int s1.2)]) rfl (hJ56 s1.2 s1.1)
  · refine r_iload 75 dL_hung_73 rfl 0 rfl ?_
    exact r_iret dL_hung_75 rfl z_ki
-- L_lays
def f_L_lays_L17 (y2 : Int32) (xs : Nat → Int32) (len : Nat) (s3 : Int32 × Int32 × ZW) : Option ((Int32 × Int32 × ZW) ⊕ (Int32 × ZW)) :=
  if y2 ≤ s3.2.1 then
  some (.inr (s3.1, s3.2.2))
else
  if s3.1 = 0 then
    some (.inr (s3.1, s3.2.2))
  else
    (f_L_cell xs len (1 : Int32)).bind fun r5 : Int32 =>
      z_let (r5 >>> (((4 : Int32) * s3.2.1) &&& 31)) fun y6 =>
      (f_X11_panel s3.2.2 ((1 : Int32) + (y6 - y6 / (900 : Int32) * (900 : Int32))) ((1 : Int32) + ((y6 >>> ((3 : Int32) &&& 31)) - (y6 >>> ((3 : Int32) &&& 31)) / (1500 : Int32) * (1500 : Int32))) ((1 : Int32) + ((y6 >>> ((5 : Int32) &&& 31)) - (y6 >>> ((5 : Int32) &&& 31)) / (2500 : Int32) * (2500 : Int32)))).bind fun r7 : Int32 × ZW =>
      if r7.1 = s3.2.1 then
      some (.inl ((1 : Int32), s3.2.1 + (1 : Int32), r7.2))
    else
      some (.inl ((0 : Int32), s3.2.1 + (1 : Int32), r7.2))
def f_L_lays_J299 (n3 : Nat) (b3 : Nat) (x7_59 : Int32) (x9_60 : Int32) (x10_61 : Int32) (x11_62 : Int32) (x12_63 : Int32) (x13_64 : Int32) (x14_65 : Int32) (k66 : Int32) (w67 : ZW) : Option ((Int32 × Int32 × ZW) ⊕ (Int32 × ZW)) :=
  if z_in ((6 : Int32) * x7_59) n3 then
  z_let (z_upI w67 b3 ((6 : Int32) * x7_59).toNatClampNeg x10_61) fun w68 =>
  if z_in (((6 : Int32) * x7_59) + (1 : Int32)) n3 then
  z_let (z_upI w68 b3 (((6 : Int32) * x7_59) + (1 : Int32)).toNatClampNeg x11_62) fun w69 =>
  if z_in (((6 : Int32) * x7_59) + (2 : Int32)) n3 then
  z_let (z_upI w69 b3 (((6 : Int32) * x7_59) + (2 : Int32)).toNatClampNeg x12_63) fun w70 =>
  if z_in (((6 : Int32) * x7_59) + (3 : Int32)) n3 then
  z_let (z_upI w70 b3 (((6 : Int32) * x7_59) + (3 : Int32)).toNatClampNeg x13_64) fun w71 =>
  if z_in (((6 : Int32) * x7_59) + (4 : Int32)) n3 then
  z_let (z_upI w71 b3 (((6 : Int32) * x7_59) + (4 : Int32)).toNatClampNeg x14_65) fun w72 =>
  if z_in (((6 : Int32) * x7_59) + (5 : Int32)) n3 then
  z_let (z_upI w72 b3 (((6 : Int32) * x7_59) + (5 : Int32)).toNatClampNeg x9_60) fun w73 =>
  some (.inl (k66, x7_59 + (1 : Int32), w73))
else none
else none
else none
else none
else none
else none
def f_L_lays_J289 (n3 : Nat) (b3 : Nat) (x7_50 : Int32) (x9_51 : Int32) (x10_52 : Int32) (x11_53 : Int32) (x12_54 : Int32) (x13_55 : Int32) (x14_56 : Int32) (k57 : Int32) (w58 : ZW) : Option ((Int32 × Int32 × ZW) ⊕ (Int32 × ZW)) :=
  if k57 = x7_50 then
  f_L_lays_J299 n3 b3 x7_50 x9_51 x10_52 x11_53 x12_54 x13_55 x14_56 (1 : Int32) w58
else
  f_L_lays_J299 n3 b3 x7_50 x9_51 x10_52 x11_53 x12_54 x13_55 x14_56 (0 : Int32) w58
def f_L_lays_J253 (n3 : Nat) (b3 : Nat) (x7_41 : Int32) (x9_42 : Int32) (x10_43 : Int32) (x11_44 : Int32) (x12_45 : Int32) (x13_46 : Int32) (k47 : Int32) (w48 : ZW) : Option ((Int32 × Int32 × ZW) ⊕ (Int32 × ZW)) :=
  if 0 ≤ x9_42 then
  (f_X11_hangOn w48 x9_42 x10_43 x11_44 x12_45).bind fun r49 : Int32 × ZW =>
    f_L_lays_J289 n3 b3 x7_41 x9_42 x10_43 x11_44 x12_45 x13_46 k47 r49.1 r49.2
else
  (f_X11_hang w48 x13_46 k47 x10_43 x11_44 x12_45).bind fun r74 : Int32 × ZW =>
    f_L_lays_J289 n3 b3 x7_41 x9_42 x10_43 x11_44 x12_45 x13_46 k47 r74.1 r74.2
def f_L_lays_J227 (n3 : Nat) (b3 : Nat) (x7_33 : Int32) (x8_34 : Int32) (x9_35 : Int32) (x10_36 : Int32) (x11_37 : Int32) (x12_38 : Int32) (k39 : Int32) (w40 : ZW) : Option ((Int32 × Int32 × ZW) ⊕ (Int32 × ZW)) :=
  if 0 ≤ x9_35 then
  if z_in (((6 : Int32) * x9_35) + (4 : Int32)) n3 then
    f_L_lays_J253 n3 b3 x7_33 x9_35 x10_36 x11_37 x12_38 k39 (w40.1 b3 (((6 : Int32) * x9_35) + (4 : Int32)).toNatClampNeg) w40
  else none
else
  f_L_lays_J253 n3 b3 x7_33 x9_35 x10_36 x11_37 x12_38 k39 ((x8_34 >>> ((9 : Int32) &&& 31)) - (x8_34 >>> ((9 : Int32) &&& 31)) / (3 : Int32) * (3 : Int32)) w40
def f_L_lays_J180 (n3 : Nat) (b3 : Nat) (x4_8 : Int32) (x7_23 : Int32) (x8_24 : Int32) (x9_25 : Int32) (k26 : Int32) (k27 : Int32) (k28 : Int32) (w29 : ZW) : Option ((Int32 × Int32 × ZW) ⊕ (Int32 × ZW)) :=
  if k26 = 0 then none else
  z_let (k28 + (k27 - k27 / k26 * k26)) fun y30 =>
  z_let ((x8_24 >>> ((7 : Int32) &&& 31)) &&& (1 : Int32)) fun y31 =>
  z_let ((x8_24 >>> ((8 : Int32) &&& 31)) - (x8_24 >>> ((8 : Int32) &&& 31)) / (6 : Int32) * (6 : Int32)) fun y32 =>
  if 0 ≤ x9_25 then
  if z_in (((6 : Int32) * x9_25) + (3 : Int32)) n3 then
    f_L_lays_J227 n3 b3 x7_23 x8_24 x9_25 y30 y31 y32 (w29.1 b3 (((6 : Int32) * x9_25) + (3 : Int32)).toNatClampNeg) w29
  else none
else
  if x4_8 = 0 then none else
    f_L_lays_J227 n3 b3 x7_23 x8_24 x9_25 y30 y31 y32 ((x8_24 >>> ((3 : Int32) &&& 31)) - (x8_24 >>> ((3 : Int32) &&& 31)) / x4_8 * x4_8) w29
def f_L_lays_J157 (n3 : Nat) (b3 : Nat) (x4_8 : Int32) (x7_19 : Int32) (x8_20 : Int32) (k21 : Int32) (w22 : ZW) : Option ((Int32 × Int32 × ZW) ⊕ (Int32 × ZW)) :=
  if (x8_20 &&& (64 : Int32)) = 0 then
  f_L_lays_J180 n3 b3 x4_8 x7_19 x8_20 k21 (30 : Int32) (x8_20 >>> ((4 : Int32) &&& 31)) (1 : Int32) w22
else
  f_L_lays_J180 n3 b3 x4_8 x7_19 x8_20 k21 (400 : Int32) (x8_20 >>> ((4 : Int32) &&& 31)) (1 : Int32) w22
def f_L_lays_J156 (n3 : Nat) (b3 : Nat) (x4_8 : Int32) (x7_16 : Int32) (x8_17 : Int32) (w18 : ZW) : Option ((Int32 × Int32 × ZW) ⊕ (Int32 × ZW)) :=
  f_L_lays_J157 n3 b3 x4_8 x7_16 x8_17 (-1 : Int32) w18
def f_L_lays_L107 (y12 : Int32) (xs : Nat → Int32) (len : Nat) (n3 : Nat) (b3 : Nat) (x4_8 : Int32) (s13 : Int32 × Int32 × ZW) : Option ((Int32 × Int32 × ZW) ⊕ (Int32 × ZW)) :=
  if y12 ≤ s13.2.1 then
  some (.inr (s13.1, s13.2.2))
else
  if s13.1 = 0 then
    some (.inr (s13.1, s13.2.2))
  else
    (f_L_cell xs len ((2 : Int32) + (s13.2.1 - s13.2.1 / (4 : Int32) * (4 : Int32)))).bind fun r15 : Int32 =>
      if s13.2.1 ≤ 0 then
      f_L_lays_J156 n3 b3 x4_8 s13.2.1 (r15 >>> (s13.2.1 &&& 31)) s13.2.2
    else
      if ((r15 >>> (s13.2.1 &&& 31)) &&& (3 : Int32)) ≤ 0 then
        f_L_lays_J156 n3 b3 x4_8 s13.2.1 (r15 >>> (s13.2.1 &&& 31)) s13.2.2
      else
        if s13.2.1 = 0 then none else
          f_L_lays_J157 n3 b3 x4_8 s13.2.1 (r15 >>> (s13.2.1 &&& 31)) (((r15 >>> (s13.2.1 &&& 31)) >>> ((2 : Int32) &&& 31)) - ((r15 >>> (s13.2.1 &&& 31)) >>> ((2 : Int32) &&& 31)) / s13.2.1 * s13.2.1) s13.2.2
def f_L_lays_J91 (xs : Nat → Int32) (len : Nat) (a2 : Int32) (n3 : Nat) (b3 : Nat) (x4_8 : Int32) (x5_9 : Int32) (w10 : ZW) : Option (Int32 × ZW) :=
  (f_L_cell xs len (0 : Int32)).bind fun r11 : Int32 =>
  if a2 = 0 then none else
  z_let ((1 : Int32) + ((r11 >>> ((3 : Int32) &&& 31)) - (r11 >>> ((3 : Int32) &&& 31)) / a2 * a2)) fun y12 =>
  (z_iter (f_L_lays_L107 y12 xs len n3 b3 x4_8) z_fuel (x5_9, (0 : Int32), w10)).bind (fun q14 : Int32 × ZW =>
  if q14.1 = 0 then
  some ((-1 : Int32), q14.2)
else
  some (y12, q14.2))
def f_L_lays (w : ZW) (xs : Nat → Int32) (len : Nat) (a2 : Int32) (b3 : Nat) (n3 : Nat) : Option (Int32 × ZW) :=
  (f_L_cell xs len (0 : Int32)).bind fun r1 : Int32 =>
  z_let ((1 : Int32) + (r1 - r1 / (4 : Int32) * (4 : Int32))) fun y2 =>
  (z_iter (f_L_lays_L17 y2 xs len) z_fuel ((1 : Int32), (0 : Int32), w)).bind (fun q4 : Int32 × ZW =>
  f_L_lays_J91 xs len a2 n3 b3 y2 q4.1 q4.2)
set_option maxHeartbeats 4000000 in
set_option maxRecDepth 100000 in
theorem c_L_lays (G : ZG) (l : Launch) (d : Nat) (hd : 4 ≤ d) (w : ZW) (xs : Nat → Int32) (len : Nat) (a2 : Int32) (b3 : Nat) (n3 : Nat) (hxs : z_x G = xs) (hlen : z_l G = len) (ha_b3 : b3 < z_N G) (hc_b3 : ∀ w, z_cell G w b3 = z_aI G n3 (w.1 b3)) : ∀ o, f_L_lays w xs len a2 b3 n3 = some o → zM G l d yL_lays cL_lays 15 (some .int) [.ref (G.1 0), .ref (z_b G), .int a2, .ref (G.1 b3)] w (some (.int o.1)) o.2 := by
  intro o ho
  refine zM.of [(0, .ref (G.1 0)), (1, .ref (z_b G)), (2, .int a2), (3, .ref (G.1 b3))] (by decide) (Nat.le_of_ble_eq_true rfl) rfl ?_
  refine (?_ : zR G l d "LoveLocksLaw" cL_lays 15 (some .int) (some (.int o.1)) o.2 (fun x => x = o) 0 [(0, .ref (G.1 0)), (1, .ref (z_b G)), (2, .int a2), (3, .ref (G.1 b3))] [] w (f_L_lays w xs len a2 b3 n3)) o ho rfl
  rw [f_L_lays]
  have hJ91 : ∀ (x4_8 : Int32) (x5_9 : Int32) (w10 : ZW), zR G l d "LoveLocksLaw" cL_lays 15 (some .int) (some (.int o.1)) o.2 (fun x => x = o) 91 [(0, .ref (G.1 0)), (1, .ref (z_b G)), (2, .int a2), (3, .ref (G.1 b3)), (4, .int x4_8), (5, .int x5_9)] [] w10 (f_L_lays_J91 xs len a2 n3 b3 x4_8 x5_9 w10) := by
    intro x4_8 x5_9 w10
    rw [f_L_lays_J91]
    refine r_iconst 92 dL_lays_91 rfl zci_1 ?_
    refine r_aload_n 93 dL_lays_92 rfl 1 rfl rfl ?_
    refine r_iconst 94 dL_lays_93 rfl zci_0 ?_
    refine r_callSi 97 2 [.ref (z_b G), .int (0 : Int32)] (st := [.int (1 : Int32)]) dL_lays_94 rfl rfl (fun r h => c_L_cell G l (d - 1) (by omega) w10 xs len (0 : Int32) hxs hlen r h) wc_L_cell wz_L wl_L_9 wst_L_cell zd_L_cell (by decide) (by omega) rfl (Nat.le_of_ble_eq_true rfl) (fun r11 => ?_)
    refine r_iconst 98 dL_lays_97 rfl zci_3 ?_
    refine r_ishr 99 dL_lays_98 rfl ?_
    refine r_iload_n 100 dL_lays_99 rfl 2 rfl rfl ?_
    refine r_ne (fun hy => ?_)
    refine r_irem 101 dL_lays_100 rfl hy ?_
    refine r_iadd 102 dL_lays_101 rfl ?_
    refine r_topi (fun y12 => ?_)
    refine r_istore 104 [(6, .int y12), (0, .ref (G.1 0)), (1, .ref (z_b G)), (2, .int a2), (3, .ref (G.1 b3)), (4, .int x4_8), (5, .int x5_9)] dL_lays_102 rfl (by decide) rfl ?_
    refine r_iconst 105 dL_lays_104 rfl zci_0 ?_
    refine r_istore 107 [(7, .int (0 : Int32)), (6, .int y12), (0, .ref (G.1 0)), (1, .ref (z_b G)), (2, .int a2), (3, .ref (G.1 b3)), (4, .int x4_8), (5, .int x5_9)] dL_lays_105 rfl (by decide) rfl ?_
    refine r_loopE [2, 3, 5, 6, 7, 1, 0] (fun s13 => [(0, .ref (G.1 0)), (1, .ref (z_b G)), (3, .ref (G.1 b3)), (4, .int x4_8), (5, .int s13.1), (6, .int y12), (7, .int s13.2.1)]) (fun s13 => s13.2.2) 371 (fun q14 => [(5, .int q14.1), (6, .int y12)]) (fun q14 => q14.2) rfl rfl (fun s13 => ?_) (fun q14 => ?_)
    · rw [f_L_lays_L107]
      have hJ299 : ∀ (x7_59 : Int32) (x9_60 : Int32) (x10_61 : Int32) (x11_62 : Int32) (x12_63 : Int32) (x13_64 : Int32) (x14_65 : Int32) (k66 : Int32) (w67 : ZW), zR G l d "LoveLocksLaw" cL_lays 15 (some .int) (some (.int o.1)) o.2 (Sum.elim (fun s13 => zA G l d "LoveLocksLaw" cL_lays 15 (some .int) (some (.int o.1)) o.2 107 [(0, .ref (G.1 0)), (1, .ref (z_b G)), (3, .ref (G.1 b3)), (4, .int x4_8), (5, .int s13.1), (6, .int y12), (7, .int s13.2.1)] [] s13.2.2) (fun q14 => zA G l d "LoveLocksLaw" cL_lays 15 (some .int) (some (.int o.1)) o.2 371 [(5, .int q14.1), (6, .int y12)] [] q14.2)) 299 [(0, .ref (G.1 0)), (1, .ref (z_b G)), (3, .ref (G.1 b3)), (4, .int x4_8), (6, .int y12), (7, .int x7_59), (9, .int x9_60), (10, .int x10_61), (11, .int x11_62), (12, .int x12_63), (13, .int x13_64), (14, .int x14_65)] [.int k66] w67 (f_L_lays_J299 n3 b3 x7_59 x9_60 x10_61 x11_62 x12_63 x13_64 x14_65 k66 w67) := by
        intro x7_59 x9_60 x10_61 x11_62 x12_63 x13_64 x14_65 k66 w67
        rw [f_L_lays_J299]
        refine r_istore 301 [(5, .int k66), (0, .ref (G.1 0)), (1, .ref (z_b G)), (3, .ref (G.1 b3)), (4, .int x4_8), (6, .int y12), (7, .int x7_59), (9, .int x9_60), (10, .int x10_61), (11, .int x11_62), (12, .int x12_63), (13, .int x13_64), (14, .int x14_65)] dL_lays_299 rfl (by decide) rfl ?_
        refine r_aload_n 302 dL_lays_301 rfl 3 rfl rfl ?_
        refine r_bipush 304 dL_lays_302 rfl zcb_6 ?_
        refine r_iload 306 dL_lays_304 rfl 6 rfl ?_
        refine r_imul 307 dL_lays_306 rfl ?_
        refine r_iload 309 dL_lays_307 rfl 8 rfl ?_
        refine r_iast 310 b3 n3 dL_lays_309 rfl ha_b3 hc_b3 ?_
        refine r_topw (fun w68 => ?_)
        refine r_aload_n 311 dL_lays_310 rfl 3 rfl rfl ?_
        refine r_bipush 313 dL_lays_311 rfl zcb_6 ?_
        refine r_iload 315 dL_lays_313 rfl 6 rfl ?_
        refine r_imul 316 dL_lays_315 rfl ?_
        refine r_iconst 317 dL_lays_316 rfl zci_1 ?_
        refine r_iadd 318 dL_lays_317 rfl ?_
        refine r_iload 320 dL_lays_318 rfl 9 rfl ?_
        refine r_iast 321 b3 n3 dL_lays_320 rfl ha_b3 hc_b3 ?_
        refine r_topw (fun w69 => ?_)
        refine r_aload_n 322 dL_lays_321 rfl 3 rfl rfl ?_
        refine r_bipush 324 dL_lays_322 rfl zcb_6 ?_
        refine r_iload 326 dL_lays_324 rfl 6 rfl ?_
        refine r_imul 327 dL_lays_326 rfl ?_
        refine r_iconst 328 dL_lays_327 rfl zci_2 ?_
        refine r_iadd 329 dL_lays_328 rfl ?_
        refine r_iload 331 dL_lays_329 rfl 10 rfl ?_
        refine r_iast 332 b3 n3 dL_lays_331 rfl ha_b3 hc_b3 ?_
        refine r_topw (fun w70 => ?_)
        refine r_aload_n 333 dL_lays_332 rfl 3 rfl rfl ?_
        refine r_bipush 335 dL_lays_333 rfl zcb_6 ?_
        refine r_iload 337 dL_lays_335 rfl 6 rfl ?_
        refine r_imul 338 dL_lays_337 rfl ?_
        refine r_iconst 339 dL_lays_338 rfl zci_3 ?_
        refine r_iadd 340 dL_lays_339 rfl ?_
        refine r_iload 342 dL_lays_340 rfl 11 rfl ?_
        refine r_iast 343 b3 n3 dL_lays_342 rfl ha_b3 hc_b3 ?_
        refine r_topw (fun w71 => ?_)
        refine r_aload_n 344 dL_lays_343 rfl 3 rfl rfl ?_
        refine r_bipush 346 dL_lays_344 rfl zcb_6 ?_
        refine r_iload 348 dL_lays_346 rfl 6 rfl ?_
        refine r_imul 349 dL_lays_348 rfl ?_
        refine r_iconst 350 dL_lays_349 rfl zci_4 ?_
        refine r_iadd 351 dL_lays_350 rfl ?_
        refine r_iload 353 dL_lays_351 rfl 12 rfl ?_
        refine r_iast 354 b3 n3 dL_lays_353 rfl ha_b3 hc_b3 ?_
        refine r_topw (fun w72 => ?_)
        refine r_aload_n 355 dL_lays_354 rfl 3 rfl rfl ?_
        refine r_bipush 357 dL_lays_355 rfl zcb_6 ?_
        refine r_iload 359 dL_lays_357 rfl 6 rfl ?_
        refine r_imul 360 dL_lays_359 rfl ?_
        refine r_iconst 361 dL_lays_360 rfl zci_5 ?_
        refine r_iadd 362 dL_lays_361 rfl ?_
        refine r_iload 364 dL_lays_362 rfl 7 rfl ?_
        refine r_iast 365 b3 n3 dL_lays_364 rfl ha_b3 hc_b3 ?_
        refine r_topw (fun w73 => ?_)
        refine r_iinc 368 6 [(7, .int (x7_59 + (1 : Int32))), (5, .int k66), (0, .ref (G.1 0)), (1, .ref (z_b G)), (3, .ref (G.1 b3)), (4, .int x4_8), (6, .int y12), (9, .int x9_60), (10, .int x10_61), (11, .int x11_62), (12, .int x12_63), (13, .int x13_64), (14, .int x14_65)] dL_lays_365 rfl rfl zci_1 (by decide) rfl ?_
        refine r_goto 107 dL_lays_368 (by decide) ?_
        exact r_leaf [2, 3, 4, 5, 1, 6, 0] (lv2 := [(0, .ref (G.1 0)), (1, .ref (z_b G)), (3, .ref (G.1 b3)), (4, .int x4_8), (5, .int k66), (6, .int y12), (7, .int (x7_59 + (1 : Int32)))]) rfl (fun h => h)
      have hJ289 : ∀ (x7_50 : Int32) (x9_51 : Int32) (x10_52 : Int32) (x11_53 : Int32) (x12_54 : Int32) (x13_55 : Int32) (x14_56 : Int32) (k57 : Int32) (w58 : ZW), zR G l d "LoveLocksLaw" cL_lays 15 (some .int) (some (.int o.1)) o.2 (Sum.elim (fun s13 => zA G l d "LoveLocksLaw" cL_lays 15 (some .int) (some (.int o.1)) o.2 107 [(0, .ref (G.1 0)), (1, .ref (z_b G)), (3, .ref (G.1 b3)), (4, .int x4_8), (5, .int s13.1), (6, .int y12), (7, .int s13.2.1)] [] s13.2.2) (fun q14 => zA G l d "LoveLocksLaw" cL_lays 15 (some .int) (some (.int o.1)) o.2 371 [(5, .int q14.1), (6, .int y12)] [] q14.2)) 289 [(0, .ref (G.1 0)), (1, .ref (z_b G)), (3, .ref (G.1 b3)), (4, .int x4_8), (6, .int y12), (7, .int x7_50), (9, .int x9_51), (10, .int x10_52), (11, .int x11_53), (12, .int x12_54), (13, .int x13_55), (14, .int x14_56)] [.int k57] w58 (f_L_lays_J289 n3 b3 x7_50 x9_51 x10_52 x11_53 x12_54 x13_55 x14_56 k57 w58) := by
        intro x7_50 x9_51 x10_52 x11_53 x12_54 x13_55 x14_56 k57 w58
        rw [f_L_lays_J289]
        refine r_iload 291 dL_lays_289 rfl 5 rfl ?_
        refine r_icmp_ne 298 294 dL_lays_291 (by decide) rfl ?_ ?_
        · refine r_iconst 299 dL_lays_298 rfl zci_0 ?_
          exact r_sub [0, 1, 2, 3, 4, 5, 6, 7, 8, 9, 10, 11] (lv2 := [(0, .ref (G.1 0)), (1, .ref (z_b G)), (3, .ref (G.1 b3)), (4, .int x4_8), (6, .int y12), (7, .int x7_50), (9, .int x9_51), (10, .int x10_52), (11, .int x11_53), (12, .int x12_54), (13, .int x13_55), (14, .int x14_56)]) rfl (hJ299 x7_50 x9_51 x10_52 x11_53 x12_54 x13_55 x14_56 (0 : Int32) w58)
        · refine r_iconst 295 dL_lays_294 rfl zci_1 ?_
          refine r_goto 299 dL_lays_295 (by decide) ?_
          exact r_sub [0, 1, 2, 3, 4, 5, 6, 7, 8, 9, 10, 11] (lv2 := [(0, .ref (G.1 0)), (1, .ref (z_b G)), (3, .ref (G.1 b3)), (4, .int x4_8), (6, .int y12), (7, .int x7_50), (9, .int x9_51), (10, .int x10_52), (11, .int x11_53), (12, .int x12_54), (13, .int x13_55), (14, .int x14_56)]) rfl (hJ299 x7_50 x9_51 x10_52 x11_53 x12_54 x13_55 x14_56 (1 : Int32) w58)
      have hJ253 : ∀ (x7_41 : Int32) (x9_42 : Int32) (x10_43 : Int32) (x11_44 : Int32) (x12_45 : Int32) (x13_46 : Int32) (k47 : Int32) (w48 : ZW), zR G l d "LoveLocksLaw" cL_lays 15 (some .int) (some (.int o.1)) o.2 (Sum.elim (fun s13 => zA G l d "LoveLocksLaw" cL_lays 15 (some .int) (some (.int o.1)) o.2 107 [(0, .ref (G.1 0)), (1, .ref (z_b G)), (3, .ref (G.1 b3)), (4, .int x4_8), (5, .int s13.1), (6, .int y12), (7, .int s13.2.1)] [] s13.2.2) (fun q14 => zA G l d "LoveLocksLaw" cL_lays 15 (some .int) (some (.int o.1)) o.2 371 [(5, .int q14.1), (6, .int y12)] [] q14.2)) 253 [(0, .ref (G.1 0)), (1, .ref (z_b G)), (3, .ref (G.1 b3)), (4, .int x4_8), (6, .int y12), (7, .int x7_41), (9, .int x9_42), (10, .int x10_43), (11, .int x11_44), (12, .int x12_45), (13, .int x13_46)] [.int k47] w48 (f_L_lays_J253 n3 b3 x7_41 x9_42 x10_43 x11_44 x12_45 x13_46 k47 w48) := by
        intro x7_41 x9_42 x10_43 x11_44 x12_45 x13_46 k47 w48
        rw [f_L_lays_J253]
        refine r_istore 255 [(14, .int k47), (0, .ref (G.1 0)), (1, .ref (z_b G)), (3, .ref (G.1 b3)), (4, .int x4_8), (6, .int y12), (7, .int x7_41), (9, .int x9_42), (10, .int x10_43), (11, .int x11_44), (12, .int x12_45), (13, .int x13_46)] dL_lays_253 rfl (by decide) rfl ?_
        refine r_iload 257 dL_lays_255 rfl 7 rfl ?_
        refine r_if_ge 277 260 dL_lays_257 (by decide) rfl ?_ ?_
        · refine r_aload_n 278 dL_lays_277 rfl 1 rfl rfl ?_
          refine r_iload 280 dL_lays_278 rfl 7 rfl ?_
          refine r_iload 282 dL_lays_280 rfl 8 rfl ?_
          refine r_iload 284 dL_lays_282 rfl 9 rfl ?_
          refine r_iload 286 dL_lays_284 rfl 10 rfl ?_
          refine r_callViw 289 4 (ko := 0) [.int x9_42, .int x10_43, .int x11_44, .int x12_45] (st := []) dL_lays_286 rfl rfl (fun r h => c_X11_hangOn G l (d - 1) (by omega) w48 x9_42 x10_43 x11_44 x12_45 r h) zl_0 (ce_0 G _) rfl rfl wc_X11_hangOn wz_X11 wl_L_25 wi_X11_hangOn ws_X11_hangOn zd_X11_hangOn (by decide) (by omega) rfl (Nat.le_of_ble_eq_true rfl) (fun r49 => ?_)
          exact r_sub [1, 2, 3, 4, 5, 6, 7, 8, 9, 10, 11, 0] (lv2 := [(0, .ref (G.1 0)), (1, .ref (z_b G)), (3, .ref (G.1 b3)), (4, .int x4_8), (6, .int y12), (7, .int x7_41), (9, .int x9_42), (10, .int x10_43), (11, .int x11_44), (12, .int x12_45), (13, .int x13_46), (14, .int k47)]) rfl (hJ289 x7_41 x9_42 x10_43 x11_44 x12_45 x13_46 k47 r49.1 r49.2)
        · refine r_aload_n 261 dL_lays_260 rfl 1 rfl rfl ?_
          refine r_iload 263 dL_lays_261 rfl 11 rfl ?_
          refine r_iload 265 dL_lays_263 rfl 0 rfl ?_
          refine r_iload 267 dL_lays_265 rfl 8 rfl ?_
          refine r_iload 269 dL_lays_267 rfl 9 rfl ?_
          refine r_iload 271 dL_lays_269 rfl 10 rfl ?_
          refine r_callViw 274 5 (ko := 0) [.int x13_46, .int k47, .int x10_43, .int x11_44, .int x12_45] (st := []) dL_lays_271 rfl rfl (fun r h => c_X11_hang G l (d - 1) (by omega) w48 x13_46 k47 x10_43 x11_44 x12_45 r h) zl_0 (ce_0 G _) rfl rfl wc_X11_hang wz_X11 wl_L_21 wi_X11_hang ws_X11_hang zd_X11_hang (by decide) (by omega) rfl (Nat.le_of_ble_eq_true rfl) (fun r74 => ?_)
          refine r_goto 289 dL_lays_274 (by decide) ?_
          exact r_sub [1, 2, 3, 4, 5, 6, 7, 8, 9, 10, 11, 0] (lv2 := [(0, .ref (G.1 0)), (1, .ref (z_b G)), (3, .ref (G.1 b3)), (4, .int x4_8), (6, .int y12), (7, .int x7_41), (9, .int x9_42), (10, .int x10_43), (11, .int x11_44), (12, .int x12_45), (13, .int x13_46), (14, .int k47)]) rfl (hJ289 x7_41 x9_42 x10_43 x11_44 x12_45 x13_46 k47 r74.1 r74.2)
      have hJ227 : ∀ (x7_33 : Int32) (x8_34 : Int32) (x9_35 : Int32) (x10_36 : Int32) (x11_37 : Int32) (x12_38 : Int32) (k39 : Int32) (w40 : ZW), zR G l d "LoveLocksLaw" cL_lays 15 (some .int) (some (.int o.1)) o.2 (Sum.elim (fun s13 => zA G l d "LoveLocksLaw" cL_lays 15 (some .int) (some (.int o.1)) o.2 107 [(0, .ref (G.1 0)), (1, .ref (z_b G)), (3, .ref (G.1 b3)), (4, .int x4_8), (5, .int s13.1), (6, .int y12), (7, .int s13.2.1)] [] s13.2.2) (fun q14 => zA G l d "LoveLocksLaw" cL_lays 15 (some .int) (some (.int o.1)) o.2 371 [(5, .int q14.1), (6, .int y12)] [] q14.2)) 227 [(0, .ref (G.1 0)), (1, .ref (z_b G)), (3, .ref (G.1 b3)), (4, .int x4_8), (6, .int y12), (7, .int x7_33), (8, .int x8_34), (9, .int x9_35), (10, .int x10_36), (11, .int x11_37), (12, .int x12_38)] [.int k39] w40 (f_L_lays_J227 n3 b3 x7_33 x8_34 x9_35 x10_36 x11_37 x12_38 k39 w40) := by
        intro x7_33 x8_34 x9_35 x10_36 x11_37 x12_38 k39 w40
        rw [f_L_lays_J227]
        refine r_istore 229 [(13, .int k39), (0, .ref (G.1 0)), (1, .ref (z_b G)), (3, .ref (G.1 b3)), (4, .int x4_8), (6, .int y12), (7, .int x7_33), (8, .int x8_34), (9, .int x9_35), (10, .int x10_36), (11, .int x11_37), (12, .int x12_38)] dL_lays_227 rfl (by decide) rfl ?_
        refine r_iload 231 dL_lays_229 rfl 8 rfl ?_
        refine r_if_ge 244 234 dL_lays_231 (by decide) rfl ?_ ?_
        · refine r_aload_n 245 dL_lays_244 rfl 3 rfl rfl ?_
          refine r_bipush 247 dL_lays_245 rfl zcb_6 ?_
          refine r_iload 249 dL_lays_247 rfl 8 rfl ?_
          refine r_imul 250 dL_lays_249 rfl ?_
          refine r_iconst 251 dL_lays_250 rfl zci_4 ?_
          refine r_iadd 252 dL_lays_251 rfl ?_
          refine r_iald 253 b3 n3 dL_lays_252 rfl ha_b3 (hc_b3 _) ?_
          exact r_sub [1, 2, 3, 4, 5, 6, 8, 9, 10, 11, 0] (lv2 := [(0, .ref (G.1 0)), (1, .ref (z_b G)), (3, .ref (G.1 b3)), (4, .int x4_8), (6, .int y12), (7, .int x7_33), (9, .int x9_35), (10, .int x10_36), (11, .int x11_37), (12, .int x12_38), (13, .int k39)]) rfl (hJ253 x7_33 x9_35 x10_36 x11_37 x12_38 k39 (w40.1 b3 (((6 : Int32) * x9_35) + (4 : Int32)).toNatClampNeg) w40)
        · refine r_iload 236 dL_lays_234 rfl 7 rfl ?_
          refine r_bipush 238 dL_lays_236 rfl zcb_9 ?_
          refine r_ishr 239 dL_lays_238 rfl ?_
          refine r_iconst 240 dL_lays_239 rfl zci_3 ?_
          refine r_irem 241 dL_lays_240 rfl (by decide) ?_
          refine r_goto 253 dL_lays_241 (by decide) ?_
          exact r_sub [1, 2, 3, 4, 5, 6, 8, 9, 10, 11, 0] (lv2 := [(0, .ref (G.1 0)), (1, .ref (z_b G)), (3, .ref (G.1 b3)), (4, .int x4_8), (6, .int y12), (7, .int x7_33), (9, .int x9_35), (10, .int x10_36), (11, .int x11_37), (12, .int x12_38), (13, .int k39)]) rfl (hJ253 x7_33 x9_35 x10_36 x11_37 x12_38 k39 ((x8_34 >>> ((9 : Int32) &&& 31)) - (x8_34 >>> ((9 : Int32) &&& 31)) / (3 : Int32) * (3 : Int32)) w40)
      have hJ180 : ∀ (x7_23 : Int32) (x8_24 : Int32) (x9_25 : Int32) (k26 : Int32) (k27 : Int32) (k28 : Int32) (w29 : ZW), zR G l d "LoveLocksLaw" cL_lays 15 (some .int) (some (.int o.1)) o.2 (Sum.elim (fun s13 => zA G l d "LoveLocksLaw" cL_lays 15 (some .int) (some (.int o.1)) o.2 107 [(0, .ref (G.1 0)), (1, .ref (z_b G)), (3, .ref (G.1 b3)), (4, .int x4_8), (5, .int s13.1), (6, .int y12), (7, .int s13.2.1)] [] s13.2.2) (fun q14 => zA G l d "LoveLocksLaw" cL_lays 15 (some .int) (some (.int o.1)) o.2 371 [(5, .int q14.1), (6, .int y12)] [] q14.2)) 180 [(0, .ref (G.1 0)), (1, .ref (z_b G)), (3, .ref (G.1 b3)), (4, .int x4_8), (6, .int y12), (7, .int x7_23), (8, .int x8_24), (9, .int x9_25)] [.int k26, .int k27, .int k28] w29 (f_L_lays_J180 n3 b3 x4_8 x7_23 x8_24 x9_25 k26 k27 k28 w29) := by
        intro x7_23 x8_24 x9_25 k26 k27 k28 w29
        rw [f_L_lays_J180]
        refine r_ne (fun hy => ?_)
        refine r_irem 181 dL_lays_180 rfl hy ?_
        refine r_iadd 182 dL_lays_181 rfl ?_
        refine r_topi (fun y30 => ?_)
        refine r_istore 184 [(10, .int y30), (0, .ref (G.1 0)), (1, .ref (z_b G)), (3, .ref (G.1 b3)), (4, .int x4_8), (6, .int y12), (7, .int x7_23), (8, .int x8_24), (9, .int x9_25)] dL_lays_182 rfl (by decide) rfl ?_
        refine r_iload 186 dL_lays_184 rfl 7 rfl ?_
        refine r_bipush 188 dL_lays_186 rfl zcb_7 ?_
        refine r_ishr 189 dL_lays_188 rfl ?_
        refine r_iconst 190 dL_lays_189 rfl zci_1 ?_
        refine r_iand 191 dL_lays_190 rfl ?_
        refine r_topi (fun y31 => ?_)
        refine r_istore 193 [(11, .int y31), (10, .int y30), (0, .ref (G.1 0)), (1, .ref (z_b G)), (3, .ref (G.1 b3)), (4, .int x4_8), (6, .int y12), (7, .int x7_23), (8, .int x8_24), (9, .int x9_25)] dL_lays_191 rfl (by decide) rfl ?_
        refine r_iload 195 dL_lays_193 rfl 8 rfl ?_
        refine r_bipush 197 dL_lays_195 rfl zcb_8 ?_
        refine r_ishr 198 dL_lays_197 rfl ?_
        refine r_bipush 200 dL_lays_198 rfl zcb_6 ?_
        refine r_irem 201 dL_lays_200 rfl (by decide) ?_
        refine r_topi (fun y32 => ?_)
        refine r_istore 203 [(12, .int y32), (11, .int y31), (10, .int y30), (0, .ref (G.1 0)), (1, .ref (z_b G)), (3, .ref (G.1 b3)), (4, .int x4_8), (6, .int y12), (7, .int x7_23), (8, .int x8_24), (9, .int x9_25)] dL_lays_201 rfl (by decide) rfl ?_
        refine r_iload 205 dL_lays_203 rfl 10 rfl ?_
        refine r_if_ge 218 208 dL_lays_205 (by decide) rfl ?_ ?_
        · refine r_aload_n 219 dL_lays_218 rfl 5 rfl rfl ?_
          refine r_bipush 221 dL_lays_219 rfl zcb_6 ?_
          refine r_iload 223 dL_lays_221 rfl 10 rfl ?_
          refine r_imul 224 dL_lays_223 rfl ?_
          refine r_iconst 225 dL_lays_224 rfl zci_3 ?_
          refine r_iadd 226 dL_lays_225 rfl ?_
          refine r_iald 227 b3 n3 dL_lays_226 rfl ha_b3 (hc_b3 _) ?_
          exact r_sub [3, 4, 5, 6, 7, 8, 9, 10, 2, 1, 0] (lv2 := [(0, .ref (G.1 0)), (1, .ref (z_b G)), (3, .ref (G.1 b3)), (4, .int x4_8), (6, .int y12), (7, .int x7_23), (8, .int x8_24), (9, .int x9_25), (10, .int y30), (11, .int y31), (12, .int y32)]) rfl (hJ227 x7_23 x8_24 x9_25 y30 y31 y32 (w29.1 b3 (((6 : Int32) * x9_25) + (3 : Int32)).toNatClampNeg) w29)
        · refine r_iload 210 dL_lays_208 rfl 9 rfl ?_
          refine r_iconst 211 dL_lays_210 rfl zci_3 ?_
          refine r_ishr 212 dL_lays_211 rfl ?_
          refine r_iload 214 dL_lays_212 rfl 6 rfl ?_
          refine r_ne (fun hy => ?_)
          refine r_irem 215 dL_lays_214 rfl hy ?_
          refine r_goto 227 dL_lays_215 (by decide) ?_
          exact r_sub [3, 4, 5, 6, 7, 8, 9, 10, 2, 1, 0] (lv2 := [(0, .ref (G.1 0)), (1, .ref (z_b G)), (3, .ref (G.1 b3)), (4, .int x4_8), (6, .int y12), (7, .int x7_23), (8, .int x8_24), (9, .int x9_25), (10, .int y30), (11, .int y31), (12, .int y32)]) rfl (hJ227 x7_23 x8_24 x9_25 y30 y31 y32 ((x8_24 >>> ((3 : Int32) &&& 31)) - (x8_24 >>> ((3 : Int32) &&& 31)) / x4_8 * x4_8) w29)
      have hJ157 : ∀ (x7_19 : Int32) (x8_20 : Int32) (k21 : Int32) (w22 : ZW), zR G l d "LoveLocksLaw" cL_lays 15 (some .int) (some (.int o.1)) o.2 (Sum.elim (fun s13 => zA G l d "LoveLocksLaw" cL_lays 15 (some .int) (some (.int o.1)) o.2 107 [(0, .ref (G.1 0)), (1, .ref (z_b G)), (3, .ref (G.1 b3)), (4, .int x4_8), (5, .int s13.1), (6, .int y12), (7, .int s13.2.1)] [] s13.2.2) (fun q14 => zA G l d "LoveLocksLaw" cL_lays 15 (some .int) (some (.int o.1)) o.2 371 [(5, .int q14.1), (6, .int y12)] [] q14.2)) 157 [(0, .ref (G.1 0)), (1, .ref (z_b G)), (3, .ref (G.1 b3)), (4, .int x4_8), (6, .int y12), (7, .int x7_19), (8, .int x8_20)] [.int k21] w22 (f_L_lays_J157 n3 b3 x4_8 x7_19 x8_20 k21 w22) := by
        intro x7_19 x8_20 k21 w22
        rw [f_L_lays_J157]
        refine r_istore 159 [(9, .int k21), (0, .ref (G.1 0)), (1, .ref (z_b G)), (3, .ref (G.1 b3)), (4, .int x4_8), (6, .int y12), (7, .int x7_19), (8, .int x8_20)] dL_lays_157 rfl (by decide) rfl ?_
        refine r_iconst 160 dL_lays_159 rfl zci_1 ?_
        refine r_iload 162 dL_lays_160 rfl 7 rfl ?_
        refine r_iconst 163 dL_lays_162 rfl zci_4 ?_
        refine r_ishr 164 dL_lays_163 rfl ?_
        refine r_iload 166 dL_lays_164 rfl 7 rfl ?_
        refine r_bipush 168 dL_lays_166 rfl zcb_64 ?_
        refine r_iand 169 dL_lays_168 rfl ?_
        refine r_if_ne 177 172 dL_lays_169 (by decide) rfl ?_ ?_
        · refine r_sipush 180 dL_lays_177 rfl zcs_400 ?_
          exact r_sub [1, 2, 3, 4, 5, 6, 7, 0] (lv2 := [(0, .ref (G.1 0)), (1, .ref (z_b G)), (3, .ref (G.1 b3)), (4, .int x4_8), (6, .int y12), (7, .int x7_19), (8, .int x8_20), (9, .int k21)]) rfl (hJ180 x7_19 x8_20 k21 (400 : Int32) (x8_20 >>> ((4 : Int32) &&& 31)) (1 : Int32) w22)
        · refine r_bipush 174 dL_lays_172 rfl zcb_30 ?_
          refine r_goto 180 dL_lays_174 (by decide) ?_
          exact r_sub [1, 2, 3, 4, 5, 6, 7, 0] (lv2 := [(0, .ref (G.1 0)), (1, .ref (z_b G)), (3, .ref (G.1 b3)), (4, .int x4_8), (6, .int y12), (7, .int x7_19), (8, .int x8_20), (9, .int k21)]) rfl (hJ180 x7_19 x8_20 k21 (30 : Int32) (x8_20 >>> ((4 : Int32) &&& 31)) (1 : Int32) w22)
      have hJ156 : ∀ (x7_16 : Int32) (x8_17 : Int32) (w18 : ZW), zR G l d "LoveLocksLaw" cL_lays 15 (some .int) (some (.int o.1)) o.2 (Sum.elim (fun s13 => zA G l d "LoveLocksLaw" cL_lays 15 (some .int) (some (.int o.1)) o.2 107 [(0, .ref (G.1 0)), (1, .ref (z_b G)), (3, .ref (G.1 b3)), (4, .int x4_8), (5, .int s13.1), (6, .int y12), (7, .int s13.2.1)] [] s13.2.2) (fun q14 => zA G l d "LoveLocksLaw" cL_lays 15 (some .int) (some (.int o.1)) o.2 371 [(5, .int q14.1), (6, .int y12)] [] q14.2)) 156 [(0, .ref (G.1 0)), (1, .ref (z_b G)), (3, .ref (G.1 b3)), (4, .int x4_8), (6, .int y12), (7, .int x7_16), (8, .int x8_17)] [] w18 (f_L_lays_J156 n3 b3 x4_8 x7_16 x8_17 w18) := by
        intro x7_16 x8_17 w18
        rw [f_L_lays_J156]
        refine r_iconst 157 dL_lays_156 rfl zci_m1 ?_
        exact r_sub [0, 1, 2, 3, 4, 5, 6] (lv2 := [(0, .ref (G.1 0)), (1, .ref (z_b G)), (3, .ref (G.1 b3)), (4, .int x4_8), (6, .int y12), (7, .int x7_16), (8, .int x8_17)]) rfl (hJ157 x7_16 x8_17 (-1 : Int32) w18)
      refine r_iload 109 dL_lays_107 rfl 6 rfl ?_
      refine r_iload 111 dL_lays_109 rfl 5 rfl ?_
      refine r_icmp_ge 371 114 dL_lays_111 (by decide) rfl ?_ ?_
      · exact r_leaf [4, 5] (lv2 := [(5, .int s13.1), (6, .int y12)]) rfl (fun h => h)
      · refine r_iload 116 dL_lays_114 rfl 4 rfl ?_
        refine r_if_eq 371 119 dL_lays_116 (by decide) rfl ?_ ?_
        · exact r_leaf [4, 5] (lv2 := [(5, .int s13.1), (6, .int y12)]) rfl (fun h => h)
        · refine r_aload_n 120 dL_lays_119 rfl 1 rfl rfl ?_
          refine r_iconst 121 dL_lays_120 rfl zci_2 ?_
          refine r_iload 123 dL_lays_121 rfl 6 rfl ?_
          refine r_iconst 124 dL_lays_123 rfl zci_4 ?_
          refine r_irem 125 dL_lays_124 rfl (by decide) ?_
          refine r_iadd 126 dL_lays_125 rfl ?_
          refine r_callSi 129 2 [.ref (z_b G), .int ((2 : Int32) + (s13.2.1 - s13.2.1 / (4 : Int32) * (4 : Int32)))] (st := []) dL_lays_126 rfl rfl (fun r h => c_L_cell G l (d - 1) (by omega) s13.2.2 xs len ((2 : Int32) + (s13.2.1 - s13.2.1 / (4 : Int32) * (4 : Int32))) hxs hlen r h) wc_L_cell wz_L wl_L_9 wst_L_cell zd_L_cell (by decide) (by omega) rfl (Nat.le_of_ble_eq_true rfl) (fun r15 => ?_)
          refine r_iload 131 dL_lays_129 rfl 6 rfl ?_
          refine r_ishr 132 dL_lays_131 rfl ?_
          refine r_istore 134 [(8, .int (r15 >>> (s13.2.1 &&& 31))), (0, .ref (G.1 0)), (1, .ref (z_b G)), (3, .ref (G.1 b3)), (4, .int x4_8), (5, .int s13.1), (6, .int y12), (7, .int s13.2.1)] dL_lays_132 rfl (by decide) rfl ?_
          refine r_iload 136 dL_lays_134 rfl 7 rfl ?_
          refine r_if_le 156 139 dL_lays_136 (by decide) rfl ?_ ?_
          · exact r_sub [1, 2, 3, 4, 6, 7, 0] (lv2 := [(0, .ref (G.1 0)), (1, .ref (z_b G)), (3, .ref (G.1 b3)), (4, .int x4_8), (6, .int y12), (7, .int s13.2.1), (8, .int (r15 >>> (s13.2.1 &&& 31)))]) rfl (hJ156 s13.2.1 (r15 >>> (s13.2.1 &&& 31)) s13.2.2)
          · refine r_iload 141 dL_lays_139 rfl 0 rfl ?_
            refine r_iconst 142 dL_lays_141 rfl zci_3 ?_
            refine r_iand 143 dL_lays_142 rfl ?_
            refine r_if_le 156 146 dL_lays_143 (by decide) rfl ?_ ?_
            · exact r_sub [1, 2, 3, 4, 6, 7, 0] (lv2 := [(0, .ref (G.1 0)), (1, .ref (z_b G)), (3, .ref (G.1 b3)), (4, .int x4_8), (6, .int y12), (7, .int s13.2.1), (8, .int (r15 >>> (s13.2.1 &&& 31)))]) rfl (hJ156 s13.2.1 (r15 >>> (s13.2.1 &&& 31)) s13.2.2)
            · refine r_iload 148 dL_lays_146 rfl 0 rfl ?_
              refine r_iconst 149 dL_lays_148 rfl zci_2 ?_
              refine r_ishr 150 dL_lays_149 rfl ?_
              refine r_iload 152 dL_lays_150 rfl 7 rfl ?_
              refine r_ne (fun hy => ?_)
              refine r_irem 153 dL_lays_152 rfl hy ?_
              refine r_goto 157 dL_lays_153 (by decide) ?_
              exact r_sub [1, 2, 3, 4, 6, 7, 0] (lv2 := [(0, .ref (G.1 0)), (1, .ref (z_b G)), (3, .ref (G.1 b3)), (4, .int x4_8), (6, .int y12), (7, .int s13.2.1), (8, .int (r15 >>> (s13.2.1 &&& 31)))]) rfl (hJ157 s13.2.1 (r15 >>> (s13.2.1 &&& 31)) (((r15 >>> (s13.2.1 &&& 31)) >>> ((2 : Int32) &&& 31)) - ((r15 >>> (s13.2.1 &&& 31)) >>> ((2 : Int32) &&& 31)) / s13.2.1 * s13.2.1) s13.2.2)
    · refine r_iload 373 dL_lays_371 rfl 0 rfl ?_
      refine r_if_eq 381 376 dL_lays_373 (by decide) rfl ?_ ?_
      · refine r_iconst 382 dL_lays_381 rfl zci_m1 ?_
        exact r_iret dL_lays_382 rfl z_kiw
      · refine r_iload 378 dL_lays_376 rfl 1 rfl ?_
        refine r_goto 382 dL_lays_378 (by decide) ?_
        exact r_iret dL_lays_382 rfl z_kiw
  refine r_iconst 1 dL_lays_0 rfl zci_1 ?_
  refine r_aload_n 2 dL_lays_1 rfl 1 rfl rfl ?_
  refine r_iconst 3 dL_lays_2 rfl zci_0 ?_
  refine r_callSi 6 2 [.ref (z_b G), .int (0 : Int32)] (st := [.int (1 : Int32)]) dL_lays_3 rfl rfl (fun r h => c_L_cell G l (d - 1) (by omega) w xs len (0 : Int32) hxs hlen r h) wc_L_cell wz_L wl_L_9 wst_L_cell zd_L_cell (by decide) (by omega) rfl (Nat.le_of_ble_eq_true rfl) (fun r1 => ?_)
  refine r_iconst 7 dL_lays_6 rfl zci_4 ?_
  refine r_irem 8 dL_lays_7 rfl (by decide) ?_
  refine r_iadd 9 dL_lays_8 rfl ?_
  refine r_topi (fun y2 => ?_)
  refine r_istore 11 [(4, .int y2), (0, .ref (G.1 0)), (1, .ref (z_b G)), (2, .int a2), (3, .ref (G.1 b3))] dL_lays_9 rfl (by decide) rfl ?_
  refine r_iconst 12 dL_lays_11 rfl zci_1 ?_
  refine r_istore 14 [(5, .int (1 : Int32)), (4, .int y2), (0, .ref (G.1 0)), (1, .ref (z_b G)), (2, .int a2), (3, .ref (G.1 b3))] dL_lays_12 rfl (by decide) rfl ?_
  refine r_iconst 15 dL_lays_14 rfl zci_0 ?_
  refine r_istore 17 [(6, .int (0 : Int32)), (5, .int (1 : Int32)), (4, .int y2), (0, .ref (G.1 0)), (1, .ref (z_b G)), (2, .int a2), (3, .ref (G.1 b3))] dL_lays_15 rfl (by decide) rfl ?_
  refine r_loopE [3, 4, 5, 6, 2, 1, 0] (fun s3 => [(0, .ref (G.1 0)), (1, .ref (z_b G)), (2, .int a2), (3, .ref (G.1 b3)), (4, .int y2), (5, .int s3.1), (6, .int s3.2.1)]) (fun s3 => s3.2.2) 91 (fun q4 => [(0, .ref (G.1 0)), (1, .ref (z_b G)), (2, .int a2), (3, .ref (G.1 b3)), (4, .int y2), (5, .int q4.1)]) (fun q4 => q4.2) rfl rfl (fun s3 => ?_) (fun q4 => ?_)
  · rw [f_L_lays_L17]
    refine r_iload 19 dL_lays_17 rfl 6 rfl ?_
    refine r_iload 21 dL_lays_19 rfl 4 rfl ?_
    refine r_icmp_ge 91 24 dL_lays_21 (by decide) rfl ?_ ?_
    · exact r_leaf [0, 1, 2, 3, 4, 5] (lv2 := [(0, .ref (G.1 0)), (1, .ref (z_b G)), (2, .int a2), (3, .ref (G.1 b3)), (4, .int y2), (5, .int s3.1)]) rfl (fun h => h)
    · refine r_iload 26 dL_lays_24 rfl 5 rfl ?_
      refine r_if_eq 91 29 dL_lays_26 (by decide) rfl ?_ ?_
      · exact r_leaf [0, 1, 2, 3, 4, 5] (lv2 := [(0, .ref (G.1 0)), (1, .ref (z_b G)), (2, .int a2), (3, .ref (G.1 b3)), (4, .int y2), (5, .int s3.1)]) rfl (fun h => h)
      · refine r_aload_n 30 dL_lays_29 rfl 1 rfl rfl ?_
        refine r_iconst 31 dL_lays_30 rfl zci_1 ?_
        refine r_callSi 34 2 [.ref (z_b G), .int (1 : Int32)] (st := []) dL_lays_31 rfl rfl (fun r h => c_L_cell G l (d - 1) (by omega) s3.2.2 xs len (1 : Int32) hxs hlen r h) wc_L_cell wz_L wl_L_9 wst_L_cell zd_L_cell (by decide) (by omega) rfl (Nat.le_of_ble_eq_true rfl) (fun r5 => ?_)
        refine r_iconst 35 dL_lays_34 rfl zci_4 ?_
        refine r_iload 37 dL_lays_35 rfl 6 rfl ?_
        refine r_imul 38 dL_lays_37 rfl ?_
        refine r_ishr 39 dL_lays_38 rfl ?_
        refine r_topi (fun y6 => ?_)
        refine r_istore 41 [(7, .int y6), (0, .ref (G.1 0)), (1, .ref (z_b G)), (2, .int a2), (3, .ref (G.1 b3)), (4, .int y2), (5, .int s3.1), (6, .int s3.2.1)] dL_lays_39 rfl (by decide) rfl ?_
        refine r_aload_n 42 dL_lays_41 rfl 1 rfl rfl ?_
        refine r_iconst 43 dL_lays_42 rfl zci_1 ?_
        refine r_iload 45 dL_lays_43 rfl 0 rfl ?_
        refine r_sipush 48 dL_lays_45 rfl zcs_900 ?_
        refine r_irem 49 dL_lays_48 rfl (by decide) ?_
        refine r_iadd 50 dL_lays_49 rfl ?_
        refine r_iconst 51 dL_lays_50 rfl zci_1 ?_
        refine r_iload 53 dL_lays_51 rfl 0 rfl ?_
        refine r_iconst 54 dL_lays_53 rfl zci_3 ?_
        refine r_ishr 55 dL_lays_54 rfl ?_
        refine r_sipush 58 dL_lays_55 rfl zcs_1500 ?_
        refine r_irem 59 dL_lays_58 rfl (by decide) ?_
        refine r_iadd 60 dL_lays_59 rfl ?_
        refine r_iconst 61 dL_lays_60 rfl zci_1 ?_
        refine r_iload 63 dL_lays_61 rfl 0 rfl ?_
        refine r_iconst 64 dL_lays_63 rfl zci_5 ?_
        refine r_ishr 65 dL_lays_64 rfl ?_
        refine r_sipush 68 dL_lays_65 rfl zcs_2500 ?_
        refine r_irem 69 dL_lays_68 rfl (by decide) ?_
        refine r_iadd 70 dL_lays_69 rfl ?_
        refine r_callViw 73 3 (ko := 0) [.int ((1 : Int32) + (y6 - y6 / (900 : Int32) * (900 : Int32))), .int ((1 : Int32) + ((y6 >>> ((3 : Int32) &&& 31)) - (y6 >>> ((3 : Int32) &&& 31)) / (1500 : Int32) * (1500 : Int32))), .int ((1 : Int32) + ((y6 >>> ((5 : Int32) &&& 31)) - (y6 >>> ((5 : Int32) &&& 31)) / (2500 : Int32) * (2500 : Int32)))] (st := []) dL_lays_70 rfl rfl (fun r h => c_X11_panel G l (d - 1) (by omega) s3.2.2 ((1 : Int32) + (y6 - y6 / (900 : Int32) * (900 : Int32))) ((1 : Int32) + ((y6 >>> ((3 : Int32) &&& 31)) - (y6 >>> ((3 : Int32) &&& 31)) / (1500 : Int32) * (1500 : Int32))) ((1 : Int32) + ((y6 >>> ((5 : Int32) &&& 31)) - (y6 >>> ((5 : Int32) &&& 31)) / (2500 : Int32) * (2500 : Int32))) r h) zl_0 (ce_0 G _) rfl rfl wc_X11_panel wz_X11 wl_L_15 wi_X11_panel ws_X11_panel zd_X11_panel (by decide) (by omega) rfl (Nat.le_of_ble_eq_true rfl) (fun r7 => ?_)
        refine r_iload 75 dL_lays_73 rfl 7 rfl ?_
        refine r_icmp_ne 82 78 dL_lays_75 (by decide) rfl ?_ ?_
        · refine r_iconst 83 dL_lays_82 rfl zci_0 ?_
          refine r_istore 85 [(5, .int (0 : Int32)), (7, .int y6), (0, .ref (G.1 0)), (1, .ref (z_b G)), (2, .int a2), (3, .ref (G.1 b3)), (4, .int y2), (6, .int s3.2.1)] dL_lays_83 rfl (by decide) rfl ?_
          refine r_iinc 88 7 [(6, .int (s3.2.1 + (1 : Int32))), (5, .int (0 : Int32)), (7, .int y6), (0, .ref (G.1 0)), (1, .ref (z_b G)), (2, .int a2), (3, .ref (G.1 b3)), (4, .int y2)] dL_lays_85 rfl rfl zci_1 (by decide) rfl ?_
          refine r_goto 17 dL_lays_88 (by decide) ?_
          exact r_leaf [3, 4, 5, 6, 7, 1, 0] (lv2 := [(0, .ref (G.1 0)), (1, .ref (z_b G)), (2, .int a2), (3, .ref (G.1 b3)), (4, .int y2), (5, .int (0 : Int32)), (6, .int (s3.2.1 + (1 : Int32)))]) rfl (fun h => h)
        · refine r_iconst 79 dL_lays_78 rfl zci_1 ?_
          refine r_goto 83 dL_lays_79 (by decide) ?_
          refine r_istore 85 [(5, .int (1 : Int32)), (7, .int y6), (0, .ref (G.1 0)), (1, .ref (z_b G)), (2, .int a2), (3, .ref (G.1 b3)), (4, .int y2), (6, .int s3.2.1)] dL_lays_83 rfl (by decide) rfl ?_
          refine r_iinc 88 7 [(6, .int (s3.2.1 + (1 : Int32))), (5, .int (1 : Int32)), (7, .int y6), (0, .ref (G.1 0)), (1, .ref (z_b G)), (2, .int a2), (3, .ref (G.1 b3)), (4, .int y2)] dL_lays_85 rfl rfl zci_1 (by decide) rfl ?_
          refine r_goto 17 dL_lays_88 (by decide) ?_
          exact r_leaf [3, 4, 5, 6, 7, 1, 0] (lv2 := [(0, .ref (G.1 0)), (1, .ref (z_b G)), (2, .int a2), (3, .ref (G.1 b3)), (4, .int y2), (5, .int (1 : Int32)), (6, .int (s3.2.1 + (1 : Int32)))]) rfl (fun h => h)
  · exact r_sub [0, 1, 2, 3, 4, 5] (lv2 := [(0, .ref (G.1 0)), (1, .ref (z_b G)), (2, .int a2), (3, .ref (G.1 b3)), (4, .int y2), (5, .int q4.1)]) rfl (hJ91 y2 q4.1 q4.2)
