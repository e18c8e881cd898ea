def f_law_L72 (x3_2 : Int32) (r9 : Int32) (w4 : ZW) (xs : Nat → Int32) (len : Nat) (s10 : Int32 × Int32) : Option ((Int32 × Int32) ⊕ (Int32)) :=
  if x3_2 ≤ s10.2 then
  some (.inr s10.1)
else
  if ((r9 >>> (s10.2 &&& 31)) &&& (1 : Int32)) = (1 : Int32) then
    if z_in (((6 : Int32) * s10.2) + (1 : Int32)) 64 then
      if (w4.1 130 (((6 : Int32) * s10.2) + (1 : Int32)).toNatClampNeg) = 0 then
      (f_L_cell xs len (7 : Int32)).bind fun r12 : Int32 =>
        if ((r12 >>> (s10.2 &&& 31)) &&& (1 : Int32)) = (1 : Int32) then
        (f_L_under w4 130 64 x3_2 (0 : Int32) s10.2).bind fun r13 : Int32 =>
          some (.inl (s10.1 ||| r13, s10.2 + (1 : Int32)))
      else
        some (.inl (s10.1 ||| (0 : Int32), s10.2 + (1 : Int32)))
    else
      some (.inl (s10.1 ||| (0 : Int32), s10.2 + (1 : Int32)))
    else none
  else
    some (.inl (s10.1 ||| (0 : Int32), s10.2 + (1 : Int32)))
def f_law_J231 (xs : Nat → Int32) (len : Nat) (x3_15 : Int32) (x4_16 : Int32) (x5_17 : Int32) (w18 : ZW) : Option (Int32) :=
  (f_L_cell xs len (8 : Int32)).bind fun r19 : Int32 =>
  if x3_15 = 0 then none else
  (f_L_cell xs len (8 : Int32)).bind fun r20 : Int32 =>
  z_let ((1 : Int32) + ((r20 >>> ((5 : Int32) &&& 31)) - (r20 >>> ((5 : Int32) &&& 31)) / (50 : Int32) * (50 : Int32))) fun y21 =>
  f_law2 xs len (z_new w18) x3_15 x4_16 x5_17 (r19 - r19 / x3_15 * x3_15) y21
def f_law_J229 (xs : Nat → Int32) (len : Nat) (x3_33 : Int32) (x5_34 : Int32) (k35 : Int32) (w36 : ZW) : Option (Int32) :=
  f_law_J231 xs len x3_33 k35 x5_34 w36
def f_law_J228 (xs : Nat → Int32) (len : Nat) (x3_30 : Int32) (x5_31 : Int32) (w32 : ZW) : Option (Int32) :=
  f_law_J229 xs len x3_30 x5_31 (0 : Int32) w32
def f_law_J31 (xs : Nat → Int32) (len : Nat) (x3_2 : Int32) (k3 : Int32) (w4 : ZW) : Option (Int32) :=
  (f_L_cell xs len (0 : Int32)).bind fun r5 : Int32 =>
  z_let ((1 : Int32) + (r5 - r5 / (4 : Int32) * (4 : Int32))) fun y6 =>
  if z_in (3 : Int32) 64 then
  z_let (w4.1 130 (3 : Int32).toNatClampNeg) fun y7 =>
  if z_in (4 : Int32) 64 then
  z_let (w4.1 130 (4 : Int32).toNatClampNeg) fun y8 =>
  (f_L_hung w4 130 64 x3_2 (0 : Int32) y7 y8).bind fun r9 : Int32 =>
  (z_iter (f_law_L72 x3_2 r9 w4 xs len) z_fuel ((0 : Int32), (0 : Int32))).bind (fun q11 : Int32 =>
  (f_X11_load w4 y7 y8).bind fun r14 : Int32 =>
  if q11 = 0 then
  f_law_J231 xs len x3_2 k3 y6 w4
else
  if k3 = 0 then
    f_law_J231 xs len x3_2 k3 y6 w4
  else
    (f_L_weigh w4 130 64 x3_2 q11).bind fun r28 : Int32 =>
      (f_X11_stolen w4 y7 y8 (r14 - r28) (0 : Int32)).bind fun r29 : Int32 × ZW =>
      if r29.1 < (1 : Int32) then
      f_law_J228 xs len x3_2 y6 r29.2
    else
      (f_X11_stolen r29.2 y7 y8 (r14 - r28) (2 : Int32)).bind fun r37 : Int32 × ZW =>
        if (q11 &&& (r37.1 ^^^ (-1 : Int32))) = 0 then
        (f_X11_stolen r37.2 y7 y8 (r14 - r28) (1 : Int32)).bind fun r38 : Int32 × ZW =>
          if (r38.1 &&& (q11 ^^^ (-1 : Int32))) = 0 then
          f_law_J229 xs len x3_2 y6 (1 : Int32) r38.2
        else
          f_law_J228 xs len x3_2 y6 r38.2
      else
        f_law_J228 xs len x3_2 y6 r37.2)
else none
else none
def f_law (xs : Nat → Int32) (len : Nat) (w : ZW) : Option Int32 :=
  (f_L_lays w xs len (9 : Int32) 130 64).bind fun r1 : Int32 × ZW =>
  if r1.1 ≤ 0 then
  f_law_J31 xs len r1.1 (0 : Int32) r1.2
else
  f_law_J31 xs len r1.1 (1 : Int32) r1.2
set_option maxHeartbeats 40000000 in
set_option maxRecDepth 100000 in
theorem c_law (G : ZG) (l : Launch) (len : Nat) (xs : Nat → Int32) (zc zs : Nat) (hzc1 : zc + 1 ≤ 600000) (hzs9 : zs + 9 ≤ 7302250) (hxs : z_x G = xs) (hlen : z_l G = len) (he : z_e G = 0) (w : ZW) (ho : f_law xs len w = some 1) : zLA G l "LoveLocksLaw" cL_law zc zs 13 [(2, .ref (G.1 130)), (1, .ref (G.1 0)), (0, .ref (z_b G))] [] w := by
  refine (?_ : zLR G l "LoveLocksLaw" cL_law zc zs (fun x : Int32 => x = 1) 13 [(2, .ref (G.1 130)), (1, .ref (G.1 0)), (0, .ref (z_b G))] [] w (f_law xs len w)) 1 ho rfl
  have hzc : zc ≤ 600000 := by omega
  have hzs2 : zs + 9 ≤ 7302250 := hzs9
  have hzs : zs ≤ 7302250 := by omega
  rw [f_law]
  have hJ231 : ∀ (x3_15 : Int32) (x4_16 : Int32) (x5_17 : Int32) (w18 : ZW), zLR G l "LoveLocksLaw" cL_law zc zs (fun x : Int32 => x = 1) 231 [(0, .ref (z_b G)), (1, .ref (G.1 0)), (2, .ref (G.1 130)), (3, .int x3_15), (4, .int x4_16), (5, .int x5_17)] [] w18 (f_law_J231 xs len x3_15 x4_16 x5_17 w18) := by
    intro x3_15 x4_16 x5_17 w18
    rw [f_law_J231]
    refine q_aload_n 232 dL_law_231 rfl 0 rfl rfl ?_
    refine q_bipush 234 dL_law_232 rfl zcb_8 ?_
    refine q_callSi 237 2 [.ref (z_b G), .int (8 : Int32)] (st := []) hzc hzs dL_law_234 rfl rfl (fun r h => c_L_cell G l 60 (by decide) w18 xs len (8 : Int32) hxs hlen r h) wc_L_cell wz_L wl_L_9 wst_L_cell zd_L_cell (by decide) (by decide) rfl (Nat.le_of_ble_eq_true rfl) (fun r19 => ?_)
    refine q_iload_n 238 dL_law_237 rfl 3 rfl rfl ?_
    refine q_ne (fun hy => ?_)
    refine q_irem 239 dL_law_238 rfl hy ?_
    refine q_istore 241 [(11, .int (r19 - r19 / x3_15 * x3_15)), (0, .ref (z_b G)), (1, .ref (G.1 0)), (2, .ref (G.1 130)), (3, .int x3_15), (4, .int x4_16), (5, .int x5_17)] dL_law_239 rfl (by decide) rfl ?_
    refine q_iconst 242 dL_law_241 rfl zci_1 ?_
    refine q_aload_n 243 dL_law_242 rfl 1 rfl rfl ?_
    refine q_bipush 245 dL_law_243 rfl zcb_8 ?_
    refine q_callSi 248 2 [.ref (z_b G), .int (8 : Int32)] (st := [.int (1 : Int32)]) hzc hzs dL_law_245 rfl rfl (fun r h => c_L_cell G l 60 (by decide) w18 xs len (8 : Int32) hxs hlen r h) wc_L_cell wz_L wl_L_9 wst_L_cell zd_L_cell (by decide) (by decide) rfl (Nat.le_of_ble_eq_true rfl) (fun r20 => ?_)
    refine q_iconst 249 dL_law_248 rfl zci_5 ?_
    refine q_ishr 250 dL_law_249 rfl ?_
    refine q_bipush 252 dL_law_250 rfl zcb_50 ?_
    refine q_irem 253 dL_law_252 rfl (by decide) ?_
    refine q_iadd 254 dL_law_253 rfl ?_
    refine q_topi (fun y21 => ?_)
    refine q_istore 256 [(12, .int y21), (11, .int (r19 - r19 / x3_15 * x3_15)), (0, .ref (z_b G)), (1, .ref (G.1 0)), (2, .ref (G.1 130)), (3, .int x3_15), (4, .int x4_16), (5, .int x5_17)] dL_law_254 rfl (by decide) rfl ?_
    refine q_bipush 258 dL_law_256 rfl zcb_9 ?_
    exact q_newa 260 [2, 3, 4, 5, 6, 7, 1, 0] dL_law_258 rfl wa_int (by decide) rfl he hzc1 hzs9 rfl (fun hX a => c_law2 (z_G2 G a) l len xs (zc + 1) (zs + 9) hzc1 hzs9 hxs hlen rfl (z_new w18) x3_15 x4_16 x5_17 (r19 - r19 / x3_15 * x3_15) y21 hX)
  have hJ229 : ∀ (x3_33 : Int32) (x5_34 : Int32) (k35 : Int32) (w36 : ZW), zLR G l "LoveLocksLaw" cL_law zc zs (fun x : Int32 => x = 1) 229 [(0, .ref (z_b G)), (1, .ref (G.1 0)), (2, .ref (G.1 130)), (3, .int x3_33), (5, .int x5_34)] [.int k35] w36 (f_law_J229 xs len x3_33 x5_34 k35 w36) := by
    intro x3_33 x5_34 k35 w36
    rw [f_law_J229]
    refine q_istore 231 [(4, .int k35), (0, .ref (z_b G)), (1, .ref (G.1 0)), (2, .ref (G.1 130)), (3, .int x3_33), (5, .int x5_34)] dL_law_229 rfl (by decide) rfl ?_
    exact q_sub [1, 2, 3, 4, 0, 5] (lv2 := [(0, .ref (z_b G)), (1, .ref (G.1 0)), (2, .ref (G.1 130)), (3, .int x3_33), (4, .int k35), (5, .int x5_34)]) rfl (hJ231 x3_33 k35 x5_34 w36)
  have hJ228 : ∀ (x3_30 : Int32) (x5_31 : Int32) (w32 : ZW), zLR G l "LoveLocksLaw" cL_law zc zs (fun x : Int32 => x = 1) 228 [(0, .ref (z_b G)), (1, .ref (G.1 0)), (2, .ref (G.1 130)), (3, .int x3_30), (5, .int x5_31)] [] w32 (f_law_J228 xs len x3_30 x5_31 w32) := by
    intro x3_30 x5_31 w32
    rw [f_law_J228]
    refine q_iconst 229 dL_law_228 rfl zci_0 ?_
    exact q_sub [0, 1, 2, 3, 4] (lv2 := [(0, .ref (z_b G)), (1, .ref (G.1 0)), (2, .ref (G.1 130)), (3, .int x3_30), (5, .int x5_31)]) rfl (hJ229 x3_30 x5_31 (0 : Int32) w32)
  have hJ31 : ∀ (x3_2 : Int32) (k3 : Int32) (w4 : ZW), zLR G l "LoveLocksLaw" cL_law zc zs (fun x : Int32 => x = 1) 31 [(0, .ref (z_b G)), (1, .ref (G.1 0)), (2, .ref (G.1 130)), (3, .int x3_2)] [.int k3] w4 (f_law_J31 xs len x3_2 k3 w4) := by
    intro x3_2 k3 w4
    rw [f_law_J31]
    refine q_istore 33 [(4, .int k3), (0, .ref (z_b G)), (1, .ref (G.1 0)), (2, .ref (G.1 130)), (3, .int x3_2)] dL_law_31 rfl (by decide) rfl ?_
    refine q_iconst 34 dL_law_33 rfl zci_1 ?_
    refine q_aload_n 35 dL_law_34 rfl 1 rfl rfl ?_
    refine q_iconst 36 dL_law_35 rfl zci_0 ?_
    refine q_callSi 39 2 [.ref (z_b G), .int (0 : Int32)] (st := [.int (1 : Int32)]) hzc hzs dL_law_36 rfl rfl (fun r h => c_L_cell G l 60 (by decide) w4 xs len (0 : Int32) hxs hlen r h) wc_L_cell wz_L wl_L_9 wst_L_cell zd_L_cell (by decide) (by decide) rfl (Nat.le_of_ble_eq_true rfl) (fun r5 => ?_)
    refine q_iconst 40 dL_law_39 rfl zci_4 ?_
    refine q_irem 41 dL_law_40 rfl (by decide) ?_
    refine q_iadd 42 dL_law_41 rfl ?_
    refine q_topi (fun y6 => ?_)
    refine q_istore 44 [(5, .int y6), (4, .int k3), (0, .ref (z_b G)), (1, .ref (G.1 0)), (2, .ref (G.1 130)), (3, .int x3_2)] dL_law_42 rfl (by decide) rfl ?_
    refine q_aload_n 45 dL_law_44 rfl 4 rfl rfl ?_
    refine q_iconst 46 dL_law_45 rfl zci_3 ?_
    refine q_iald 47 130 64 dL_law_46 rfl zl_130 (ce_130 G _) ?_
    refine q_topi (fun y7 => ?_)
    refine q_istore 49 [(6, .int y7), (5, .int y6), (4, .int k3), (0, .ref (z_b G)), (1, .ref (G.1 0)), (2, .ref (G.1 130)), (3, .int x3_2)] dL_law_47 rfl (by decide) rfl ?_
    refine q_aload_n 50 dL_law_49 rfl 5 rfl rfl ?_
    refine q_iconst 51 dL_law_50 rfl zci_4 ?_
    refine q_iald 52 130 64 dL_law_51 rfl zl_130 (ce_130 G _) ?_
    refine q_topi (fun y8 => ?_)
    refine q_istore 54 [(7, .int y8), (6, .int y7), (5, .int y6), (4, .int k3), (0, .ref (z_b G)), (1, .ref (G.1 0)), (2, .ref (G.1 130)), (3, .int x3_2)] dL_law_52 rfl (by decide) rfl ?_
    refine q_aload_n 55 dL_law_54 rfl 6 rfl rfl ?_
    refine q_iload_n 56 dL_law_55 rfl 7 rfl rfl ?_
    refine q_iconst 57 dL_law_56 rfl zci_0 ?_
    refine q_iload 59 dL_law_57 rfl 1 rfl ?_
    refine q_iload 61 dL_law_59 rfl 0 rfl ?_
    refine q_callSi 64 5 [.ref (G.1 130), .int x3_2, .int (0 : Int32), .int y7, .int y8] (st := []) hzc hzs dL_law_61 rfl rfl (fun r h => c_L_hung G l 60 (by decide) w4 130 64 x3_2 (0 : Int32) y7 y8 zl_130 (ce_130 G) r h) wc_L_hung wz_L wl_L_34 wst_L_hung zd_L_hung (by decide) (by decide) rfl (Nat.le_of_ble_eq_true rfl) (fun r9 => ?_)
    refine q_istore 66 [(8, .int r9), (7, .int y8), (6, .int y7), (5, .int y6), (4, .int k3), (0, .ref (z_b G)), (1, .ref (G.1 0)), (2, .ref (G.1 130)), (3, .int x3_2)] dL_law_64 rfl (by decide) rfl ?_
    refine q_iconst 67 dL_law_66 rfl zci_0 ?_
    refine q_istore 69 [(9, .int (0 : Int32)), (8, .int r9), (7, .int y8), (6, .int y7), (5, .int y6), (4, .int k3), (0, .ref (z_b G)), (1, .ref (G.1 0)), (2, .ref (G.1 130)), (3, .int x3_2)] dL_law_67 rfl (by decide) rfl ?_
    refine q_iconst 70 dL_law_69 rfl zci_0 ?_
    refine q_istore 72 [(10, .int (0 : Int32)), (9, .int (0 : Int32)), (8, .int r9), (7, .int y8), (6, .int y7), (5, .int y6), (4, .int k3), (0, .ref (z_b G)), (1, .ref (G.1 0)), (2, .ref (G.1 130)), (3, .int x3_2)] dL_law_70 rfl (by decide) rfl ?_
    refine q_loopE [7, 8, 9, 10, 6, 5, 4, 3, 2, 1, 0] (fun s10 => [(0, .ref (z_b G)), (1, .ref (G.1 0)), (2, .ref (G.1 130)), (3, .int x3_2), (4, .int k3), (5, .int y6), (6, .int y7), (7, .int y8), (8, .int r9), (9, .int s10.1), (10, .int s10.2)]) (fun s10 => w4) 139 (fun q11 => [(0, .ref (z_b G)), (1, .ref (G.1 0)), (2, .ref (G.1 130)), (3, .int x3_2), (4, .int k3), (5, .int y6), (6, .int y7), (7, .int y8), (9, .int q11)]) (fun q11 => w4) rfl rfl (fun s10 => ?_) (fun q11 => ?_)
    · rw [f_law_L72]
      refine q_iload 74 dL_law_72 rfl 10 rfl ?_
      refine q_iload_n 75 dL_law_74 rfl 3 rfl rfl ?_
      refine q_icmp_ge 139 78 dL_law_75 (by decide) rfl ?_ ?_
      · exact q_leaf [0, 1, 2, 3, 4, 5, 6, 7, 9] (lv2 := [(0, .ref (z_b G)), (1, .ref (G.1 0)), (2, .ref (G.1 130)), (3, .int x3_2), (4, .int k3), (5, .int y6), (6, .int y7), (7, .int y8), (9, .int s10.1)]) rfl (fun h => h)
      · refine q_iload 80 dL_law_78 rfl 9 rfl ?_
        refine q_iload 82 dL_law_80 rfl 8 rfl ?_
        refine q_iload 84 dL_law_82 rfl 10 rfl ?_
        refine q_ishr 85 dL_law_84 rfl ?_
        refine q_iconst 86 dL_law_85 rfl zci_1 ?_
        refine q_iand 87 dL_law_86 rfl ?_
        refine q_iconst 88 dL_law_87 rfl zci_1 ?_
        refine q_icmp_ne 129 91 dL_law_88 (by decide) rfl ?_ ?_
        · refine q_iconst 130 dL_law_129 rfl zci_0 ?_
          refine q_ior 131 dL_law_130 rfl ?_
          refine q_istore 133 [(9, .int (s10.1 ||| (0 : Int32))), (0, .ref (z_b G)), (1, .ref (G.1 0)), (2, .ref (G.1 130)), (3, .int x3_2), (4, .int k3), (5, .int y6), (6, .int y7), (7, .int y8), (8, .int r9), (10, .int s10.2)] dL_law_131 rfl (by decide) rfl ?_
          refine q_iinc 136 10 [(10, .int (s10.2 + (1 : Int32))), (9, .int (s10.1 ||| (0 : Int32))), (0, .ref (z_b G)), (1, .ref (G.1 0)), (2, .ref (G.1 130)), (3, .int x3_2), (4, .int k3), (5, .int y6), (6, .int y7), (7, .int y8), (8, .int r9)] dL_law_133 rfl rfl zci_1 (by decide) rfl ?_
          refine q_goto 72 dL_law_136 (by decide) ?_
          exact q_leaf [2, 3, 4, 5, 6, 7, 8, 9, 10, 1, 0] (lv2 := [(0, .ref (z_b G)), (1, .ref (G.1 0)), (2, .ref (G.1 130)), (3, .int x3_2), (4, .int k3), (5, .int y6), (6, .int y7), (7, .int y8), (8, .int r9), (9, .int (s10.1 ||| (0 : Int32))), (10, .int (s10.2 + (1 : Int32)))]) rfl (fun h => h)
        · refine q_aload_n 92 dL_law_91 rfl 2 rfl rfl ?_
          refine q_bipush 94 dL_law_92 rfl zcb_6 ?_
          refine q_iload 96 dL_law_94 rfl 10 rfl ?_
          refine q_imul 97 dL_law_96 rfl ?_
          refine q_iconst 98 dL_law_97 rfl zci_1 ?_
          refine q_iadd 99 dL_law_98 rfl ?_
          refine q_iald 100 130 64 dL_law_99 rfl zl_130 (ce_130 G _) ?_
          refine q_if_ne 129 103 dL_law_100 (by decide) rfl ?_ ?_
          · refine q_iconst 130 dL_law_129 rfl zci_0 ?_
            refine q_ior 131 dL_law_130 rfl ?_
            refine q_istore 133 [(9, .int (s10.1 ||| (0 : Int32))), (0, .ref (z_b G)), (1, .ref (G.1 0)), (2, .ref (G.1 130)), (3, .int x3_2), (4, .int k3), (5, .int y6), (6, .int y7), (7, .int y8), (8, .int r9), (10, .int s10.2)] dL_law_131 rfl (by decide) rfl ?_
            refine q_iinc 136 10 [(10, .int (s10.2 + (1 : Int32))), (9, .int (s10.1 ||| (0 : Int32))), (0, .ref (z_b G)), (1, .ref (G.1 0)), (2, .ref (G.1 130)), (3, .int x3_2), (4, .int k3), (5, .int y6), (6, .int y7), (7, .int y8), (8, .int r9)] dL_law_133 rfl rfl zci_1 (by decide) rfl ?_
            refine q_goto 72 dL_law_136 (by decide) ?_
            exact q_leaf [2, 3, 4, 5, 6, 7, 8, 9, 10, 1, 0] (lv2 := [(0, .ref (z_b G)), (1, .ref (G.1 0)), (2, .ref (G.1 130)), (3, .int x3_2), (4, .int k3), (5, .int y6), (6, .int y7), (7, .int y8), (8, .int r9), (9, .int (s10.1 ||| (0 : Int32))), (10, .int (s10.2 + (1 : Int32)))]) rfl (fun h => h)
          · refine q_aload_n 104 dL_law_103 rfl 0 rfl rfl ?_
            refine q_bipush 106 dL_law_104 rfl zcb_7 ?_
            refine q_callSi 109 2 [.ref (z_b G), .int (7 : Int32)] (st := [.int s10.1]) hzc hzs dL_law_106 rfl rfl (fun r h => c_L_cell G l 60 (by decide) w4 xs len (7 : Int32) hxs hlen r h) wc_L_cell wz_L wl_L_9 wst_L_cell zd_L_cell (by decide) (by decide) rfl (Nat.le_of_ble_eq_true rfl) (fun r12 => ?_)
            refine q_iload 111 dL_law_109 rfl 10 rfl ?_
            refine q_ishr 112 dL_law_111 rfl ?_
            refine q_iconst 113 dL_law_112 rfl zci_1 ?_
            refine q_iand 114 dL_law_113 rfl ?_
            refine q_iconst 115 dL_law_114 rfl zci_1 ?_
            refine q_icmp_ne 129 118 dL_law_115 (by decide) rfl ?_ ?_
            · refine q_iconst 130 dL_law_129 rfl zci_0 ?_
              refine q_ior 131 dL_law_130 rfl ?_
              refine q_istore 133 [(9, .int (s10.1 ||| (0 : Int32))), (0, .ref (z_b G)), (1, .ref (G.1 0)), (2, .ref (G.1 130)), (3, .int x3_2), (4, .int k3), (5, .int y6), (6, .int y7), (7, .int y8), (8, .int r9), (10, .int s10.2)] dL_law_131 rfl (by decide) rfl ?_
              refine q_iinc 136 10 [(10, .int (s10.2 + (1 : Int32))), (9, .int (s10.1 ||| (0 : Int32))), (0, .ref (z_b G)), (1, .ref (G.1 0)), (2, .ref (G.1 130)), (3, .int x3_2), (4, .int k3), (5, .int y6), (6, .int y7), (7, .int y8), (8, .int r9)] dL_law_133 rfl rfl zci_1 (by decide) rfl ?_
              refine q_goto 72 dL_law_136 (by decide) ?_
              exact q_leaf [2, 3, 4, 5, 6, 7, 8, 9, 10, 1, 0] (lv2 := [(0, .ref (z_b G)), (1, .ref (G.1 0)), (2, .ref (G.1 130)), (3, .int x3_2), (4, .int k3), (5, .int y6), (6, .int y7), (7, .int y8), (8, .int r9), (9, .int (s10.1 ||| (0 : Int32))), (10, .int (s10.2 + (1 : Int32)))]) rfl (fun h => h)
            · refine q_aload_n 119 dL_law_118 rfl 2 rfl rfl ?_
              refine q_iload_n 120 dL_law_119 rfl 3 rfl rfl ?_
              refine q_iconst 121 dL_law_120 rfl zci_0 ?_
              refine q_iload 123 dL_law_121 rfl 10 rfl ?_
              refine q_callSi 126 4 [.ref (G.1 130), .int x3_2, .int (0 : Int32), .int s10.2] (st := [.int s10.1]) hzc hzs dL_law_123 rfl rfl (fun r h => c_L_under G l 60 (by decide) w4 130 64 x3_2 (0 : Int32) s10.2 zl_130 (ce_130 G) r h) wc_L_under wz_L wl_L_38 wst_L_under zd_L_under (by decide) (by decide) rfl (Nat.le_of_ble_eq_true rfl) (fun r13 => ?_)
              refine q_goto 130 dL_law_126 (by decide) ?_
              refine q_ior 131 dL_law_130 rfl ?_
              refine q_istore 133 [(9, .int (s10.1 ||| r13)), (0, .ref (z_b G)), (1, .ref (G.1 0)), (2, .ref (G.1 130)), (3, .int x3_2), (4, .int k3), (5, .int y6), (6, .int y7), (7, .int y8), (8, .int r9), (10, .int s10.2)] dL_law_131 rfl (by decide) rfl ?_
              refine q_iinc 136 10 [(10, .int (s10.2 + (1 : Int32))), (9, .int (s10.1 ||| r13)), (0, .ref (z_b G)), (1, .ref (G.1 0)), (2, .ref (G.1 130)), (3, .int x3_2), (4, .int k3), (5, .int y6), (6, .int y7), (7, .int y8), (8, .int r9)] dL_law_133 rfl rfl zci_1 (by decide) rfl ?_
              refine q_goto 72 dL_law_136 (by decide) ?_
              exact q_leaf [2, 3, 4, 5, 6, 7, 8, 9, 10, 1, 0] (lv2 := [(0, .ref (z_b G)), (1, .ref (G.1 0)), (2, .ref (G.1 130)), (3, .int x3_2), (4, .int k3), (5, .int y6), (6, .int y7), (7, .int y8), (8, .int r9), (9, .int (s10.1 ||| r13)), (10, .int (s10.2 + (1 : Int32)))]) rfl (fun h => h)
    · refine q_aload_n 140 dL_law_139 rfl 1 rfl rfl ?_
      refine q_iload 142 dL_law_140 rfl 6 rfl ?_
      refine q_iload 144 dL_law_142 rfl 7 rfl ?_
      refine q_callVi 147 2 (ko := 0) [.int y7, .int y8] (st := []) hzc hzs dL_law_144 rfl rfl (fun r h => c_X11_load G l 60 (by decide) w4 y7 y8 r h) zl_0 (ce_0 G _) rfl rfl wc_X11_load wz_X11 wl_L_42 wi_X11_load ws_X11_load zd_X11_load (by decide) (by decide) rfl (Nat.le_of_ble_eq_true rfl) (fun r14 => ?_)
      refine q_istore 149 [(10, .int r14), (0, .ref (z_b G)), (1, .ref (G.1 0)), (2, .ref (G.1 130)), (3, .int x3_2), (4, .int k3), (5, .int y6), (6, .int y7), (7, .int y8), (9, .int q11)] dL_law_147 rfl (by decide) rfl ?_
      refine q_iload 151 dL_law_149 rfl 9 rfl ?_
      refine q_if_eq 231 154 dL_law_151 (by decide) rfl ?_ ?_
      · exact q_sub [1, 2, 3, 4, 5, 6] (lv2 := [(0, .ref (z_b G)), (1, .ref (G.1 0)), (2, .ref (G.1 130)), (3, .int x3_2), (4, .int k3), (5, .int y6)]) rfl (hJ231 x3_2 k3 y6 w4)
      · refine q_iload 156 dL_law_154 rfl 5 rfl ?_
        refine q_if_eq 231 159 dL_law_156 (by decide) rfl ?_ ?_
        · exact q_sub [1, 2, 3, 4, 5, 6] (lv2 := [(0, .ref (z_b G)), (1, .ref (G.1 0)), (2, .ref (G.1 130)), (3, .int x3_2), (4, .int k3), (5, .int y6)]) rfl (hJ231 x3_2 k3 y6 w4)
        · refine q_iload 161 dL_law_159 rfl 0 rfl ?_
          refine q_aload_n 162 dL_law_161 rfl 3 rfl rfl ?_
          refine q_iload_n 163 dL_law_162 rfl 4 rfl rfl ?_
          refine q_iload 165 dL_law_163 rfl 9 rfl ?_
          refine q_callSi 168 3 [.ref (G.1 130), .int x3_2, .int q11] (st := [.int r14]) hzc hzs dL_law_165 rfl rfl (fun r h => c_L_weigh G l 60 (by decide) w4 130 64 x3_2 q11 zl_130 (ce_130 G) r h) wc_L_weigh wz_L wl_L_46 wst_L_weigh zd_L_weigh (by decide) (by decide) rfl (Nat.le_of_ble_eq_true rfl) (fun r28 => ?_)
          refine q_isub 169 dL_law_168 rfl ?_
          refine q_istore 171 [(11, .int (r14 - r28)), (10, .int r14), (0, .ref (z_b G)), (1, .ref (G.1 0)), (2, .ref (G.1 130)), (3, .int x3_2), (4, .int k3), (5, .int y6), (6, .int y7), (7, .int y8), (9, .int q11)] dL_law_169 rfl (by decide) rfl ?_
          refine q_aload_n 172 dL_law_171 rfl 3 rfl rfl ?_
          refine q_iload 174 dL_law_172 rfl 8 rfl ?_
          refine q_iload 176 dL_law_174 rfl 9 rfl ?_
          refine q_iload 178 dL_law_176 rfl 0 rfl ?_
          refine q_iconst 179 dL_law_178 rfl zci_0 ?_
          refine q_callViw 182 4 (ko := 0) [.int y7, .int y8, .int (r14 - r28), .int (0 : Int32)] (st := []) hzc hzs dL_law_179 rfl rfl (fun r h => c_X11_stolen G l 60 (by decide) w4 y7 y8 (r14 - r28) (0 : Int32) r h) zl_0 (ce_0 G _) rfl rfl wc_X11_stolen wz_X11 wl_L_50 wi_X11_stolen ws_X11_stolen zd_X11_stolen (by decide) (by decide) rfl (Nat.le_of_ble_eq_true rfl) (fun r29 => ?_)
          refine q_iconst 183 dL_law_182 rfl zci_1 ?_
          refine q_icmp_lt 228 186 dL_law_183 (by decide) rfl ?_ ?_
          · exact q_sub [2, 3, 4, 5, 7] (lv2 := [(0, .ref (z_b G)), (1, .ref (G.1 0)), (2, .ref (G.1 130)), (3, .int x3_2), (5, .int y6)]) rfl (hJ228 x3_2 y6 r29.2)
          · refine q_iload 188 dL_law_186 rfl 10 rfl ?_
            refine q_aload_n 189 dL_law_188 rfl 3 rfl rfl ?_
            refine q_iload 191 dL_law_189 rfl 8 rfl ?_
            refine q_iload 193 dL_law_191 rfl 9 rfl ?_
            refine q_iload 195 dL_law_193 rfl 0 rfl ?_
            refine q_iconst 196 dL_law_195 rfl zci_2 ?_
            refine q_callViw 199 4 (ko := 0) [.int y7, .int y8, .int (r14 - r28), .int (2 : Int32)] (st := [.int q11]) hzc hzs dL_law_196 rfl rfl (fun r h => c_X11_stolen G l 60 (by decide) r29.2 y7 y8 (r14 - r28) (2 : Int32) r h) zl_0 (ce_0 G _) rfl rfl wc_X11_stolen wz_X11 wl_L_50 wi_X11_stolen ws_X11_stolen zd_X11_stolen (by decide) (by decide) rfl (Nat.le_of_ble_eq_true rfl) (fun r37 => ?_)
            refine q_iconst 200 dL_law_199 rfl zci_m1 ?_
            refine q_ixor 201 dL_law_200 rfl ?_
            refine q_iand 202 dL_law_201 rfl ?_
            refine q_if_ne 228 205 dL_law_202 (by decide) rfl ?_ ?_
            · exact q_sub [2, 3, 4, 5, 7] (lv2 := [(0, .ref (z_b G)), (1, .ref (G.1 0)), (2, .ref (G.1 130)), (3, .int x3_2), (5, .int y6)]) rfl (hJ228 x3_2 y6 r37.2)
            · refine q_aload_n 206 dL_law_205 rfl 3 rfl rfl ?_
              refine q_iload 208 dL_law_206 rfl 8 rfl ?_
              refine q_iload 210 dL_law_208 rfl 9 rfl ?_
              refine q_iload 212 dL_law_210 rfl 0 rfl ?_
              refine q_iconst 213 dL_law_212 rfl zci_1 ?_
              refine q_callViw 216 4 (ko := 0) [.int y7, .int y8, .int (r14 - r28), .int (1 : Int32)] (st := []) hzc hzs dL_law_213 rfl rfl (fun r h => c_X11_stolen G l 60 (by decide) r37.2 y7 y8 (r14 - r28) (1 : Int32) r h) zl_0 (ce_0 G _) rfl rfl wc_X11_stolen wz_X11 wl_L_50 wi_X11_stolen ws_X11_stolen zd_X11_stolen (by decide) (by decide) rfl (Nat.le_of_ble_eq_true rfl) (fun r38 => ?_)
              refine q_iload 218 dL_law_216 rfl 10 rfl ?_
              refine q_iconst 219 dL_law_218 rfl zci_m1 ?_
              refine q_ixor 220 dL_law_219 rfl ?_
              refine q_iand 221 dL_law_220 rfl ?_
              refine q_if_ne 228 224 dL_law_221 (by decide) rfl ?_ ?_
              · exact q_sub [2, 3, 4, 5, 7] (lv2 := [(0, .ref (z_b G)), (1, .ref (G.1 0)), (2, .ref (G.1 130)), (3, .int x3_2), (5, .int y6)]) rfl (hJ228 x3_2 y6 r38.2)
              · refine q_iconst 225 dL_law_224 rfl zci_1 ?_
                refine q_goto 229 dL_law_225 (by decide) ?_
                exact q_sub [2, 3, 4, 5, 7] (lv2 := [(0, .ref (z_b G)), (1, .ref (G.1 0)), (2, .ref (G.1 130)), (3, .int x3_2), (5, .int y6)]) rfl (hJ229 x3_2 y6 (1 : Int32) r38.2)
  refine q_aload_n 14 dL_law_13 rfl 1 rfl rfl ?_
  refine q_aload_n 15 dL_law_14 rfl 2 rfl rfl ?_
  refine q_bipush 17 dL_law_15 rfl zcb_9 ?_
  refine q_aload_n 18 dL_law_17 rfl 0 rfl rfl ?_
  refine q_callSiw 21 4 [.ref (G.1 0), .ref (z_b G), .int (9 : Int32), .ref (G.1 130)] (st := []) hzc hzs dL_law_18 rfl rfl (fun r h => c_L_lays G l 60 (by decide) w xs len (9 : Int32) 130 64 hxs hlen zl_130 (ce_130 G) r h) wc_L_lays wz_L wl_L_30 wst_L_lays zd_L_lays (by decide) (by decide) rfl (Nat.le_of_ble_eq_true rfl) (fun r1 => ?_)
  refine q_istore_n 22 [(3, .int r1.1), (2, .ref (G.1 130)), (1, .ref (G.1 0)), (0, .ref (z_b G))] dL_law_21 rfl rfl (by decide) rfl ?_
  refine q_iload_n 23 dL_law_22 rfl 0 rfl rfl ?_
  refine q_if_le 30 26 dL_law_23 (by decide) rfl ?_ ?_
  · refine q_iconst 31 dL_law_30 rfl zci_0 ?_
    exact q_sub [3, 2, 1, 0] (lv2 := [(0, .ref (z_b G)), (1, .ref (G.1 0)), (2, .ref (G.1 130)), (3, .int r1.1)]) rfl (hJ31 r1.1 (0 : Int32) r1.2)
  · refine q_iconst 27 dL_law_26 rfl zci_1 ?_
    refine q_goto 31 dL_law_27 (by decide) ?_
    exact q_sub [3, 2, 1, 0] (lv2 := [(0, .ref (z_b G)), (1, .ref (G.1 0)), (2, .ref (G.1 130)), (3, .int r1.1)]) rfl (hJ31 r1.1 (1 : Int32) r1.2)
