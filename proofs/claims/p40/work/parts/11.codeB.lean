-- X2_readingsOf
def f_X2_readingsOf_L33 (w : ZW) (r1 : Int32) (r2 : Int32) (s3 : Int32 × Int32) (s5 : Int32 × Int32) : Option ((Int32 × Int32) ⊕ (Int32)) :=
  if (w.1 16 0) ≤ s5.2 then
  some (.inr s5.1)
else
  (f_X2_canBe r1 r2 s3.2 s5.2).bind fun r7 : Int32 =>
    if r7 = 0 then
    some (.inl (s5.1, s5.2 + (1 : Int32)))
  else
    some (.inl (s5.1 + (1 : Int32), s5.2 + (1 : Int32)))
def f_X2_readingsOf_L18 (w : ZW) (r1 : Int32) (r2 : Int32) (s3 : Int32 × Int32) : Option ((Int32 × Int32) ⊕ (Int32)) :=
  if (w.1 16 0) ≤ s3.2 then
  some (.inr s3.1)
else
  (z_iter (f_X2_readingsOf_L33 w r1 r2 s3) z_fuel (s3.1, s3.2 + (1 : Int32))).bind (fun q6 : Int32 =>
    some (.inl (q6, s3.2 + (1 : Int32))))
def f_X2_readingsOf (w : ZW) (a1 : Int32) : Option (Int32) :=
  (f_X2_peopleOfFirst w a1).bind fun r1 : Int32 =>
  (f_X2_peopleOfSecond w a1).bind fun r2 : Int32 =>
  (z_iter (f_X2_readingsOf_L18 w r1 r2) z_fuel ((0 : Int32), (0 : Int32))).bind (fun q4 : Int32 =>
  some q4)
set_option maxHeartbeats 4000000 in
set_option maxRecDepth 100000 in
theorem c_X2_readingsOf (G : ZG) (l : Launch) (d : Nat) (hd : 4 ≤ d) (w : ZW) (a1 : Int32) : ∀ o, f_X2_readingsOf w a1 = some o → zM G l d yX2_readingsOf cX2_readingsOf 7 (some .int) [.ref (G.1 16), .int a1] w (some (.int o)) w := by
  intro o ho
  refine zM.of [(0, .ref (G.1 16)), (1, .int a1)] (by decide) (Nat.le_of_ble_eq_true rfl) rfl ?_
  refine (?_ : zR G l d "LoveLocks$Names" cX2_readingsOf 7 (some .int) (some (.int o)) w (fun x => x = o) 0 [(0, .ref (G.1 16)), (1, .int a1)] [] w (f_X2_readingsOf w a1)) o ho rfl
  rw [f_X2_readingsOf]
  refine r_aload_n 1 dX2_readingsOf_0 rfl 0 rfl rfl ?_
  refine r_iload_n 2 dX2_readingsOf_1 rfl 1 rfl rfl ?_
  refine r_callVi 5 1 (ko := 16) [.int a1] (st := []) dX2_readingsOf_2 rfl rfl (fun r h => c_X2_peopleOfFirst G l (d - 1) (by omega) w a1 r h) zl_16 (ce_16 G _) rfl rfl wc_X2_peopleOfFirst wz_X2 wl_X2_52 wi_X2_peopleOfFirst ws_X2_peopleOfFirst zd_X2_peopleOfFirst (by decide) (by omega) rfl (Nat.le_of_ble_eq_true rfl) (fun r1 => ?_)
  refine r_istore_n 6 [(2, .int r1), (0, .ref (G.1 16)), (1, .int a1)] dX2_readingsOf_5 rfl rfl (by decide) rfl ?_
  refine r_aload_n 7 dX2_readingsOf_6 rfl 1 rfl rfl ?_
  refine r_iload_n 8 dX2_readingsOf_7 rfl 2 rfl rfl ?_
  refine r_callVi 11 1 (ko := 16) [.int a1] (st := []) dX2_readingsOf_8 rfl rfl (fun r h => c_X2_peopleOfSecond G l (d - 1) (by omega) w a1 r h) zl_16 (ce_16 G _) rfl rfl wc_X2_peopleOfSecond wz_X2 wl_X2_55 wi_X2_peopleOfSecond ws_X2_peopleOfSecond zd_X2_peopleOfSecond (by decide) (by omega) rfl (Nat.le_of_ble_eq_true rfl) (fun r2 => ?_)
  refine r_istore_n 12 [(3, .int r2), (2, .int r1), (0, .ref (G.1 16)), (1, .int a1)] dX2_readingsOf_11 rfl rfl (by decide) rfl ?_
  refine r_iconst 13 dX2_readingsOf_12 rfl zci_0 ?_
  refine r_istore 15 [(4, .int (0 : Int32)), (3, .int r2), (2, .int r1), (0, .ref (G.1 16)), (1, .int a1)] dX2_readingsOf_13 rfl (by decide) rfl ?_
  refine r_iconst 16 dX2_readingsOf_15 rfl zci_0 ?_
  refine r_istore 18 [(5, .int (0 : Int32)), (4, .int (0 : Int32)), (3, .int r2), (2, .int r1), (0, .ref (G.1 16)), (1, .int a1)] dX2_readingsOf_16 rfl (by decide) rfl ?_
  refine r_loopE [4, 3, 2, 1, 0] (fun s3 => [(0, .ref (G.1 16)), (2, .int r1), (3, .int r2), (4, .int s3.1), (5, .int s3.2)]) (fun s3 => w) 69 (fun q4 => [(4, .int q4)]) (fun q4 => w) rfl rfl (fun s3 => ?_) (fun q4 => ?_)
  · rw [f_X2_readingsOf_L18]
    refine r_iload 20 dX2_readingsOf_18 rfl 4 rfl ?_
    refine r_aload_n 21 dX2_readingsOf_20 rfl 0 rfl rfl ?_
    refine r_get 24 16 0 dX2_readingsOf_21 rfl zl_16 (ce_16 G _) rfl inz2 (by decide) wf_X2_21 rfl ?_
    refine r_icmp_ge 69 27 dX2_readingsOf_24 (by decide) rfl ?_ ?_
    · exact r_leaf [3] (lv2 := [(4, .int s3.1)]) rfl (fun h => h)
    · refine r_iload 29 dX2_readingsOf_27 rfl 4 rfl ?_
      refine r_iconst 30 dX2_readingsOf_29 rfl zci_1 ?_
      refine r_iadd 31 dX2_readingsOf_30 rfl ?_
      refine r_istore 33 [(6, .int (s3.2 + (1 : Int32))), (0, .ref (G.1 16)), (2, .int r1), (3, .int r2), (4, .int s3.1), (5, .int s3.2)] dX2_readingsOf_31 rfl (by decide) rfl ?_
      refine r_loopE [1, 2, 3, 4, 5, 0] (fun s5 => [(0, .ref (G.1 16)), (2, .int r1), (3, .int r2), (4, .int s5.1), (5, .int s3.2), (6, .int s5.2)]) (fun s5 => w) 63 (fun q6 => [(0, .ref (G.1 16)), (2, .int r1), (3, .int r2), (4, .int q6), (5, .int s3.2)]) (fun q6 => w) rfl rfl (fun s5 => ?_) (fun q6 => ?_)
      · rw [f_X2_readingsOf_L33]
        refine r_iload 35 dX2_readingsOf_33 rfl 5 rfl ?_
        refine r_aload_n 36 dX2_readingsOf_35 rfl 0 rfl rfl ?_
        refine r_get 39 16 0 dX2_readingsOf_36 rfl zl_16 (ce_16 G _) rfl inz2 (by decide) wf_X2_21 rfl ?_
        refine r_icmp_ge 63 42 dX2_readingsOf_39 (by decide) rfl ?_ ?_
        · exact r_leaf [0, 1, 2, 3, 4] (lv2 := [(0, .ref (G.1 16)), (2, .int r1), (3, .int r2), (4, .int s5.1), (5, .int s3.2)]) rfl (fun h => h)
        · refine r_iload_n 43 dX2_readingsOf_42 rfl 1 rfl rfl ?_
          refine r_iload_n 44 dX2_readingsOf_43 rfl 2 rfl rfl ?_
          refine r_iload 46 dX2_readingsOf_44 rfl 4 rfl ?_
          refine r_iload 48 dX2_readingsOf_46 rfl 5 rfl ?_
          refine r_callSi 51 4 [.int r1, .int r2, .int s3.2, .int s5.2] (st := []) dX2_readingsOf_48 rfl rfl (fun r h => c_X2_canBe G l (d - 1) (by omega) w r1 r2 s3.2 s5.2 r h) wc_X2_canBe wz_X2 wl_X2_58 wst_X2_canBe zd_X2_canBe (by decide) (by omega) rfl (Nat.le_of_ble_eq_true rfl) (fun r7 => ?_)
          refine r_if_eq 57 54 dX2_readingsOf_51 (by decide) rfl ?_ ?_
          · refine r_iinc 60 5 [(6, .int (s5.2 + (1 : Int32))), (0, .ref (G.1 16)), (2, .int r1), (3, .int r2), (4, .int s5.1), (5, .int s3.2)] dX2_readingsOf_57 rfl rfl zci_1 (by decide) rfl ?_
            refine r_goto 33 dX2_readingsOf_60 (by decide) ?_
            exact r_leaf [1, 2, 3, 4, 5, 0] (lv2 := [(0, .ref (G.1 16)), (2, .int r1), (3, .int r2), (4, .int s5.1), (5, .int s3.2), (6, .int (s5.2 + (1 : Int32)))]) rfl (fun h => h)
          · refine r_iinc 57 3 [(4, .int (s5.1 + (1 : Int32))), (0, .ref (G.1 16)), (2, .int r1), (3, .int r2), (5, .int s3.2), (6, .int s5.2)] dX2_readingsOf_54 rfl rfl zci_1 (by decide) rfl ?_
            refine r_iinc 60 5 [(6, .int (s5.2 + (1 : Int32))), (4, .int (s5.1 + (1 : Int32))), (0, .ref (G.1 16)), (2, .int r1), (3, .int r2), (5, .int s3.2)] dX2_readingsOf_57 rfl rfl zci_1 (by decide) rfl ?_
            refine r_goto 33 dX2_readingsOf_60 (by decide) ?_
            exact r_leaf [2, 3, 4, 1, 5, 0] (lv2 := [(0, .ref (G.1 16)), (2, .int r1), (3, .int r2), (4, .int (s5.1 + (1 : Int32))), (5, .int s3.2), (6, .int (s5.2 + (1 : Int32)))]) rfl (fun h => h)
      · refine r_iinc 66 4 [(5, .int (s3.2 + (1 : Int32))), (0, .ref (G.1 16)), (2, .int r1), (3, .int r2), (4, .int q6)] dX2_readingsOf_63 rfl rfl zci_1 (by decide) rfl ?_
        refine r_goto 18 dX2_readingsOf_66 (by decide) ?_
        exact r_leaf [1, 2, 3, 4, 0] (lv2 := [(0, .ref (G.1 16)), (2, .int r1), (3, .int r2), (4, .int q6), (5, .int (s3.2 + (1 : Int32)))]) rfl (fun h => h)
  · refine r_iload 71 dX2_readingsOf_69 rfl 0 rfl ?_
    exact r_iret dX2_readingsOf_71 rfl z_ki
-- X11_readings
def f_X11_readings (w : ZW) (a1 : Int32) : Option (Int32) :=
  (f_X4_hasLock w a1).bind fun r1 : Int32 =>
  if r1 = 0 then
  some (-1 : Int32)
else
  (f_X2_hasLetters w a1).bind fun r2 : Int32 =>
    if r2 = 0 then
    some (-2 : Int32)
  else
    (f_X2_readingsOf w a1).bind fun r3 : Int32 =>
      some r3
set_option maxHeartbeats 4000000 in
set_option maxRecDepth 100000 in
theorem c_X11_readings (G : ZG) (l : Launch) (d : Nat) (hd : 5 ≤ d) (w : ZW) (a1 : Int32) : ∀ o, f_X11_readings w a1 = some o → zM G l d yX11_readings cX11_readings 2 (some .int) [.ref (G.1 0), .int a1] w (some (.int o)) w := by
  intro o ho
  refine zM.of [(0, .ref (G.1 0)), (1, .int a1)] (by decide) (Nat.le_of_ble_eq_true rfl) rfl ?_
  refine (?_ : zR G l d "LoveLocks" cX11_readings 2 (some .int) (some (.int o)) w (fun x => x = o) 0 [(0, .ref (G.1 0)), (1, .int a1)] [] w (f_X11_readings w a1)) o ho rfl
  rw [f_X11_readings]
  refine r_aload_n 1 dX11_readings_0 rfl 0 rfl rfl ?_
  refine r_get 4 0 0 dX11_readings_1 rfl zl_0 (ce_0 G _) rfl inz11 (by decide) wf_X11_10 rfl ?_
  refine r_get 7 1 0 dX11_readings_4 rfl zl_1 (ce_1 G _) rfl inz9 (by decide) wf_X11_59 rfl ?_
  refine r_iload_n 8 dX11_readings_7 rfl 1 rfl rfl ?_
  refine r_callVi 11 1 (ko := 2) [.int a1] (st := []) dX11_readings_8 rfl rfl (fun r h => c_X4_hasLock G l (d - 1) (by omega) w a1 r h) zl_2 (ce_2 G _) rfl rfl wc_X4_hasLock wz_X4 wl_X11_84 wi_X4_hasLock ws_X4_hasLock zd_X4_hasLock (by decide) (by omega) rfl (Nat.le_of_ble_eq_true rfl) (fun r1 => ?_)
  refine r_if_ne 16 14 dX11_readings_11 (by decide) rfl ?_ ?_
  · refine r_aload_n 17 dX11_readings_16 rfl 0 rfl rfl ?_
    refine r_get 20 0 0 dX11_readings_17 rfl zl_0 (ce_0 G _) rfl inz11 (by decide) wf_X11_10 rfl ?_
    refine r_get 23 1 2 dX11_readings_20 rfl zl_1 (ce_1 G _) rfl inz9 (by decide) wf_X11_141 rfl ?_
    refine r_iload_n 24 dX11_readings_23 rfl 1 rfl rfl ?_
    refine r_callVi 27 1 (ko := 16) [.int a1] (st := []) dX11_readings_24 rfl rfl (fun r h => c_X2_hasLetters G l (d - 1) (by omega) w a1 r h) zl_16 (ce_16 G _) rfl rfl wc_X2_hasLetters wz_X2 wl_X11_201 wi_X2_hasLetters ws_X2_hasLetters zd_X2_hasLetters (by decide) (by omega) rfl (Nat.le_of_ble_eq_true rfl) (fun r2 => ?_)
    refine r_if_eq 44 30 dX11_readings_27 (by decide) rfl ?_ ?_
    · refine r_bipush 46 dX11_readings_44 rfl zcb_m2 ?_
      exact r_iret dX11_readings_46 rfl z_ki
    · refine r_aload_n 31 dX11_readings_30 rfl 0 rfl rfl ?_
      refine r_get 34 0 0 dX11_readings_31 rfl zl_0 (ce_0 G _) rfl inz11 (by decide) wf_X11_10 rfl ?_
      refine r_get 37 1 2 dX11_readings_34 rfl zl_1 (ce_1 G _) rfl inz9 (by decide) wf_X11_141 rfl ?_
      refine r_iload_n 38 dX11_readings_37 rfl 1 rfl rfl ?_
      refine r_callVi 41 1 (ko := 16) [.int a1] (st := []) dX11_readings_38 rfl rfl (fun r h => c_X2_readingsOf G l (d - 1) (by omega) w a1 r h) zl_16 (ce_16 G _) rfl rfl wc_X2_readingsOf wz_X2 wl_X11_204 wi_X2_readingsOf ws_X2_readingsOf zd_X2_readingsOf (by decide) (by omega) rfl (Nat.le_of_ble_eq_true rfl) (fun r3 => ?_)
      refine r_goto 46 dX11_readings_41 (by decide) ?_
      exact r_iret dX11_readings_46 rfl z_ki
  · refine r_iconst 15 dX11_readings_14 rfl zci_m1 ?_
    exact r_iret dX11_readings_15 rfl z_ki
-- X5_locksOfYear
def f_X5_locksOfYear_L4 (w : ZW) (a1 : Int32) (s1 : Int32 × Int32) : Option ((Int32 × Int32) ⊕ (Int32)) :=
  if (w.1 2 4) ≤ s1.2 then
  some (.inr s1.1)
else
  if (14 : Int32) ≤ s1.2 then
    some (.inr s1.1)
  else
    if z_in s1.2 14 then
      if (w.1 8 s1.2.toNatClampNeg) = a1 then
      z_let (s1.1 ||| ((1 : Int32) <<< (s1.2 &&& 31))) fun y3 =>
        some (.inl (y3, s1.2 + (1 : Int32)))
    else
      some (.inl (s1.1, s1.2 + (1 : Int32)))
    else none
def f_X5_locksOfYear (w : ZW) (a1 : Int32) : Option (Int32) :=
  (z_iter (f_X5_locksOfYear_L4 w a1) z_fuel ((0 : Int32), (0 : Int32))).bind (fun q2 : Int32 =>
  some q2)
set_option maxHeartbeats 4000000 in
set_option maxRecDepth 100000 in
theorem c_X5_locksOfYear (G : ZG) (l : Launch) (d : Nat) (hd : 1 ≤ d) (w : ZW) (a1 : Int32) : ∀ o, f_X5_locksOfYear w a1 = some o → zM G l d yX5_locksOfYear cX5_locksOfYear 4 (some .int) [.ref (G.1 2), .int a1] w (some (.int o)) w := by
  intro o ho
  refine zM.of [(0, .ref (G.1 2)), (1, .int a1)] (by decide) (Nat.le_of_ble_eq_true rfl) rfl ?_
  refine (?_ : zR G l d "LoveLocks$Reader" cX5_locksOfYear 4 (some .int) (some (.int o)) w (fun x => x = o) 0 [(0, .ref (G.1 2)), (1, .int a1)] [] w (f_X5_locksOfYear w a1)) o ho rfl
  rw [f_X5_locksOfYear]
  refine r_iconst 1 dX5_locksOfYear_0 rfl zci_0 ?_
  refine r_istore_n 2 [(2, .int (0 : Int32)), (0, .ref (G.1 2)), (1, .int a1)] dX5_locksOfYear_1 rfl rfl (by decide) rfl ?_
  refine r_iconst 3 dX5_locksOfYear_2 rfl zci_0 ?_
  refine r_istore_n 4 [(3, .int (0 : Int32)), (2, .int (0 : Int32)), (0, .ref (G.1 2)), (1, .int a1)] dX5_locksOfYear_3 rfl rfl (by decide) rfl ?_
  refine r_loopE [2, 3, 1, 0] (fun s1 => [(0, .ref (G.1 2)), (1, .int a1), (2, .int s1.1), (3, .int s1.2)]) (fun s1 => w) 40 (fun q2 => [(2, .int q2)]) (fun q2 => w) rfl rfl (fun s1 => ?_) (fun q2 => ?_)
  · rw [f_X5_locksOfYear_L4]
    refine r_iload_n 5 dX5_locksOfYear_4 rfl 3 rfl rfl ?_
    refine r_aload_n 6 dX5_locksOfYear_5 rfl 0 rfl rfl ?_
    refine r_get 9 2 4 dX5_locksOfYear_6 rfl zl_2 (ce_2 G _) rfl inz4 (by decide) wf_X5_57 rfl ?_
    refine r_icmp_ge 40 12 dX5_locksOfYear_9 (by decide) rfl ?_ ?_
    · exact r_leaf [2] (lv2 := [(2, .int s1.1)]) rfl (fun h => h)
    · refine r_iload_n 13 dX5_locksOfYear_12 rfl 3 rfl rfl ?_
      refine r_bipush 15 dX5_locksOfYear_13 rfl zcb_14 ?_
      refine r_icmp_ge 40 18 dX5_locksOfYear_15 (by decide) rfl ?_ ?_
      · exact r_leaf [2] (lv2 := [(2, .int s1.1)]) rfl (fun h => h)
      · refine r_aload_n 19 dX5_locksOfYear_18 rfl 0 rfl rfl ?_
        refine r_get 22 2 8 dX5_locksOfYear_19 rfl zl_2 (ce_2 G _) rfl inz4 (by decide) wf_X5_62 rfl ?_
        refine r_iload_n 23 dX5_locksOfYear_22 rfl 3 rfl rfl ?_
        refine r_iald 24 8 14 dX5_locksOfYear_23 rfl zl_8 (ce_8 G _) ?_
        refine r_iload_n 25 dX5_locksOfYear_24 rfl 1 rfl rfl ?_
        refine r_icmp_ne 34 28 dX5_locksOfYear_25 (by decide) rfl ?_ ?_
        · refine r_iinc 37 3 [(3, .int (s1.2 + (1 : Int32))), (0, .ref (G.1 2)), (1, .int a1), (2, .int s1.1)] dX5_locksOfYear_34 rfl rfl zci_1 (by decide) rfl ?_
          refine r_goto 4 dX5_locksOfYear_37 (by decide) ?_
          exact r_leaf [1, 2, 3, 0] (lv2 := [(0, .ref (G.1 2)), (1, .int a1), (2, .int s1.1), (3, .int (s1.2 + (1 : Int32)))]) rfl (fun h => h)
        · refine r_iload_n 29 dX5_locksOfYear_28 rfl 2 rfl rfl ?_
          refine r_iconst 30 dX5_locksOfYear_29 rfl zci_1 ?_
          refine r_iload_n 31 dX5_locksOfYear_30 rfl 3 rfl rfl ?_
          refine r_ishl 32 dX5_locksOfYear_31 rfl ?_
          refine r_ior 33 dX5_locksOfYear_32 rfl ?_
          refine r_topi (fun y3 => ?_)
          refine r_istore_n 34 [(2, .int y3), (0, .ref (G.1 2)), (1, .int a1), (3, .int s1.2)] dX5_locksOfYear_33 rfl rfl (by decide) rfl ?_
          refine r_iinc 37 3 [(3, .int (s1.2 + (1 : Int32))), (2, .int y3), (0, .ref (G.1 2)), (1, .int a1)] dX5_locksOfYear_34 rfl rfl zci_1 (by decide) rfl ?_
          refine r_goto 4 dX5_locksOfYear_37 (by decide) ?_
          exact r_leaf [2, 3, 1, 0] (lv2 := [(0, .ref (G.1 2)), (1, .int a1), (2, .int y3), (3, .int (s1.2 + (1 : Int32)))]) rfl (fun h => h)
  · refine r_iload_n 41 dX5_locksOfYear_40 rfl 0 rfl rfl ?_
    exact r_iret dX5_locksOfYear_41 rfl z_ki
-- J6_numberOfTrailingZeros_0f7a4
def f_J6_numberOfTrailingZeros_0f7a4_J62 (x0_6 : Int32) (x1_7 : Int32) : Option (Int32) :=
  if x0_6 ≤ (4 : Int32) then
  some (x1_7 + ((x0_6.toUInt32 >>> ((1 : Int32).toUInt32 &&& Int32.toUInt32 31)).toInt32))
else
  z_let ((x0_6.toUInt32 >>> ((2 : Int32).toUInt32 &&& Int32.toUInt32 31)).toInt32) fun y8 =>
    some ((x1_7 + (2 : Int32)) + ((y8.toUInt32 >>> ((1 : Int32).toUInt32 &&& Int32.toUInt32 31)).toInt32))
def f_J6_numberOfTrailingZeros_0f7a4_J49 (x0_4 : Int32) (x1_5 : Int32) : Option (Int32) :=
  if x0_4 ≤ (16 : Int32) then
  f_J6_numberOfTrailingZeros_0f7a4_J62 x0_4 x1_5
else
  z_let ((x0_4.toUInt32 >>> ((4 : Int32).toUInt32 &&& Int32.toUInt32 31)).toInt32) fun y9 =>
    f_J6_numberOfTrailingZeros_0f7a4_J62 y9 (x1_5 + (4 : Int32))
def f_J6_numberOfTrailingZeros_0f7a4_J34 (x0_2 : Int32) (x1_3 : Int32) : Option (Int32) :=
  if x0_2 ≤ (256 : Int32) then
  f_J6_numberOfTrailingZeros_0f7a4_J49 x0_2 x1_3
else
  z_let ((x0_2.toUInt32 >>> ((8 : Int32).toUInt32 &&& Int32.toUInt32 31)).toInt32) fun y10 =>
    f_J6_numberOfTrailingZeros_0f7a4_J49 y10 (x1_3 + (8 : Int32))
def f_J6_numberOfTrailingZeros_0f7a4 (a0 : Int32) : Option (Int32) :=
  z_let ((a0 ^^^ (-1 : Int32)) &&& (a0 - (1 : Int32))) fun y1 =>
  if 0 < y1 then
  if y1 ≤ (65536 : Int32) then
    f_J6_numberOfTrailingZeros_0f7a4_J34 y1 (1 : Int32)
  else
    z_let ((y1.toUInt32 >>> ((16 : Int32).toUInt32 &&& Int32.toUInt32 31)).toInt32) fun y11 =>
      f_J6_numberOfTrailingZeros_0f7a4_J34 y11 ((1 : Int32) + (16 : Int32))
else
  some (y1 &&& (32 : Int32))
set_option maxHeartbeats 4000000 in
set_option maxRecDepth 100000 in
theorem c_J6_numberOfTrailingZeros_0f7a4 (G : ZG) (l : Launch) (d : Nat) (hd : 1 ≤ d) (w0 : ZW) (a0 : Int32) : ∀ o, f_J6_numberOfTrailingZeros_0f7a4 a0 = some o → zM G l d yJ6_numberOfTrailingZeros_0f7a4 cJ6_numberOfTrailingZeros_0f7a4 2 (some .int) [.int a0] w0 (some (.int o)) w0 := by
  intro o ho
  refine zM.of [(0, .int a0)] (by decide) (Nat.le_of_ble_eq_true rfl) rfl ?_
  refine (?_ : zR G l d "java/lang/Integer" cJ6_numberOfTrailingZeros_0f7a4 2 (some .int) (some (.int o)) w0 (fun x => x = o) 0 [(0, .int a0)] [] w0 (f_J6_numberOfTrailingZeros_0f7a4 a0)) o ho rfl
  rw [f_J6_numberOfTrailingZeros_0f7a4]
  have hJ62 : ∀ (x0_6 : Int32) (x1_7 : Int32), zR G l d "java/lang/Integer" cJ6_numberOfTrailingZeros_0f7a4 2 (some .int) (some (.int o)) w0 (fun x => x = o) 62 [(0, .int x0_6), (1, .int x1_7)] [] w0 (f_J6_numberOfTrailingZeros_0f7a4_J62 x0_6 x1_7) := by
    intro x0_6 x1_7
    rw [f_J6_numberOfTrailingZeros_0f7a4_J62]
    refine r_iload_n 63 dJ6_numberOfTrailingZeros_0f7a4_62 rfl 0 rfl rfl ?_
    refine r_iconst 64 dJ6_numberOfTrailingZeros_0f7a4_63 rfl zci_4 ?_
    refine r_icmp_le 74 67 dJ6_numberOfTrailingZeros_0f7a4_64 (by decide) rfl ?_ ?_
    · refine r_iload_n 75 dJ6_numberOfTrailingZeros_0f7a4_74 rfl 1 rfl rfl ?_
      refine r_iload_n 76 dJ6_numberOfTrailingZeros_0f7a4_75 rfl 0 rfl rfl ?_
      refine r_iconst 77 dJ6_numberOfTrailingZeros_0f7a4_76 rfl zci_1 ?_
      refine r_iushr 78 dJ6_numberOfTrailingZeros_0f7a4_77 rfl ?_
      refine r_iadd 79 dJ6_numberOfTrailingZeros_0f7a4_78 rfl ?_
      exact r_iret dJ6_numberOfTrailingZeros_0f7a4_79 rfl z_ki
    · refine r_iinc 70 1 [(1, .int (x1_7 + (2 : Int32))), (0, .int x0_6)] dJ6_numberOfTrailingZeros_0f7a4_67 rfl rfl zci_2 (by decide) rfl ?_
      refine r_iload_n 71 dJ6_numberOfTrailingZeros_0f7a4_70 rfl 1 rfl rfl ?_
      refine r_iconst 72 dJ6_numberOfTrailingZeros_0f7a4_71 rfl zci_2 ?_
      refine r_iushr 73 dJ6_numberOfTrailingZeros_0f7a4_72 rfl ?_
      refine r_topi (fun y8 => ?_)
      refine r_istore_n 74 [(0, .int y8), (1, .int (x1_7 + (2 : Int32)))] dJ6_numberOfTrailingZeros_0f7a4_73 rfl rfl (by decide) rfl ?_
      refine r_iload_n 75 dJ6_numberOfTrailingZeros_0f7a4_74 rfl 1 rfl rfl ?_
      refine r_iload_n 76 dJ6_numberOfTrailingZeros_0f7a4_75 rfl 0 rfl rfl ?_
      refine r_iconst 77 dJ6_numberOfTrailingZeros_0f7a4_76 rfl zci_1 ?_
      refine r_iushr 78 dJ6_numberOfTrailingZeros_0f7a4_77 rfl ?_
      refine r_iadd 79 dJ6_numberOfTrailingZeros_0f7a4_78 rfl ?_
      exact r_iret dJ6_numberOfTrailingZeros_0f7a4_79 rfl z_ki
  have hJ49 : ∀ (x0_4 : Int32) (x1_5 : Int32), zR G l d "java/lang/Integer" cJ6_numberOfTrailingZeros_0f7a4 2 (some .int) (some (.int o)) w0 (fun x => x = o) 49 [(0, .int x0_4), (1, .int x1_5)] [] w0 (f_J6_numberOfTrailingZeros_0f7a4_J49 x0_4 x1_5) := by
    intro x0_4 x1_5
    rw [f_J6_numberOfTrailingZeros_0f7a4_J49]
    refine r_iload_n 50 dJ6_numberOfTrailingZeros_0f7a4_49 rfl 0 rfl rfl ?_
    refine r_bipush 52 dJ6_numberOfTrailingZeros_0f7a4_50 rfl zcb_16 ?_
    refine r_icmp_le 62 55 dJ6_numberOfTrailingZeros_0f7a4_52 (by decide) rfl ?_ ?_
    · exact r_sub [0, 1] (lv2 := [(0, .int x0_4), (1, .int x1_5)]) rfl (hJ62 x0_4 x1_5)
    · refine r_iinc 58 1 [(1, .int (x1_5 + (4 : Int32))), (0, .int x0_4)] dJ6_numberOfTrailingZeros_0f7a4_55 rfl rfl zci_4 (by decide) rfl ?_
      refine r_iload_n 59 dJ6_numberOfTrailingZeros_0f7a4_58 rfl 1 rfl rfl ?_
      refine r_iconst 60 dJ6_numberOfTrailingZeros_0f7a4_59 rfl zci_4 ?_
      refine r_iushr 61 dJ6_numberOfTrailingZeros_0f7a4_60 rfl ?_
      refine r_topi (fun y9 => ?_)
      refine r_istore_n 62 [(0, .int y9), (1, .int (x1_5 + (4 : Int32)))] dJ6_numberOfTrailingZeros_0f7a4_61 rfl rfl (by decide) rfl ?_
      exact r_sub [0, 1] (lv2 := [(0, .int y9), (1, .int (x1_5 + (4 : Int32)))]) rfl (hJ62 y9 (x1_5 + (4 : Int32)))
  have hJ34 : ∀ (x0_2 : Int32) (x1_3 : Int32), zR G l d "java/lang/Integer" cJ6_numberOfTrailingZeros_0f7a4 2 (some .int) (some (.int o)) w0 (fun x => x = o) 34 [(0, .int x0_2), (1, .int x1_3)] [] w0 (f_J6_numberOfTrailingZeros_0f7a4_J34 x0_2 x1_3) := by
    intro x0_2 x1_3
    rw [f_J6_numberOfTrailingZeros_0f7a4_J34]
    refine r_iload_n 35 dJ6_numberOfTrailingZeros_0f7a4_34 rfl 0 rfl rfl ?_
    refine r_sipush 38 dJ6_numberOfTrailingZeros_0f7a4_35 rfl zcs_256 ?_
    refine r_icmp_le 49 41 dJ6_numberOfTrailingZeros_0f7a4_38 (by decide) rfl ?_ ?_
    · exact r_sub [0, 1] (lv2 := [(0, .int x0_2), (1, .int x1_3)]) rfl (hJ49 x0_2 x1_3)
    · refine r_iinc 44 1 [(1, .int (x1_3 + (8 : Int32))), (0, .int x0_2)] dJ6_numberOfTrailingZeros_0f7a4_41 rfl rfl zci_8 (by decide) rfl ?_
      refine r_iload_n 45 dJ6_numberOfTrailingZeros_0f7a4_44 rfl 1 rfl rfl ?_
      refine r_bipush 47 dJ6_numberOfTrailingZeros_0f7a4_45 rfl zcb_8 ?_
      refine r_iushr 48 dJ6_numberOfTrailingZeros_0f7a4_47 rfl ?_
      refine r_topi (fun y10 => ?_)
      refine r_istore_n 49 [(0, .int y10), (1, .int (x1_3 + (8 : Int32)))] dJ6_numberOfTrailingZeros_0f7a4_48 rfl rfl (by decide) rfl ?_
      exact r_sub [0, 1] (lv2 := [(0, .int y10), (1, .int (x1_3 + (8 : Int32)))]) rfl (hJ49 y10 (x1_3 + (8 : Int32)))
  refine r_iload_n 1 dJ6_numberOfTrailingZeros_0f7a4_0 rfl 0 rfl rfl ?_
  refine r_iconst 2 dJ6_numberOfTrailingZeros_0f7a4_1 rfl zci_m1 ?_
  refine r_ixor 3 dJ6_numberOfTrailingZeros_0f7a4_2 rfl ?_
  refine r_iload_n 4 dJ6_numberOfTrailingZeros_0f7a4_3 rfl 0 rfl rfl ?_
  refine r_iconst 5 dJ6_numberOfTrailingZeros_0f7a4_4 rfl zci_1 ?_
  refine r_isub 6 dJ6_numberOfTrailingZeros_0f7a4_5 rfl ?_
  refine r_iand 7 dJ6_numberOfTrailingZeros_0f7a4_6 rfl ?_
  refine r_topi (fun y1 => ?_)
  refine r_istore_n 8 [(0, .int y1)] dJ6_numberOfTrailingZeros_0f7a4_7 rfl rfl (by decide) rfl ?_
  refine r_iload_n 9 dJ6_numberOfTrailingZeros_0f7a4_8 rfl 0 rfl rfl ?_
  refine r_if_gt 17 12 dJ6_numberOfTrailingZeros_0f7a4_9 (by decide) rfl ?_ ?_
  · refine r_iconst 18 dJ6_numberOfTrailingZeros_0f7a4_17 rfl zci_1 ?_
    refine r_istore_n 19 [(1, .int (1 : Int32)), (0, .int y1)] dJ6_numberOfTrailingZeros_0f7a4_18 rfl rfl (by decide) rfl ?_
    refine r_iload_n 20 dJ6_numberOfTrailingZeros_0f7a4_19 rfl 1 rfl rfl ?_
    refine r_ldcw 23 dJ6_numberOfTrailingZeros_0f7a4_20 rfl wk_J6_264 ?_
    refine r_icmp_le 34 26 dJ6_numberOfTrailingZeros_0f7a4_23 (by decide) rfl ?_ ?_
    · exact r_sub [1, 0] (lv2 := [(0, .int y1), (1, .int (1 : Int32))]) rfl (hJ34 y1 (1 : Int32))
    · refine r_iinc 29 0 [(1, .int ((1 : Int32) + (16 : Int32))), (0, .int y1)] dJ6_numberOfTrailingZeros_0f7a4_26 rfl rfl zci_16 (by decide) rfl ?_
      refine r_iload_n 30 dJ6_numberOfTrailingZeros_0f7a4_29 rfl 1 rfl rfl ?_
      refine r_bipush 32 dJ6_numberOfTrailingZeros_0f7a4_30 rfl zcb_16 ?_
      refine r_iushr 33 dJ6_numberOfTrailingZeros_0f7a4_32 rfl ?_
      refine r_topi (fun y11 => ?_)
      refine r_istore_n 34 [(0, .int y11), (1, .int ((1 : Int32) + (16 : Int32)))] dJ6_numberOfTrailingZeros_0f7a4_33 rfl rfl (by decide) rfl ?_
      exact r_sub [0, 1] (lv2 := [(0, .int y11), (1, .int ((1 : Int32) + (16 : Int32)))]) rfl (hJ34 y11 ((1 : Int32) + (16 : Int32)))
  · refine r_iload_n 13 dJ6_numberOfTrailingZeros_0f7a4_12 rfl 0 rfl rfl ?_
    refine r_bipush 15 dJ6_numberOfTrailingZeros_0f7a4_13 rfl zcb_32 ?_
    refine r_iand 16 dJ6_numberOfTrailingZeros_0f7a4_15 rfl ?_
    exact r_iret dJ6_numberOfTrailingZeros_0f7a4_16 rfl z_ki
-- X5_keepPairs
def f_X5_keepPairs_L2 (a1 : Int32) (s1 : Int32 × ZW) : Option ((Int32 × ZW) ⊕ (ZW)) :=
  if (14 : Int32) ≤ s1.1 then
  some (.inr s1.2)
else
  if ((a1 >>> (s1.1 &&& 31)) &&& (1 : Int32)) = 0 then
    some (.inl (s1.1 + (1 : Int32), s1.2))
  else
    if z_in s1.1 14 then
      if z_in s1.1 14 then
      if z_in s1.1 14 then
      z_let (z_upI s1.2 115 s1.1.toNatClampNeg ((s1.2.1 115 s1.1.toNatClampNeg) ||| (s1.2.1 114 s1.1.toNatClampNeg))) fun w3 =>
      if z_in s1.1 14 then
      if z_in s1.1 14 then
      if z_in s1.1 14 then
      z_let (z_upI w3 116 s1.1.toNatClampNeg ((w3.1 116 s1.1.toNatClampNeg) &&& (w3.1 114 s1.1.toNatClampNeg))) fun w4 =>
      some (.inl (s1.1 + (1 : Int32), w4))
    else none
    else none
    else none
    else none
    else none
    else none
def f_X5_keepPairs (w : ZW) (a1 : Int32) : Option (ZW) :=
  (z_iter (f_X5_keepPairs_L2 a1) z_fuel ((0 : Int32), w)).bind (fun q2 : ZW =>
  some q2)
set_option maxHeartbeats 4000000 in
set_option maxRecDepth 100000 in
theorem c_X5_keepPairs (G : ZG) (l : Launch) (d : Nat) (hd : 1 ≤ d) (w : ZW) (a1 : Int32) : ∀ o, f_X5_keepPairs w a1 = some o → zM G l d yX5_keepPairs cX5_keepPairs 3 none [.ref (G.1 111), .int a1] w none o := by
  intro o ho
  refine zM.of [(0, .ref (G.1 111)), (1, .int a1)] (by decide) (Nat.le_of_ble_eq_true rfl) rfl ?_
  refine (?_ : zR G l d "LoveLocks$Reader" cX5_keepPairs 3 none none o (fun x => x = o) 0 [(0, .ref (G.1 111)), (1, .int a1)] [] w (f_X5_keepPairs w a1)) o ho rfl
  rw [f_X5_keepPairs]
  refine r_iconst 1 dX5_keepPairs_0 rfl zci_0 ?_
  refine r_istore_n 2 [(2, .int (0 : Int32)), (0, .ref (G.1 111)), (1, .int a1)] dX5_keepPairs_1 rfl rfl (by decide) rfl ?_
  refine r_loopE [1, 2, 0] (fun s1 => [(0, .ref (G.1 111)), (1, .int a1), (2, .int s1.1)]) (fun s1 => s1.2) 52 (fun q2 => []) (fun q2 => q2) rfl rfl (fun s1 => ?_) (fun q2 => ?_)
  · rw [f_X5_keepPairs_L2]
    refine r_iload_n 3 dX5_keepPairs_2 rfl 2 rfl rfl ?_
    refine r_bipush 5 dX5_keepPairs_3 rfl zcb_14 ?_
    refine r_icmp_ge 52 8 dX5_keepPairs_5 (by decide) rfl ?_ ?_
    · exact r_leaf [] (lv2 := []) rfl (fun h => h)
    · refine r_iload_n 9 dX5_keepPairs_8 rfl 1 rfl rfl ?_
      refine r_iload_n 10 dX5_keepPairs_9 rfl 2 rfl rfl ?_
      refine r_ishr 11 dX5_keepPairs_10 rfl ?_
      refine r_iconst 12 dX5_keepPairs_11 rfl zci_1 ?_
      refine r_iand 13 dX5_keepPairs_12 rfl ?_
      refine r_if_eq 46 16 dX5_keepPairs_13 (by decide) rfl ?_ ?_
      · refine r_iinc 49 2 [(2, .int (s1.1 + (1 : Int32))), (0, .ref (G.1 111)), (1, .int a1)] dX5_keepPairs_46 rfl rfl zci_1 (by decide) rfl ?_
        refine r_goto 2 dX5_keepPairs_49 (by decide) ?_
        exact r_leaf [1, 2, 0] (lv2 := [(0, .ref (G.1 111)), (1, .int a1), (2, .int (s1.1 + (1 : Int32)))]) rfl (fun h => h)
      · refine r_aload_n 17 dX5_keepPairs_16 rfl 0 rfl rfl ?_
        refine r_get 20 111 6 dX5_keepPairs_17 rfl zl_111 (ce_111 G _) rfl inz5 (by decide) wf_X5_21 rfl ?_
        refine r_iload_n 21 dX5_keepPairs_20 rfl 2 rfl rfl ?_
        refine r_dup2 22 dX5_keepPairs_21 rfl rfl rfl ?_
        refine r_iald 23 115 14 dX5_keepPairs_22 rfl zl_115 (ce_115 G _) ?_
        refine r_aload_n 24 dX5_keepPairs_23 rfl 0 rfl rfl ?_
        refine r_get 27 111 5 dX5_keepPairs_24 rfl zl_111 (ce_111 G _) rfl inz5 (by decide) wf_X5_18 rfl ?_
        refine r_iload_n 28 dX5_keepPairs_27 rfl 2 rfl rfl ?_
        refine r_iald 29 114 14 dX5_keepPairs_28 rfl zl_114 (ce_114 G _) ?_
        refine r_ior 30 dX5_keepPairs_29 rfl ?_
        refine r_iast 31 115 14 dX5_keepPairs_30 rfl zl_115 (ce_115 G) ?_
        refine r_topw (fun w3 => ?_)
        refine r_aload_n 32 dX5_keepPairs_31 rfl 0 rfl rfl ?_
        refine r_get 35 111 7 dX5_keepPairs_32 rfl zl_111 (ce_111 G _) rfl inz5 (by decide) wf_X5_24 rfl ?_
        refine r_iload_n 36 dX5_keepPairs_35 rfl 2 rfl rfl ?_
        refine r_dup2 37 dX5_keepPairs_36 rfl rfl rfl ?_
        refine r_iald 38 116 14 dX5_keepPairs_37 rfl zl_116 (ce_116 G _) ?_
        refine r_aload_n 39 dX5_keepPairs_38 rfl 0 rfl rfl ?_
        refine r_get 42 111 5 dX5_keepPairs_39 rfl zl_111 (ce_111 G _) rfl inz5 (by decide) wf_X5_18 rfl ?_
        refine r_iload_n 43 dX5_keepPairs_42 rfl 2 rfl rfl ?_
        refine r_iald 44 114 14 dX5_keepPairs_43 rfl zl_114 (ce_114 G _) ?_
        refine r_iand 45 dX5_keepPairs_44 rfl ?_
        refine r_iast 46 116 14 dX5_keepPairs_45 rfl zl_116 (ce_116 G) ?_
        refine r_topw (fun w4 => ?_)
        refine r_iinc 49 2 [(2, .int (s1.1 + (1 : Int32))), (0, .ref (G.1 111)), (1, .int a1)] dX5_keepPairs_46 rfl rfl zci_1 (by decide) rfl ?_
        refine r_goto 2 dX5_keepPairs_49 (by decide) ?_
        exact r_leaf [1, 2, 0] (lv2 := [(0, .ref (G.1 111)), (1, .int a1), (2, .int (s1.1 + (1 : Int32)))]) rfl (fun h => h)
  · exact r_vret dX5_keepPairs_52 rfl z_kvw
-- X5_waysToRead
def f_X5_waysToRead_L65 (s4 : Int64 × Int32 × ZW) (a3 : Int32) (r3 : Int32) (rc : ZW → Int32 → Int32 → Int32 → Int32 → Option (Int64 × ZW)) (a1 : Int32) (a2 : Int32) (a4 : Int32) (s6 : Int64 × Int32 × ZW) : Option ((Int64 × Int32 × ZW) ⊕ (Int64 × ZW)) :=
  if (s6.2.2.1 111 1) ≤ s6.2.1 then
  some (.inr (s6.1, s6.2.2))
else
  z_let (((1 : Int32) <<< (s4.2.1 &&& 31)) ||| ((1 : Int32) <<< (s6.2.1 &&& 31))) fun y8 =>
    if (a3 &&& y8) = 0 then
    if z_in r3 14 then
      if z_in r3 14 then
      (f_X2_canBe (s6.2.2.1 112 r3.toNatClampNeg) (s6.2.2.1 113 r3.toNatClampNeg) s4.2.1 s6.2.1).bind fun r9 : Int32 =>
      if r9 = 0 then
      some (.inl (s6.1, s6.2.1 + (1 : Int32), s6.2.2))
    else
      if z_in r3 14 then
        z_let (z_upI s6.2.2 114 r3.toNatClampNeg y8) fun w10 =>
        (rc w10 a1 (a2 &&& (((1 : Int32) <<< (r3 &&& 31)) ^^^ (-1 : Int32))) (a3 ||| y8) (a4 + (1 : Int32))).bind fun r11 : Int64 × ZW =>
        some (.inl (s6.1 + r11.1, s6.2.1 + (1 : Int32), r11.2))
      else none
    else none
    else none
  else
    some (.inl (s6.1, s6.2.1 + (1 : Int32), s6.2.2))
def f_X5_waysToRead_L50 (a3 : Int32) (r3 : Int32) (rc : ZW → Int32 → Int32 → Int32 → Int32 → Option (Int64 × ZW)) (a1 : Int32) (a2 : Int32) (a4 : Int32) (s4 : Int64 × Int32 × ZW) : Option ((Int64 × Int32 × ZW) ⊕ (Int64 × ZW)) :=
  if (s4.2.2.1 111 1) ≤ s4.2.1 then
  some (.inr (s4.1, s4.2.2))
else
  (z_iter (f_X5_waysToRead_L65 s4 a3 r3 rc a1 a2 a4) z_fuel (s4.1, s4.2.1 + (1 : Int32), s4.2.2)).bind (fun q7 : Int64 × ZW =>
    some (.inl (q7.1, s4.2.1 + (1 : Int32), q7.2)))
def f_X5_waysToRead : Nat → ZW → Int32 → Int32 → Int32 → Int32 → Option (Int64 × ZW)
  | 0, _, _, _, _, _ => none
  | n + 1, w, a1, a2, a3, a4 =>
    if a2 = 0 then
  (f_X5_keepPairs w a1).bind fun r12 : ZW =>
    some ((1 : Int64), r12)
else
  if (14 : Int32) ≤ a4 then
    some ((0 : Int64), w)
  else
    (f_J6_bitCount_0f7a4 a2).bind fun r1 : Int32 =>
      (f_J6_bitCount_0f7a4 a3).bind fun r2 : Int32 =>
      if ((2 : Int32) * r1) ≤ ((w.1 111 1) - r2) then
      (f_J6_numberOfTrailingZeros_0f7a4 a2).bind fun r3 : Int32 =>
        (z_iter (f_X5_waysToRead_L50 a3 r3 (f_X5_waysToRead n) a1 a2 a4) z_fuel ((0 : Int64), (0 : Int32), w)).bind (fun q5 : Int64 × ZW =>
        some (q5.1, q5.2))
    else
      some ((0 : Int64), w)
set_option maxHeartbeats 4000000 in
set_option maxRecDepth 100000 in
theorem c_X5_waysToRead (G : ZG) (l : Launch) : ∀ (n d : Nat), n + 2 ≤ d → ∀ (w : ZW) (a1 : Int32) (a2 : Int32) (a3 : Int32) (a4 : Int32) o, f_X5_waysToRead n w a1 a2 a3 a4 = some o → zM G l d yX5_waysToRead cX5_waysToRead 11 (some .long) [.ref (G.1 111), .int a1, .int a2, .int a3, .int a4] w (some (.long o.1)) o.2 := by
  intro n
  induction n with
  | zero =>
    intro d hd w a1 a2 a3 a4 o ho
    cases ho
  | succ n ih =>
    intro d hd w a1 a2 a3 a4 o ho
    refine zM.of [(0, .ref (G.1 111)), (1, .int a1), (2, .int a2), (3, .int a3), (4, .int a4)] (by decide) (Nat.le_of_ble_eq_true rfl) rfl ?_
    refine (?_ : zR G l d "LoveLocks$Reader" cX5_waysToRead 11 (some .long) (some (.long o.1)) o.2 (fun x => x = o) 0 [(0, .ref (G.1 111)), (1, .int a1), (2, .int a2), (3, .int a3), (4, .int a4)] [] w (f_X5_waysToRead (n + 1) w a1 a2 a3 a4)) o ho rfl
    rw [f_X5_waysToRead]
    refine r_iload_n 1 dX5_waysToRead_0 rfl 2 rfl rfl ?_
    refine r_if_ne 11 4 dX5_waysToRead_1 (by decide) rfl ?_ ?_
    · refine r_iload 13 dX5_waysToRead_11 rfl 4 rfl ?_
      refine r_bipush 15 dX5_waysToRead_13 rfl zcb_14 ?_
      refine r_icmp_ge 36 18 dX5_waysToRead_15 (by decide) rfl ?_ ?_
      · refine r_lconst 37 dX5_waysToRead_36 rfl zcl_0 ?_
        exact r_lret dX5_waysToRead_37 rfl z_kjw
      · refine r_iconst 19 dX5_waysToRead_18 rfl zci_2 ?_
        refine r_iload_n 20 dX5_waysToRead_19 rfl 2 rfl rfl ?_
        refine r_callSi 23 1 [.int a2] (st := [.int (2 : Int32)]) dX5_waysToRead_20 rfl rfl (fun r h => c_J6_bitCount_0f7a4 G l (d - 1) (by omega) w a2 r h) wc_J6_bitCount_0f7a4 wz_J6 wl_X5_69 wst_J6_bitCount_0f7a4 zd_J6_bitCount_0f7a4 (by decide) (by omega) rfl (Nat.le_of_ble_eq_true rfl) (fun r1 => ?_)
        refine r_imul 24 dX5_waysToRead_23 rfl ?_
        refine r_aload_n 25 dX5_waysToRead_24 rfl 0 rfl rfl ?_
        refine r_get 28 111 1 dX5_waysToRead_25 rfl zl_111 (ce_111 G _) rfl inz5 (by decide) wf_X5_33 rfl ?_
        refine r_iload_n 29 dX5_waysToRead_28 rfl 3 rfl rfl ?_
        refine r_callSi 32 1 [.int a3] (st := [.int (w.1 111 1), .int ((2 : Int32) * r1)]) dX5_waysToRead_29 rfl rfl (fun r h => c_J6_bitCount_0f7a4 G l (d - 1) (by omega) w a3 r h) wc_J6_bitCount_0f7a4 wz_J6 wl_X5_69 wst_J6_bitCount_0f7a4 zd_J6_bitCount_0f7a4 (by decide) (by omega) rfl (Nat.le_of_ble_eq_true rfl) (fun r2 => ?_)
        refine r_isub 33 dX5_waysToRead_32 rfl ?_
        refine r_icmp_le 38 36 dX5_waysToRead_33 (by decide) rfl ?_ ?_
        · refine r_iload_n 39 dX5_waysToRead_38 rfl 2 rfl rfl ?_
          refine r_callSi 42 1 [.int a2] (st := []) dX5_waysToRead_39 rfl rfl (fun r h => c_J6_numberOfTrailingZeros_0f7a4 G l (d - 1) (by omega) w a2 r h) wc_J6_numberOfTrailingZeros_0f7a4 wz_J6 wl_X5_74 wst_J6_numberOfTrailingZeros_0f7a4 zd_J6_numberOfTrailingZeros_0f7a4 (by decide) (by omega) rfl (Nat.le_of_ble_eq_true rfl) (fun r3 => ?_)
          refine r_istore 44 [(5, .int r3), (0, .ref (G.1 111)), (1, .int a1), (2, .int a2), (3, .int a3), (4, .int a4)] dX5_waysToRead_42 rfl (by decide) rfl ?_
          refine r_lconst 45 dX5_waysToRead_44 rfl zcl_0 ?_
          refine r_lstore 47 [(6, .long (0 : Int64)), (5, .int r3), (0, .ref (G.1 111)), (1, .int a1), (2, .int a2), (3, .int a3), (4, .int a4)] dX5_waysToRead_45 rfl (by decide) rfl ?_
          refine r_iconst 48 dX5_waysToRead_47 rfl zci_0 ?_
          refine r_istore 50 [(8, .int (0 : Int32)), (6, .long (0 : Int64)), (5, .int r3), (0, .ref (G.1 111)), (1, .int a1), (2, .int a2), (3, .int a3), (4, .int a4)] dX5_waysToRead_48 rfl (by decide) rfl ?_
          refine r_loopE [3, 4, 5, 6, 7, 2, 1, 0] (fun s4 => [(0, .ref (G.1 111)), (1, .int a1), (2, .int a2), (3, .int a3), (4, .int a4), (5, .int r3), (6, .long s4.1), (8, .int s4.2.1)]) (fun s4 => s4.2.2) 163 (fun q5 => [(6, .long q5.1)]) (fun q5 => q5.2) rfl rfl (fun s4 => ?_) (fun q5 => ?_)
          · rw [f_X5_waysToRead_L50]
            refine r_iload 52 dX5_waysToRead_50 rfl 7 rfl ?_
            refine r_aload_n 53 dX5_waysToRead_52 rfl 0 rfl rfl ?_
            refine r_get 56 111 1 dX5_waysToRead_53 rfl zl_111 (ce_111 G _) rfl inz5 (by decide) wf_X5_33 rfl ?_
            refine r_icmp_ge 163 59 dX5_waysToRead_56 (by decide) rfl ?_ ?_
            · exact r_leaf [6] (lv2 := [(6, .long s4.1)]) rfl (fun h => h)
            · refine r_iload 61 dX5_waysToRead_59 rfl 7 rfl ?_
              refine r_iconst 62 dX5_waysToRead_61 rfl zci_1 ?_
              refine r_iadd 63 dX5_waysToRead_62 rfl ?_
              refine r_istore 65 [(9, .int (s4.2.1 + (1 : Int32))), (0, .ref (G.1 111)), (1, .int a1), (2, .int a2), (3, .int a3), (4, .int a4), (5, .int r3), (6, .long s4.1), (8, .int s4.2.1)] dX5_waysToRead_63 rfl (by decide) rfl ?_
              refine r_loopE [1, 2, 3, 4, 5, 6, 7, 8, 0] (fun s6 => [(0, .ref (G.1 111)), (1, .int a1), (2, .int a2), (3, .int a3), (4, .int a4), (5, .int r3), (6, .long s6.1), (8, .int s4.2.1), (9, .int s6.2.1)]) (fun s6 => s6.2.2) 157 (fun q7 => [(0, .ref (G.1 111)), (1, .int a1), (2, .int a2), (3, .int a3), (4, .int a4), (5, .int r3), (6, .long q7.1), (8, .int s4.2.1)]) (fun q7 => q7.2) rfl rfl (fun s6 => ?_) (fun q7 => ?_)
              · rw [f_X5_waysToRead_L65]
                refine r_iload 67 dX5_waysToRead_65 rfl 8 rfl ?_
                refine r_aload_n 68 dX5_waysToRead_67 rfl 0 rfl rfl ?_
                refine r_get 71 111 1 dX5_waysToRead_68 rfl zl_111 (ce_111 G _) rfl inz5 (by decide) wf_X5_33 rfl ?_
                refine r_icmp_ge 157 74 dX5_waysToRead_71 (by decide) rfl ?_ ?_
                · exact r_leaf [0, 1, 2, 3, 4, 5, 6, 7] (lv2 := [(0, .ref (G.1 111)), (1, .int a1), (2, .int a2), (3, .int a3), (4, .int a4), (5, .int r3), (6, .long s6.1), (8, .int s4.2.1)]) rfl (fun h => h)
                · refine r_iconst 75 dX5_waysToRead_74 rfl zci_1 ?_
                  refine r_iload 77 dX5_waysToRead_75 rfl 7 rfl ?_
                  refine r_ishl 78 dX5_waysToRead_77 rfl ?_
                  refine r_iconst 79 dX5_waysToRead_78 rfl zci_1 ?_
                  refine r_iload 81 dX5_waysToRead_79 rfl 8 rfl ?_
                  refine r_ishl 82 dX5_waysToRead_81 rfl ?_
                  refine r_ior 83 dX5_waysToRead_82 rfl ?_
                  refine r_topi (fun y8 => ?_)
                  refine r_istore 85 [(10, .int y8), (0, .ref (G.1 111)), (1, .int a1), (2, .int a2), (3, .int a3), (4, .int a4), (5, .int r3), (6, .long s6.1), (8, .int s4.2.1), (9, .int s6.2.1)] dX5_waysToRead_83 rfl (by decide) rfl ?_
                  refine r_iload_n 86 dX5_waysToRead_85 rfl 4 rfl rfl ?_
                  refine r_iload 88 dX5_waysToRead_86 rfl 0 rfl ?_
                  refine r_iand 89 dX5_waysToRead_88 rfl ?_
                  refine r_if_ne 151 92 dX5_waysToRead_89 (by decide) rfl ?_ ?_
                  · refine r_iinc 154 9 [(9, .int (s6.2.1 + (1 : Int32))), (10, .int y8), (0, .ref (G.1 111)), (1, .int a1), (2, .int a2), (3, .int a3), (4, .int a4), (5, .int r3), (6, .long s6.1), (8, .int s4.2.1)] dX5_waysToRead_151 rfl rfl zci_1 (by decide) rfl ?_
                    refine r_goto 65 dX5_waysToRead_154 (by decide) ?_
                    exact r_leaf [2, 3, 4, 5, 6, 7, 8, 9, 0] (lv2 := [(0, .ref (G.1 111)), (1, .int a1), (2, .int a2), (3, .int a3), (4, .int a4), (5, .int r3), (6, .long s6.1), (8, .int s4.2.1), (9, .int (s6.2.1 + (1 : Int32)))]) rfl (fun h => h)
                  · refine r_aload_n 93 dX5_waysToRead_92 rfl 1 rfl rfl ?_
                    refine r_get 96 111 3 dX5_waysToRead_93 rfl zl_111 (ce_111 G _) rfl inz5 (by decide) wf_X5_9 rfl ?_
                    refine r_iload 98 dX5_waysToRead_96 rfl 6 rfl ?_
                    refine r_iald 99 112 14 dX5_waysToRead_98 rfl zl_112 (ce_112 G _) ?_
                    refine r_aload_n 100 dX5_waysToRead_99 rfl 1 rfl rfl ?_
                    refine r_get 103 111 4 dX5_waysToRead_100 rfl zl_111 (ce_111 G _) rfl inz5 (by decide) wf_X5_15 rfl ?_
                    refine r_iload 105 dX5_waysToRead_103 rfl 6 rfl ?_
                    refine r_iald 106 113 14 dX5_waysToRead_105 rfl zl_113 (ce_113 G _) ?_
                    refine r_iload 108 dX5_waysToRead_106 rfl 8 rfl ?_
                    refine r_iload 110 dX5_waysToRead_108 rfl 9 rfl ?_
                    refine r_callSi 113 4 [.int (s6.2.2.1 112 r3.toNatClampNeg), .int (s6.2.2.1 113 r3.toNatClampNeg), .int s4.2.1, .int s6.2.1] (st := []) dX5_waysToRead_110 rfl rfl (fun r h => c_X2_canBe G l (d - 1) (by omega) s6.2.2 (s6.2.2.1 112 r3.toNatClampNeg) (s6.2.2.1 113 r3.toNatClampNeg) s4.2.1 s6.2.1 r h) wc_X2_canBe wz_X2 wl_X5_77 wst_X2_canBe zd_X2_canBe (by decide) (by omega) rfl (Nat.le_of_ble_eq_true rfl) (fun r9 => ?_)
                    refine r_if_eq 151 116 dX5_waysToRead_113 (by decide) rfl ?_ ?_
                    · refine r_iinc 154 9 [(9, .int (s6.2.1 + (1 : Int32))), (10, .int y8), (0, .ref (G.1 111)), (1, .int a1), (2, .int a2), (3, .int a3), (4, .int a4), (5, .int r3), (6, .long s6.1), (8, .int s4.2.1)] dX5_waysToRead_151 rfl rfl zci_1 (by decide) rfl ?_
                      refine r_goto 65 dX5_waysToRead_154 (by decide) ?_
                      exact r_leaf [2, 3, 4, 5, 6, 7, 8, 9, 0] (lv2 := [(0, .ref (G.1 111)), (1, .int a1), (2, .int a2), (3, .int a3), (4, .int a4), (5, .int r3), (6, .long s6.1), (8, .int s4.2.1), (9, .int (s6.2.1 + (1 : Int32)))]) rfl (fun h => h)
                    · refine r_aload_n 117 dX5_waysToRead_116 rfl 1 rfl rfl ?_
                      refine r_get 120 111 5 dX5_waysToRead_117 rfl zl_111 (ce_111 G _) rfl inz5 (by decide) wf_X5_18 rfl ?_
                      refine r_iload 122 dX5_waysToRead_120 rfl 6 rfl ?_
                      refine r_iload 124 dX5_waysToRead_122 rfl 0 rfl ?_
                      refine r_iast 125 114 14 dX5_waysToRead_124 rfl zl_114 (ce_114 G) ?_
                      refine r_topw (fun w10 => ?_)
                      refine r_lload 127 dX5_waysToRead_125 rfl 7 rfl ?_
                      refine r_aload_n 128 dX5_waysToRead_127 rfl 1 rfl rfl ?_
                      refine r_iload_n 129 dX5_waysToRead_128 rfl 2 rfl rfl ?_
                      refine r_iload_n 130 dX5_waysToRead_129 rfl 3 rfl rfl ?_
                      refine r_iconst 131 dX5_waysToRead_130 rfl zci_1 ?_
                      refine r_iload 133 dX5_waysToRead_131 rfl 6 rfl ?_
                      refine r_ishl 134 dX5_waysToRead_133 rfl ?_
                      refine r_iconst 135 dX5_waysToRead_134 rfl zci_m1 ?_
                      refine r_ixor 136 dX5_waysToRead_135 rfl ?_
                      refine r_iand 137 dX5_waysToRead_136 rfl ?_
                      refine r_iload_n 138 dX5_waysToRead_137 rfl 4 rfl rfl ?_
                      refine r_iload 140 dX5_waysToRead_138 rfl 0 rfl ?_
                      refine r_ior 141 dX5_waysToRead_140 rfl ?_
                      refine r_iload 143 dX5_waysToRead_141 rfl 5 rfl ?_
                      refine r_iconst 144 dX5_waysToRead_143 rfl zci_1 ?_
                      refine r_iadd 145 dX5_waysToRead_144 rfl ?_
                      refine r_callSjw 148 5 [.ref (G.1 111), .int a1, .int (a2 &&& (((1 : Int32) <<< (r3 &&& 31)) ^^^ (-1 : Int32))), .int (a3 ||| y8), .int (a4 + (1 : Int32))] (st := [.long s6.1]) dX5_waysToRead_145 rfl rfl (fun r h => ih (d - 1) (by omega) w10 a1 (a2 &&& (((1 : Int32) <<< (r3 &&& 31)) ^^^ (-1 : Int32))) (a3 ||| y8) (a4 + (1 : Int32)) r h) wc_X5_waysToRead wz_X5 wl_X5_53 wst_X5_waysToRead zd_X5_waysToRead (by decide) (by omega) rfl (Nat.le_of_ble_eq_true rfl) (fun r11 => ?_)
                      refine r_ladd 149 dX5_waysToRead_148 rfl ?_
                      refine r_lstore 151 [(6, .long (s6.1 + r11.1)), (10, .int y8), (0, .ref (G.1 111)), (1, .int a1), (2, .int a2), (3, .int a3), (4, .int a4), (5, .int r3), (8, .int s4.2.1), (9, .int s6.2.1)] dX5_waysToRead_149 rfl (by decide) rfl ?_
                      refine r_iinc 154 9 [(9, .int (s6.2.1 + (1 : Int32))), (6, .long (s6.1 + r11.1)), (10, .int y8), (0, .ref (G.1 111)), (1, .int a1), (2, .int a2), (3, .int a3), (4, .int a4), (5, .int r3), (8, .int s4.2.1)] dX5_waysToRead_151 rfl rfl zci_1 (by decide) rfl ?_
                      refine r_goto 65 dX5_waysToRead_154 (by decide) ?_
                      exact r_leaf [3, 4, 5, 6, 7, 8, 1, 9, 0] (lv2 := [(0, .ref (G.1 111)), (1, .int a1), (2, .int a2), (3, .int a3), (4, .int a4), (5, .int r3), (6, .long (s6.1 + r11.1)), (8, .int s4.2.1), (9, .int (s6.2.1 + (1 : Int32)))]) rfl (fun h => h)
              · refine r_iinc 160 7 [(8, .int (s4.2.1 + (1 : Int32))), (0, .ref (G.1 111)), (1, .int a1), (2, .int a2), (3, .int a3), (4, .int a4), (5, .int r3), (6, .long q7.1)] dX5_waysToRead_157 rfl rfl zci_1 (by decide) rfl ?_
                refine r_goto 50 dX5_waysToRead_160 (by decide) ?_
                exact r_leaf [1, 2, 3, 4, 5, 6, 7, 0] (lv2 := [(0, .ref (G.1 111)), (1, .int a1), (2, .int a2), (3, .int a3), (4, .int a4), (5, .int r3), (6, .long q7.1), (8, .int (s4.2.1 + (1 : Int32)))]) rfl (fun h => h)
          · refine r_lload 165 dX5_waysToRead_163 rfl 0 rfl ?_
            exact r_lret dX5_waysToRead_165 rfl z_kjw
        · refine r_lconst 37 dX5_waysToRead_36 rfl zcl_0 ?_
          exact r_lret dX5_waysToRead_37 rfl z_kjw
    · refine r_aload_n 5 dX5_waysToRead_4 rfl 0 rfl rfl ?_
      refine r_iload_n 6 dX5_waysToRead_5 rfl 1 rfl rfl ?_
      refine r_callVvw 9 1 (ko := 111) [.int a1] (st := []) dX5_waysToRead_6 rfl rfl (fun r h => c_X5_keepPairs G l (d - 1) (by omega) w a1 r h) zl_111 (ce_111 G _) rfl rfl wc_X5_keepPairs wz_X5 wl_X5_65 wi_X5_keepPairs ws_X5_keepPairs zd_X5_keepPairs (by decide) (by omega) rfl (Nat.le_of_ble_eq_true rfl) (fun r12 => ?_)
      refine r_lconst 10 dX5_waysToRead_9 rfl zcl_1 ?_
      exact r_lret dX5_waysToRead_10 rfl z_kjw
-- X5_findWays
def f_X5_findWays_L18 (s3 : Int32 × ZW) : Option ((Int32 × ZW) ⊕ (ZW)) :=
  if (14 : Int32) ≤ s3.1 then
  some (.inr s3.2)
else
  (f_X2_peopleOfFirst s3.2 s3.1).bind fun r5 : Int32 =>
    if z_in s3.1 14 then
    z_let (z_upI s3.2 112 s3.1.toNatClampNeg r5) fun w6 =>
    (f_X2_peopleOfSecond w6 s3.1).bind fun r7 : Int32 =>
    if z_in s3.1 14 then
    z_let (z_upI w6 113 s3.1.toNatClampNeg r7) fun w8 =>
    if z_in s3.1 14 then
    z_let (z_upI w8 115 s3.1.toNatClampNeg (0 : Int32)) fun w9 =>
    if z_in s3.1 14 then
    z_let (z_upI w9 116 s3.1.toNatClampNeg (-1 : Int32)) fun w10 =>
    some (.inl (s3.1 + (1 : Int32), w10))
  else none
  else none
  else none
  else none
def f_X5_findWays_L73 (s12 : Int32 × ZW) : Option ((Int32 × ZW) ⊕ (ZW)) :=
  if (20 : Int32) ≤ s12.1 then
  some (.inr s12.2)
else
  (f_X5_locksOfYear s12.2 s12.1).bind fun r14 : Int32 =>
    if ((s12.2.1 111 2) &&& r14) = 0 then
    some (.inl (s12.1 + (1 : Int32), s12.2))
  else
    (f_X5_waysToRead 20 s12.2 ((s12.2.1 111 2) &&& r14) ((s12.2.1 111 2) &&& r14) (0 : Int32) (0 : Int32)).bind fun r15 : Int64 × ZW =>
      z_let (z_upJ r15.2 111 0 ((s12.2.2 111 0) * r15.1)) fun w16 =>
      some (.inl (s12.1 + (1 : Int32), w16))
def f_X5_findWays (w : ZW) : Option (ZW) :=
  z_let (z_upI w 111 1 (w.1 16 0)) fun w1 =>
  z_let (z_upI w1 111 2 (w1.1 16 1)) fun w2 =>
  (z_iter (f_X5_findWays_L18) z_fuel ((0 : Int32), w2)).bind (fun q4 : ZW =>
  z_let (z_upJ q4 111 0 (1 : Int64)) fun w11 =>
  (z_iter (f_X5_findWays_L73) z_fuel ((0 : Int32), w11)).bind (fun q13 : ZW =>
  some q13))
set_option maxHeartbeats 4000000 in
set_option maxRecDepth 100000 in
theorem c_X5_findWays (G : ZG) (l : Launch) (d : Nat) (hd : 23 ≤ d) (w : ZW) : ∀ o, f_X5_findWays w = some o → zM G l d yX5_findWays cX5_findWays 5 none [.ref (G.1 111), .ref (G.1 16), .ref (G.1 2)] w none o := by
  intro o ho
  refine zM.of [(0, .ref (G.1 111)), (1, .ref (G.1 16)), (2, .ref (G.1 2))] (by decide) (Nat.le_of_ble_eq_true rfl) rfl ?_
  refine (?_ : zR G l d "LoveLocks$Reader" cX5_findWays 5 none none o (fun x => x = o) 0 [(0, .ref (G.1 111)), (1, .ref (G.1 16)), (2, .ref (G.1 2))] [] w (f_X5_findWays w)) o ho rfl
  rw [f_X5_findWays]
  refine r_aload_n 1 dX5_findWays_0 rfl 0 rfl rfl ?_
  refine r_aload_n 2 dX5_findWays_1 rfl 1 rfl rfl ?_
  refine r_get 5 16 0 dX5_findWays_2 rfl zl_16 (ce_16 G _) rfl inz2 (by decide) wf_X5_27 rfl ?_
  refine r_puti 8 111 1 dX5_findWays_5 rfl zl_111 (ce_111 G _) rfl inz5 tyX5_ok nmX5 (by decide) wf_X5_33 rfl rfl (Nat.le_of_ble_eq_true rfl) rfl ?_
  refine r_topw (fun w1 => ?_)
  refine r_aload_n 9 dX5_findWays_8 rfl 0 rfl rfl ?_
  refine r_aload_n 10 dX5_findWays_9 rfl 1 rfl rfl ?_
  refine r_get 13 16 1 dX5_findWays_10 rfl zl_16 (ce_16 G _) rfl inz2 (by decide) wf_X5_34 rfl ?_
  refine r_puti 16 111 2 dX5_findWays_13 rfl zl_111 (ce_111 G _) rfl inz5 tyX5_ok nmX5 (by decide) wf_X5_37 rfl rfl (Nat.le_of_ble_eq_true rfl) rfl ?_
  refine r_topw (fun w2 => ?_)
  refine r_iconst 17 dX5_findWays_16 rfl zci_0 ?_
  refine r_istore_n 18 [(3, .int (0 : Int32)), (0, .ref (G.1 111)), (1, .ref (G.1 16)), (2, .ref (G.1 2))] dX5_findWays_17 rfl rfl (by decide) rfl ?_
  refine r_loopE [1, 2, 3, 0] (fun s3 => [(0, .ref (G.1 111)), (1, .ref (G.1 16)), (2, .ref (G.1 2)), (3, .int s3.1)]) (fun s3 => s3.2) 66 (fun q4 => [(0, .ref (G.1 111)), (2, .ref (G.1 2))]) (fun q4 => q4) rfl rfl (fun s3 => ?_) (fun q4 => ?_)
  · rw [f_X5_findWays_L18]
    refine r_iload_n 19 dX5_findWays_18 rfl 3 rfl rfl ?_
    refine r_bipush 21 dX5_findWays_19 rfl zcb_14 ?_
    refine r_icmp_ge 66 24 dX5_findWays_21 (by decide) rfl ?_ ?_
    · exact r_leaf [0, 2] (lv2 := [(0, .ref (G.1 111)), (2, .ref (G.1 2))]) rfl (fun h => h)
    · refine r_aload_n 25 dX5_findWays_24 rfl 0 rfl rfl ?_
      refine r_get 28 111 3 dX5_findWays_25 rfl zl_111 (ce_111 G _) rfl inz5 (by decide) wf_X5_9 rfl ?_
      refine r_iload_n 29 dX5_findWays_28 rfl 3 rfl rfl ?_
      refine r_aload_n 30 dX5_findWays_29 rfl 1 rfl rfl ?_
      refine r_iload_n 31 dX5_findWays_30 rfl 3 rfl rfl ?_
      refine r_callVi 34 1 (ko := 16) [.int s3.1] (st := [.int s3.1, .ref (G.1 112)]) dX5_findWays_31 rfl rfl (fun r h => c_X2_peopleOfFirst G l (d - 1) (by omega) s3.2 s3.1 r h) zl_16 (ce_16 G _) rfl rfl wc_X2_peopleOfFirst wz_X2 wl_X5_38 wi_X2_peopleOfFirst ws_X2_peopleOfFirst zd_X2_peopleOfFirst (by decide) (by omega) rfl (Nat.le_of_ble_eq_true rfl) (fun r5 => ?_)
      refine r_iast 35 112 14 dX5_findWays_34 rfl zl_112 (ce_112 G) ?_
      refine r_topw (fun w6 => ?_)
      refine r_aload_n 36 dX5_findWays_35 rfl 0 rfl rfl ?_
      refine r_get 39 111 4 dX5_findWays_36 rfl zl_111 (ce_111 G _) rfl inz5 (by decide) wf_X5_15 rfl ?_
      refine r_iload_n 40 dX5_findWays_39 rfl 3 rfl rfl ?_
      refine r_aload_n 41 dX5_findWays_40 rfl 1 rfl rfl ?_
      refine r_iload_n 42 dX5_findWays_41 rfl 3 rfl rfl ?_
      refine r_callVi 45 1 (ko := 16) [.int s3.1] (st := [.int s3.1, .ref (G.1 113)]) dX5_findWays_42 rfl rfl (fun r h => c_X2_peopleOfSecond G l (d - 1) (by omega) w6 s3.1 r h) zl_16 (ce_16 G _) rfl rfl wc_X2_peopleOfSecond wz_X2 wl_X5_42 wi_X2_peopleOfSecond ws_X2_peopleOfSecond zd_X2_peopleOfSecond (by decide) (by omega) rfl (Nat.le_of_ble_eq_true rfl) (fun r7 => ?_)
      refine r_iast 46 113 14 dX5_findWays_45 rfl zl_113 (ce_113 G) ?_
      refine r_topw (fun w8 => ?_)
      refine r_aload_n 47 dX5_findWays_46 rfl 0 rfl rfl ?_
      refine r_get 50 111 6 dX5_findWays_47 rfl zl_111 (ce_111 G _) rfl inz5 (by decide) wf_X5_21 rfl ?_
      refine r_iload_n 51 dX5_findWays_50 rfl 3 rfl rfl ?_
      refine r_iconst 52 dX5_findWays_51 rfl zci_0 ?_
      refine r_iast 53 115 14 dX5_findWays_52 rfl zl_115 (ce_115 G) ?_
      refine r_topw (fun w9 => ?_)
      refine r_aload_n 54 dX5_findWays_53 rfl 0 rfl rfl ?_
      refine r_get 57 111 7 dX5_findWays_54 rfl zl_111 (ce_111 G _) rfl inz5 (by decide) wf_X5_24 rfl ?_
      refine r_iload_n 58 dX5_findWays_57 rfl 3 rfl rfl ?_
      refine r_iconst 59 dX5_findWays_58 rfl zci_m1 ?_
      refine r_iast 60 116 14 dX5_findWays_59 rfl zl_116 (ce_116 G) ?_
      refine r_topw (fun w10 => ?_)
      refine r_iinc 63 3 [(3, .int (s3.1 + (1 : Int32))), (0, .ref (G.1 111)), (1, .ref (G.1 16)), (2, .ref (G.1 2))] dX5_findWays_60 rfl rfl zci_1 (by decide) rfl ?_
      refine r_goto 18 dX5_findWays_63 (by decide) ?_
      exact r_leaf [1, 2, 3, 0] (lv2 := [(0, .ref (G.1 111)), (1, .ref (G.1 16)), (2, .ref (G.1 2)), (3, .int (s3.1 + (1 : Int32)))]) rfl (fun h => h)
  · refine r_aload_n 67 dX5_findWays_66 rfl 0 rfl rfl ?_
    refine r_lconst 68 dX5_findWays_67 rfl zcl_1 ?_
    refine r_putj 71 111 0 dX5_findWays_68 rfl zl_111 (ce_111 G _) rfl inz5 tyX5_ok nmX5 (by decide) wf_X5_45 rfl rfl (Nat.le_of_ble_eq_true rfl) rfl ?_
    refine r_topw (fun w11 => ?_)
    refine r_iconst 72 dX5_findWays_71 rfl zci_0 ?_
    refine r_istore_n 73 [(3, .int (0 : Int32)), (0, .ref (G.1 111)), (2, .ref (G.1 2))] dX5_findWays_72 rfl rfl (by decide) rfl ?_
    refine r_loopE [1, 2, 0] (fun s12 => [(0, .ref (G.1 111)), (2, .ref (G.1 2)), (3, .int s12.1)]) (fun s12 => s12.2) 121 (fun q13 => []) (fun q13 => q13) rfl rfl (fun s12 => ?_) (fun q13 => ?_)
    · rw [f_X5_findWays_L73]
      refine r_iload_n 74 dX5_findWays_73 rfl 2 rfl rfl ?_
      refine r_bipush 76 dX5_findWays_74 rfl zcb_20 ?_
      refine r_icmp_ge 121 79 dX5_findWays_76 (by decide) rfl ?_ ?_
      · exact r_leaf [] (lv2 := []) rfl (fun h => h)
      · refine r_aload_n 80 dX5_findWays_79 rfl 0 rfl rfl ?_
        refine r_get 83 111 2 dX5_findWays_80 rfl zl_111 (ce_111 G _) rfl inz5 (by decide) wf_X5_37 rfl ?_
        refine r_aload_n 84 dX5_findWays_83 rfl 1 rfl rfl ?_
        refine r_iload_n 85 dX5_findWays_84 rfl 2 rfl rfl ?_
        refine r_callSi 88 2 [.ref (G.1 2), .int s12.1] (st := [.int (s12.2.1 111 2)]) dX5_findWays_85 rfl rfl (fun r h => c_X5_locksOfYear G l (d - 1) (by omega) s12.2 s12.1 r h) wc_X5_locksOfYear wz_X5 wl_X5_49 wst_X5_locksOfYear zd_X5_locksOfYear (by decide) (by omega) rfl (Nat.le_of_ble_eq_true rfl) (fun r14 => ?_)
        refine r_iand 89 dX5_findWays_88 rfl ?_
        refine r_istore 91 [(4, .int ((s12.2.1 111 2) &&& r14)), (0, .ref (G.1 111)), (2, .ref (G.1 2)), (3, .int s12.1)] dX5_findWays_89 rfl (by decide) rfl ?_
        refine r_iload 93 dX5_findWays_91 rfl 0 rfl ?_
        refine r_if_eq 115 96 dX5_findWays_93 (by decide) rfl ?_ ?_
        · refine r_iinc 118 3 [(3, .int (s12.1 + (1 : Int32))), (4, .int ((s12.2.1 111 2) &&& r14)), (0, .ref (G.1 111)), (2, .ref (G.1 2))] dX5_findWays_115 rfl rfl zci_1 (by decide) rfl ?_
          refine r_goto 73 dX5_findWays_118 (by decide) ?_
          exact r_leaf [2, 3, 0] (lv2 := [(0, .ref (G.1 111)), (2, .ref (G.1 2)), (3, .int (s12.1 + (1 : Int32)))]) rfl (fun h => h)
        · refine r_aload_n 97 dX5_findWays_96 rfl 1 rfl rfl ?_
          refine r_dup 98 dX5_findWays_97 rfl rfl ?_
          refine r_get 101 111 0 dX5_findWays_98 rfl zl_111 (ce_111 G _) rfl inz5 (by decide) wf_X5_45 rfl ?_
          refine r_aload_n 102 dX5_findWays_101 rfl 1 rfl rfl ?_
          refine r_iload 104 dX5_findWays_102 rfl 0 rfl ?_
          refine r_iload 106 dX5_findWays_104 rfl 0 rfl ?_
          refine r_iconst 107 dX5_findWays_106 rfl zci_0 ?_
          refine r_iconst 108 dX5_findWays_107 rfl zci_0 ?_
          refine r_callSjw 111 5 [.ref (G.1 111), .int ((s12.2.1 111 2) &&& r14), .int ((s12.2.1 111 2) &&& r14), .int (0 : Int32), .int (0 : Int32)] (st := [.long (s12.2.2 111 0), .ref (G.1 111)]) dX5_findWays_108 rfl rfl (fun r h => c_X5_waysToRead G l 20 (d - 1) (by omega) s12.2 ((s12.2.1 111 2) &&& r14) ((s12.2.1 111 2) &&& r14) (0 : Int32) (0 : Int32) r h) wc_X5_waysToRead wz_X5 wl_X5_53 wst_X5_waysToRead zd_X5_waysToRead (by decide) (by omega) rfl (Nat.le_of_ble_eq_true rfl) (fun r15 => ?_)
          refine r_lmul 112 dX5_findWays_111 rfl ?_
          refine r_putj 115 111 0 dX5_findWays_112 rfl zl_111 (ce_111 G _) rfl inz5 tyX5_ok nmX5 (by decide) wf_X5_45 rfl rfl (Nat.le_of_ble_eq_true rfl) rfl ?_
          refine r_topw (fun w16 => ?_)
          refine r_iinc 118 3 [(3, .int (s12.1 + (1 : Int32))), (4, .int ((s12.2.1 111 2) &&& r14)), (0, .ref (G.1 111)), (2, .ref (G.1 2))] dX5_findWays_115 rfl rfl zci_1 (by decide) rfl ?_
          refine r_goto 73 dX5_findWays_118 (by decide) ?_
          exact r_leaf [2, 3, 0] (lv2 := [(0, .ref (G.1 111)), (2, .ref (G.1 2)), (3, .int (s12.1 + (1 : Int32)))]) rfl (fun h => h)
    · exact r_vret dX5_findWays_121 rfl z_kvw
-- X11_ways
def f_X11_ways (w : ZW) : Option (Int64 × ZW) :=
  (f_X5_findWays w).bind fun r1 : ZW =>
  some (r1.2 111 0, r1)
set_option maxHeartbeats 4000000 in
set_option maxRecDepth 100000 in
theorem c_X11_ways (G : ZG) (l : Launch) (d : Nat) (hd : 24 ≤ d) (w : ZW) : ∀ o, f_X11_ways w = some o → zM G l d yX11_ways cX11_ways 1 (some .long) [.ref (G.1 0)] w (some (.long o.1)) o.2 := by
  intro o ho
  refine zM.of [(0, .ref (G.1 0))] (by decide) (Nat.le_of_ble_eq_true rfl) rfl ?_
  refine (?_ : zR G l d "LoveLocks" cX11_ways 1 (some .long) (some (.long o.1)) o.2 (fun x => x = o) 0 [(0, .ref (G.1 0))] [] w (f_X11_ways w)) o ho rfl
  rw [f_X11_ways]
  refine r_aload_n 1 dX11_ways_0 rfl 0 rfl rfl ?_
  refine r_get 4 0 3 dX11_ways_1 rfl zl_0 (ce_0 G _) rfl inz11 (by decide) wf_X11_22 rfl ?_
  refine r_aload_n 5 dX11_ways_4 rfl 0 rfl rfl ?_
  refine r_get 8 0 0 dX11_ways_5 rfl zl_0 (ce_0 G _) rfl inz11 (by decide) wf_X11_10 rfl ?_
  refine r_get 11 1 2 dX11_ways_8 rfl zl_1 (ce_1 G _) rfl inz9 (by decide) wf_X11_141 rfl ?_
  refine r_aload_n 12 dX11_ways_11 rfl 0 rfl rfl ?_
  refine r_get 15 0 0 dX11_ways_12 rfl zl_0 (ce_0 G _) rfl inz11 (by decide) wf_X11_10 rfl ?_
  refine r_get 18 1 0 dX11_ways_15 rfl zl_1 (ce_1 G _) rfl inz9 (by decide) wf_X11_59 rfl ?_
  refine r_callVvw 21 2 (ko := 111) [.ref (G.1 16), .ref (G.1 2)] (st := []) dX11_ways_18 rfl rfl (fun r h => c_X5_findWays G l (d - 1) (by omega) w r h) zl_111 (ce_111 G _) rfl rfl wc_X5_findWays wz_X5 wl_X11_207 wi_X5_findWays ws_X5_findWays zd_X5_findWays (by decide) (by omega) rfl (Nat.le_of_ble_eq_true rfl) (fun r1 => ?_)
  refine r_aload_n 22 dX11_ways_21 rfl 0 rfl rfl ?_
  refine r_get 25 0 3 dX11_ways_22 rfl zl_0 (ce_0 G _) rfl inz11 (by decide) wf_X11_22 rfl ?_
  refine r_get 28 111 0 dX11_ways_25 rfl zl_111 (ce_111 G _) rfl inz5 (by decide) wf_X11_211 rfl ?_
  exact r_lret dX11_ways_28 rfl z_kjw
-- X5_peopleOn
def f_X5_peopleOn (w : ZW) (a1 : Int32) (a2 : Int32) : Option (Int32) :=
  if a2 = 0 then
  if z_in a1 14 then
    some (w.1 115 a1.toNatClampNeg)
  else none
else
  if z_in a1 14 then
    some (w.1 116 a1.toNatClampNeg)
  else none
set_option maxHeartbeats 4000000 in
set_option maxRecDepth 100000 in
theorem c_X5_peopleOn (G : ZG) (l : Launch) (d : Nat) (hd : 1 ≤ d) (w : ZW) (a1 : Int32) (a2 : Int32) : ∀ o, f_X5_peopleOn w a1 a2 = some o → zM G l d yX5_peopleOn cX5_peopleOn 3 (some .int) [.ref (G.1 111), .int a1, .int a2] w (some (.int o)) w := by
  intro o ho
  refine zM.of [(0, .ref (G.1 111)), (1, .int a1), (2, .int a2)] (by decide) (Nat.le_of_ble_eq_true rfl) rfl ?_
  refine (?_ : zR G l d "LoveLocks$Reader" cX5_peopleOn 3 (some .int) (some (.int o)) w (fun x => x = o) 0 [(0, .ref (G.1 111)), (1, .int a1), (2, .int a2)] [] w (f_X5_peopleOn w a1 a2)) o ho rfl
  rw [f_X5_peopleOn]
  refine r_iload_n 1 dX5_peopleOn_0 rfl 2 rfl rfl ?_
  refine r_if_ne 13 4 dX5_peopleOn_1 (by decide) rfl ?_ ?_
  · refine r_aload_n 14 dX5_peopleOn_13 rfl 0 rfl rfl ?_
    refine r_get 17 111 7 dX5_peopleOn_14 rfl zl_111 (ce_111 G _) rfl inz5 (by decide) wf_X5_24 rfl ?_
    refine r_iload_n 18 dX5_peopleOn_17 rfl 1 rfl rfl ?_
    refine r_iald 19 116 14 dX5_peopleOn_18 rfl zl_116 (ce_116 G _) ?_
    exact r_iret dX5_peopleOn_19 rfl z_ki
  · refine r_aload_n 5 dX5_peopleOn_4 rfl 0 rfl rfl ?_
    refine r_get 8 111 6 dX5_peopleOn_5 rfl zl_111 (ce_111 G _) rfl inz5 (by decide) wf_X5_21 rfl ?_
    refine r_iload_n 9 dX5_peopleOn_8 rfl 1 rfl rfl ?_
    refine r_iald 10 115 14 dX5_peopleOn_9 rfl zl_115 (ce_115 G _) ?_
    refine r_goto 19 dX5_peopleOn_10 (by decide) ?_
    exact r_iret dX5_peopleOn_19 rfl z_ki
-- X5_locksOf
def f_X5_locksOf_L5 (w : ZW) (a2 : Int32) (a1 : Int32) (s1 : Int32 × Int32) : Option ((Int32 × Int32) ⊕ (Int32)) :=
  if (14 : Int32) ≤ s1.2 then
  some (.inr s1.1)
else
  if (((w.1 111 2) >>> (s1.2 &&& 31)) &&& (1 : Int32)) = 0 then
    some (.inl (s1.1, s1.2 + (1 : Int32)))
  else
    (f_X5_peopleOn w s1.2 a2).bind fun r3 : Int32 =>
      if ((r3 >>> (a1 &&& 31)) &&& (1 : Int32)) = 0 then
      some (.inl (s1.1, s1.2 + (1 : Int32)))
    else
      z_let (s1.1 ||| ((1 : Int32) <<< (s1.2 &&& 31))) fun y4 =>
        some (.inl (y4, s1.2 + (1 : Int32)))
def f_X5_locksOf (w : ZW) (a1 : Int32) (a2 : Int32) : Option (Int32) :=
  (z_iter (f_X5_locksOf_L5 w a2 a1) z_fuel ((0 : Int32), (0 : Int32))).bind (fun q2 : Int32 =>
  some q2)
set_option maxHeartbeats 4000000 in
set_option maxRecDepth 100000 in
theorem c_X5_locksOf (G : ZG) (l : Launch) (d : Nat) (hd : 2 ≤ d) (w : ZW) (a1 : Int32) (a2 : Int32) : ∀ o, f_X5_locksOf w a1 a2 = some o → zM G l d yX5_locksOf cX5_locksOf 5 (some .int) [.ref (G.1 111), .int a1, .int a2] w (some (.int o)) w := by
  intro o ho
  refine zM.of [(0, .ref (G.1 111)), (1, .int a1), (2, .int a2)] (by decide) (Nat.le_of_ble_eq_true rfl) rfl ?_
  refine (?_ : zR G l d "LoveLocks$Reader" cX5_locksOf 5 (some .int) (some (.int o)) w (fun x => x = o) 0 [(0, .ref (G.1 111)), (1, .int a1), (2, .int a2)] [] w (f_X5_locksOf w a1 a2)) o ho rfl
  rw [f_X5_locksOf]
  refine r_iconst 1 dX5_locksOf_0 rfl zci_0 ?_
  refine r_istore_n 2 [(3, .int (0 : Int32)), (0, .ref (G.1 111)), (1, .int a1), (2, .int a2)] dX5_locksOf_1 rfl rfl (by decide) rfl ?_
  refine r_iconst 3 dX5_locksOf_2 rfl zci_0 ?_
  refine r_istore 5 [(4, .int (0 : Int32)), (3, .int (0 : Int32)), (0, .ref (G.1 111)), (1, .int a1), (2, .int a2)] dX5_locksOf_3 rfl (by decide) rfl ?_
  refine r_loopE [2, 3, 4, 1, 0] (fun s1 => [(0, .ref (G.1 111)), (1, .int a1), (2, .int a2), (3, .int s1.1), (4, .int s1.2)]) (fun s1 => w) 51 (fun q2 => [(3, .int q2)]) (fun q2 => w) rfl rfl (fun s1 => ?_) (fun q2 => ?_)
  · rw [f_X5_locksOf_L5]
    refine r_iload 7 dX5_locksOf_5 rfl 4 rfl ?_
    refine r_bipush 9 dX5_locksOf_7 rfl zcb_14 ?_
    refine r_icmp_ge 51 12 dX5_locksOf_9 (by decide) rfl ?_ ?_
    · exact r_leaf [3] (lv2 := [(3, .int s1.1)]) rfl (fun h => h)
    · refine r_aload_n 13 dX5_locksOf_12 rfl 0 rfl rfl ?_
      refine r_get 16 111 2 dX5_locksOf_13 rfl zl_111 (ce_111 G _) rfl inz5 (by decide) wf_X5_37 rfl ?_
      refine r_iload 18 dX5_locksOf_16 rfl 4 rfl ?_
      refine r_ishr 19 dX5_locksOf_18 rfl ?_
      refine r_iconst 20 dX5_locksOf_19 rfl zci_1 ?_
      refine r_iand 21 dX5_locksOf_20 rfl ?_
      refine r_if_eq 45 24 dX5_locksOf_21 (by decide) rfl ?_ ?_
      · refine r_iinc 48 4 [(4, .int (s1.2 + (1 : Int32))), (0, .ref (G.1 111)), (1, .int a1), (2, .int a2), (3, .int s1.1)] dX5_locksOf_45 rfl rfl zci_1 (by decide) rfl ?_
        refine r_goto 5 dX5_locksOf_48 (by decide) ?_
        exact r_leaf [1, 2, 3, 4, 0] (lv2 := [(0, .ref (G.1 111)), (1, .int a1), (2, .int a2), (3, .int s1.1), (4, .int (s1.2 + (1 : Int32)))]) rfl (fun h => h)
      · refine r_aload_n 25 dX5_locksOf_24 rfl 0 rfl rfl ?_
        refine r_iload 27 dX5_locksOf_25 rfl 4 rfl ?_
        refine r_iload_n 28 dX5_locksOf_27 rfl 2 rfl rfl ?_
        refine r_callVi 31 2 (ko := 111) [.int s1.2, .int a2] (st := []) dX5_locksOf_28 rfl rfl (fun r h => c_X5_peopleOn G l (d - 1) (by omega) w s1.2 a2 r h) zl_111 (ce_111 G _) rfl rfl wc_X5_peopleOn wz_X5 wl_X5_81 wi_X5_peopleOn ws_X5_peopleOn zd_X5_peopleOn (by decide) (by omega) rfl (Nat.le_of_ble_eq_true rfl) (fun r3 => ?_)
        refine r_iload_n 32 dX5_locksOf_31 rfl 1 rfl rfl ?_
        refine r_ishr 33 dX5_locksOf_32 rfl ?_
        refine r_iconst 34 dX5_locksOf_33 rfl zci_1 ?_
        refine r_iand 35 dX5_locksOf_34 rfl ?_
        refine r_if_eq 45 38 dX5_locksOf_35 (by decide) rfl ?_ ?_
        · refine r_iinc 48 4 [(4, .int (s1.2 + (1 : Int32))), (0, .ref (G.1 111)), (1, .int a1), (2, .int a2), (3, .int s1.1)] dX5_locksOf_45 rfl rfl zci_1 (by decide) rfl ?_
          refine r_goto 5 dX5_locksOf_48 (by decide) ?_
          exact r_leaf [1, 2, 3, 4, 0] (lv2 := [(0, .ref (G.1 111)), (1, .int a1), (2, .int a2), (3, .int s1.1), (4, .int (s1.2 + (1 : Int32)))]) rfl (fun h => h)
        · refine r_iload_n 39 dX5_locksOf_38 rfl 3 rfl rfl ?_
          refine r_iconst 40 dX5_locksOf_39 rfl zci_1 ?_
          refine r_iload 42 dX5_locksOf_40 rfl 4 rfl ?_
          refine r_ishl 43 dX5_locksOf_42 rfl ?_
          refine r_ior 44 dX5_locksOf_43 rfl ?_
          refine r_topi (fun y4 => ?_)
          refine r_istore_n 45 [(3, .int y4), (0, .ref (G.1 111)), (1, .int a1), (2, .int a2), (4, .int s1.2)] dX5_locksOf_44 rfl rfl (by decide) rfl ?_
          refine r_iinc 48 4 [(4, .int (s1.2 + (1 : Int32))), (3, .int y4), (0, .ref (G.1 111)), (1, .int a1), (2, .int a2)] dX5_locksOf_45 rfl rfl zci_1 (by decide) rfl ?_
          refine r_goto 5 dX5_locksOf_48 (by decide) ?_
          exact r_leaf [2, 3, 4, 1, 0] (lv2 := [(0, .ref (G.1 111)), (1, .int a1), (2, .int a2), (3, .int y4), (4, .int (s1.2 + (1 : Int32)))]) rfl (fun h => h)
  · refine r_iload_n 52 dX5_locksOf_51 rfl 0 rfl rfl ?_
    exact r_iret dX5_locksOf_52 rfl z_ki
-- X11_where
def f_X11_where (w : ZW) (a1 : Int32) (a2 : Int32) : Option (Int32 × ZW) :=
  (f_X11_within a1 (0 : Int32) ((w.1 16 0) - (1 : Int32))).bind fun r1 : Int32 =>
  if r1 = 0 then
  some ((-1 : Int32), w)
else
  (f_X11_within a2 (0 : Int32) (1 : Int32)).bind fun r2 : Int32 =>
    if r2 = 0 then
    some ((-1 : Int32), w)
  else
    (f_X5_findWays w).bind fun r3 : ZW =>
      if (lg_cmp (r3.2 111 0) (0 : Int64)) = 0 then
      some ((-4 : Int32), r3)
    else
      (f_X5_locksOf r3 a1 a2).bind fun r4 : Int32 =>
        some (r4, r3)
set_option maxHeartbeats 4000000 in
set_option maxRecDepth 100000 in
theorem c_X11_where (G : ZG) (l : Launch) (d : Nat) (hd : 24 ≤ d) (w : ZW) (a1 : Int32) (a2 : Int32) : ∀ o, f_X11_where w a1 a2 = some o → zM G l d yX11_where cX11_where 3 (some .int) [.ref (G.1 0), .int a1, .int a2] w (some (.int o.1)) o.2 := by
  intro o ho
  refine zM.of [(0, .ref (G.1 0)), (1, .int a1), (2, .int a2)] (by decide) (Nat.le_of_ble_eq_true rfl) rfl ?_
  refine (?_ : zR G l d "LoveLocks" cX11_where 3 (some .int) (some (.int o.1)) o.2 (fun x => x = o) 0 [(0, .ref (G.1 0)), (1, .int a1), (2, .int a2)] [] w (f_X11_where w a1 a2)) o ho rfl
  rw [f_X11_where]
  refine r_iload_n 1 dX11_where_0 rfl 1 rfl rfl ?_
  refine r_iconst 2 dX11_where_1 rfl zci_0 ?_
  refine r_aload_n 3 dX11_where_2 rfl 0 rfl rfl ?_
  refine r_get 6 0 0 dX11_where_3 rfl zl_0 (ce_0 G _) rfl inz11 (by decide) wf_X11_10 rfl ?_
  refine r_get 9 1 2 dX11_where_6 rfl zl_1 (ce_1 G _) rfl inz9 (by decide) wf_X11_141 rfl ?_
  refine r_get 12 16 0 dX11_where_9 rfl zl_16 (ce_16 G _) rfl inz2 (by decide) wf_X11_145 rfl ?_
  refine r_iconst 13 dX11_where_12 rfl zci_1 ?_
  refine r_isub 14 dX11_where_13 rfl ?_
  refine r_callSi 17 3 [.int a1, .int (0 : Int32), .int ((w.1 16 0) - (1 : Int32))] (st := []) dX11_where_14 rfl rfl (fun r h => c_X11_within G l (d - 1) (by omega) w a1 (0 : Int32) ((w.1 16 0) - (1 : Int32)) r h) wc_X11_within wz_X11 wl_X11_55 wst_X11_within zd_X11_within (by decide) (by omega) rfl (Nat.le_of_ble_eq_true rfl) (fun r1 => ?_)
  refine r_if_eq 29 20 dX11_where_17 (by decide) rfl ?_ ?_
  · refine r_iconst 30 dX11_where_29 rfl zci_m1 ?_
    exact r_iret dX11_where_30 rfl z_kiw
  · refine r_iload_n 21 dX11_where_20 rfl 2 rfl rfl ?_
    refine r_iconst 22 dX11_where_21 rfl zci_0 ?_
    refine r_iconst 23 dX11_where_22 rfl zci_1 ?_
    refine r_callSi 26 3 [.int a2, .int (0 : Int32), .int (1 : Int32)] (st := []) dX11_where_23 rfl rfl (fun r h => c_X11_within G l (d - 1) (by omega) w a2 (0 : Int32) (1 : Int32) r h) wc_X11_within wz_X11 wl_X11_55 wst_X11_within zd_X11_within (by decide) (by omega) rfl (Nat.le_of_ble_eq_true rfl) (fun r2 => ?_)
    refine r_if_ne 31 29 dX11_where_26 (by decide) rfl ?_ ?_
    · refine r_aload_n 32 dX11_where_31 rfl 0 rfl rfl ?_
      refine r_get 35 0 3 dX11_where_32 rfl zl_0 (ce_0 G _) rfl inz11 (by decide) wf_X11_22 rfl ?_
      refine r_aload_n 36 dX11_where_35 rfl 0 rfl rfl ?_
      refine r_get 39 0 0 dX11_where_36 rfl zl_0 (ce_0 G _) rfl inz11 (by decide) wf_X11_10 rfl ?_
      refine r_get 42 1 2 dX11_where_39 rfl zl_1 (ce_1 G _) rfl inz9 (by decide) wf_X11_141 rfl ?_
      refine r_aload_n 43 dX11_where_42 rfl 0 rfl rfl ?_
      refine r_get 46 0 0 dX11_where_43 rfl zl_0 (ce_0 G _) rfl inz11 (by decide) wf_X11_10 rfl ?_
      refine r_get 49 1 0 dX11_where_46 rfl zl_1 (ce_1 G _) rfl inz9 (by decide) wf_X11_59 rfl ?_
      refine r_callVvw 52 2 (ko := 111) [.ref (G.1 16), .ref (G.1 2)] (st := []) dX11_where_49 rfl rfl (fun r h => c_X5_findWays G l (d - 1) (by omega) w r h) zl_111 (ce_111 G _) rfl rfl wc_X5_findWays wz_X5 wl_X11_207 wi_X5_findWays ws_X5_findWays zd_X5_findWays (by decide) (by omega) rfl (Nat.le_of_ble_eq_true rfl) (fun r3 => ?_)
      refine r_aload_n 53 dX11_where_52 rfl 0 rfl rfl ?_
      refine r_get 56 0 3 dX11_where_53 rfl zl_0 (ce_0 G _) rfl inz11 (by decide) wf_X11_22 rfl ?_
      refine r_get 59 111 0 dX11_where_56 rfl zl_111 (ce_111 G _) rfl inz5 (by decide) wf_X11_211 rfl ?_
      refine r_lconst 60 dX11_where_59 rfl zcl_0 ?_
      refine r_lcmp 61 dX11_where_60 rfl ?_
      refine r_if_ne 69 64 dX11_where_61 (by decide) rfl ?_ ?_
      · refine r_aload_n 70 dX11_where_69 rfl 0 rfl rfl ?_
        refine r_get 73 0 3 dX11_where_70 rfl zl_0 (ce_0 G _) rfl inz11 (by decide) wf_X11_22 rfl ?_
        refine r_iload_n 74 dX11_where_73 rfl 1 rfl rfl ?_
        refine r_iload_n 75 dX11_where_74 rfl 2 rfl rfl ?_
        refine r_callVi 78 2 (ko := 111) [.int a1, .int a2] (st := []) dX11_where_75 rfl rfl (fun r h => c_X5_locksOf G l (d - 1) (by omega) r3 a1 a2 r h) zl_111 (ce_111 G _) rfl rfl wc_X5_locksOf wz_X5 wl_X11_217 wi_X5_locksOf ws_X5_locksOf zd_X5_locksOf (by decide) (by omega) rfl (Nat.le_of_ble_eq_true rfl) (fun r4 => ?_)
        exact r_iret dX11_where_78 rfl z_kiw
      · refine r_bipush 66 dX11_where_64 rfl zcb_m4 ?_
        refine r_goto 78 dX11_where_66 (by decide) ?_
        exact r_iret dX11_where_78 rfl z_kiw
    · refine r_iconst 30 dX11_where_29 rfl zci_m1 ?_
      exact r_iret dX11_where_30 rfl z_kiw
-- X3_setNightly
def f_X3_setNightly (w : ZW) (a1 : Int32) : Option (Int32 × ZW) :=
  if a1 < (1 : Int32) then
  some ((-1 : Int32), w)
else
  if a1 ≤ (3 : Int32) then
    z_let (z_upI w 20 0 a1) fun w1 =>
      some (w.1 20 0, w1)
  else
    some ((-1 : Int32), w)
set_option maxHeartbeats 4000000 in
set_option maxRecDepth 100000 in
theorem c_X3_setNightly (G : ZG) (l : Launch) (d : Nat) (hd : 1 ≤ d) (w : ZW) (a1 : Int32) : ∀ o, f_X3_setNightly w a1 = some o → zM G l d yX3_setNightly cX3_setNightly 3 (some .int) [.ref (G.1 20), .int a1] w (some (.int o.1)) o.2 := by
  intro o ho
  refine zM.of [(0, .ref (G.1 20)), (1, .int a1)] (by decide) (Nat.le_of_ble_eq_true rfl) rfl ?_
  refine (?_ : zR G l d "LoveLocks$Nights" cX3_setNightly 3 (some .int) (some (.int o.1)) o.2 (fun x => x = o) 0 [(0, .ref (G.1 20)), (1, .int a1)] [] w (f_X3_setNightly w a1)) o ho rfl
  rw [f_X3_setNightly]
  refine r_iload_n 1 dX3_setNightly_0 rfl 1 rfl rfl ?_
  refine r_iconst 2 dX3_setNightly_1 rfl zci_1 ?_
  refine r_icmp_lt 10 5 dX3_setNightly_2 (by decide) rfl ?_ ?_
  · refine r_iconst 11 dX3_setNightly_10 rfl zci_m1 ?_
    exact r_iret dX3_setNightly_11 rfl z_kiw
  · refine r_iload_n 6 dX3_setNightly_5 rfl 1 rfl rfl ?_
    refine r_iconst 7 dX3_setNightly_6 rfl zci_3 ?_
    refine r_icmp_le 12 10 dX3_setNightly_7 (by decide) rfl ?_ ?_
    · refine r_aload_n 13 dX3_setNightly_12 rfl 0 rfl rfl ?_
      refine r_get 16 20 0 dX3_setNightly_13 rfl zl_20 (ce_20 G _) rfl inz3 (by decide) wf_X3_9 rfl ?_
      refine r_istore_n 17 [(2, .int (w.1 20 0)), (0, .ref (G.1 20)), (1, .int a1)] dX3_setNightly_16 rfl rfl (by decide) rfl ?_
      refine r_aload_n 18 dX3_setNightly_17 rfl 1 rfl rfl ?_
      refine r_iload_n 19 dX3_setNightly_18 rfl 2 rfl rfl ?_
      refine r_puti 22 20 0 dX3_setNightly_19 rfl zl_20 (ce_20 G _) rfl inz3 tyX3_ok nmX3 (by decide) wf_X3_9 rfl rfl (Nat.le_of_ble_eq_true rfl) rfl ?_
      refine r_topw (fun w1 => ?_)
      refine r_iload_n 23 dX3_setNightly_22 rfl 0 rfl rfl ?_
      exact r_iret dX3_setNightly_23 rfl z_kiw
    · refine r_iconst 11 dX3_setNightly_10 rfl zci_m1 ?_
      exact r_iret dX3_setNightly_11 rfl z_kiw
-- X11_nightly
def f_X11_nightly (w : ZW) (a1 : Int32) : Option (Int32 × ZW) :=
  (f_X3_setNightly w a1).bind fun r1 : Int32 × ZW =>
  some (r1.1, r1.2)
set_option maxHeartbeats 4000000 in
set_option maxRecDepth 100000 in
theorem c_X11_nightly (G : ZG) (l : Launch) (d : Nat) (hd : 2 ≤ d) (w : ZW) (a1 : Int32) : ∀ o, f_X11_nightly w a1 = some o → zM G l d yX11_nightly cX11_nightly 2 (some .int) [.ref (G.1 0), .int a1] w (some (.int o.1)) o.2 := by
  intro o ho
  refine zM.of [(0, .ref (G.1 0)), (1, .int a1)] (by decide) (Nat.le_of_ble_eq_true rfl) rfl ?_
  refine (?_ : zR G l d "LoveLocks" cX11_nightly 2 (some .int) (some (.int o.1)) o.2 (fun x => x = o) 0 [(0, .ref (G.1 0)), (1, .int a1)] [] w (f_X11_nightly w a1)) o ho rfl
  rw [f_X11_nightly]
  refine r_aload_n 1 dX11_nightly_0 rfl 0 rfl rfl ?_
  refine r_get 4 0 0 dX11_nightly_1 rfl zl_0 (ce_0 G _) rfl inz11 (by decide) wf_X11_10 rfl ?_
  refine r_get 7 1 3 dX11_nightly_4 rfl zl_1 (ce_1 G _) rfl inz9 (by decide) wf_X11_220 rfl ?_
  refine r_iload_n 8 dX11_nightly_7 rfl 1 rfl rfl ?_
  refine r_callViw 11 1 (ko := 20) [.int a1] (st := []) dX11_nightly_8 rfl rfl (fun r h => c_X3_setNightly G l (d - 1) (by omega) w a1 r h) zl_20 (ce_20 G _) rfl rfl wc_X3_setNightly wz_X3 wl_X11_224 wi_X3_setNightly ws_X3_setNightly zd_X3_setNightly (by decide) (by omega) rfl (Nat.le_of_ble_eq_true rfl) (fun r1 => ?_)
  exact r_iret dX11_nightly_11 rfl z_kiw
-- X3_change
def f_X3_change (w : ZW) (b0 : Nat) (n0 : Nat) (a1 : Int32) (a2 : Int32) (a3 : Int32) : Option (Int32 × ZW) :=
  if a2 < 0 then
  some ((-1 : Int32), w)
else
  if a2 ≤ a3 then
    if z_in a1 n0 then
      if z_in a1 n0 then
      z_let (z_upI w b0 a1.toNatClampNeg a2) fun w1 =>
      some (w.1 b0 a1.toNatClampNeg, w1)
    else none
    else none
  else
    some ((-1 : Int32), w)
set_option maxHeartbeats 4000000 in
set_option maxRecDepth 100000 in
theorem c_X3_change (G : ZG) (l : Launch) (d : Nat) (hd : 1 ≤ d) (w : ZW) (b0 : Nat) (n0 : Nat) (a1 : Int32) (a2 : Int32) (a3 : Int32) (ha_b0 : b0 < z_N G) (hc_b0 : ∀ w, z_cell G w b0 = z_aI G n0 (w.1 b0)) : ∀ o, f_X3_change w b0 n0 a1 a2 a3 = some o → zM G l d yX3_change cX3_change 5 (some .int) [.ref (G.1 b0), .int a1, .int a2, .int a3] w (some (.int o.1)) o.2 := by
  intro o ho
  refine zM.of [(0, .ref (G.1 b0)), (1, .int a1), (2, .int a2), (3, .int a3)] (by decide) (Nat.le_of_ble_eq_true rfl) rfl ?_
  refine (?_ : zR G l d "LoveLocks$Nights" cX3_change 5 (some .int) (some (.int o.1)) o.2 (fun x => x = o) 0 [(0, .ref (G.1 b0)), (1, .int a1), (2, .int a2), (3, .int a3)] [] w (f_X3_change w b0 n0 a1 a2 a3)) o ho rfl
  rw [f_X3_change]
  refine r_iload_n 1 dX3_change_0 rfl 2 rfl rfl ?_
  refine r_if_lt 9 4 dX3_change_1 (by decide) rfl ?_ ?_
  · refine r_iconst 10 dX3_change_9 rfl zci_m1 ?_
    exact r_iret dX3_change_10 rfl z_kiw
  · refine r_iload_n 5 dX3_change_4 rfl 2 rfl rfl ?_
    refine r_iload_n 6 dX3_change_5 rfl 3 rfl rfl ?_
    refine r_icmp_le 11 9 dX3_change_6 (by decide) rfl ?_ ?_
    · refine r_aload_n 12 dX3_change_11 rfl 0 rfl rfl ?_
      refine r_iload_n 13 dX3_change_12 rfl 1 rfl rfl ?_
      refine r_iald 14 b0 n0 dX3_change_13 rfl ha_b0 (hc_b0 _) ?_
      refine r_istore 16 [(4, .int (w.1 b0 a1.toNatClampNeg)), (0, .ref (G.1 b0)), (1, .int a1), (2, .int a2), (3, .int a3)] dX3_change_14 rfl (by decide) rfl ?_
      refine r_aload_n 17 dX3_change_16 rfl 1 rfl rfl ?_
      refine r_iload_n 18 dX3_change_17 rfl 2 rfl rfl ?_
      refine r_iload_n 19 dX3_change_18 rfl 3 rfl rfl ?_
      refine r_iast 20 b0 n0 dX3_change_19 rfl ha_b0 hc_b0 ?_
      refine r_topw (fun w1 => ?_)
      refine r_iload 22 dX3_change_20 rfl 0 rfl ?_
      exact r_iret dX3_change_22 rfl z_kiw
    · refine r_iconst 10 dX3_change_9 rfl zci_m1 ?_
      exact r_iret dX3_change_10 rfl z_kiw
-- X3_setTerm
def f_X3_setTerm (w : ZW) (a1 : Int32) (a2 : Int32) (a3 : Int32) : Option (Int32 × ZW) :=
  if a2 = (0 : Int32) then
  (f_X3_change w 21 6 a1 a3 (99 : Int32)).bind fun r1 : Int32 × ZW =>
    some (r1.1, r1.2)
else
  if a2 = (1 : Int32) then
  (f_X3_change w 22 6 a1 a3 (9 : Int32)).bind fun r2 : Int32 × ZW =>
    some (r2.1, r2.2)
else
  if a2 = (2 : Int32) then
  (f_X3_change w 23 6 a1 a3 (5 : Int32)).bind fun r3 : Int32 × ZW =>
    some (r3.1, r3.2)
else
  some ((-1 : Int32), w)
set_option maxHeartbeats 4000000 in
set_option maxRecDepth 100000 in
theorem c_X3_setTerm (G : ZG) (l : Launch) (d : Nat) (hd : 2 ≤ d) (w : ZW) (a1 : Int32) (a2 : Int32) (a3 : Int32) : ∀ o, f_X3_setTerm w a1 a2 a3 = some o → zM G l d yX3_setTerm cX3_setTerm 4 (some .int) [.ref (G.1 20), .int a1, .int a2, .int a3] w (some (.int o.1)) o.2 := by
  intro o ho
  refine zM.of [(0, .ref (G.1 20)), (1, .int a1), (2, .int a2), (3, .int a3)] (by decide) (Nat.le_of_ble_eq_true rfl) rfl ?_
  refine (?_ : zR G l d "LoveLocks$Nights" cX3_setTerm 4 (some .int) (some (.int o.1)) o.2 (fun x => x = o) 0 [(0, .ref (G.1 20)), (1, .int a1), (2, .int a2), (3, .int a3)] [] w (f_X3_setTerm w a1 a2 a3)) o ho rfl
  rw [f_X3_setTerm]
  refine r_iload_n 1 dX3_setTerm_0 rfl 2 rfl rfl ?_
  refine r_case (0 : Int32) (fun hx => ?_) (fun hn0 => ?_)
  · refine r_tin 28 (0 : Int32) hx dX3_setTerm_1 (by decide) (by decide) rfl (by decide) ?_
    refine r_aload_n 29 dX3_setTerm_28 rfl 0 rfl rfl ?_
    refine r_get 32 20 1 dX3_setTerm_29 rfl zl_20 (ce_20 G _) rfl inz3 (by decide) wf_X3_15 rfl ?_
    refine r_iload_n 33 dX3_setTerm_32 rfl 1 rfl rfl ?_
    refine r_iload_n 34 dX3_setTerm_33 rfl 3 rfl rfl ?_
    refine r_bipush 36 dX3_setTerm_34 rfl zcb_99 ?_
    refine r_callSiw 39 4 [.ref (G.1 21), .int a1, .int a3, .int (99 : Int32)] (st := []) dX3_setTerm_36 rfl rfl (fun r h => c_X3_change G l (d - 1) (by omega) w 21 6 a1 a3 (99 : Int32) zl_21 (ce_21 G) r h) wc_X3_change wz_X3 wl_X3_45 wst_X3_change zd_X3_change (by decide) (by omega) rfl (Nat.le_of_ble_eq_true rfl) (fun r1 => ?_)
    exact r_iret dX3_setTerm_39 rfl z_kiw
  refine r_case (1 : Int32) (fun hx => ?_) (fun hn1 => ?_)
  · refine r_tin 40 (1 : Int32) hx dX3_setTerm_1 (by decide) (by decide) rfl (by decide) ?_
    refine r_aload_n 41 dX3_setTerm_40 rfl 0 rfl rfl ?_
    refine r_get 44 20 2 dX3_setTerm_41 rfl zl_20 (ce_20 G _) rfl inz3 (by decide) wf_X3_19 rfl ?_
    refine r_iload_n 45 dX3_setTerm_44 rfl 1 rfl rfl ?_
    refine r_iload_n 46 dX3_setTerm_45 rfl 3 rfl rfl ?_
    refine r_bipush 48 dX3_setTerm_46 rfl zcb_9 ?_
    refine r_callSiw 51 4 [.ref (G.1 22), .int a1, .int a3, .int (9 : Int32)] (st := []) dX3_setTerm_48 rfl rfl (fun r h => c_X3_change G l (d - 1) (by omega) w 22 6 a1 a3 (9 : Int32) zl_22 (ce_22 G) r h) wc_X3_change wz_X3 wl_X3_45 wst_X3_change zd_X3_change (by decide) (by omega) rfl (Nat.le_of_ble_eq_true rfl) (fun r2 => ?_)
    exact r_iret dX3_setTerm_51 rfl z_kiw
  refine r_case (2 : Int32) (fun hx => ?_) (fun hn2 => ?_)
  · refine r_tin 52 (2 : Int32) hx dX3_setTerm_1 (by decide) (by decide) rfl (by decide) ?_
    refine r_aload_n 53 dX3_setTerm_52 rfl 0 rfl rfl ?_
    refine r_get 56 20 3 dX3_setTerm_53 rfl zl_20 (ce_20 G _) rfl inz3 (by decide) wf_X3_22 rfl ?_
    refine r_iload_n 57 dX3_setTerm_56 rfl 1 rfl rfl ?_
    refine r_iload_n 58 dX3_setTerm_57 rfl 3 rfl rfl ?_
    refine r_iconst 59 dX3_setTerm_58 rfl zci_5 ?_
    refine r_callSiw 62 4 [.ref (G.1 23), .int a1, .int a3, .int (5 : Int32)] (st := []) dX3_setTerm_59 rfl rfl (fun r h => c_X3_change G l (d - 1) (by omega) w 23 6 a1 a3 (5 : Int32) zl_23 (ce_23 G) r h) wc_X3_change wz_X3 wl_X3_45 wst_X3_change zd_X3_change (by decide) (by omega) rfl (Nat.le_of_ble_eq_true rfl) (fun r3 => ?_)
    exact r_iret dX3_setTerm_62 rfl z_kiw
  refine r_tout 63 dX3_setTerm_1 (z_tout2 hn0 hn1 hn2) (by decide) ?_
  refine r_iconst 64 dX3_setTerm_63 rfl zci_m1 ?_
  exact r_iret dX3_setTerm_64 rfl z_kiw
-- X11_risk
def f_X11_risk (w : ZW) (a1 : Int32) (a2 : Int32) (a3 : Int32) : Option (Int32 × ZW) :=
  (f_X4_hasPanel w a1).bind fun r1 : Int32 =>
  if r1 = 0 then
  some ((-1 : Int32), w)
else
  (f_X3_setTerm w a1 a2 a3).bind fun r2 : Int32 × ZW =>
    some (r2.1, r2.2)
set_option maxHeartbeats 4000000 in
set_option maxRecDepth 100000 in
theorem c_X11_risk (G : ZG) (l : Launch) (d : Nat) (hd : 3 ≤ d) (w : ZW) (a1 : Int32) (a2 : Int32) (a3 : Int32) : ∀ o, f_X11_risk w a1 a2 a3 = some o → zM G l d yX11_risk cX11_risk 4 (some .int) [.ref (G.1 0), .int a1, .int a2, .int a3] w (some (.int o.1)) o.2 := by
  intro o ho
  refine zM.of [(0, .ref (G.1 0)), (1, .int a1), (2, .int a2), (3, .int a3)] (by decide) (Nat.le_of_ble_eq_true rfl) rfl ?_
  refine (?_ : zR G l d "LoveLocks" cX11_risk 4 (some .int) (some (.int o.1)) o.2 (fun x => x = o) 0 [(0, .ref (G.1 0)), (1, .int a1), (2, .int a2), (3, .int a3)] [] w (f_X11_risk w a1 a2 a3)) o ho rfl
  rw [f_X11_risk]
  refine r_aload_n 1 dX11_risk_0 rfl 0 rfl rfl ?_
  refine r_get 4 0 0 dX11_risk_1 rfl zl_0 (ce_0 G _) rfl inz11 (by decide) wf_X11_10 rfl ?_
  refine r_get 7 1 0 dX11_risk_4 rfl zl_1 (ce_1 G _) rfl inz9 (by decide) wf_X11_59 rfl ?_
  refine r_iload_n 8 dX11_risk_7 rfl 1 rfl rfl ?_
  refine r_callVi 11 1 (ko := 2) [.int a1] (st := []) dX11_risk_8 rfl rfl (fun r h => c_X4_hasPanel G l (d - 1) (by omega) w a1 r h) zl_2 (ce_2 G _) rfl rfl wc_X4_hasPanel wz_X4 wl_X11_69 wi_X4_hasPanel ws_X4_hasPanel zd_X4_hasPanel (by decide) (by omega) rfl (Nat.le_of_ble_eq_true rfl) (fun r1 => ?_)
  refine r_if_eq 30 14 dX11_risk_11 (by decide) rfl ?_ ?_
  · refine r_iconst 31 dX11_risk_30 rfl zci_m1 ?_
    exact r_iret dX11_risk_31 rfl z_kiw
  · refine r_aload_n 15 dX11_risk_14 rfl 0 rfl rfl ?_
    refine r_get 18 0 0 dX11_risk_15 rfl zl_0 (ce_0 G _) rfl inz11 (by decide) wf_X11_10 rfl ?_
    refine r_get 21 1 3 dX11_risk_18 rfl zl_1 (ce_1 G _) rfl inz9 (by decide) wf_X11_220 rfl ?_
    refine r_iload_n 22 dX11_risk_21 rfl 1 rfl rfl ?_
    refine r_iload_n 23 dX11_risk_22 rfl 2 rfl rfl ?_
    refine r_iload_n 24 dX11_risk_23 rfl 3 rfl rfl ?_
    refine r_callViw 27 3 (ko := 20) [.int a1, .int a2, .int a3] (st := []) dX11_risk_24 rfl rfl (fun r h => c_X3_setTerm G l (d - 1) (by omega) w a1 a2 a3 r h) zl_20 (ce_20 G _) rfl rfl wc_X3_setTerm wz_X3 wl_X11_229 wi_X3_setTerm ws_X3_setTerm zd_X3_setTerm (by decide) (by omega) rfl (Nat.le_of_ble_eq_true rfl) (fun r2 => ?_)
    refine r_goto 31 dX11_risk_27 (by decide) ?_
    exact r_iret dX11_risk_31 rfl z_kiw
-- J7_fill_53178
def f_J7_fill_53178_L5 (n0 : Nat) (b0 : Nat) (a1 : Int32) (s1 : Int32 × ZW) : Option ((Int32 × ZW) ⊕ (ZW)) :=
  if (Int32.ofNat n0) ≤ s1.1 then
  some (.inr s1.2)
else
  if z_in s1.1 n0 then
    z_let (z_upI s1.2 b0 s1.1.toNatClampNeg a1) fun w3 =>
    some (.inl (s1.1 + (1 : Int32), w3))
  else none
def f_J7_fill_53178 (w : ZW) (b0 : Nat) (n0 : Nat) (a1 : Int32) : Option (ZW) :=
  (z_iter (f_J7_fill_53178_L5 n0 b0 a1) z_fuel ((0 : Int32), w)).bind (fun q2 : ZW =>
  some q2)
set_option maxHeartbeats 4000000 in
set_option maxRecDepth 100000 in
theorem c_J7_fill_53178 (G : ZG) (l : Launch) (d : Nat) (hd : 1 ≤ d) (w : ZW) (b0 : Nat) (n0 : Nat) (a1 : Int32) (ha_b0 : b0 < z_N G) (hc_b0 : ∀ w, z_cell G w b0 = z_aI G n0 (w.1 b0)) : ∀ o, f_J7_fill_53178 w b0 n0 a1 = some o → zM G l d yJ7_fill_53178 cJ7_fill_53178 4 none [.ref (G.1 b0), .int a1] w none o := by
  intro o ho
  refine zM.of [(0, .ref (G.1 b0)), (1, .int a1)] (by decide) (Nat.le_of_ble_eq_true rfl) rfl ?_
  refine (?_ : zR G l d "java/util/Arrays" cJ7_fill_53178 4 none none o (fun x => x = o) 0 [(0, .ref (G.1 b0)), (1, .int a1)] [] w (f_J7_fill_53178 w b0 n0 a1)) o ho rfl
  rw [f_J7_fill_53178]
  refine r_iconst 1 dJ7_fill_53178_0 rfl zci_0 ?_
  refine r_istore_n 2 [(2, .int (0 : Int32)), (0, .ref (G.1 b0)), (1, .int a1)] dJ7_fill_53178_1 rfl rfl (by decide) rfl ?_
  refine r_aload_n 3 dJ7_fill_53178_2 rfl 1 rfl rfl ?_
  refine r_alen 4 b0 n0 dJ7_fill_53178_3 rfl ha_b0 (hc_b0 _) rfl ?_
  refine r_istore_n 5 [(3, .int (Int32.ofNat n0)), (2, .int (0 : Int32)), (0, .ref (G.1 b0)), (1, .int a1)] dJ7_fill_53178_4 rfl rfl (by decide) rfl ?_
  refine r_loopE [2, 3, 1, 0] (fun s1 => [(0, .ref (G.1 b0)), (1, .int a1), (2, .int s1.1), (3, .int (Int32.ofNat n0))]) (fun s1 => s1.2) 20 (fun q2 => []) (fun q2 => q2) rfl rfl (fun s1 => ?_) (fun q2 => ?_)
  · rw [f_J7_fill_53178_L5]
    refine r_iload_n 6 dJ7_fill_53178_5 rfl 2 rfl rfl ?_
    refine r_iload_n 7 dJ7_fill_53178_6 rfl 3 rfl rfl ?_
    refine r_icmp_ge 20 10 dJ7_fill_53178_7 (by decide) rfl ?_ ?_
    · exact r_leaf [] (lv2 := []) rfl (fun h => h)
    · refine r_aload_n 11 dJ7_fill_53178_10 rfl 0 rfl rfl ?_
      refine r_iload_n 12 dJ7_fill_53178_11 rfl 2 rfl rfl ?_
      refine r_iload_n 13 dJ7_fill_53178_12 rfl 1 rfl rfl ?_
      refine r_iast 14 b0 n0 dJ7_fill_53178_13 rfl ha_b0 hc_b0 ?_
      refine r_topw (fun w3 => ?_)
      refine r_iinc 17 2 [(2, .int (s1.1 + (1 : Int32))), (0, .ref (G.1 b0)), (1, .int a1), (3, .int (Int32.ofNat n0))] dJ7_fill_53178_14 rfl rfl zci_1 (by decide) rfl ?_
      refine r_goto 5 dJ7_fill_53178_17 (by decide) ?_
      exact r_leaf [1, 2, 0, 3] (lv2 := [(0, .ref (G.1 b0)), (1, .int a1), (2, .int (s1.1 + (1 : Int32))), (3, .int (Int32.ofNat n0))]) rfl (fun h => h)
  · exact r_vret dJ7_fill_53178_20 rfl z_kvw
-- X3_costOfWaiting
def f_X3_costOfWaiting_L5 (a1 : Int32) (w : ZW) (a2 : Int32) (s1 : Int32 × Int32) : Option ((Int32 × Int32) ⊕ (Int32)) :=
  if (6 : Int32) ≤ s1.2 then
  some (.inr s1.1)
else
  if ((a1 >>> (s1.2 &&& 31)) &&& (1 : Int32)) = 0 then
    some (.inl (s1.1, s1.2 + (1 : Int32)))
  else
    if z_in s1.2 6 then
      if z_in s1.2 6 then
      z_let (s1.1 + ((w.1 21 s1.2.toNatClampNeg) + (a2 * (w.1 22 s1.2.toNatClampNeg)))) fun y3 =>
      some (.inl (y3, s1.2 + (1 : Int32)))
    else none
    else none
def f_X3_costOfWaiting (w : ZW) (a1 : Int32) (a2 : Int32) : Option (Int32) :=
  (z_iter (f_X3_costOfWaiting_L5 a1 w a2) z_fuel ((0 : Int32), (0 : Int32))).bind (fun q2 : Int32 =>
  some q2)
set_option maxHeartbeats 4000000 in
set_option maxRecDepth 100000 in
theorem c_X3_costOfWaiting (G : ZG) (l : Launch) (d : Nat) (hd : 1 ≤ d) (w : ZW) (a1 : Int32) (a2 : Int32) : ∀ o, f_X3_costOfWaiting w a1 a2 = some o → zM G l d yX3_costOfWaiting cX3_costOfWaiting 5 (some .int) [.ref (G.1 20), .int a1, .int a2] w (some (.int o)) w := by
  intro o ho
  refine zM.of [(0, .ref (G.1 20)), (1, .int a1), (2, .int a2)] (by decide) (Nat.le_of_ble_eq_true rfl) rfl ?_
  refine (?_ : zR G l d "LoveLocks$Nights" cX3_costOfWaiting 5 (some .int) (some (.int o)) w (fun x => x = o) 0 [(0, .ref (G.1 20)), (1, .int a1), (2, .int a2)] [] w (f_X3_costOfWaiting w a1 a2)) o ho rfl
  rw [f_X3_costOfWaiting]
  refine r_iconst 1 dX3_costOfWaiting_0 rfl zci_0 ?_
  refine r_istore_n 2 [(3, .int (0 : Int32)), (0, .ref (G.1 20)), (1, .int a1), (2, .int a2)] dX3_costOfWaiting_1 rfl rfl (by decide) rfl ?_
  refine r_iconst 3 dX3_costOfWaiting_2 rfl zci_0 ?_
  refine r_istore 5 [(4, .int (0 : Int32)), (3, .int (0 : Int32)), (0, .ref (G.1 20)), (1, .int a1), (2, .int a2)] dX3_costOfWaiting_3 rfl (by decide) rfl ?_
  refine r_loopE [2, 3, 4, 1, 0] (fun s1 => [(0, .ref (G.1 20)), (1, .int a1), (2, .int a2), (3, .int s1.1), (4, .int s1.2)]) (fun s1 => w) 47 (fun q2 => [(3, .int q2)]) (fun q2 => w) rfl rfl (fun s1 => ?_) (fun q2 => ?_)
  · rw [f_X3_costOfWaiting_L5]
    refine r_iload 7 dX3_costOfWaiting_5 rfl 4 rfl ?_
    refine r_bipush 9 dX3_costOfWaiting_7 rfl zcb_6 ?_
    refine r_icmp_ge 47 12 dX3_costOfWaiting_9 (by decide) rfl ?_ ?_
    · exact r_leaf [3] (lv2 := [(3, .int s1.1)]) rfl (fun h => h)
    · refine r_iload_n 13 dX3_costOfWaiting_12 rfl 1 rfl rfl ?_
      refine r_iload 15 dX3_costOfWaiting_13 rfl 4 rfl ?_
      refine r_ishr 16 dX3_costOfWaiting_15 rfl ?_
      refine r_iconst 17 dX3_costOfWaiting_16 rfl zci_1 ?_
      refine r_iand 18 dX3_costOfWaiting_17 rfl ?_
      refine r_if_eq 41 21 dX3_costOfWaiting_18 (by decide) rfl ?_ ?_
      · refine r_iinc 44 4 [(4, .int (s1.2 + (1 : Int32))), (0, .ref (G.1 20)), (1, .int a1), (2, .int a2), (3, .int s1.1)] dX3_costOfWaiting_41 rfl rfl zci_1 (by decide) rfl ?_
        refine r_goto 5 dX3_costOfWaiting_44 (by decide) ?_
        exact r_leaf [1, 2, 3, 4, 0] (lv2 := [(0, .ref (G.1 20)), (1, .int a1), (2, .int a2), (3, .int s1.1), (4, .int (s1.2 + (1 : Int32)))]) rfl (fun h => h)
      · refine r_iload_n 22 dX3_costOfWaiting_21 rfl 3 rfl rfl ?_
        refine r_aload_n 23 dX3_costOfWaiting_22 rfl 0 rfl rfl ?_
        refine r_get 26 20 1 dX3_costOfWaiting_23 rfl zl_20 (ce_20 G _) rfl inz3 (by decide) wf_X3_15 rfl ?_
        refine r_iload 28 dX3_costOfWaiting_26 rfl 4 rfl ?_
        refine r_iald 29 21 6 dX3_costOfWaiting_28 rfl zl_21 (ce_21 G _) ?_
        refine r_iload_n 30 dX3_costOfWaiting_29 rfl 2 rfl rfl ?_
        refine r_aload_n 31 dX3_costOfWaiting_30 rfl 0 rfl rfl ?_
        refine r_get 34 20 2 dX3_costOfWaiting_31 rfl zl_20 (ce_20 G _) rfl inz3 (by decide) wf_X3_19 rfl ?_
        refine r_iload 36 dX3_costOfWaiting_34 rfl 4 rfl ?_
        refine r_iald 37 22 6 dX3_costOfWaiting_36 rfl zl_22 (ce_22 G _) ?_
        refine r_imul 38 dX3_costOfWaiting_37 rfl ?_
        refine r_iadd 39 dX3_costOfWaiting_38 rfl ?_
        refine r_iadd 40 dX3_costOfWaiting_39 rfl ?_
        refine r_topi (fun y3 => ?_)
        refine r_istore_n 41 [(3, .int y3), (0, .ref (G.1 20)), (1, .int a1), (2, .int a2), (4, .int s1.2)] dX3_costOfWaiting_40 rfl rfl (by decide) rfl ?_
        refine r_iinc 44 4 [(4, .int (s1.2 + (1 : Int32))), (3, .int y3), (0, .ref (G.1 20)), (1, .int a1), (2, .int a2)] dX3_costOfWaiting_41 rfl rfl zci_1 (by decide) rfl ?_
        refine r_goto 5 dX3_costOfWaiting_44 (by decide) ?_
        exact r_leaf [2, 3, 4, 1, 0] (lv2 := [(0, .ref (G.1 20)), (1, .int a1), (2, .int a2), (3, .int y3), (4, .int (s1.2 + (1 : Int32)))]) rfl (fun h => h)
  · refine r_iload_n 48 dX3_costOfWaiting_47 rfl 0 rfl rfl ?_
    exact r_iret dX3_costOfWaiting_48 rfl z_ki
-- X3_chooseBest
def f_X3_chooseBest_L10 (a2 : Int32) (a3 : Int32) (w : ZW) (a1 : Int32) (s1 : Int32 × Int32 × Int32) : Option ((Int32 × Int32 × Int32) ⊕ (Int32 × Int32)) :=
  if a2 < s1.2.2 then
  some (.inr (s1.1, s1.2.1))
else
  if (s1.2.2 &&& ((a2 &&& a3) ^^^ (-1 : Int32))) = 0 then
    (f_J6_bitCount_0f7a4 s1.2.2).bind fun r3 : Int32 =>
      if (w.1 20 0) < r3 then
      some (.inl (s1.1, s1.2.1, s1.2.2 + (1 : Int32)))
    else
      z_let (a2 &&& (s1.2.2 ^^^ (-1 : Int32))) fun y4 =>
        if z_in y4 64 then
        if z_in (a1 + (1 : Int32)) 13 then
        if z_in y4 64 then
        z_let ((w.1 51 y4.toNatClampNeg) + (w.1 (25 + (a1 + (1 : Int32)).toNatClampNeg) y4.toNatClampNeg)) fun y6 =>
        if s1.1 ≤ y6 then
        some (.inl (s1.1, s1.2.1, s1.2.2 + (1 : Int32)))
      else
        some (.inl (y6, s1.2.2, s1.2.2 + (1 : Int32)))
      else none
      else none
      else none
  else
    some (.inl (s1.1, s1.2.1, s1.2.2 + (1 : Int32)))
def f_X3_chooseBest (w : ZW) (a1 : Int32) (a2 : Int32) (a3 : Int32) : Option (ZW) :=
  (z_iter (f_X3_chooseBest_L10 a2 a3 w a1) z_fuel ((1000000 : Int32), (0 : Int32), (0 : Int32))).bind (fun q2 : Int32 × Int32 =>
  if z_in a1 13 then
  if z_in a2 64 then
  z_let (z_upI w (25 + a1.toNatClampNeg) a2.toNatClampNeg q2.1) fun w8 =>
  if z_in a1 12 then
  if z_in a2 64 then
  z_let (z_upI w8 (39 + a1.toNatClampNeg) a2.toNatClampNeg q2.2) fun w10 =>
  some w10
else none
else none
else none
else none)
set_option maxHeartbeats 4000000 in
set_option maxRecDepth 100000 in
theorem c_X3_chooseBest (G : ZG) (l : Launch) (d : Nat) (hd : 2 ≤ d) (w : ZW) (a1 : Int32) (a2 : Int32) (a3 : Int32) : ∀ o, f_X3_chooseBest w a1 a2 a3 = some o → zM G l d yX3_chooseBest cX3_chooseBest 9 none [.ref (G.1 20), .int a1, .int a2, .int a3] w none o := by
  intro o ho
  refine zM.of [(0, .ref (G.1 20)), (1, .int a1), (2, .int a2), (3, .int a3)] (by decide) (Nat.le_of_ble_eq_true rfl) rfl ?_
  refine (?_ : zR G l d "LoveLocks$Nights" cX3_chooseBest 9 none none o (fun x => x = o) 0 [(0, .ref (G.1 20)), (1, .int a1), (2, .int a2), (3, .int a3)] [] w (f_X3_chooseBest w a1 a2 a3)) o ho rfl
  rw [f_X3_chooseBest]
  refine r_ldc 2 dX3_chooseBest_0 rfl wk_X3_52 ?_
  refine r_istore 4 [(4, .int (1000000 : Int32)), (0, .ref (G.1 20)), (1, .int a1), (2, .int a2), (3, .int a3)] dX3_chooseBest_2 rfl (by decide) rfl ?_
  refine r_iconst 5 dX3_chooseBest_4 rfl zci_0 ?_
  refine r_istore 7 [(5, .int (0 : Int32)), (4, .int (1000000 : Int32)), (0, .ref (G.1 20)), (1, .int a1), (2, .int a2), (3, .int a3)] dX3_chooseBest_5 rfl (by decide) rfl ?_
  refine r_iconst 8 dX3_chooseBest_7 rfl zci_0 ?_
  refine r_istore 10 [(6, .int (0 : Int32)), (5, .int (0 : Int32)), (4, .int (1000000 : Int32)), (0, .ref (G.1 20)), (1, .int a1), (2, .int a2), (3, .int a3)] dX3_chooseBest_8 rfl (by decide) rfl ?_
  refine r_loopE [3, 4, 5, 6, 2, 1, 0] (fun s1 => [(0, .ref (G.1 20)), (1, .int a1), (2, .int a2), (3, .int a3), (4, .int s1.1), (5, .int s1.2.1), (6, .int s1.2.2)]) (fun s1 => w) 89 (fun q2 => [(0, .ref (G.1 20)), (1, .int a1), (2, .int a2), (4, .int q2.1), (5, .int q2.2)]) (fun q2 => w) rfl rfl (fun s1 => ?_) (fun q2 => ?_)
  · rw [f_X3_chooseBest_L10]
    refine r_iload 12 dX3_chooseBest_10 rfl 6 rfl ?_
    refine r_iload_n 13 dX3_chooseBest_12 rfl 2 rfl rfl ?_
    refine r_icmp_gt 89 16 dX3_chooseBest_13 (by decide) rfl ?_ ?_
    · exact r_leaf [0, 1, 2, 4, 5] (lv2 := [(0, .ref (G.1 20)), (1, .int a1), (2, .int a2), (4, .int s1.1), (5, .int s1.2.1)]) rfl (fun h => h)
    · refine r_iload 18 dX3_chooseBest_16 rfl 6 rfl ?_
      refine r_iload_n 19 dX3_chooseBest_18 rfl 2 rfl rfl ?_
      refine r_iload_n 20 dX3_chooseBest_19 rfl 3 rfl rfl ?_
      refine r_iand 21 dX3_chooseBest_20 rfl ?_
      refine r_iconst 22 dX3_chooseBest_21 rfl zci_m1 ?_
      refine r_ixor 23 dX3_chooseBest_22 rfl ?_
      refine r_iand 24 dX3_chooseBest_23 rfl ?_
      refine r_if_ne 83 27 dX3_chooseBest_24 (by decide) rfl ?_ ?_
      · refine r_iinc 86 6 [(6, .int (s1.2.2 + (1 : Int32))), (0, .ref (G.1 20)), (1, .int a1), (2, .int a2), (3, .int a3), (4, .int s1.1), (5, .int s1.2.1)] dX3_chooseBest_83 rfl rfl zci_1 (by decide) rfl ?_
        refine r_goto 10 dX3_chooseBest_86 (by decide) ?_
        exact r_leaf [1, 2, 3, 4, 5, 6, 0] (lv2 := [(0, .ref (G.1 20)), (1, .int a1), (2, .int a2), (3, .int a3), (4, .int s1.1), (5, .int s1.2.1), (6, .int (s1.2.2 + (1 : Int32)))]) rfl (fun h => h)
      · refine r_iload 29 dX3_chooseBest_27 rfl 6 rfl ?_
        refine r_callSi 32 1 [.int s1.2.2] (st := []) dX3_chooseBest_29 rfl rfl (fun r h => c_J6_bitCount_0f7a4 G l (d - 1) (by omega) w s1.2.2 r h) wc_J6_bitCount_0f7a4 wz_J6 wl_X3_71 wst_J6_bitCount_0f7a4 zd_J6_bitCount_0f7a4 (by decide) (by omega) rfl (Nat.le_of_ble_eq_true rfl) (fun r3 => ?_)
        refine r_aload_n 33 dX3_chooseBest_32 rfl 0 rfl rfl ?_
        refine r_get 36 20 0 dX3_chooseBest_33 rfl zl_20 (ce_20 G _) rfl inz3 (by decide) wf_X3_9 rfl ?_
        refine r_icmp_gt 83 39 dX3_chooseBest_36 (by decide) rfl ?_ ?_
        · refine r_iinc 86 6 [(6, .int (s1.2.2 + (1 : Int32))), (0, .ref (G.1 20)), (1, .int a1), (2, .int a2), (3, .int a3), (4, .int s1.1), (5, .int s1.2.1)] dX3_chooseBest_83 rfl rfl zci_1 (by decide) rfl ?_
          refine r_goto 10 dX3_chooseBest_86 (by decide) ?_
          exact r_leaf [1, 2, 3, 4, 5, 6, 0] (lv2 := [(0, .ref (G.1 20)), (1, .int a1), (2, .int a2), (3, .int a3), (4, .int s1.1), (5, .int s1.2.1), (6, .int (s1.2.2 + (1 : Int32)))]) rfl (fun h => h)
        · refine r_iload_n 40 dX3_chooseBest_39 rfl 2 rfl rfl ?_
          refine r_iload 42 dX3_chooseBest_40 rfl 6 rfl ?_
          refine r_iconst 43 dX3_chooseBest_42 rfl zci_m1 ?_
          refine r_ixor 44 dX3_chooseBest_43 rfl ?_
          refine r_iand 45 dX3_chooseBest_44 rfl ?_
          refine r_topi (fun y4 => ?_)
          refine r_istore 47 [(7, .int y4), (0, .ref (G.1 20)), (1, .int a1), (2, .int a2), (3, .int a3), (4, .int s1.1), (5, .int s1.2.1), (6, .int s1.2.2)] dX3_chooseBest_45 rfl (by decide) rfl ?_
          refine r_aload_n 48 dX3_chooseBest_47 rfl 1 rfl rfl ?_
          refine r_get 51 20 6 dX3_chooseBest_48 rfl zl_20 (ce_20 G _) rfl inz3 (by decide) wf_X3_33 rfl ?_
          refine r_iload 53 dX3_chooseBest_51 rfl 0 rfl ?_
          refine r_iald 54 51 64 dX3_chooseBest_53 rfl zl_51 (ce_51 G _) ?_
          refine r_aload_n 55 dX3_chooseBest_54 rfl 1 rfl rfl ?_
          refine r_get 58 20 4 dX3_chooseBest_55 rfl zl_20 (ce_20 G _) rfl inz3 (by decide) wf_X3_27 rfl ?_
          refine r_iload_n 59 dX3_chooseBest_58 rfl 2 rfl rfl ?_
          refine r_iconst 60 dX3_chooseBest_59 rfl zci_1 ?_
          refine r_iadd 61 dX3_chooseBest_60 rfl ?_
          refine r_aald 62 24 13 25 dX3_chooseBest_61 rfl zl_24 (ce_24 G _) (fun hq5 => ?_)
          refine r_iload 64 dX3_chooseBest_62 rfl 0 rfl ?_
          refine r_iald 65 (25 + (a1 + (1 : Int32)).toNatClampNeg) 64 dX3_chooseBest_64 rfl (zrl_25 (z_in_lt hq5)) (zrow_25 G _ _ (z_in_lt hq5)) ?_
          refine r_iadd 66 dX3_chooseBest_65 rfl ?_
          refine r_topi (fun y6 => ?_)
          refine r_istore 68 [(8, .int y6), (7, .int y4), (0, .ref (G.1 20)), (1, .int a1), (2, .int a2), (3, .int a3), (4, .int s1.1), (5, .int s1.2.1), (6, .int s1.2.2)] dX3_chooseBest_66 rfl (by decide) rfl ?_
          refine r_iload 70 dX3_chooseBest_68 rfl 0 rfl ?_
          refine r_iload 72 dX3_chooseBest_70 rfl 6 rfl ?_
          refine r_icmp_ge 83 75 dX3_chooseBest_72 (by decide) rfl ?_ ?_
          · refine r_iinc 86 8 [(6, .int (s1.2.2 + (1 : Int32))), (8, .int y6), (7, .int y4), (0, .ref (G.1 20)), (1, .int a1), (2, .int a2), (3, .int a3), (4, .int s1.1), (5, .int s1.2.1)] dX3_chooseBest_83 rfl rfl zci_1 (by decide) rfl ?_
            refine r_goto 10 dX3_chooseBest_86 (by decide) ?_
            exact r_leaf [3, 4, 5, 6, 7, 8, 0] (lv2 := [(0, .ref (G.1 20)), (1, .int a1), (2, .int a2), (3, .int a3), (4, .int s1.1), (5, .int s1.2.1), (6, .int (s1.2.2 + (1 : Int32)))]) rfl (fun h => h)
          · refine r_iload 77 dX3_chooseBest_75 rfl 0 rfl ?_
            refine r_istore 79 [(4, .int y6), (8, .int y6), (7, .int y4), (0, .ref (G.1 20)), (1, .int a1), (2, .int a2), (3, .int a3), (5, .int s1.2.1), (6, .int s1.2.2)] dX3_chooseBest_77 rfl (by decide) rfl ?_
            refine r_iload 81 dX3_chooseBest_79 rfl 8 rfl ?_
            refine r_istore 83 [(5, .int s1.2.2), (4, .int y6), (8, .int y6), (7, .int y4), (0, .ref (G.1 20)), (1, .int a1), (2, .int a2), (3, .int a3), (6, .int s1.2.2)] dX3_chooseBest_81 rfl (by decide) rfl ?_
            refine r_iinc 86 8 [(6, .int (s1.2.2 + (1 : Int32))), (5, .int s1.2.2), (4, .int y6), (8, .int y6), (7, .int y4), (0, .ref (G.1 20)), (1, .int a1), (2, .int a2), (3, .int a3)] dX3_chooseBest_83 rfl rfl zci_1 (by decide) rfl ?_
            refine r_goto 10 dX3_chooseBest_86 (by decide) ?_
            exact r_leaf [5, 6, 7, 8, 2, 1, 0] (lv2 := [(0, .ref (G.1 20)), (1, .int a1), (2, .int a2), (3, .int a3), (4, .int y6), (5, .int s1.2.2), (6, .int (s1.2.2 + (1 : Int32)))]) rfl (fun h => h)
  · refine r_aload_n 90 dX3_chooseBest_89 rfl 0 rfl rfl ?_
    refine r_get 93 20 4 dX3_chooseBest_90 rfl zl_20 (ce_20 G _) rfl inz3 (by decide) wf_X3_27 rfl ?_
    refine r_iload_n 94 dX3_chooseBest_93 rfl 1 rfl rfl ?_
    refine r_aald 95 24 13 25 dX3_chooseBest_94 rfl zl_24 (ce_24 G _) (fun hq7 => ?_)
    refine r_iload_n 96 dX3_chooseBest_95 rfl 2 rfl rfl ?_
    refine r_iload 98 dX3_chooseBest_96 rfl 3 rfl ?_
    refine r_iast 99 (25 + a1.toNatClampNeg) 64 dX3_chooseBest_98 rfl (zrl_25 (z_in_lt hq7)) (fun w => zrow_25 G w _ (z_in_lt hq7)) ?_
    refine r_topw (fun w8 => ?_)
    refine r_aload_n 100 dX3_chooseBest_99 rfl 0 rfl rfl ?_
    refine r_get 103 20 5 dX3_chooseBest_100 rfl zl_20 (ce_20 G _) rfl inz3 (by decide) wf_X3_30 rfl ?_
    refine r_iload_n 104 dX3_chooseBest_103 rfl 1 rfl rfl ?_
    refine r_aald 105 38 12 39 dX3_chooseBest_104 rfl zl_38 (ce_38 G _) (fun hq9 => ?_)
    refine r_iload_n 106 dX3_chooseBest_105 rfl 2 rfl rfl ?_
    refine r_iload 108 dX3_chooseBest_106 rfl 4 rfl ?_
    refine r_iast 109 (39 + a1.toNatClampNeg) 64 dX3_chooseBest_108 rfl (zrl_39 (z_in_lt hq9)) (fun w => zrow_39 G w _ (z_in_lt hq9)) ?_
    refine r_topw (fun w10 => ?_)
    exact r_vret dX3_chooseBest_109 rfl z_kvw
-- X3_followChoices
def f_X3_followChoices_L35 (y6 : Int32) (s3 : Int32 × Int32 × ZW) (s7 : Int32 × ZW) : Option ((Int32 × ZW) ⊕ (ZW)) :=
  if (6 : Int32) ≤ s7.1 then
  some (.inr s7.2)
else
  if ((y6 >>> (s7.1 &&& 31)) &&& (1 : Int32)) = 0 then
    some (.inl (s7.1 + (1 : Int32), s7.2))
  else
    if z_in s7.1 6 then
      z_let (z_upI s7.2 52 s7.1.toNatClampNeg s3.2.1) fun w9 =>
      some (.inl (s7.1 + (1 : Int32), w9))
    else none
def f_X3_followChoices_L16 (s3 : Int32 × Int32 × ZW) : Option ((Int32 × Int32 × ZW) ⊕ (ZW)) :=
  if (12 : Int32) ≤ s3.2.1 then
  some (.inr s3.2.2)
else
  if z_in s3.2.1 12 then
    if z_in s3.1 64 then
    z_let (s3.2.2.1 (39 + s3.2.1.toNatClampNeg) s3.1.toNatClampNeg) fun y6 =>
    (z_iter (f_X3_followChoices_L35 y6 s3) z_fuel ((0 : Int32), s3.2.2)).bind (fun q8 : ZW =>
    z_let (s3.1 &&& (y6 ^^^ (-1 : Int32))) fun y10 =>
    some (.inl (y10, s3.2.1 + (1 : Int32), q8)))
  else none
  else none
def f_X3_followChoices (w : ZW) (a1 : Int32) : Option (ZW) :=
  if z_in (0 : Int32) 13 then
  if z_in a1 64 then
  z_let (z_upI w 20 8 (w.1 (25 + (0 : Int32).toNatClampNeg) a1.toNatClampNeg)) fun w2 =>
  (z_iter (f_X3_followChoices_L16) z_fuel (a1, (0 : Int32), w2)).bind (fun q4 : ZW =>
  some q4)
else none
else none
set_option maxHeartbeats 4000000 in
set_option maxRecDepth 100000 in
theorem c_X3_followChoices (G : ZG) (l : Launch) (d : Nat) (hd : 1 ≤ d) (w : ZW) (a1 : Int32) : ∀ o, f_X3_followChoices w a1 = some o → zM G l d yX3_followChoices cX3_followChoices 6 none [.ref (G.1 20), .int a1] w none o := by
  intro o ho
  refine zM.of [(0, .ref (G.1 20)), (1, .int a1)] (by decide) (Nat.le_of_ble_eq_true rfl) rfl ?_
  refine (?_ : zR G l d "LoveLocks$Nights" cX3_followChoices 6 none none o (fun x => x = o) 0 [(0, .ref (G.1 20)), (1, .int a1)] [] w (f_X3_followChoices w a1)) o ho rfl
  rw [f_X3_followChoices]
  refine r_aload_n 1 dX3_followChoices_0 rfl 0 rfl rfl ?_
  refine r_aload_n 2 dX3_followChoices_1 rfl 0 rfl rfl ?_
  refine r_get 5 20 4 dX3_followChoices_2 rfl zl_20 (ce_20 G _) rfl inz3 (by decide) wf_X3_27 rfl ?_
  refine r_iconst 6 dX3_followChoices_5 rfl zci_0 ?_
  refine r_aald 7 24 13 25 dX3_followChoices_6 rfl zl_24 (ce_24 G _) (fun hq1 => ?_)
  refine r_iload_n 8 dX3_followChoices_7 rfl 1 rfl rfl ?_
  refine r_iald 9 (25 + (0 : Int32).toNatClampNeg) 64 dX3_followChoices_8 rfl (zrl_25 (z_in_lt hq1)) (zrow_25 G _ _ (z_in_lt hq1)) ?_
  refine r_puti 12 20 8 dX3_followChoices_9 rfl zl_20 (ce_20 G _) rfl inz3 tyX3_ok nmX3 (by decide) wf_X3_49 rfl rfl (Nat.le_of_ble_eq_true rfl) rfl ?_
  refine r_topw (fun w2 => ?_)
  refine r_iload_n 13 dX3_followChoices_12 rfl 1 rfl rfl ?_
  refine r_istore_n 14 [(2, .int a1), (0, .ref (G.1 20)), (1, .int a1)] dX3_followChoices_13 rfl rfl (by decide) rfl ?_
  refine r_iconst 15 dX3_followChoices_14 rfl zci_0 ?_
  refine r_istore_n 16 [(3, .int (0 : Int32)), (2, .int a1), (0, .ref (G.1 20)), (1, .int a1)] dX3_followChoices_15 rfl rfl (by decide) rfl ?_
  refine r_loopE [2, 1, 0] (fun s3 => [(0, .ref (G.1 20)), (2, .int s3.1), (3, .int s3.2.1)]) (fun s3 => s3.2.2) 79 (fun q4 => []) (fun q4 => q4) rfl rfl (fun s3 => ?_) (fun q4 => ?_)
  · rw [f_X3_followChoices_L16]
    refine r_iload_n 17 dX3_followChoices_16 rfl 2 rfl rfl ?_
    refine r_bipush 19 dX3_followChoices_17 rfl zcb_12 ?_
    refine r_icmp_ge 79 22 dX3_followChoices_19 (by decide) rfl ?_ ?_
    · exact r_leaf [] (lv2 := []) rfl (fun h => h)
    · refine r_aload_n 23 dX3_followChoices_22 rfl 0 rfl rfl ?_
      refine r_get 26 20 5 dX3_followChoices_23 rfl zl_20 (ce_20 G _) rfl inz3 (by decide) wf_X3_30 rfl ?_
      refine r_iload_n 27 dX3_followChoices_26 rfl 2 rfl rfl ?_
      refine r_aald 28 38 12 39 dX3_followChoices_27 rfl zl_38 (ce_38 G _) (fun hq5 => ?_)
      refine r_iload_n 29 dX3_followChoices_28 rfl 1 rfl rfl ?_
      refine r_iald 30 (39 + s3.2.1.toNatClampNeg) 64 dX3_followChoices_29 rfl (zrl_39 (z_in_lt hq5)) (zrow_39 G _ _ (z_in_lt hq5)) ?_
      refine r_topi (fun y6 => ?_)
      refine r_istore 32 [(4, .int y6), (0, .ref (G.1 20)), (2, .int s3.1), (3, .int s3.2.1)] dX3_followChoices_30 rfl (by decide) rfl ?_
      refine r_iconst 33 dX3_followChoices_32 rfl zci_0 ?_
      refine r_istore 35 [(5, .int (0 : Int32)), (4, .int y6), (0, .ref (G.1 20)), (2, .int s3.1), (3, .int s3.2.1)] dX3_followChoices_33 rfl (by decide) rfl ?_
      refine r_loopE [2, 3, 4, 1, 0] (fun s7 => [(0, .ref (G.1 20)), (2, .int s3.1), (3, .int s3.2.1), (4, .int y6), (5, .int s7.1)]) (fun s7 => s7.2) 66 (fun q8 => [(0, .ref (G.1 20)), (2, .int s3.1), (3, .int s3.2.1), (4, .int y6)]) (fun q8 => q8) rfl rfl (fun s7 => ?_) (fun q8 => ?_)
      · rw [f_X3_followChoices_L35]
        refine r_iload 37 dX3_followChoices_35 rfl 4 rfl ?_
        refine r_bipush 39 dX3_followChoices_37 rfl zcb_6 ?_
        refine r_icmp_ge 66 42 dX3_followChoices_39 (by decide) rfl ?_ ?_
        · exact r_leaf [0, 1, 2, 3] (lv2 := [(0, .ref (G.1 20)), (2, .int s3.1), (3, .int s3.2.1), (4, .int y6)]) rfl (fun h => h)
        · refine r_iload 44 dX3_followChoices_42 rfl 3 rfl ?_
          refine r_iload 46 dX3_followChoices_44 rfl 4 rfl ?_
          refine r_ishr 47 dX3_followChoices_46 rfl ?_
          refine r_iconst 48 dX3_followChoices_47 rfl zci_1 ?_
          refine r_iand 49 dX3_followChoices_48 rfl ?_
          refine r_if_eq 60 52 dX3_followChoices_49 (by decide) rfl ?_ ?_
          · refine r_iinc 63 4 [(5, .int (s7.1 + (1 : Int32))), (0, .ref (G.1 20)), (2, .int s3.1), (3, .int s3.2.1), (4, .int y6)] dX3_followChoices_60 rfl rfl zci_1 (by decide) rfl ?_
            refine r_goto 35 dX3_followChoices_63 (by decide) ?_
            exact r_leaf [1, 2, 3, 4, 0] (lv2 := [(0, .ref (G.1 20)), (2, .int s3.1), (3, .int s3.2.1), (4, .int y6), (5, .int (s7.1 + (1 : Int32)))]) rfl (fun h => h)
          · refine r_aload_n 53 dX3_followChoices_52 rfl 0 rfl rfl ?_
            refine r_get 56 20 7 dX3_followChoices_53 rfl zl_20 (ce_20 G _) rfl inz3 (by decide) wf_X3_36 rfl ?_
            refine r_iload 58 dX3_followChoices_56 rfl 4 rfl ?_
            refine r_iload_n 59 dX3_followChoices_58 rfl 2 rfl rfl ?_
            refine r_iast 60 52 6 dX3_followChoices_59 rfl zl_52 (ce_52 G) ?_
            refine r_topw (fun w9 => ?_)
            refine r_iinc 63 4 [(5, .int (s7.1 + (1 : Int32))), (0, .ref (G.1 20)), (2, .int s3.1), (3, .int s3.2.1), (4, .int y6)] dX3_followChoices_60 rfl rfl zci_1 (by decide) rfl ?_
            refine r_goto 35 dX3_followChoices_63 (by decide) ?_
            exact r_leaf [1, 2, 3, 4, 0] (lv2 := [(0, .ref (G.1 20)), (2, .int s3.1), (3, .int s3.2.1), (4, .int y6), (5, .int (s7.1 + (1 : Int32)))]) rfl (fun h => h)
      · refine r_iload_n 67 dX3_followChoices_66 rfl 1 rfl rfl ?_
        refine r_iload 69 dX3_followChoices_67 rfl 3 rfl ?_
        refine r_iconst 70 dX3_followChoices_69 rfl zci_m1 ?_
        refine r_ixor 71 dX3_followChoices_70 rfl ?_
        refine r_iand 72 dX3_followChoices_71 rfl ?_
        refine r_topi (fun y10 => ?_)
        refine r_istore_n 73 [(2, .int y10), (0, .ref (G.1 20)), (3, .int s3.2.1), (4, .int y6)] dX3_followChoices_72 rfl rfl (by decide) rfl ?_
        refine r_iinc 76 2 [(3, .int (s3.2.1 + (1 : Int32))), (2, .int y10), (0, .ref (G.1 20)), (4, .int y6)] dX3_followChoices_73 rfl rfl zci_1 (by decide) rfl ?_
        refine r_goto 16 dX3_followChoices_76 (by decide) ?_
        exact r_leaf [2, 1, 0] (lv2 := [(0, .ref (G.1 20)), (2, .int y10), (3, .int (s3.2.1 + (1 : Int32)))]) rfl (fun h => h)
  · exact r_vret dX3_followChoices_79 rfl z_kvw
-- X3_plan
def f_X3_plan_L39 (a1 : Int32) (s6 : Int32 × ZW) (s8 : Int32 × Int32) : Option ((Int32 × Int32) ⊕ (Int32)) :=
  if a1 ≤ s8.2 then
  some (.inr s8.1)
else
  if z_in s8.2 6 then
    if s6.1 < (s6.2.1 23 s8.2.toNatClampNeg) then
    some (.inl (s8.1 ||| (0 : Int32), s8.2 + (1 : Int32)))
  else
    z_let (s8.1 ||| ((1 : Int32) <<< (s8.2 &&& 31))) fun y10 =>
      some (.inl (y10, s8.2 + (1 : Int32)))
  else none
def f_X3_plan_L78 (y1 : Int32) (s6 : Int32 × ZW) (s11 : Int32 × ZW) : Option ((Int32 × ZW) ⊕ (ZW)) :=
  if y1 ≤ s11.1 then
  some (.inr s11.2)
else
  (f_X3_costOfWaiting s11.2 s11.1 s6.1).bind fun r13 : Int32 =>
    if z_in s11.1 64 then
    z_let (z_upI s11.2 51 s11.1.toNatClampNeg r13) fun w14 =>
    some (.inl (s11.1 + (1 : Int32), w14))
  else none
def f_X3_plan_L107 (y1 : Int32) (s6 : Int32 × ZW) (q9 : Int32) (s15 : Int32 × ZW) : Option ((Int32 × ZW) ⊕ (ZW)) :=
  if y1 ≤ s15.1 then
  some (.inr s15.2)
else
  (f_X3_chooseBest s15.2 s6.1 s15.1 q9).bind fun r17 : ZW =>
    some (.inl (s15.1 + (1 : Int32), r17))
def f_X3_plan_L29 (a1 : Int32) (y1 : Int32) (s6 : Int32 × ZW) : Option ((Int32 × ZW) ⊕ (ZW)) :=
  if s6.1 < 0 then
  some (.inr s6.2)
else
  (z_iter (f_X3_plan_L39 a1 s6) z_fuel ((0 : Int32), (0 : Int32))).bind (fun q9 : Int32 =>
    (z_iter (f_X3_plan_L78 y1 s6) z_fuel ((0 : Int32), s6.2)).bind (fun q12 : ZW =>
    (z_iter (f_X3_plan_L107 y1 s6 q9) z_fuel ((0 : Int32), q12)).bind (fun q16 : ZW =>
    some (.inl (s6.1 + (-1 : Int32), q16)))))
def f_X3_plan (w : ZW) (a1 : Int32) : Option (ZW) :=
  z_let ((1 : Int32) <<< (a1 &&& 31)) fun y1 =>
  if z_in (12 : Int32) 13 then
  (f_J7_fill_53178 w (25 + (12 : Int32).toNatClampNeg) 64 (1000000 : Int32)).bind fun r3 : ZW =>
  if z_in (12 : Int32) 13 then
  if z_in (0 : Int32) 64 then
  z_let (z_upI r3 (25 + (12 : Int32).toNatClampNeg) (0 : Int32).toNatClampNeg (0 : Int32)) fun w5 =>
  (z_iter (f_X3_plan_L29 a1 y1) z_fuel ((11 : Int32), w5)).bind (fun q7 : ZW =>
  (f_X3_followChoices q7 (y1 - (1 : Int32))).bind fun r18 : ZW =>
  some r18)
else none
else none
else none
set_option maxHeartbeats 4000000 in
set_option maxRecDepth 100000 in
theorem c_X3_plan (G : ZG) (l : Launch) (d : Nat) (hd : 3 ≤ d) (w : ZW) (a1 : Int32) : ∀ o, f_X3_plan w a1 = some o → zM G l d yX3_plan cX3_plan 6 none [.ref (G.1 20), .int a1] w none o := by
  intro o ho
  refine zM.of [(0, .ref (G.1 20)), (1, .int a1)] (by decide) (Nat.le_of_ble_eq_true rfl) rfl ?_
  refine (?_ : zR G l d "LoveLocks$Nights" cX3_plan 6 none none o (fun x => x = o) 0 [(0, .ref (G.1 20)), (1, .int a1)] [] w (f_X3_plan w a1)) o ho rfl
  rw [f_X3_plan]
  refine r_iconst 1 dX3_plan_0 rfl zci_1 ?_
  refine r_iload_n 2 dX3_plan_1 rfl 1 rfl rfl ?_
  refine r_ishl 3 dX3_plan_2 rfl ?_
  refine r_topi (fun y1 => ?_)
  refine r_istore_n 4 [(2, .int y1), (0, .ref (G.1 20)), (1, .int a1)] dX3_plan_3 rfl rfl (by decide) rfl ?_
  refine r_aload_n 5 dX3_plan_4 rfl 1 rfl rfl ?_
  refine r_get 8 20 4 dX3_plan_5 rfl zl_20 (ce_20 G _) rfl inz3 (by decide) wf_X3_27 rfl ?_
  refine r_bipush 10 dX3_plan_8 rfl zcb_12 ?_
  refine r_aald 11 24 13 25 dX3_plan_10 rfl zl_24 (ce_24 G _) (fun hq2 => ?_)
  refine r_ldc 13 dX3_plan_11 rfl wk_X3_52 ?_
  refine r_callSvw 16 2 [.ref (G.1 (25 + (12 : Int32).toNatClampNeg)), .int (1000000 : Int32)] (st := []) dX3_plan_13 rfl rfl (fun r h => c_J7_fill_53178 G l (d - 1) (by omega) w (25 + (12 : Int32).toNatClampNeg) 64 (1000000 : Int32) (zrl_25 (z_in_lt hq2)) (fun w => zrow_25 G w _ (z_in_lt hq2)) r h) wc_J7_fill_53178 wz_J7 wl_X3_53 wst_J7_fill_53178 zd_J7_fill_53178 (by decide) (by omega) rfl (Nat.le_of_ble_eq_true rfl) (fun r3 => ?_)
  refine r_aload_n 17 dX3_plan_16 rfl 1 rfl rfl ?_
  refine r_get 20 20 4 dX3_plan_17 rfl zl_20 (ce_20 G _) rfl inz3 (by decide) wf_X3_27 rfl ?_
  refine r_bipush 22 dX3_plan_20 rfl zcb_12 ?_
  refine r_aald 23 24 13 25 dX3_plan_22 rfl zl_24 (ce_24 G _) (fun hq4 => ?_)
  refine r_iconst 24 dX3_plan_23 rfl zci_0 ?_
  refine r_iconst 25 dX3_plan_24 rfl zci_0 ?_
  refine r_iast 26 (25 + (12 : Int32).toNatClampNeg) 64 dX3_plan_25 rfl (zrl_25 (z_in_lt hq4)) (fun w => zrow_25 G w _ (z_in_lt hq4)) ?_
  refine r_topw (fun w5 => ?_)
  refine r_bipush 28 dX3_plan_26 rfl zcb_11 ?_
  refine r_istore_n 29 [(3, .int (11 : Int32)), (2, .int y1), (0, .ref (G.1 20)), (1, .int a1)] dX3_plan_28 rfl rfl (by decide) rfl ?_
  refine r_loopE [2, 3, 1, 0] (fun s6 => [(0, .ref (G.1 20)), (1, .int a1), (2, .int y1), (3, .int s6.1)]) (fun s6 => s6.2) 134 (fun q7 => [(0, .ref (G.1 20)), (2, .int y1)]) (fun q7 => q7) rfl rfl (fun s6 => ?_) (fun q7 => ?_)
  · rw [f_X3_plan_L29]
    refine r_iload_n 30 dX3_plan_29 rfl 3 rfl rfl ?_
    refine r_if_lt 134 33 dX3_plan_30 (by decide) rfl ?_ ?_
    · exact r_leaf [0, 2] (lv2 := [(0, .ref (G.1 20)), (2, .int y1)]) rfl (fun h => h)
    · refine r_iconst 34 dX3_plan_33 rfl zci_0 ?_
      refine r_istore 36 [(4, .int (0 : Int32)), (0, .ref (G.1 20)), (1, .int a1), (2, .int y1), (3, .int s6.1)] dX3_plan_34 rfl (by decide) rfl ?_
      refine r_iconst 37 dX3_plan_36 rfl zci_0 ?_
      refine r_istore 39 [(5, .int (0 : Int32)), (4, .int (0 : Int32)), (0, .ref (G.1 20)), (1, .int a1), (2, .int y1), (3, .int s6.1)] dX3_plan_37 rfl (by decide) rfl ?_
      refine r_loopE [2, 3, 4, 5, 1, 0] (fun s8 => [(0, .ref (G.1 20)), (1, .int a1), (2, .int y1), (3, .int s6.1), (4, .int s8.1), (5, .int s8.2)]) (fun s8 => s6.2) 75 (fun q9 => [(0, .ref (G.1 20)), (1, .int a1), (2, .int y1), (3, .int s6.1), (4, .int q9)]) (fun q9 => s6.2) rfl rfl (fun s8 => ?_) (fun q9 => ?_)
      · rw [f_X3_plan_L39]
        refine r_iload 41 dX3_plan_39 rfl 5 rfl ?_
        refine r_iload_n 42 dX3_plan_41 rfl 1 rfl rfl ?_
        refine r_icmp_ge 75 45 dX3_plan_42 (by decide) rfl ?_ ?_
        · exact r_leaf [0, 1, 2, 3, 4] (lv2 := [(0, .ref (G.1 20)), (1, .int a1), (2, .int y1), (3, .int s6.1), (4, .int s8.1)]) rfl (fun h => h)
        · refine r_iload 47 dX3_plan_45 rfl 4 rfl ?_
          refine r_aload_n 48 dX3_plan_47 rfl 0 rfl rfl ?_
          refine r_get 51 20 3 dX3_plan_48 rfl zl_20 (ce_20 G _) rfl inz3 (by decide) wf_X3_22 rfl ?_
          refine r_iload 53 dX3_plan_51 rfl 5 rfl ?_
          refine r_iald 54 23 6 dX3_plan_53 rfl zl_23 (ce_23 G _) ?_
          refine r_iload_n 55 dX3_plan_54 rfl 3 rfl rfl ?_
          refine r_icmp_gt 65 58 dX3_plan_55 (by decide) rfl ?_ ?_
          · refine r_iconst 66 dX3_plan_65 rfl zci_0 ?_
            refine r_ior 67 dX3_plan_66 rfl ?_
            refine r_istore 69 [(4, .int (s8.1 ||| (0 : Int32))), (0, .ref (G.1 20)), (1, .int a1), (2, .int y1), (3, .int s6.1), (5, .int s8.2)] dX3_plan_67 rfl (by decide) rfl ?_
            refine r_iinc 72 5 [(5, .int (s8.2 + (1 : Int32))), (4, .int (s8.1 ||| (0 : Int32))), (0, .ref (G.1 20)), (1, .int a1), (2, .int y1), (3, .int s6.1)] dX3_plan_69 rfl rfl zci_1 (by decide) rfl ?_
            refine r_goto 39 dX3_plan_72 (by decide) ?_
            exact r_leaf [2, 3, 4, 5, 1, 0] (lv2 := [(0, .ref (G.1 20)), (1, .int a1), (2, .int y1), (3, .int s6.1), (4, .int (s8.1 ||| (0 : Int32))), (5, .int (s8.2 + (1 : Int32)))]) rfl (fun h => h)
          · refine r_iconst 59 dX3_plan_58 rfl zci_1 ?_
            refine r_iload 61 dX3_plan_59 rfl 5 rfl ?_
            refine r_ishl 62 dX3_plan_61 rfl ?_
            refine r_goto 66 dX3_plan_62 (by decide) ?_
            refine r_ior 67 dX3_plan_66 rfl ?_
            refine r_topi (fun y10 => ?_)
            refine r_istore 69 [(4, .int y10), (0, .ref (G.1 20)), (1, .int a1), (2, .int y1), (3, .int s6.1), (5, .int s8.2)] dX3_plan_67 rfl (by decide) rfl ?_
            refine r_iinc 72 5 [(5, .int (s8.2 + (1 : Int32))), (4, .int y10), (0, .ref (G.1 20)), (1, .int a1), (2, .int y1), (3, .int s6.1)] dX3_plan_69 rfl rfl zci_1 (by decide) rfl ?_
            refine r_goto 39 dX3_plan_72 (by decide) ?_
            exact r_leaf [2, 3, 4, 5, 1, 0] (lv2 := [(0, .ref (G.1 20)), (1, .int a1), (2, .int y1), (3, .int s6.1), (4, .int y10), (5, .int (s8.2 + (1 : Int32)))]) rfl (fun h => h)
      · refine r_iconst 76 dX3_plan_75 rfl zci_0 ?_
        refine r_istore 78 [(5, .int (0 : Int32)), (0, .ref (G.1 20)), (1, .int a1), (2, .int y1), (3, .int s6.1), (4, .int q9)] dX3_plan_76 rfl (by decide) rfl ?_
        refine r_loopE [1, 2, 3, 4, 5, 0] (fun s11 => [(0, .ref (G.1 20)), (1, .int a1), (2, .int y1), (3, .int s6.1), (4, .int q9), (5, .int s11.1)]) (fun s11 => s11.2) 104 (fun q12 => [(0, .ref (G.1 20)), (1, .int a1), (2, .int y1), (3, .int s6.1), (4, .int q9)]) (fun q12 => q12) rfl rfl (fun s11 => ?_) (fun q12 => ?_)
        · rw [f_X3_plan_L78]
          refine r_iload 80 dX3_plan_78 rfl 5 rfl ?_
          refine r_iload_n 81 dX3_plan_80 rfl 2 rfl rfl ?_
          refine r_icmp_ge 104 84 dX3_plan_81 (by decide) rfl ?_ ?_
          · exact r_leaf [0, 1, 2, 3, 4] (lv2 := [(0, .ref (G.1 20)), (1, .int a1), (2, .int y1), (3, .int s6.1), (4, .int q9)]) rfl (fun h => h)
          · refine r_aload_n 85 dX3_plan_84 rfl 0 rfl rfl ?_
            refine r_get 88 20 6 dX3_plan_85 rfl zl_20 (ce_20 G _) rfl inz3 (by decide) wf_X3_33 rfl ?_
            refine r_iload 90 dX3_plan_88 rfl 5 rfl ?_
            refine r_aload_n 91 dX3_plan_90 rfl 0 rfl rfl ?_
            refine r_iload 93 dX3_plan_91 rfl 5 rfl ?_
            refine r_iload_n 94 dX3_plan_93 rfl 3 rfl rfl ?_
            refine r_callVi 97 2 (ko := 20) [.int s11.1, .int s6.1] (st := [.int s11.1, .ref (G.1 51)]) dX3_plan_94 rfl rfl (fun r h => c_X3_costOfWaiting G l (d - 1) (by omega) s11.2 s11.1 s6.1 r h) zl_20 (ce_20 G _) rfl rfl wc_X3_costOfWaiting wz_X3 wl_X3_59 wi_X3_costOfWaiting ws_X3_costOfWaiting zd_X3_costOfWaiting (by decide) (by omega) rfl (Nat.le_of_ble_eq_true rfl) (fun r13 => ?_)
            refine r_iast 98 51 64 dX3_plan_97 rfl zl_51 (ce_51 G) ?_
            refine r_topw (fun w14 => ?_)
            refine r_iinc 101 5 [(5, .int (s11.1 + (1 : Int32))), (0, .ref (G.1 20)), (1, .int a1), (2, .int y1), (3, .int s6.1), (4, .int q9)] dX3_plan_98 rfl rfl zci_1 (by decide) rfl ?_
            refine r_goto 78 dX3_plan_101 (by decide) ?_
            exact r_leaf [1, 2, 3, 4, 5, 0] (lv2 := [(0, .ref (G.1 20)), (1, .int a1), (2, .int y1), (3, .int s6.1), (4, .int q9), (5, .int (s11.1 + (1 : Int32)))]) rfl (fun h => h)
        · refine r_iconst 105 dX3_plan_104 rfl zci_0 ?_
          refine r_istore 107 [(5, .int (0 : Int32)), (0, .ref (G.1 20)), (1, .int a1), (2, .int y1), (3, .int s6.1), (4, .int q9)] dX3_plan_105 rfl (by decide) rfl ?_
          refine r_loopE [1, 2, 3, 4, 5, 0] (fun s15 => [(0, .ref (G.1 20)), (1, .int a1), (2, .int y1), (3, .int s6.1), (4, .int q9), (5, .int s15.1)]) (fun s15 => s15.2) 128 (fun q16 => [(0, .ref (G.1 20)), (1, .int a1), (2, .int y1), (3, .int s6.1)]) (fun q16 => q16) rfl rfl (fun s15 => ?_) (fun q16 => ?_)
          · rw [f_X3_plan_L107]
            refine r_iload 109 dX3_plan_107 rfl 5 rfl ?_
            refine r_iload_n 110 dX3_plan_109 rfl 2 rfl rfl ?_
            refine r_icmp_ge 128 113 dX3_plan_110 (by decide) rfl ?_ ?_
            · exact r_leaf [0, 1, 2, 3] (lv2 := [(0, .ref (G.1 20)), (1, .int a1), (2, .int y1), (3, .int s6.1)]) rfl (fun h => h)
            · refine r_aload_n 114 dX3_plan_113 rfl 0 rfl rfl ?_
              refine r_iload_n 115 dX3_plan_114 rfl 3 rfl rfl ?_
              refine r_iload 117 dX3_plan_115 rfl 5 rfl ?_
              refine r_iload 119 dX3_plan_117 rfl 4 rfl ?_
              refine r_callVvw 122 3 (ko := 20) [.int s6.1, .int s15.1, .int q9] (st := []) dX3_plan_119 rfl rfl (fun r h => c_X3_chooseBest G l (d - 1) (by omega) s15.2 s6.1 s15.1 q9 r h) zl_20 (ce_20 G _) rfl rfl wc_X3_chooseBest wz_X3 wl_X3_63 wi_X3_chooseBest ws_X3_chooseBest zd_X3_chooseBest (by decide) (by omega) rfl (Nat.le_of_ble_eq_true rfl) (fun r17 => ?_)
              refine r_iinc 125 5 [(5, .int (s15.1 + (1 : Int32))), (0, .ref (G.1 20)), (1, .int a1), (2, .int y1), (3, .int s6.1), (4, .int q9)] dX3_plan_122 rfl rfl zci_1 (by decide) rfl ?_
              refine r_goto 107 dX3_plan_125 (by decide) ?_
              exact r_leaf [1, 2, 3, 4, 5, 0] (lv2 := [(0, .ref (G.1 20)), (1, .int a1), (2, .int y1), (3, .int s6.1), (4, .int q9), (5, .int (s15.1 + (1 : Int32)))]) rfl (fun h => h)
          · refine r_iinc 131 3 [(3, .int (s6.1 + (-1 : Int32))), (0, .ref (G.1 20)), (1, .int a1), (2, .int y1)] dX3_plan_128 rfl rfl zci_m1 (by decide) rfl ?_
            refine r_goto 29 dX3_plan_131 (by decide) ?_
            exact r_leaf [1, 2, 3, 0] (lv2 := [(0, .ref (G.1 20)), (1, .int a1), (2, .int y1), (3, .int (s6.1 + (-1 : Int32)))]) rfl (fun h => h)
  · refine r_aload_n 135 dX3_plan_134 rfl 0 rfl rfl ?_
    refine r_iload_n 136 dX3_plan_135 rfl 1 rfl rfl ?_
    refine r_iconst 137 dX3_plan_136 rfl zci_1 ?_
    refine r_isub 138 dX3_plan_137 rfl ?_
    refine r_callVvw 141 1 (ko := 20) [.int (y1 - (1 : Int32))] (st := []) dX3_plan_138 rfl rfl (fun r h => c_X3_followChoices G l (d - 1) (by omega) q7 (y1 - (1 : Int32)) r h) zl_20 (ce_20 G _) rfl rfl wc_X3_followChoices wz_X3 wl_X3_67 wi_X3_followChoices ws_X3_followChoices zd_X3_followChoices (by decide) (by omega) rfl (Nat.le_of_ble_eq_true rfl) (fun r18 => ?_)
    exact r_vret dX3_plan_141 rfl z_kvw
-- X3_nightOf
def f_X3_nightOf (w : ZW) (a1 : Int32) : Option (Int32) :=
  if z_in a1 6 then
  some (w.1 52 a1.toNatClampNeg)
else none
set_option maxHeartbeats 4000000 in
set_option maxRecDepth 100000 in
theorem c_X3_nightOf (G : ZG) (l : Launch) (d : Nat) (hd : 1 ≤ d) (w : ZW) (a1 : Int32) : ∀ o, f_X3_nightOf w a1 = some o → zM G l d yX3_nightOf cX3_nightOf 2 (some .int) [.ref (G.1 20), .int a1] w (some (.int o)) w := by
  intro o ho
  refine zM.of [(0, .ref (G.1 20)), (1, .int a1)] (by decide) (Nat.le_of_ble_eq_true rfl) rfl ?_
  refine (?_ : zR G l d "LoveLocks$Nights" cX3_nightOf 2 (some .int) (some (.int o)) w (fun x => x = o) 0 [(0, .ref (G.1 20)), (1, .int a1)] [] w (f_X3_nightOf w a1)) o ho rfl
  rw [f_X3_nightOf]
  refine r_aload_n 1 dX3_nightOf_0 rfl 0 rfl rfl ?_
  refine r_get 4 20 7 dX3_nightOf_1 rfl zl_20 (ce_20 G _) rfl inz3 (by decide) wf_X3_36 rfl ?_
  refine r_iload_n 5 dX3_nightOf_4 rfl 1 rfl rfl ?_
  refine r_iald 6 52 6 dX3_nightOf_5 rfl zl_52 (ce_52 G _) ?_
  exact r_iret dX3_nightOf_6 rfl z_ki
-- X3_costInAll
def f_X3_costInAll (w : ZW) : Option (Int32) :=
  some (w.1 20 8)
set_option maxHeartbeats 4000000 in
set_option maxRecDepth 100000 in
theorem c_X3_costInAll (G : ZG) (l : Launch) (d : Nat) (hd : 1 ≤ d) (w : ZW) : ∀ o, f_X3_costInAll w = some o → zM G l d yX3_costInAll cX3_costInAll 1 (some .int) [.ref (G.1 20)] w (some (.int o)) w := by
  intro o ho
  refine zM.of [(0, .ref (G.1 20))] (by decide) (Nat.le_of_ble_eq_true rfl) rfl ?_
  refine (?_ : zR G l d "LoveLocks$Nights" cX3_costInAll 1 (some .int) (some (.int o)) w (fun x => x = o) 0 [(0, .ref (G.1 20))] [] w (f_X3_costInAll w)) o ho rfl
  rw [f_X3_costInAll]
  refine r_aload_n 1 dX3_costInAll_0 rfl 0 rfl rfl ?_
  refine r_get 4 20 8 dX3_costInAll_1 rfl zl_20 (ce_20 G _) rfl inz3 (by decide) wf_X3_49 rfl ?_
  exact r_iret dX3_costInAll_4 rfl z_ki
-- X11_order
def f_X11_order_J21 (a1 : Int32) (w1 : ZW) : Option (Int32 × ZW) :=
  if (w1.1 2 0) = 0 then
  some ((-2 : Int32), w1)
else
  (f_X3_plan w1 (w1.1 2 0)).bind fun r2 : ZW =>
    if a1 = (-1 : Int32) then
    (f_X3_costInAll r2).bind fun r4 : Int32 =>
      some (r4, r2)
  else
    (f_X3_nightOf r2 a1).bind fun r3 : Int32 =>
      some (r3, r2)
def f_X11_order (w : ZW) (a1 : Int32) : Option (Int32 × ZW) :=
  if a1 = (-1 : Int32) then
  f_X11_order_J21 a1 w
else
  (f_X4_hasPanel w a1).bind fun r5 : Int32 =>
    if r5 = 0 then
    some ((-1 : Int32), w)
  else
    f_X11_order_J21 a1 w
set_option maxHeartbeats 4000000 in
set_option maxRecDepth 100000 in
theorem c_X11_order (G : ZG) (l : Launch) (d : Nat) (hd : 4 ≤ d) (w : ZW) (a1 : Int32) : ∀ o, f_X11_order w a1 = some o → zM G l d yX11_order cX11_order 2 (some .int) [.ref (G.1 0), .int a1] w (some (.int o.1)) o.2 := by
  intro o ho
  refine zM.of [(0, .ref (G.1 0)), (1, .int a1)] (by decide) (Nat.le_of_ble_eq_true rfl) rfl ?_
  refine (?_ : zR G l d "LoveLocks" cX11_order 2 (some .int) (some (.int o.1)) o.2 (fun x => x = o) 0 [(0, .ref (G.1 0)), (1, .int a1)] [] w (f_X11_order w a1)) o ho rfl
  rw [f_X11_order]
  have hJ21 : ∀ (w1 : ZW), zR G l d "LoveLocks" cX11_order 2 (some .int) (some (.int o.1)) o.2 (fun x => x = o) 21 [(0, .ref (G.1 0)), (1, .int a1)] [] w1 (f_X11_order_J21 a1 w1) := by
    intro w1
    rw [f_X11_order_J21]
    refine r_aload_n 22 dX11_order_21 rfl 0 rfl rfl ?_
    refine r_get 25 0 0 dX11_order_22 rfl zl_0 (ce_0 G _) rfl inz11 (by decide) wf_X11_10 rfl ?_
    refine r_get 28 1 0 dX11_order_25 rfl zl_1 (ce_1 G _) rfl inz9 (by decide) wf_X11_59 rfl ?_
    refine r_get 31 2 0 dX11_order_28 rfl zl_2 (ce_2 G _) rfl inz4 (by decide) wf_X11_118 rfl ?_
    refine r_if_ne 37 34 dX11_order_31 (by decide) rfl ?_ ?_
    · refine r_aload_n 38 dX11_order_37 rfl 0 rfl rfl ?_
      refine r_get 41 0 0 dX11_order_38 rfl zl_0 (ce_0 G _) rfl inz11 (by decide) wf_X11_10 rfl ?_
      refine r_get 44 1 3 dX11_order_41 rfl zl_1 (ce_1 G _) rfl inz9 (by decide) wf_X11_220 rfl ?_
      refine r_aload_n 45 dX11_order_44 rfl 0 rfl rfl ?_
      refine r_get 48 0 0 dX11_order_45 rfl zl_0 (ce_0 G _) rfl inz11 (by decide) wf_X11_10 rfl ?_
      refine r_get 51 1 0 dX11_order_48 rfl zl_1 (ce_1 G _) rfl inz9 (by decide) wf_X11_59 rfl ?_
      refine r_get 54 2 0 dX11_order_51 rfl zl_2 (ce_2 G _) rfl inz4 (by decide) wf_X11_118 rfl ?_
      refine r_callVvw 57 1 (ko := 20) [.int (w1.1 2 0)] (st := []) dX11_order_54 rfl rfl (fun r h => c_X3_plan G l (d - 1) (by omega) w1 (w1.1 2 0) r h) zl_20 (ce_20 G _) rfl rfl wc_X3_plan wz_X3 wl_X11_232 wi_X3_plan ws_X3_plan zd_X3_plan (by decide) (by omega) rfl (Nat.le_of_ble_eq_true rfl) (fun r2 => ?_)
      refine r_iload_n 58 dX11_order_57 rfl 1 rfl rfl ?_
      refine r_iconst 59 dX11_order_58 rfl zci_m1 ?_
      refine r_icmp_ne 75 62 dX11_order_59 (by decide) rfl ?_ ?_
      · refine r_aload_n 76 dX11_order_75 rfl 0 rfl rfl ?_
        refine r_get 79 0 0 dX11_order_76 rfl zl_0 (ce_0 G _) rfl inz11 (by decide) wf_X11_10 rfl ?_
        refine r_get 82 1 3 dX11_order_79 rfl zl_1 (ce_1 G _) rfl inz9 (by decide) wf_X11_220 rfl ?_
        refine r_iload_n 83 dX11_order_82 rfl 1 rfl rfl ?_
        refine r_callVi 86 1 (ko := 20) [.int a1] (st := []) dX11_order_83 rfl rfl (fun r h => c_X3_nightOf G l (d - 1) (by omega) r2 a1 r h) zl_20 (ce_20 G _) rfl rfl wc_X3_nightOf wz_X3 wl_X11_239 wi_X3_nightOf ws_X3_nightOf zd_X3_nightOf (by decide) (by omega) rfl (Nat.le_of_ble_eq_true rfl) (fun r3 => ?_)
        exact r_iret dX11_order_86 rfl z_kiw
      · refine r_aload_n 63 dX11_order_62 rfl 0 rfl rfl ?_
        refine r_get 66 0 0 dX11_order_63 rfl zl_0 (ce_0 G _) rfl inz11 (by decide) wf_X11_10 rfl ?_
        refine r_get 69 1 3 dX11_order_66 rfl zl_1 (ce_1 G _) rfl inz9 (by decide) wf_X11_220 rfl ?_
        refine r_callVi 72 0 (ko := 20) [] (st := []) dX11_order_69 rfl rfl (fun r h => c_X3_costInAll G l (d - 1) (by omega) r2 r h) zl_20 (ce_20 G _) rfl rfl wc_X3_costInAll wz_X3 wl_X11_236 wi_X3_costInAll ws_X3_costInAll zd_X3_costInAll (by decide) (by omega) rfl (Nat.le_of_ble_eq_true rfl) (fun r4 => ?_)
        refine r_goto 86 dX11_order_72 (by decide) ?_
        exact r_iret dX11_order_86 rfl z_kiw
    · refine r_bipush 36 dX11_order_34 rfl zcb_m2 ?_
      exact r_iret dX11_order_36 rfl z_kiw
  refine r_iload_n 1 dX11_order_0 rfl 1 rfl rfl ?_
  refine r_iconst 2 dX11_order_1 rfl zci_m1 ?_
  refine r_icmp_eq 21 5 dX11_order_2 (by decide) rfl ?_ ?_
  · exact r_sub [0, 1] (lv2 := [(0, .ref (G.1 0)), (1, .int a1)]) rfl (hJ21 w)
  · refine r_aload_n 6 dX11_order_5 rfl 0 rfl rfl ?_
    refine r_get 9 0 0 dX11_order_6 rfl zl_0 (ce_0 G _) rfl inz11 (by decide) wf_X11_10 rfl ?_
    refine r_get 12 1 0 dX11_order_9 rfl zl_1 (ce_1 G _) rfl inz9 (by decide) wf_X11_59 rfl ?_
    refine r_iload_n 13 dX11_order_12 rfl 1 rfl rfl ?_
    refine r_callVi 16 1 (ko := 2) [.int a1] (st := []) dX11_order_13 rfl rfl (fun r h => c_X4_hasPanel G l (d - 1) (by omega) w a1 r h) zl_2 (ce_2 G _) rfl rfl wc_X4_hasPanel wz_X4 wl_X11_69 wi_X4_hasPanel ws_X4_hasPanel zd_X4_hasPanel (by decide) (by omega) rfl (Nat.le_of_ble_eq_true rfl) (fun r5 => ?_)
    refine r_if_ne 21 19 dX11_order_16 (by decide) rfl ?_ ?_
    · exact r_sub [0, 1] (lv2 := [(0, .ref (G.1 0)), (1, .int a1)]) rfl (hJ21 w)
    · refine r_iconst 20 dX11_order_19 rfl zci_m1 ?_
      exact r_iret dX11_order_20 rfl z_kiw
-- X11_isSought
def f_X11_isSought (w : ZW) (a1 : Int32) : Option (Int32) :=
  z_let ((((1 : Int32) <<< ((w.1 2 4) &&& 31)) - (1 : Int32)) &&& ((w.1 2 5) ^^^ (-1 : Int32))) fun y1 =>
  if a1 ≤ 0 then
  some (0 : Int32)
else
  if (a1 &&& (y1 ^^^ (-1 : Int32))) = 0 then
    some (1 : Int32)
  else
    some (0 : Int32)
set_option maxHeartbeats 4000000 in
set_option maxRecDepth 100000 in
theorem c_X11_isSought (G : ZG) (l : Launch) (d : Nat) (hd : 1 ≤ d) (w : ZW) (a1 : Int32) : ∀ o, f_X11_isSought w a1 = some o → zM G l d yX11_isSought cX11_isSought 3 (some .boolean) [.ref (G.1 0), .int a1] w (some (.int o)) w := by
  intro o ho
  refine zM.of [(0, .ref (G.1 0)), (1, .int a1)] (by decide) (Nat.le_of_ble_eq_true rfl) rfl ?_
  refine (?_ : zR G l d "LoveLocks" cX11_isSought 3 (some .boolean) (some (.int o)) w (fun x => x = o) 0 [(0, .ref (G.1 0)), (1, .int a1)] [] w (f_X11_isSought w a1)) o ho rfl
  rw [f_X11_isSought]
  refine r_iconst 1 dX11_isSought_0 rfl zci_1 ?_
  refine r_aload_n 2 dX11_isSought_1 rfl 0 rfl rfl ?_
  refine r_get 5 0 0 dX11_isSought_2 rfl zl_0 (ce_0 G _) rfl inz11 (by decide) wf_X11_10 rfl ?_
  refine r_get 8 1 0 dX11_isSought_5 rfl zl_1 (ce_1 G _) rfl inz9 (by decide) wf_X11_59 rfl ?_
  refine r_get 11 2 4 dX11_isSought_8 rfl zl_2 (ce_2 G _) rfl inz4 (by decide) wf_X11_122 rfl ?_
  refine r_ishl 12 dX11_isSought_11 rfl ?_
  refine r_iconst 13 dX11_isSought_12 rfl zci_1 ?_
  refine r_isub 14 dX11_isSought_13 rfl ?_
  refine r_aload_n 15 dX11_isSought_14 rfl 0 rfl rfl ?_
  refine r_get 18 0 0 dX11_isSought_15 rfl zl_0 (ce_0 G _) rfl inz11 (by decide) wf_X11_10 rfl ?_
  refine r_get 21 1 0 dX11_isSought_18 rfl zl_1 (ce_1 G _) rfl inz9 (by decide) wf_X11_59 rfl ?_
  refine r_get 24 2 5 dX11_isSought_21 rfl zl_2 (ce_2 G _) rfl inz4 (by decide) wf_X11_125 rfl ?_
  refine r_iconst 25 dX11_isSought_24 rfl zci_m1 ?_
  refine r_ixor 26 dX11_isSought_25 rfl ?_
  refine r_iand 27 dX11_isSought_26 rfl ?_
  refine r_topi (fun y1 => ?_)
  refine r_istore_n 28 [(2, .int y1), (0, .ref (G.1 0)), (1, .int a1)] dX11_isSought_27 rfl rfl (by decide) rfl ?_
  refine r_iload_n 29 dX11_isSought_28 rfl 2 rfl rfl ?_
  refine r_if_le 44 32 dX11_isSought_29 (by decide) rfl ?_ ?_
  · refine r_iconst 45 dX11_isSought_44 rfl zci_0 ?_
    exact r_zret dX11_isSought_45 rfl rfl z_ki
  · refine r_iload_n 33 dX11_isSought_32 rfl 2 rfl rfl ?_
    refine r_iload_n 34 dX11_isSought_33 rfl 0 rfl rfl ?_
    refine r_iconst 35 dX11_isSought_34 rfl zci_m1 ?_
    refine r_ixor 36 dX11_isSought_35 rfl ?_
    refine r_iand 37 dX11_isSought_36 rfl ?_
    refine r_if_ne 44 40 dX11_isSought_37 (by decide) rfl ?_ ?_
    · refine r_iconst 45 dX11_isSought_44 rfl zci_0 ?_
      exact r_zret dX11_isSought_45 rfl rfl z_ki
    · refine r_iconst 41 dX11_isSought_40 rfl zci_1 ?_
      refine r_goto 45 dX11_isSought_41 (by decide) ?_
      exact r_zret dX11_isSought_45 rfl rfl z_ki
-- X6_answer
def f_X6_answer (w : ZW) (a1 : Int32) (a2 : Int32) : Option (Int32) :=
  if (6 : Int32) ≤ a1 then
  if (26 : Int32) ≤ a1 then
    if a1 = (26 : Int32) then
      if z_in a2 14 then
        if (w.1 7 a2.toNatClampNeg) = 0 then
        some (1 : Int32)
      else
        some (0 : Int32)
      else none
    else
      if z_in a2 14 then
        if (w.1 11 a2.toNatClampNeg) = (-4 : Int32) then
        some (1 : Int32)
      else
        some (0 : Int32)
      else none
  else
    if z_in a2 14 then
      if (a1 - (6 : Int32)) < (w.1 8 a2.toNatClampNeg) then
      some (0 : Int32)
    else
      some (1 : Int32)
    else none
else
  if z_in a2 14 then
    if a1 < (w.1 9 a2.toNatClampNeg) then
    some (0 : Int32)
  else
    some (1 : Int32)
  else none
set_option maxHeartbeats 4000000 in
set_option maxRecDepth 100000 in
theorem c_X6_answer (G : ZG) (l : Launch) (d : Nat) (hd : 1 ≤ d) (w : ZW) (a1 : Int32) (a2 : Int32) : ∀ o, f_X6_answer w a1 a2 = some o → zM G l d yX6_answer cX6_answer 3 (some .boolean) [.ref (G.1 2), .int a1, .int a2] w (some (.int o)) w := by
  intro o ho
  refine zM.of [(0, .ref (G.1 2)), (1, .int a1), (2, .int a2)] (by decide) (Nat.le_of_ble_eq_true rfl) rfl ?_
  refine (?_ : zR G l d "LoveLocks$Seeker" cX6_answer 3 (some .boolean) (some (.int o)) w (fun x => x = o) 0 [(0, .ref (G.1 2)), (1, .int a1), (2, .int a2)] [] w (f_X6_answer w a1 a2)) o ho rfl
  rw [f_X6_answer]
  refine r_iload_n 1 dX6_answer_0 rfl 1 rfl rfl ?_
  refine r_bipush 3 dX6_answer_1 rfl zcb_6 ?_
  refine r_icmp_ge 22 6 dX6_answer_3 (by decide) rfl ?_ ?_
  · refine r_iload_n 23 dX6_answer_22 rfl 1 rfl rfl ?_
    refine r_bipush 25 dX6_answer_23 rfl zcb_26 ?_
    refine r_icmp_ge 47 28 dX6_answer_25 (by decide) rfl ?_ ?_
    · refine r_iload_n 48 dX6_answer_47 rfl 1 rfl rfl ?_
      refine r_bipush 50 dX6_answer_48 rfl zcb_26 ?_
      refine r_icmp_ne 70 53 dX6_answer_50 (by decide) rfl ?_ ?_
      · refine r_aload_n 71 dX6_answer_70 rfl 0 rfl rfl ?_
        refine r_get 74 2 11 dX6_answer_71 rfl zl_2 (ce_2 G _) rfl inz4 (by decide) wf_X6_26 rfl ?_
        refine r_iload_n 75 dX6_answer_74 rfl 2 rfl rfl ?_
        refine r_iald 76 11 14 dX6_answer_75 rfl zl_11 (ce_11 G _) ?_
        refine r_bipush 78 dX6_answer_76 rfl zcb_m4 ?_
        refine r_icmp_ne 85 81 dX6_answer_78 (by decide) rfl ?_ ?_
        · refine r_iconst 86 dX6_answer_85 rfl zci_0 ?_
          exact r_zret dX6_answer_86 rfl rfl z_ki
        · refine r_iconst 82 dX6_answer_81 rfl zci_1 ?_
          refine r_goto 86 dX6_answer_82 (by decide) ?_
          exact r_zret dX6_answer_86 rfl rfl z_ki
      · refine r_aload_n 54 dX6_answer_53 rfl 0 rfl rfl ?_
        refine r_get 57 2 7 dX6_answer_54 rfl zl_2 (ce_2 G _) rfl inz4 (by decide) wf_X6_23 rfl ?_
        refine r_iload_n 58 dX6_answer_57 rfl 2 rfl rfl ?_
        refine r_iald 59 7 14 dX6_answer_58 rfl zl_7 (ce_7 G _) ?_
        refine r_if_ne 66 62 dX6_answer_59 (by decide) rfl ?_ ?_
        · refine r_iconst 67 dX6_answer_66 rfl zci_0 ?_
          refine r_goto 86 dX6_answer_67 (by decide) ?_
          exact r_zret dX6_answer_86 rfl rfl z_ki
        · refine r_iconst 63 dX6_answer_62 rfl zci_1 ?_
          refine r_goto 86 dX6_answer_63 (by decide) ?_
          exact r_zret dX6_answer_86 rfl rfl z_ki
    · refine r_aload_n 29 dX6_answer_28 rfl 0 rfl rfl ?_
      refine r_get 32 2 8 dX6_answer_29 rfl zl_2 (ce_2 G _) rfl inz4 (by decide) wf_X6_20 rfl ?_
      refine r_iload_n 33 dX6_answer_32 rfl 2 rfl rfl ?_
      refine r_iald 34 8 14 dX6_answer_33 rfl zl_8 (ce_8 G _) ?_
      refine r_iload_n 35 dX6_answer_34 rfl 1 rfl rfl ?_
      refine r_bipush 37 dX6_answer_35 rfl zcb_6 ?_
      refine r_isub 38 dX6_answer_37 rfl ?_
      refine r_icmp_gt 45 41 dX6_answer_38 (by decide) rfl ?_ ?_
      · refine r_iconst 46 dX6_answer_45 rfl zci_0 ?_
        exact r_zret dX6_answer_46 rfl rfl z_ki
      · refine r_iconst 42 dX6_answer_41 rfl zci_1 ?_
        refine r_goto 46 dX6_answer_42 (by decide) ?_
        exact r_zret dX6_answer_46 rfl rfl z_ki
  · refine r_aload_n 7 dX6_answer_6 rfl 0 rfl rfl ?_
    refine r_get 10 2 9 dX6_answer_7 rfl zl_2 (ce_2 G _) rfl inz4 (by decide) wf_X6_15 rfl ?_
    refine r_iload_n 11 dX6_answer_10 rfl 2 rfl rfl ?_
    refine r_iald 12 9 14 dX6_answer_11 rfl zl_9 (ce_9 G _) ?_
    refine r_iload_n 13 dX6_answer_12 rfl 1 rfl rfl ?_
    refine r_icmp_gt 20 16 dX6_answer_13 (by decide) rfl ?_ ?_
    · refine r_iconst 21 dX6_answer_20 rfl zci_0 ?_
      exact r_zret dX6_answer_21 rfl rfl z_ki
    · refine r_iconst 17 dX6_answer_16 rfl zci_1 ?_
      refine r_goto 21 dX6_answer_17 (by decide) ?_
      exact r_zret dX6_answer_21 rfl rfl z_ki
-- X6_learn
def f_X6_learn_L17 (s1 : Int32 × ZW) (s4 : Int32 × ZW) : Option ((Int32 × ZW) ⊕ (ZW)) :=
  if (s4.2.1 2 4) ≤ s4.1 then
  some (.inr s4.2)
else
  if (14 : Int32) ≤ s4.1 then
    some (.inr s4.2)
  else
    if z_in s1.1 28 then
      (f_X6_answer s4.2 s1.1 s4.1).bind fun r6 : Int32 =>
      if r6 = 0 then
      if z_in s1.1 28 then
        z_let (z_upI s4.2 118 s1.1.toNatClampNeg ((s4.2.1 118 s1.1.toNatClampNeg) ||| (0 : Int32))) fun w7 =>
        some (.inl (s4.1 + (1 : Int32), w7))
      else none
    else
      if z_in s1.1 28 then
        z_let (z_upI s4.2 118 s1.1.toNatClampNeg ((s4.2.1 118 s1.1.toNatClampNeg) ||| ((1 : Int32) <<< (s4.1 &&& 31)))) fun w8 =>
        some (.inl (s4.1 + (1 : Int32), w8))
      else none
    else none
def f_X6_learn_L2 (s1 : Int32 × ZW) : Option ((Int32 × ZW) ⊕ (ZW)) :=
  if (28 : Int32) ≤ s1.1 then
  some (.inr s1.2)
else
  if z_in s1.1 28 then
    z_let (z_upI s1.2 118 s1.1.toNatClampNeg (0 : Int32)) fun w3 =>
    (z_iter (f_X6_learn_L17 s1) z_fuel ((0 : Int32), w3)).bind (fun q5 : ZW =>
    some (.inl (s1.1 + (1 : Int32), q5)))
  else none
def f_X6_learn (w : ZW) : Option (ZW) :=
  (z_iter (f_X6_learn_L2) z_fuel ((0 : Int32), w)).bind (fun q2 : ZW =>
  some q2)
set_option maxHeartbeats 4000000 in
set_option maxRecDepth 100000 in
theorem c_X6_learn (G : ZG) (l : Launch) (d : Nat) (hd : 2 ≤ d) (w : ZW) : ∀ o, f_X6_learn w = some o → zM G l d yX6_learn cX6_learn 4 none [.ref (G.1 117), .ref (G.1 2)] w none o := by
  intro o ho
  refine zM.of [(0, .ref (G.1 117)), (1, .ref (G.1 2))] (by decide) (Nat.le_of_ble_eq_true rfl) rfl ?_
  refine (?_ : zR G l d "LoveLocks$Seeker" cX6_learn 4 none none o (fun x => x = o) 0 [(0, .ref (G.1 117)), (1, .ref (G.1 2))] [] w (f_X6_learn w)) o ho rfl
  rw [f_X6_learn]
  refine r_iconst 1 dX6_learn_0 rfl zci_0 ?_
  refine r_istore_n 2 [(2, .int (0 : Int32)), (0, .ref (G.1 117)), (1, .ref (G.1 2))] dX6_learn_1 rfl rfl (by decide) rfl ?_
  refine r_loopE [1, 2, 0] (fun s1 => [(0, .ref (G.1 117)), (1, .ref (G.1 2)), (2, .int s1.1)]) (fun s1 => s1.2) 68 (fun q2 => []) (fun q2 => q2) rfl rfl (fun s1 => ?_) (fun q2 => ?_)
  · rw [f_X6_learn_L2]
    refine r_iload_n 3 dX6_learn_2 rfl 2 rfl rfl ?_
    refine r_bipush 5 dX6_learn_3 rfl zcb_28 ?_
    refine r_icmp_ge 68 8 dX6_learn_5 (by decide) rfl ?_ ?_
    · exact r_leaf [] (lv2 := []) rfl (fun h => h)
    · refine r_aload_n 9 dX6_learn_8 rfl 0 rfl rfl ?_
      refine r_get 12 117 0 dX6_learn_9 rfl zl_117 (ce_117 G _) rfl inz6 (by decide) wf_X6_11 rfl ?_
      refine r_iload_n 13 dX6_learn_12 rfl 2 rfl rfl ?_
      refine r_iconst 14 dX6_learn_13 rfl zci_0 ?_
      refine r_iast 15 118 28 dX6_learn_14 rfl zl_118 (ce_118 G) ?_
      refine r_topw (fun w3 => ?_)
      refine r_iconst 16 dX6_learn_15 rfl zci_0 ?_
      refine r_istore_n 17 [(3, .int (0 : Int32)), (0, .ref (G.1 117)), (1, .ref (G.1 2)), (2, .int s1.1)] dX6_learn_16 rfl rfl (by decide) rfl ?_
      refine r_loopE [1, 2, 3, 0] (fun s4 => [(0, .ref (G.1 117)), (1, .ref (G.1 2)), (2, .int s1.1), (3, .int s4.1)]) (fun s4 => s4.2) 62 (fun q5 => [(0, .ref (G.1 117)), (1, .ref (G.1 2)), (2, .int s1.1)]) (fun q5 => q5) rfl rfl (fun s4 => ?_) (fun q5 => ?_)
      · rw [f_X6_learn_L17]
        refine r_iload_n 18 dX6_learn_17 rfl 3 rfl rfl ?_
        refine r_aload_n 19 dX6_learn_18 rfl 1 rfl rfl ?_
        refine r_get 22 2 4 dX6_learn_19 rfl zl_2 (ce_2 G _) rfl inz4 (by decide) wf_X6_29 rfl ?_
        refine r_icmp_ge 62 25 dX6_learn_22 (by decide) rfl ?_ ?_
        · exact r_leaf [0, 1, 2] (lv2 := [(0, .ref (G.1 117)), (1, .ref (G.1 2)), (2, .int s1.1)]) rfl (fun h => h)
        · refine r_iload_n 26 dX6_learn_25 rfl 3 rfl rfl ?_
          refine r_bipush 28 dX6_learn_26 rfl zcb_14 ?_
          refine r_icmp_ge 62 31 dX6_learn_28 (by decide) rfl ?_ ?_
          · exact r_leaf [0, 1, 2] (lv2 := [(0, .ref (G.1 117)), (1, .ref (G.1 2)), (2, .int s1.1)]) rfl (fun h => h)
          · refine r_aload_n 32 dX6_learn_31 rfl 0 rfl rfl ?_
            refine r_get 35 117 0 dX6_learn_32 rfl zl_117 (ce_117 G _) rfl inz6 (by decide) wf_X6_11 rfl ?_
            refine r_iload_n 36 dX6_learn_35 rfl 2 rfl rfl ?_
            refine r_dup2 37 dX6_learn_36 rfl rfl rfl ?_
            refine r_iald 38 118 28 dX6_learn_37 rfl zl_118 (ce_118 G _) ?_
            refine r_aload_n 39 dX6_learn_38 rfl 1 rfl rfl ?_
            refine r_iload_n 40 dX6_learn_39 rfl 2 rfl rfl ?_
            refine r_iload_n 41 dX6_learn_40 rfl 3 rfl rfl ?_
            refine r_callSi 44 3 [.ref (G.1 2), .int s1.1, .int s4.1] (st := [.int (s4.2.1 118 s1.1.toNatClampNeg), .int s1.1, .ref (G.1 118)]) dX6_learn_41 rfl rfl (fun r h => c_X6_answer G l (d - 1) (by omega) s4.2 s1.1 s4.1 r h) wc_X6_answer wz_X6 wl_X6_33 wst_X6_answer zd_X6_answer (by decide) (by omega) rfl (Nat.le_of_ble_eq_true rfl) (fun r6 => ?_)
            refine r_if_eq 53 47 dX6_learn_44 (by decide) rfl ?_ ?_
            · refine r_iconst 54 dX6_learn_53 rfl zci_0 ?_
              refine r_ior 55 dX6_learn_54 rfl ?_
              refine r_iast 56 118 28 dX6_learn_55 rfl zl_118 (ce_118 G) ?_
              refine r_topw (fun w7 => ?_)
              refine r_iinc 59 3 [(3, .int (s4.1 + (1 : Int32))), (0, .ref (G.1 117)), (1, .ref (G.1 2)), (2, .int s1.1)] dX6_learn_56 rfl rfl zci_1 (by decide) rfl ?_
              refine r_goto 17 dX6_learn_59 (by decide) ?_
              exact r_leaf [1, 2, 3, 0] (lv2 := [(0, .ref (G.1 117)), (1, .ref (G.1 2)), (2, .int s1.1), (3, .int (s4.1 + (1 : Int32)))]) rfl (fun h => h)
            · refine r_iconst 48 dX6_learn_47 rfl zci_1 ?_
              refine r_iload_n 49 dX6_learn_48 rfl 3 rfl rfl ?_
              refine r_ishl 50 dX6_learn_49 rfl ?_
              refine r_goto 54 dX6_learn_50 (by decide) ?_
              refine r_ior 55 dX6_learn_54 rfl ?_
              refine r_iast 56 118 28 dX6_learn_55 rfl zl_118 (ce_118 G) ?_
              refine r_topw (fun w8 => ?_)
              refine r_iinc 59 3 [(3, .int (s4.1 + (1 : Int32))), (0, .ref (G.1 117)), (1, .ref (G.1 2)), (2, .int s1.1)] dX6_learn_56 rfl rfl zci_1 (by decide) rfl ?_
              refine r_goto 17 dX6_learn_59 (by decide) ?_
              exact r_leaf [1, 2, 3, 0] (lv2 := [(0, .ref (G.1 117)), (1, .ref (G.1 2)), (2, .int s1.1), (3, .int (s4.1 + (1 : Int32)))]) rfl (fun h => h)
      · refine r_iinc 65 2 [(2, .int (s1.1 + (1 : Int32))), (0, .ref (G.1 117)), (1, .ref (G.1 2))] dX6_learn_62 rfl rfl zci_1 (by decide) rfl ?_
        refine r_goto 2 dX6_learn_65 (by decide) ?_
        exact r_leaf [1, 2, 0] (lv2 := [(0, .ref (G.1 117)), (1, .ref (G.1 2)), (2, .int (s1.1 + (1 : Int32)))]) rfl (fun h => h)
  · exact r_vret dX6_learn_68 rfl z_kvw
-- X6_areApart
def f_X6_areApart_L25 (w : ZW) (x2_3 : Int32) (s5 : Int32 × Int32) : Option ((Int32 × Int32) ⊕ (Int32)) :=
  if (28 : Int32) ≤ s5.2 then
  some (.inr s5.1)
else
  if z_in s5.2 28 then
    if (((w.1 118 s5.2.toNatClampNeg) >>> (x2_3 &&& 31)) &&& (1 : Int32)) = 0 then
    if z_in s5.2 28 then
      z_let (s5.1 &&& ((w.1 118 s5.2.toNatClampNeg) ^^^ (-1 : Int32))) fun y7 =>
      some (.inl (y7, s5.2 + (1 : Int32)))
    else none
  else
    if z_in s5.2 28 then
      z_let (s5.1 &&& (w.1 118 s5.2.toNatClampNeg)) fun y8 =>
      some (.inl (y8, s5.2 + (1 : Int32)))
    else none
  else none
def f_X6_areApart_J21 (w : ZW) (x2_3 : Int32) (k4 : Int32) : Option ((Int32) ⊕ ((Int32) ⊕ (Unit))) :=
  (z_iter (f_X6_areApart_L25 w x2_3) z_fuel (k4, (0 : Int32))).bind (fun q6 : Int32 =>
  (f_J6_bitCount_0f7a4 q6).bind fun r9 : Int32 =>
  if r9 ≤ (1 : Int32) then
  some (.inl (x2_3 + (1 : Int32)))
else
  some (.inr (.inl (0 : Int32))))
def f_X6_areApart_L2 (a1 : Int32) (w : ZW) (s1 : Int32) : Option ((Int32) ⊕ ((Int32) ⊕ (Unit))) :=
  if (14 : Int32) ≤ s1 then
  some (.inr (.inr ()))
else
  if ((a1 >>> (s1 &&& 31)) &&& (1 : Int32)) = 0 then
    f_X6_areApart_J21 w s1 (0 : Int32)
  else
    f_X6_areApart_J21 w s1 a1
def f_X6_areApart (w : ZW) (a1 : Int32) : Option (Int32) :=
  (z_iter (f_X6_areApart_L2 a1 w) z_fuel (0 : Int32)).bind (Sum.elim (fun x : Int32 => some x) (fun q2 : Unit =>
  some (1 : Int32)))
set_option maxHeartbeats 4000000 in
set_option maxRecDepth 100000 in
theorem c_X6_areApart (G : ZG) (l : Launch) (d : Nat) (hd : 2 ≤ d) (w : ZW) (a1 : Int32) : ∀ o, f_X6_areApart w a1 = some o → zM G l d yX6_areApart cX6_areApart 5 (some .boolean) [.ref (G.1 117), .int a1] w (some (.int o)) w := by
  intro o ho
  refine zM.of [(0, .ref (G.1 117)), (1, .int a1)] (by decide) (Nat.le_of_ble_eq_true rfl) rfl ?_
  refine (?_ : zR G l d "LoveLocks$Seeker" cX6_areApart 5 (some .boolean) (some (.int o)) w (fun x => x = o) 0 [(0, .ref (G.1 117)), (1, .int a1)] [] w (f_X6_areApart w a1)) o ho rfl
  rw [f_X6_areApart]
  refine r_iconst 1 dX6_areApart_0 rfl zci_0 ?_
  refine r_istore_n 2 [(2, .int (0 : Int32)), (0, .ref (G.1 117)), (1, .int a1)] dX6_areApart_1 rfl rfl (by decide) rfl ?_
  refine r_loopR [1, 2, 0] (fun s1 => [(0, .ref (G.1 117)), (1, .int a1), (2, .int s1)]) (fun s1 => w) (fun x => x = o) 90 (fun q2 => []) (fun q2 => w) rfl rfl (fun s1 => ?_) (fun x y h1 h2 => by cases h1; exact h2) (fun q2 => ?_)
  · rw [f_X6_areApart_L2]
    have hJ21 : ∀ (x2_3 : Int32) (k4 : Int32), zR G l d "LoveLocks$Seeker" cX6_areApart 5 (some .boolean) (some (.int o)) w (Sum.elim (fun s1 => zA G l d "LoveLocks$Seeker" cX6_areApart 5 (some .boolean) (some (.int o)) w 2 [(0, .ref (G.1 117)), (1, .int a1), (2, .int s1)] [] w) (Sum.elim (fun x => x = o) (fun q2 => zA G l d "LoveLocks$Seeker" cX6_areApart 5 (some .boolean) (some (.int o)) w 90 [] [] w))) 21 [(0, .ref (G.1 117)), (1, .int a1), (2, .int x2_3)] [.int k4] w (f_X6_areApart_J21 w x2_3 k4) := by
      intro x2_3 k4
      rw [f_X6_areApart_J21]
      refine r_istore_n 22 [(3, .int k4), (0, .ref (G.1 117)), (1, .int a1), (2, .int x2_3)] dX6_areApart_21 rfl rfl (by decide) rfl ?_
      refine r_iconst 23 dX6_areApart_22 rfl zci_0 ?_
      refine r_istore 25 [(4, .int (0 : Int32)), (3, .int k4), (0, .ref (G.1 117)), (1, .int a1), (2, .int x2_3)] dX6_areApart_23 rfl (by decide) rfl ?_
      refine r_loopE [2, 3, 4, 1, 0] (fun s5 => [(0, .ref (G.1 117)), (1, .int a1), (2, .int x2_3), (3, .int s5.1), (4, .int s5.2)]) (fun s5 => w) 74 (fun q6 => [(0, .ref (G.1 117)), (1, .int a1), (2, .int x2_3), (3, .int q6)]) (fun q6 => w) rfl rfl (fun s5 => ?_) (fun q6 => ?_)
      · rw [f_X6_areApart_L25]
        refine r_iload 27 dX6_areApart_25 rfl 4 rfl ?_
        refine r_bipush 29 dX6_areApart_27 rfl zcb_28 ?_
        refine r_icmp_ge 74 32 dX6_areApart_29 (by decide) rfl ?_ ?_
        · exact r_leaf [0, 1, 2, 3] (lv2 := [(0, .ref (G.1 117)), (1, .int a1), (2, .int x2_3), (3, .int s5.1)]) rfl (fun h => h)
        · refine r_iload_n 33 dX6_areApart_32 rfl 3 rfl rfl ?_
          refine r_aload_n 34 dX6_areApart_33 rfl 0 rfl rfl ?_
          refine r_get 37 117 0 dX6_areApart_34 rfl zl_117 (ce_117 G _) rfl inz6 (by decide) wf_X6_11 rfl ?_
          refine r_iload 39 dX6_areApart_37 rfl 4 rfl ?_
          refine r_iald 40 118 28 dX6_areApart_39 rfl zl_118 (ce_118 G _) ?_
          refine r_iload_n 41 dX6_areApart_40 rfl 2 rfl rfl ?_
          refine r_ishr 42 dX6_areApart_41 rfl ?_
          refine r_iconst 43 dX6_areApart_42 rfl zci_1 ?_
          refine r_iand 44 dX6_areApart_43 rfl ?_
          refine r_if_eq 57 47 dX6_areApart_44 (by decide) rfl ?_ ?_
          · refine r_aload_n 58 dX6_areApart_57 rfl 0 rfl rfl ?_
            refine r_get 61 117 0 dX6_areApart_58 rfl zl_117 (ce_117 G _) rfl inz6 (by decide) wf_X6_11 rfl ?_
            refine r_iload 63 dX6_areApart_61 rfl 4 rfl ?_
            refine r_iald 64 118 28 dX6_areApart_63 rfl zl_118 (ce_118 G _) ?_
            refine r_iconst 65 dX6_areApart_64 rfl zci_m1 ?_
            refine r_ixor 66 dX6_areApart_65 rfl ?_
            refine r_iand 67 dX6_areApart_66 rfl ?_
            refine r_topi (fun y7 => ?_)
            refine r_istore_n 68 [(3, .int y7), (0, .ref (G.1 117)), (1, .int a1), (2, .int x2_3), (4, .int s5.2)] dX6_areApart_67 rfl rfl (by decide) rfl ?_
            refine r_iinc 71 4 [(4, .int (s5.2 + (1 : Int32))), (3, .int y7), (0, .ref (G.1 117)), (1, .int a1), (2, .int x2_3)] dX6_areApart_68 rfl rfl zci_1 (by decide) rfl ?_
            refine r_goto 25 dX6_areApart_71 (by decide) ?_
            exact r_leaf [2, 3, 4, 1, 0] (lv2 := [(0, .ref (G.1 117)), (1, .int a1), (2, .int x2_3), (3, .int y7), (4, .int (s5.2 + (1 : Int32)))]) rfl (fun h => h)
          · refine r_aload_n 48 dX6_areApart_47 rfl 0 rfl rfl ?_
            refine r_get 51 117 0 dX6_areApart_48 rfl zl_117 (ce_117 G _) rfl inz6 (by decide) wf_X6_11 rfl ?_
            refine r_iload 53 dX6_areApart_51 rfl 4 rfl ?_
            refine r_iald 54 118 28 dX6_areApart_53 rfl zl_118 (ce_118 G _) ?_
            refine r_goto 66 dX6_areApart_54 (by decide) ?_
            refine r_iand 67 dX6_areApart_66 rfl ?_
            refine r_topi (fun y8 => ?_)
            refine r_istore_n 68 [(3, .int y8), (0, .ref (G.1 117)), (1, .int a1), (2, .int x2_3), (4, .int s5.2)] dX6_areApart_67 rfl rfl (by decide) rfl ?_
            refine r_iinc 71 4 [(4, .int (s5.2 + (1 : Int32))), (3, .int y8), (0, .ref (G.1 117)), (1, .int a1), (2, .int x2_3)] dX6_areApart_68 rfl rfl zci_1 (by decide) rfl ?_
            refine r_goto 25 dX6_areApart_71 (by decide) ?_
            exact r_leaf [2, 3, 4, 1, 0] (lv2 := [(0, .ref (G.1 117)), (1, .int a1), (2, .int x2_3), (3, .int y8), (4, .int (s5.2 + (1 : Int32)))]) rfl (fun h => h)
      · refine r_iload_n 75 dX6_areApart_74 rfl 3 rfl rfl ?_
        refine r_callSi 78 1 [.int q6] (st := []) dX6_areApart_75 rfl rfl (fun r h => c_J6_bitCount_0f7a4 G l (d - 1) (by omega) w q6 r h) wc_J6_bitCount_0f7a4 wz_J6 wl_X6_37 wst_J6_bitCount_0f7a4 zd_J6_bitCount_0f7a4 (by decide) (by omega) rfl (Nat.le_of_ble_eq_true rfl) (fun r9 => ?_)
        refine r_iconst 79 dX6_areApart_78 rfl zci_1 ?_
        refine r_icmp_le 84 82 dX6_areApart_79 (by decide) rfl ?_ ?_
        · refine r_iinc 87 2 [(2, .int (x2_3 + (1 : Int32))), (0, .ref (G.1 117)), (1, .int a1), (3, .int q6)] dX6_areApart_84 rfl rfl zci_1 (by decide) rfl ?_
          refine r_goto 2 dX6_areApart_87 (by decide) ?_
          exact r_leaf [1, 2, 0] (lv2 := [(0, .ref (G.1 117)), (1, .int a1), (2, .int (x2_3 + (1 : Int32)))]) rfl (fun h => h)
        · refine r_iconst 83 dX6_areApart_82 rfl zci_0 ?_
          exact r_zret dX6_areApart_83 rfl rfl z_ki
    refine r_iload_n 3 dX6_areApart_2 rfl 2 rfl rfl ?_
    refine r_bipush 5 dX6_areApart_3 rfl zcb_14 ?_
    refine r_icmp_ge 90 8 dX6_areApart_5 (by decide) rfl ?_ ?_
    · exact r_leaf [] (lv2 := []) rfl (fun h => h)
    · refine r_iload_n 9 dX6_areApart_8 rfl 1 rfl rfl ?_
      refine r_iload_n 10 dX6_areApart_9 rfl 2 rfl rfl ?_
      refine r_ishr 11 dX6_areApart_10 rfl ?_
      refine r_iconst 12 dX6_areApart_11 rfl zci_1 ?_
      refine r_iand 13 dX6_areApart_12 rfl ?_
      refine r_if_eq 20 16 dX6_areApart_13 (by decide) rfl ?_ ?_
      · refine r_iconst 21 dX6_areApart_20 rfl zci_0 ?_
        exact r_sub [0, 1, 2] (lv2 := [(0, .ref (G.1 117)), (1, .int a1), (2, .int s1)]) rfl (hJ21 s1 (0 : Int32))
      · refine r_iload_n 17 dX6_areApart_16 rfl 1 rfl rfl ?_
        refine r_goto 21 dX6_areApart_17 (by decide) ?_
        exact r_sub [0, 1, 2] (lv2 := [(0, .ref (G.1 117)), (1, .int a1), (2, .int s1)]) rfl (hJ21 s1 a1)
  · refine r_iconst 91 dX6_areApart_90 rfl zci_1 ?_
    exact r_zret dX6_areApart_91 rfl rfl z_ki
-- X6_areEnough
def f_X6_areEnough_L37 (a1 : Int32) (w : ZW) (rc : ZW → Int32 → Int32 → Option (Int32)) (a2 : Int32) (s2 : Int32 × Int32) : Option ((Int32 × Int32) ⊕ ((Int32) ⊕ (Unit))) :=
  if (28 : Int32) ≤ s2.2 then
  some (.inr (.inr ()))
else
  if z_in s2.2 28 then
    z_let (a1 &&& (w.1 118 s2.2.toNatClampNeg)) fun y4 =>
    if y4 = s2.1 then
    some (.inl (y4, s2.2 + (1 : Int32)))
  else
    if y4 = 0 then
      some (.inl (y4, s2.2 + (1 : Int32)))
    else
      if y4 = a1 then
        some (.inl (y4, s2.2 + (1 : Int32)))
      else
        (rc w y4 (a2 - (1 : Int32))).bind fun r5 : Int32 =>
          if r5 = 0 then
          some (.inl (y4, s2.2 + (1 : Int32)))
        else
          (rc w (a1 &&& (y4 ^^^ (-1 : Int32))) (a2 - (1 : Int32))).bind fun r6 : Int32 =>
            if r6 = 0 then
            some (.inl (y4, s2.2 + (1 : Int32)))
          else
            some (.inr (.inl (1 : Int32)))
  else none
def f_X6_areEnough : Nat → ZW → Int32 → Int32 → Option (Int32)
  | 0, _, _, _ => none
  | n + 1, w, a1, a2 =>
    (f_J6_bitCount_0f7a4 a1).bind fun r1 : Int32 =>
  if (1 : Int32) < r1 then
  if a2 ≤ 0 then
    some (0 : Int32)
  else
    if (14 : Int32) < a2 then
      some (0 : Int32)
    else
      if r1 ≤ ((1 : Int32) <<< (a2 &&& 31)) then
        (z_iter (f_X6_areEnough_L37 a1 w (f_X6_areEnough n) a2) z_fuel ((0 : Int32), (0 : Int32))).bind (Sum.elim (fun x : Int32 => some x) (fun q3 : Unit =>
          some (0 : Int32)))
      else
        some (0 : Int32)
else
  some (1 : Int32)
set_option maxHeartbeats 4000000 in
set_option maxRecDepth 100000 in
theorem c_X6_areEnough (G : ZG) (l : Launch) : ∀ (n d : Nat), n + 2 ≤ d → ∀ (w : ZW) (a1 : Int32) (a2 : Int32) o, f_X6_areEnough n w a1 a2 = some o → zM G l d yX6_areEnough cX6_areEnough 7 (some .boolean) [.ref (G.1 117), .int a1, .int a2] w (some (.int o)) w := by
  intro n
  induction n with
  | zero =>
    intro d hd w a1 a2 o ho
    cases ho
  | succ n ih =>
    intro d hd w a1 a2 o ho
    refine zM.of [(0, .ref (G.1 117)), (1, .int a1), (2, .int a2)] (by decide) (Nat.le_of_ble_eq_true rfl) rfl ?_
    refine (?_ : zR G l d "LoveLocks$Seeker" cX6_areEnough 7 (some .boolean) (some (.int o)) w (fun x => x = o) 0 [(0, .ref (G.1 117)), (1, .int a1), (2, .int a2)] [] w (f_X6_areEnough (n + 1) w a1 a2)) o ho rfl
    rw [f_X6_areEnough]
    refine r_iload_n 1 dX6_areEnough_0 rfl 1 rfl rfl ?_
    refine r_callSi 4 1 [.int a1] (st := []) dX6_areEnough_1 rfl rfl (fun r h => c_J6_bitCount_0f7a4 G l (d - 1) (by omega) w a1 r h) wc_J6_bitCount_0f7a4 wz_J6 wl_X6_37 wst_J6_bitCount_0f7a4 zd_J6_bitCount_0f7a4 (by decide) (by omega) rfl (Nat.le_of_ble_eq_true rfl) (fun r1 => ?_)
    refine r_istore_n 5 [(3, .int r1), (0, .ref (G.1 117)), (1, .int a1), (2, .int a2)] dX6_areEnough_4 rfl rfl (by decide) rfl ?_
    refine r_iload_n 6 dX6_areEnough_5 rfl 0 rfl rfl ?_
    refine r_iconst 7 dX6_areEnough_6 rfl zci_1 ?_
    refine r_icmp_gt 12 10 dX6_areEnough_7 (by decide) rfl ?_ ?_
    · refine r_iload_n 13 dX6_areEnough_12 rfl 3 rfl rfl ?_
      refine r_if_le 29 16 dX6_areEnough_13 (by decide) rfl ?_ ?_
      · refine r_iconst 30 dX6_areEnough_29 rfl zci_0 ?_
        exact r_zret dX6_areEnough_30 rfl rfl z_ki
      · refine r_iload_n 17 dX6_areEnough_16 rfl 3 rfl rfl ?_
        refine r_bipush 19 dX6_areEnough_17 rfl zcb_14 ?_
        refine r_icmp_gt 29 22 dX6_areEnough_19 (by decide) rfl ?_ ?_
        · refine r_iconst 30 dX6_areEnough_29 rfl zci_0 ?_
          exact r_zret dX6_areEnough_30 rfl rfl z_ki
        · refine r_iload_n 23 dX6_areEnough_22 rfl 0 rfl rfl ?_
          refine r_iconst 24 dX6_areEnough_23 rfl zci_1 ?_
          refine r_iload_n 25 dX6_areEnough_24 rfl 3 rfl rfl ?_
          refine r_ishl 26 dX6_areEnough_25 rfl ?_
          refine r_icmp_le 31 29 dX6_areEnough_26 (by decide) rfl ?_ ?_
          · refine r_iconst 32 dX6_areEnough_31 rfl zci_0 ?_
            refine r_istore 34 [(4, .int (0 : Int32)), (3, .int r1), (0, .ref (G.1 117)), (1, .int a1), (2, .int a2)] dX6_areEnough_32 rfl (by decide) rfl ?_
            refine r_iconst 35 dX6_areEnough_34 rfl zci_0 ?_
            refine r_istore 37 [(5, .int (0 : Int32)), (4, .int (0 : Int32)), (3, .int r1), (0, .ref (G.1 117)), (1, .int a1), (2, .int a2)] dX6_areEnough_35 rfl (by decide) rfl ?_
            refine r_loopR [3, 4, 5, 1, 0] (fun s2 => [(0, .ref (G.1 117)), (1, .int a1), (2, .int a2), (4, .int s2.1), (5, .int s2.2)]) (fun s2 => w) (fun x => x = o) 113 (fun q3 => []) (fun q3 => w) rfl rfl (fun s2 => ?_) (fun x y h1 h2 => by cases h1; exact h2) (fun q3 => ?_)
            · rw [f_X6_areEnough_L37]
              refine r_iload 39 dX6_areEnough_37 rfl 4 rfl ?_
              refine r_bipush 41 dX6_areEnough_39 rfl zcb_28 ?_
              refine r_icmp_ge 113 44 dX6_areEnough_41 (by decide) rfl ?_ ?_
              · exact r_leaf [] (lv2 := []) rfl (fun h => h)
              · refine r_iload_n 45 dX6_areEnough_44 rfl 1 rfl rfl ?_
                refine r_aload_n 46 dX6_areEnough_45 rfl 0 rfl rfl ?_
                refine r_get 49 117 0 dX6_areEnough_46 rfl zl_117 (ce_117 G _) rfl inz6 (by decide) wf_X6_11 rfl ?_
                refine r_iload 51 dX6_areEnough_49 rfl 4 rfl ?_
                refine r_iald 52 118 28 dX6_areEnough_51 rfl zl_118 (ce_118 G _) ?_
                refine r_iand 53 dX6_areEnough_52 rfl ?_
                refine r_topi (fun y4 => ?_)
                refine r_istore 55 [(6, .int y4), (0, .ref (G.1 117)), (1, .int a1), (2, .int a2), (4, .int s2.1), (5, .int s2.2)] dX6_areEnough_53 rfl (by decide) rfl ?_
                refine r_iload 57 dX6_areEnough_55 rfl 0 rfl ?_
                refine r_iload 59 dX6_areEnough_57 rfl 4 rfl ?_
                refine r_icmp_eq 103 62 dX6_areEnough_59 (by decide) rfl ?_ ?_
                · refine r_iload 105 dX6_areEnough_103 rfl 0 rfl ?_
                  refine r_istore 107 [(4, .int y4), (6, .int y4), (0, .ref (G.1 117)), (1, .int a1), (2, .int a2), (5, .int s2.2)] dX6_areEnough_105 rfl (by decide) rfl ?_
                  refine r_iinc 110 5 [(5, .int (s2.2 + (1 : Int32))), (4, .int y4), (6, .int y4), (0, .ref (G.1 117)), (1, .int a1), (2, .int a2)] dX6_areEnough_107 rfl rfl zci_1 (by decide) rfl ?_
                  refine r_goto 37 dX6_areEnough_110 (by decide) ?_
                  exact r_leaf [3, 4, 5, 1, 0] (lv2 := [(0, .ref (G.1 117)), (1, .int a1), (2, .int a2), (4, .int y4), (5, .int (s2.2 + (1 : Int32)))]) rfl (fun h => h)
                · refine r_iload 64 dX6_areEnough_62 rfl 0 rfl ?_
                  refine r_if_eq 103 67 dX6_areEnough_64 (by decide) rfl ?_ ?_
                  · refine r_iload 105 dX6_areEnough_103 rfl 0 rfl ?_
                    refine r_istore 107 [(4, .int y4), (6, .int y4), (0, .ref (G.1 117)), (1, .int a1), (2, .int a2), (5, .int s2.2)] dX6_areEnough_105 rfl (by decide) rfl ?_
                    refine r_iinc 110 5 [(5, .int (s2.2 + (1 : Int32))), (4, .int y4), (6, .int y4), (0, .ref (G.1 117)), (1, .int a1), (2, .int a2)] dX6_areEnough_107 rfl rfl zci_1 (by decide) rfl ?_
                    refine r_goto 37 dX6_areEnough_110 (by decide) ?_
                    exact r_leaf [3, 4, 5, 1, 0] (lv2 := [(0, .ref (G.1 117)), (1, .int a1), (2, .int a2), (4, .int y4), (5, .int (s2.2 + (1 : Int32)))]) rfl (fun h => h)
                  · refine r_iload 69 dX6_areEnough_67 rfl 0 rfl ?_
                    refine r_iload_n 70 dX6_areEnough_69 rfl 2 rfl rfl ?_
                    refine r_icmp_eq 103 73 dX6_areEnough_70 (by decide) rfl ?_ ?_
                    · refine r_iload 105 dX6_areEnough_103 rfl 0 rfl ?_
                      refine r_istore 107 [(4, .int y4), (6, .int y4), (0, .ref (G.1 117)), (1, .int a1), (2, .int a2), (5, .int s2.2)] dX6_areEnough_105 rfl (by decide) rfl ?_
                      refine r_iinc 110 5 [(5, .int (s2.2 + (1 : Int32))), (4, .int y4), (6, .int y4), (0, .ref (G.1 117)), (1, .int a1), (2, .int a2)] dX6_areEnough_107 rfl rfl zci_1 (by decide) rfl ?_
                      refine r_goto 37 dX6_areEnough_110 (by decide) ?_
                      exact r_leaf [3, 4, 5, 1, 0] (lv2 := [(0, .ref (G.1 117)), (1, .int a1), (2, .int a2), (4, .int y4), (5, .int (s2.2 + (1 : Int32)))]) rfl (fun h => h)
                    · refine r_aload_n 74 dX6_areEnough_73 rfl 1 rfl rfl ?_
                      refine r_iload 76 dX6_areEnough_74 rfl 0 rfl ?_
                      refine r_iload_n 77 dX6_areEnough_76 rfl 3 rfl rfl ?_
                      refine r_iconst 78 dX6_areEnough_77 rfl zci_1 ?_
                      refine r_isub 79 dX6_areEnough_78 rfl ?_
                      refine r_callSi 82 3 [.ref (G.1 117), .int y4, .int (a2 - (1 : Int32))] (st := []) dX6_areEnough_79 rfl rfl (fun r h => ih (d - 1) (by omega) w y4 (a2 - (1 : Int32)) r h) wc_X6_areEnough wz_X6 wl_X6_56 wst_X6_areEnough zd_X6_areEnough (by decide) (by omega) rfl (Nat.le_of_ble_eq_true rfl) (fun r5 => ?_)
                      refine r_if_eq 103 85 dX6_areEnough_82 (by decide) rfl ?_ ?_
                      · refine r_iload 105 dX6_areEnough_103 rfl 0 rfl ?_
                        refine r_istore 107 [(4, .int y4), (6, .int y4), (0, .ref (G.1 117)), (1, .int a1), (2, .int a2), (5, .int s2.2)] dX6_areEnough_105 rfl (by decide) rfl ?_
                        refine r_iinc 110 5 [(5, .int (s2.2 + (1 : Int32))), (4, .int y4), (6, .int y4), (0, .ref (G.1 117)), (1, .int a1), (2, .int a2)] dX6_areEnough_107 rfl rfl zci_1 (by decide) rfl ?_
                        refine r_goto 37 dX6_areEnough_110 (by decide) ?_
                        exact r_leaf [3, 4, 5, 1, 0] (lv2 := [(0, .ref (G.1 117)), (1, .int a1), (2, .int a2), (4, .int y4), (5, .int (s2.2 + (1 : Int32)))]) rfl (fun h => h)
                      · refine r_aload_n 86 dX6_areEnough_85 rfl 1 rfl rfl ?_
                        refine r_iload_n 87 dX6_areEnough_86 rfl 2 rfl rfl ?_
                        refine r_iload 89 dX6_areEnough_87 rfl 0 rfl ?_
                        refine r_iconst 90 dX6_areEnough_89 rfl zci_m1 ?_
                        refine r_ixor 91 dX6_areEnough_90 rfl ?_
                        refine r_iand 92 dX6_areEnough_91 rfl ?_
                        refine r_iload_n 93 dX6_areEnough_92 rfl 3 rfl rfl ?_
                        refine r_iconst 94 dX6_areEnough_93 rfl zci_1 ?_
                        refine r_isub 95 dX6_areEnough_94 rfl ?_
                        refine r_callSi 98 3 [.ref (G.1 117), .int (a1 &&& (y4 ^^^ (-1 : Int32))), .int (a2 - (1 : Int32))] (st := []) dX6_areEnough_95 rfl rfl (fun r h => ih (d - 1) (by omega) w (a1 &&& (y4 ^^^ (-1 : Int32))) (a2 - (1 : Int32)) r h) wc_X6_areEnough wz_X6 wl_X6_56 wst_X6_areEnough zd_X6_areEnough (by decide) (by omega) rfl (Nat.le_of_ble_eq_true rfl) (fun r6 => ?_)
                        refine r_if_eq 103 101 dX6_areEnough_98 (by decide) rfl ?_ ?_
                        · refine r_iload 105 dX6_areEnough_103 rfl 0 rfl ?_
                          refine r_istore 107 [(4, .int y4), (6, .int y4), (0, .ref (G.1 117)), (1, .int a1), (2, .int a2), (5, .int s2.2)] dX6_areEnough_105 rfl (by decide) rfl ?_
                          refine r_iinc 110 5 [(5, .int (s2.2 + (1 : Int32))), (4, .int y4), (6, .int y4), (0, .ref (G.1 117)), (1, .int a1), (2, .int a2)] dX6_areEnough_107 rfl rfl zci_1 (by decide) rfl ?_
                          refine r_goto 37 dX6_areEnough_110 (by decide) ?_
                          exact r_leaf [3, 4, 5, 1, 0] (lv2 := [(0, .ref (G.1 117)), (1, .int a1), (2, .int a2), (4, .int y4), (5, .int (s2.2 + (1 : Int32)))]) rfl (fun h => h)
                        · refine r_iconst 102 dX6_areEnough_101 rfl zci_1 ?_
                          exact r_zret dX6_areEnough_102 rfl rfl z_ki
            · refine r_iconst 114 dX6_areEnough_113 rfl zci_0 ?_
              exact r_zret dX6_areEnough_114 rfl rfl z_ki
          · refine r_iconst 30 dX6_areEnough_29 rfl zci_0 ?_
            exact r_zret dX6_areEnough_30 rfl rfl z_ki
    · refine r_iconst 11 dX6_areEnough_10 rfl zci_1 ?_
      exact r_zret dX6_areEnough_11 rfl rfl z_ki
-- X6_questionsFor
def f_X6_questionsFor_L13 (w : ZW) (a1 : Int32) (s2 : Int32) : Option ((Int32) ⊕ ((Int32) ⊕ (Unit))) :=
  if (14 : Int32) ≤ s2 then
  some (.inr (.inr ()))
else
  (f_X6_areEnough 20 w a1 s2).bind fun r4 : Int32 =>
    if r4 = 0 then
    some (.inl (s2 + (1 : Int32)))
  else
    some (.inr (.inl s2))
def f_X6_questionsFor (w : ZW) (a1 : Int32) : Option (Int32) :=
  (f_X6_areApart w a1).bind fun r1 : Int32 =>
  if r1 = 0 then
  some (-4 : Int32)
else
  (z_iter (f_X6_questionsFor_L13 w a1) z_fuel (0 : Int32)).bind (Sum.elim (fun x : Int32 => some x) (fun q3 : Unit =>
    some (-4 : Int32)))
set_option maxHeartbeats 4000000 in
set_option maxRecDepth 100000 in
theorem c_X6_questionsFor (G : ZG) (l : Launch) (d : Nat) (hd : 23 ≤ d) (w : ZW) (a1 : Int32) : ∀ o, f_X6_questionsFor w a1 = some o → zM G l d yX6_questionsFor cX6_questionsFor 3 (some .int) [.ref (G.1 117), .int a1] w (some (.int o)) w := by
  intro o ho
  refine zM.of [(0, .ref (G.1 117)), (1, .int a1)] (by decide) (Nat.le_of_ble_eq_true rfl) rfl ?_
  refine (?_ : zR G l d "LoveLocks$Seeker" cX6_questionsFor 3 (some .int) (some (.int o)) w (fun x => x = o) 0 [(0, .ref (G.1 117)), (1, .int a1)] [] w (f_X6_questionsFor w a1)) o ho rfl
  rw [f_X6_questionsFor]
  refine r_aload_n 1 dX6_questionsFor_0 rfl 0 rfl rfl ?_
  refine r_iload_n 2 dX6_questionsFor_1 rfl 1 rfl rfl ?_
  refine r_callVi 5 1 (ko := 117) [.int a1] (st := []) dX6_questionsFor_2 rfl rfl (fun r h => c_X6_areApart G l (d - 1) (by omega) w a1 r h) zl_117 (ce_117 G _) rfl rfl wc_X6_areApart wz_X6 wl_X6_52 wi_X6_areApart ws_X6_areApart zd_X6_areApart (by decide) (by omega) rfl (Nat.le_of_ble_eq_true rfl) (fun r1 => ?_)
  refine r_if_ne 11 8 dX6_questionsFor_5 (by decide) rfl ?_ ?_
  · refine r_iconst 12 dX6_questionsFor_11 rfl zci_0 ?_
    refine r_istore_n 13 [(2, .int (0 : Int32)), (0, .ref (G.1 117)), (1, .int a1)] dX6_questionsFor_12 rfl rfl (by decide) rfl ?_
    refine r_loopR [1, 2, 0] (fun s2 => [(0, .ref (G.1 117)), (1, .int a1), (2, .int s2)]) (fun s2 => w) (fun x => x = o) 36 (fun q3 => []) (fun q3 => w) rfl rfl (fun s2 => ?_) (fun x y h1 h2 => by cases h1; exact h2) (fun q3 => ?_)
    · rw [f_X6_questionsFor_L13]
      refine r_iload_n 14 dX6_questionsFor_13 rfl 2 rfl rfl ?_
      refine r_bipush 16 dX6_questionsFor_14 rfl zcb_14 ?_
      refine r_icmp_ge 36 19 dX6_questionsFor_16 (by decide) rfl ?_ ?_
      · exact r_leaf [] (lv2 := []) rfl (fun h => h)
      · refine r_aload_n 20 dX6_questionsFor_19 rfl 0 rfl rfl ?_
        refine r_iload_n 21 dX6_questionsFor_20 rfl 1 rfl rfl ?_
        refine r_iload_n 22 dX6_questionsFor_21 rfl 2 rfl rfl ?_
        refine r_callSi 25 3 [.ref (G.1 117), .int a1, .int s2] (st := []) dX6_questionsFor_22 rfl rfl (fun r h => c_X6_areEnough G l 20 (d - 1) (by omega) w a1 s2 r h) wc_X6_areEnough wz_X6 wl_X6_56 wst_X6_areEnough zd_X6_areEnough (by decide) (by omega) rfl (Nat.le_of_ble_eq_true rfl) (fun r4 => ?_)
        refine r_if_eq 30 28 dX6_questionsFor_25 (by decide) rfl ?_ ?_
        · refine r_iinc 33 2 [(2, .int (s2 + (1 : Int32))), (0, .ref (G.1 117)), (1, .int a1)] dX6_questionsFor_30 rfl rfl zci_1 (by decide) rfl ?_
          refine r_goto 13 dX6_questionsFor_33 (by decide) ?_
          exact r_leaf [1, 2, 0] (lv2 := [(0, .ref (G.1 117)), (1, .int a1), (2, .int (s2 + (1 : Int32)))]) rfl (fun h => h)
        · refine r_iload_n 29 dX6_questionsFor_28 rfl 2 rfl rfl ?_
          exact r_iret dX6_questionsFor_29 rfl z_ki
    · refine r_bipush 38 dX6_questionsFor_36 rfl zcb_m4 ?_
      exact r_iret dX6_questionsFor_38 rfl z_ki
  · refine r_bipush 10 dX6_questionsFor_8 rfl zcb_m4 ?_
    exact r_iret dX6_questionsFor_10 rfl z_ki
-- X11_needed
def f_X11_needed (w : ZW) (a1 : Int32) : Option (Int32 × ZW) :=
  (f_X11_isSought w a1).bind fun r1 : Int32 =>
  if r1 = 0 then
  some ((-1 : Int32), w)
else
  (f_X6_learn w).bind fun r2 : ZW =>
    (f_X6_questionsFor r2 a1).bind fun r3 : Int32 =>
    some (r3, r2)
set_option maxHeartbeats 4000000 in
set_option maxRecDepth 100000 in
theorem c_X11_needed (G : ZG) (l : Launch) (d : Nat) (hd : 24 ≤ d) (w : ZW) (a1 : Int32) : ∀ o, f_X11_needed w a1 = some o → zM G l d yX11_needed cX11_needed 2 (some .int) [.ref (G.1 0), .int a1] w (some (.int o.1)) o.2 := by
  intro o ho
  refine zM.of [(0, .ref (G.1 0)), (1, .int a1)] (by decide) (Nat.le_of_ble_eq_true rfl) rfl ?_
  refine (?_ : zR G l d "LoveLocks" cX11_needed 2 (some .int) (some (.int o.1)) o.2 (fun x => x = o) 0 [(0, .ref (G.1 0)), (1, .int a1)] [] w (f_X11_needed w a1)) o ho rfl
  rw [f_X11_needed]
  refine r_aload_n 1 dX11_needed_0 rfl 0 rfl rfl ?_
  refine r_iload_n 2 dX11_needed_1 rfl 1 rfl rfl ?_
  refine r_callVi 5 1 (ko := 0) [.int a1] (st := []) dX11_needed_2 rfl rfl (fun r h => c_X11_isSought G l (d - 1) (by omega) w a1 r h) zl_0 (ce_0 G _) rfl rfl wc_X11_isSought wz_X11 wl_X11_263 wi_X11_isSought ws_X11_isSought zd_X11_isSought (by decide) (by omega) rfl (Nat.le_of_ble_eq_true rfl) (fun r1 => ?_)
  refine r_if_ne 10 8 dX11_needed_5 (by decide) rfl ?_ ?_
  · refine r_aload_n 11 dX11_needed_10 rfl 0 rfl rfl ?_
    refine r_get 14 0 4 dX11_needed_11 rfl zl_0 (ce_0 G _) rfl inz11 (by decide) wf_X11_29 rfl ?_
    refine r_aload_n 15 dX11_needed_14 rfl 0 rfl rfl ?_
    refine r_get 18 0 0 dX11_needed_15 rfl zl_0 (ce_0 G _) rfl inz11 (by decide) wf_X11_10 rfl ?_
    refine r_get 21 1 0 dX11_needed_18 rfl zl_1 (ce_1 G _) rfl inz9 (by decide) wf_X11_59 rfl ?_
    refine r_callVvw 24 1 (ko := 117) [.ref (G.1 2)] (st := []) dX11_needed_21 rfl rfl (fun r h => c_X6_learn G l (d - 1) (by omega) w r h) zl_117 (ce_117 G _) rfl rfl wc_X6_learn wz_X6 wl_X11_266 wi_X6_learn ws_X6_learn zd_X6_learn (by decide) (by omega) rfl (Nat.le_of_ble_eq_true rfl) (fun r2 => ?_)
    refine r_aload_n 25 dX11_needed_24 rfl 0 rfl rfl ?_
    refine r_get 28 0 4 dX11_needed_25 rfl zl_0 (ce_0 G _) rfl inz11 (by decide) wf_X11_29 rfl ?_
    refine r_iload_n 29 dX11_needed_28 rfl 1 rfl rfl ?_
    refine r_callVi 32 1 (ko := 117) [.int a1] (st := []) dX11_needed_29 rfl rfl (fun r h => c_X6_questionsFor G l (d - 1) (by omega) r2 a1 r h) zl_117 (ce_117 G _) rfl rfl wc_X6_questionsFor wz_X6 wl_X11_279 wi_X6_questionsFor ws_X6_questionsFor zd_X6_questionsFor (by decide) (by omega) rfl (Nat.le_of_ble_eq_true rfl) (fun r3 => ?_)
    exact r_iret dX11_needed_32 rfl z_kiw
  · refine r_iconst 9 dX11_needed_8 rfl zci_m1 ?_
    exact r_iret dX11_needed_9 rfl z_kiw
-- X1_keepLoot
def f_X1_keepLoot (w : ZW) (a1 : Int32) : Option (ZW) :=
  z_let (z_upI w 119 0 ((w.1 119 0) + (1 : Int32))) fun w1 =>
  z_let (z_upI w1 119 1 ((w1.1 119 1) &&& a1)) fun w2 =>
  z_let (z_upI w2 119 2 ((w2.1 119 2) ||| a1)) fun w3 =>
  some w3
set_option maxHeartbeats 4000000 in
set_option maxRecDepth 100000 in
theorem c_X1_keepLoot (G : ZG) (l : Launch) (d : Nat) (hd : 1 ≤ d) (w : ZW) (a1 : Int32) : ∀ o, f_X1_keepLoot w a1 = some o → zM G l d yX1_keepLoot cX1_keepLoot 2 none [.ref (G.1 119), .int a1] w none o := by
  intro o ho
  refine zM.of [(0, .ref (G.1 119)), (1, .int a1)] (by decide) (Nat.le_of_ble_eq_true rfl) rfl ?_
  refine (?_ : zR G l d "LoveLocks$Looter" cX1_keepLoot 2 none none o (fun x => x = o) 0 [(0, .ref (G.1 119)), (1, .int a1)] [] w (f_X1_keepLoot w a1)) o ho rfl
  rw [f_X1_keepLoot]
  refine r_aload_n 1 dX1_keepLoot_0 rfl 0 rfl rfl ?_
  refine r_dup 2 dX1_keepLoot_1 rfl rfl ?_
  refine r_get 5 119 0 dX1_keepLoot_2 rfl zl_119 (ce_119 G _) rfl inz1 (by decide) wf_X1_9 rfl ?_
  refine r_iconst 6 dX1_keepLoot_5 rfl zci_1 ?_
  refine r_iadd 7 dX1_keepLoot_6 rfl ?_
  refine r_puti 10 119 0 dX1_keepLoot_7 rfl zl_119 (ce_119 G _) rfl inz1 tyX1_ok nmX1 (by decide) wf_X1_9 rfl rfl (Nat.le_of_ble_eq_true rfl) rfl ?_
  refine r_topw (fun w1 => ?_)
  refine r_aload_n 11 dX1_keepLoot_10 rfl 0 rfl rfl ?_
  refine r_dup 12 dX1_keepLoot_11 rfl rfl ?_
  refine r_get 15 119 1 dX1_keepLoot_12 rfl zl_119 (ce_119 G _) rfl inz1 (by decide) wf_X1_15 rfl ?_
  refine r_iload_n 16 dX1_keepLoot_15 rfl 1 rfl rfl ?_
  refine r_iand 17 dX1_keepLoot_16 rfl ?_
  refine r_puti 20 119 1 dX1_keepLoot_17 rfl zl_119 (ce_119 G _) rfl inz1 tyX1_ok nmX1 (by decide) wf_X1_15 rfl rfl (Nat.le_of_ble_eq_true rfl) rfl ?_
  refine r_topw (fun w2 => ?_)
  refine r_aload_n 21 dX1_keepLoot_20 rfl 0 rfl rfl ?_
  refine r_dup 22 dX1_keepLoot_21 rfl rfl ?_
  refine r_get 25 119 2 dX1_keepLoot_22 rfl zl_119 (ce_119 G _) rfl inz1 (by decide) wf_X1_18 rfl ?_
  refine r_iload_n 26 dX1_keepLoot_25 rfl 1 rfl rfl ?_
  refine r_ior 27 dX1_keepLoot_26 rfl ?_
  refine r_puti 30 119 2 dX1_keepLoot_27 rfl zl_119 (ce_119 G _) rfl inz1 tyX1_ok nmX1 (by decide) wf_X1_18 rfl rfl (Nat.le_of_ble_eq_true rfl) rfl ?_
  refine r_topw (fun w3 => ?_)
  exact r_vret dX1_keepLoot_30 rfl z_kvw
-- X1_takeFrom
def f_X1_takeFrom_J20 (a5 : Int32) (a4 : Int32) (w1 : ZW) : Option (ZW) :=
  if a5 = 0 then
  if a4 = 0 then
    some w1
  else
    (f_X1_keepLoot w1 a4).bind fun r2 : ZW =>
      some r2
else
  some w1
def f_X1_takeFrom_J124 (a3 : Int32) (rc : ZW → Int32 → Int32 → Int32 → Int32 → Option (ZW)) (a2 : Int32) (a4 : Int32) (a5 : Int32) (w13 : ZW) : Option (ZW) :=
  if z_in a3 14 then
  (rc w13 a2 (a3 + (1 : Int32)) (a4 ||| ((1 : Int32) <<< (a3 &&& 31))) (a5 - (w13.1 6 a3.toNatClampNeg))).bind fun r14 : ZW =>
  some r14
else none
def f_X1_takeFrom_J105 (a3 : Int32) (rc : ZW → Int32 → Int32 → Int32 → Int32 → Option (ZW)) (a2 : Int32) (a4 : Int32) (a5 : Int32) (x6_10 : Int32) (x7_11 : Int32) (w12 : ZW) : Option (ZW) :=
  if x7_11 = 0 then
  if x6_10 = 0 then
    some w12
  else
    if z_in a3 14 then
      if (w12.1 7 a3.toNatClampNeg) = 0 then
      f_X1_takeFrom_J124 a3 rc a2 a4 a5 w12
    else
      some w12
    else none
else
  f_X1_takeFrom_J124 a3 rc a2 a4 a5 w12
def f_X1_takeFrom_J85 (rc : ZW → Int32 → Int32 → Int32 → Int32 → Option (ZW)) (a2 : Int32) (a3 : Int32) (a4 : Int32) (a5 : Int32) (x6_7 : Int32) (k8 : Int32) (w9 : ZW) : Option (ZW) :=
  if k8 = 0 then
  (rc w9 a2 (a3 + (1 : Int32)) a4 a5).bind fun r15 : ZW =>
    f_X1_takeFrom_J105 a3 rc a2 a4 a5 x6_7 k8 r15
else
  f_X1_takeFrom_J105 a3 rc a2 a4 a5 x6_7 k8 w9
def f_X1_takeFrom_J84 (rc : ZW → Int32 → Int32 → Int32 → Int32 → Option (ZW)) (a2 : Int32) (a3 : Int32) (a4 : Int32) (a5 : Int32) (x6_5 : Int32) (w6 : ZW) : Option (ZW) :=
  f_X1_takeFrom_J85 rc a2 a3 a4 a5 x6_5 (0 : Int32) w6
def f_X1_takeFrom_J50 (rc : ZW → Int32 → Int32 → Int32 → Int32 → Option (ZW)) (a2 : Int32) (a3 : Int32) (a4 : Int32) (a5 : Int32) (k3 : Int32) (w4 : ZW) : Option (ZW) :=
  if k3 = 0 then
  f_X1_takeFrom_J84 rc a2 a3 a4 a5 k3 w4
else
  if z_in a3 14 then
    if (w4.1 11 a3.toNatClampNeg) < 0 then
    f_X1_takeFrom_J84 rc a2 a3 a4 a5 k3 w4
  else
    if z_in a3 14 then
      if ((a4 >>> ((w4.1 11 a3.toNatClampNeg) &&& 31)) &&& (1 : Int32)) = 0 then
      f_X1_takeFrom_J84 rc a2 a3 a4 a5 k3 w4
    else
      f_X1_takeFrom_J85 rc a2 a3 a4 a5 k3 (1 : Int32) w4
    else none
  else none
def f_X1_takeFrom : Nat → ZW → Int32 → Int32 → Int32 → Int32 → Option (ZW)
  | 0, _, _, _, _, _ => none
  | n + 1, w, a2, a3, a4, a5 =>
    if 0 ≤ a5 then
  if (w.1 2 4) ≤ a3 then
    f_X1_takeFrom_J20 a5 a4 w
  else
    if a3 < (14 : Int32) then
      if ((a2 >>> (a3 &&& 31)) &&& (1 : Int32)) = 0 then
        f_X1_takeFrom_J50 (f_X1_takeFrom n) a2 a3 a4 a5 (0 : Int32) w
      else
        f_X1_takeFrom_J50 (f_X1_takeFrom n) a2 a3 a4 a5 (1 : Int32) w
    else
      f_X1_takeFrom_J20 a5 a4 w
else
  some w
set_option maxHeartbeats 4000000 in
set_option maxRecDepth 100000 in
theorem c_X1_takeFrom (G : ZG) (l : Launch) : ∀ (n d : Nat), n + 2 ≤ d → ∀ (w : ZW) (a2 : Int32) (a3 : Int32) (a4 : Int32) (a5 : Int32) o, f_X1_takeFrom n w a2 a3 a4 a5 = some o → zM G l d yX1_takeFrom cX1_takeFrom 8 none [.ref (G.1 119), .ref (G.1 2), .int a2, .int a3, .int a4, .int a5] w none o := by
  intro n
  induction n with
  | zero =>
    intro d hd w a2 a3 a4 a5 o ho
    cases ho
  | succ n ih =>
    intro d hd w a2 a3 a4 a5 o ho
    refine zM.of [(0, .ref (G.1 119)), (1, .ref (G.1 2)), (2, .int a2), (3, .int a3), (4, .int a4), (5, .int a5)] (by decide) (Nat.le_of_ble_eq_true rfl) rfl ?_
    refine (?_ : zR G l d "LoveLocks$Looter" cX1_takeFrom 8 none none o (fun x => x = o) 0 [(0, .ref (G.1 119)), (1, .ref (G.1 2)), (2, .int a2), (3, .int a3), (4, .int a4), (5, .int a5)] [] w (f_X1_takeFrom (n + 1) w a2 a3 a4 a5)) o ho rfl
    rw [f_X1_takeFrom]
    have hJ20 : ∀ (w1 : ZW), zR G l d "LoveLocks$Looter" cX1_takeFrom 8 none none o (fun x => x = o) 20 [(0, .ref (G.1 119)), (4, .int a4), (5, .int a5)] [] w1 (f_X1_takeFrom_J20 a5 a4 w1) := by
      intro w1
      rw [f_X1_takeFrom_J20]
      refine r_iload 22 dX1_takeFrom_20 rfl 2 rfl ?_
      refine r_if_ne 36 25 dX1_takeFrom_22 (by decide) rfl ?_ ?_
      · exact r_vret dX1_takeFrom_36 rfl z_kvw
      · refine r_iload 27 dX1_takeFrom_25 rfl 1 rfl ?_
        refine r_if_eq 36 30 dX1_takeFrom_27 (by decide) rfl ?_ ?_
        · exact r_vret dX1_takeFrom_36 rfl z_kvw
        · refine r_aload_n 31 dX1_takeFrom_30 rfl 0 rfl rfl ?_
          refine r_iload 33 dX1_takeFrom_31 rfl 1 rfl ?_
          refine r_callVvw 36 1 (ko := 119) [.int a4] (st := []) dX1_takeFrom_33 rfl rfl (fun r h => c_X1_keepLoot G l (d - 1) (by omega) w1 a4 r h) zl_119 (ce_119 G _) rfl rfl wc_X1_keepLoot wz_X1 wl_X1_34 wi_X1_keepLoot ws_X1_keepLoot zd_X1_keepLoot (by decide) (by omega) rfl (Nat.le_of_ble_eq_true rfl) (fun r2 => ?_)
          exact r_vret dX1_takeFrom_36 rfl z_kvw
    have hJ124 : ∀ (w13 : ZW), zR G l d "LoveLocks$Looter" cX1_takeFrom 8 none none o (fun x => x = o) 124 [(0, .ref (G.1 119)), (1, .ref (G.1 2)), (2, .int a2), (3, .int a3), (4, .int a4), (5, .int a5)] [] w13 (f_X1_takeFrom_J124 a3 (f_X1_takeFrom n) a2 a4 a5 w13) := by
      intro w13
      rw [f_X1_takeFrom_J124]
      refine r_aload_n 125 dX1_takeFrom_124 rfl 0 rfl rfl ?_
      refine r_aload_n 126 dX1_takeFrom_125 rfl 1 rfl rfl ?_
      refine r_iload_n 127 dX1_takeFrom_126 rfl 2 rfl rfl ?_
      refine r_iload_n 128 dX1_takeFrom_127 rfl 3 rfl rfl ?_
      refine r_iconst 129 dX1_takeFrom_128 rfl zci_1 ?_
      refine r_iadd 130 dX1_takeFrom_129 rfl ?_
      refine r_iload 132 dX1_takeFrom_130 rfl 4 rfl ?_
      refine r_iconst 133 dX1_takeFrom_132 rfl zci_1 ?_
      refine r_iload_n 134 dX1_takeFrom_133 rfl 3 rfl rfl ?_
      refine r_ishl 135 dX1_takeFrom_134 rfl ?_
      refine r_ior 136 dX1_takeFrom_135 rfl ?_
      refine r_iload 138 dX1_takeFrom_136 rfl 5 rfl ?_
      refine r_aload_n 139 dX1_takeFrom_138 rfl 1 rfl rfl ?_
      refine r_get 142 2 6 dX1_takeFrom_139 rfl zl_2 (ce_2 G _) rfl inz4 (by decide) wf_X1_45 rfl ?_
      refine r_iload_n 143 dX1_takeFrom_142 rfl 3 rfl rfl ?_
      refine r_iald 144 6 14 dX1_takeFrom_143 rfl zl_6 (ce_6 G _) ?_
      refine r_isub 145 dX1_takeFrom_144 rfl ?_
      refine r_callSvw 148 6 [.ref (G.1 119), .ref (G.1 2), .int a2, .int (a3 + (1 : Int32)), .int (a4 ||| ((1 : Int32) <<< (a3 &&& 31))), .int (a5 - (w13.1 6 a3.toNatClampNeg))] (st := []) dX1_takeFrom_145 rfl rfl (fun r h => ih (d - 1) (by omega) w13 a2 (a3 + (1 : Int32)) (a4 ||| ((1 : Int32) <<< (a3 &&& 31))) (a5 - (w13.1 6 a3.toNatClampNeg)) r h) wc_X1_takeFrom wz_X1 wl_X1_27 wst_X1_takeFrom zd_X1_takeFrom (by decide) (by omega) rfl (Nat.le_of_ble_eq_true rfl) (fun r14 => ?_)
      exact r_vret dX1_takeFrom_148 rfl z_kvw
    have hJ105 : ∀ (x6_10 : Int32) (x7_11 : Int32) (w12 : ZW), zR G l d "LoveLocks$Looter" cX1_takeFrom 8 none none o (fun x => x = o) 105 [(0, .ref (G.1 119)), (1, .ref (G.1 2)), (2, .int a2), (3, .int a3), (4, .int a4), (5, .int a5), (6, .int x6_10), (7, .int x7_11)] [] w12 (f_X1_takeFrom_J105 a3 (f_X1_takeFrom n) a2 a4 a5 x6_10 x7_11 w12) := by
      intro x6_10 x7_11 w12
      rw [f_X1_takeFrom_J105]
      refine r_iload 107 dX1_takeFrom_105 rfl 7 rfl ?_
      refine r_if_ne 124 110 dX1_takeFrom_107 (by decide) rfl ?_ ?_
      · exact r_sub [0, 1, 2, 3, 4, 5] (lv2 := [(0, .ref (G.1 119)), (1, .ref (G.1 2)), (2, .int a2), (3, .int a3), (4, .int a4), (5, .int a5)]) rfl (hJ124 w12)
      · refine r_iload 112 dX1_takeFrom_110 rfl 6 rfl ?_
        refine r_if_eq 148 115 dX1_takeFrom_112 (by decide) rfl ?_ ?_
        · exact r_vret dX1_takeFrom_148 rfl z_kvw
        · refine r_aload_n 116 dX1_takeFrom_115 rfl 1 rfl rfl ?_
          refine r_get 119 2 7 dX1_takeFrom_116 rfl zl_2 (ce_2 G _) rfl inz4 (by decide) wf_X1_42 rfl ?_
          refine r_iload_n 120 dX1_takeFrom_119 rfl 3 rfl rfl ?_
          refine r_iald 121 7 14 dX1_takeFrom_120 rfl zl_7 (ce_7 G _) ?_
          refine r_if_ne 148 124 dX1_takeFrom_121 (by decide) rfl ?_ ?_
          · exact r_vret dX1_takeFrom_148 rfl z_kvw
          · exact r_sub [0, 1, 2, 3, 4, 5] (lv2 := [(0, .ref (G.1 119)), (1, .ref (G.1 2)), (2, .int a2), (3, .int a3), (4, .int a4), (5, .int a5)]) rfl (hJ124 w12)
    have hJ85 : ∀ (x6_7 : Int32) (k8 : Int32) (w9 : ZW), zR G l d "LoveLocks$Looter" cX1_takeFrom 8 none none o (fun x => x = o) 85 [(0, .ref (G.1 119)), (1, .ref (G.1 2)), (2, .int a2), (3, .int a3), (4, .int a4), (5, .int a5), (6, .int x6_7)] [.int k8] w9 (f_X1_takeFrom_J85 (f_X1_takeFrom n) a2 a3 a4 a5 x6_7 k8 w9) := by
      intro x6_7 k8 w9
      rw [f_X1_takeFrom_J85]
      refine r_istore 87 [(7, .int k8), (0, .ref (G.1 119)), (1, .ref (G.1 2)), (2, .int a2), (3, .int a3), (4, .int a4), (5, .int a5), (6, .int x6_7)] dX1_takeFrom_85 rfl (by decide) rfl ?_
      refine r_iload 89 dX1_takeFrom_87 rfl 0 rfl ?_
      refine r_if_ne 105 92 dX1_takeFrom_89 (by decide) rfl ?_ ?_
      · exact r_sub [1, 2, 3, 4, 5, 6, 7, 0] (lv2 := [(0, .ref (G.1 119)), (1, .ref (G.1 2)), (2, .int a2), (3, .int a3), (4, .int a4), (5, .int a5), (6, .int x6_7), (7, .int k8)]) rfl (hJ105 x6_7 k8 w9)
      · refine r_aload_n 93 dX1_takeFrom_92 rfl 1 rfl rfl ?_
        refine r_aload_n 94 dX1_takeFrom_93 rfl 2 rfl rfl ?_
        refine r_iload_n 95 dX1_takeFrom_94 rfl 3 rfl rfl ?_
        refine r_iload_n 96 dX1_takeFrom_95 rfl 4 rfl rfl ?_
        refine r_iconst 97 dX1_takeFrom_96 rfl zci_1 ?_
        refine r_iadd 98 dX1_takeFrom_97 rfl ?_
        refine r_iload 100 dX1_takeFrom_98 rfl 5 rfl ?_
        refine r_iload 102 dX1_takeFrom_100 rfl 6 rfl ?_
        refine r_callSvw 105 6 [.ref (G.1 119), .ref (G.1 2), .int a2, .int (a3 + (1 : Int32)), .int a4, .int a5] (st := []) dX1_takeFrom_102 rfl rfl (fun r h => ih (d - 1) (by omega) w9 a2 (a3 + (1 : Int32)) a4 a5 r h) wc_X1_takeFrom wz_X1 wl_X1_27 wst_X1_takeFrom zd_X1_takeFrom (by decide) (by omega) rfl (Nat.le_of_ble_eq_true rfl) (fun r15 => ?_)
        exact r_sub [1, 2, 3, 4, 5, 6, 7, 0] (lv2 := [(0, .ref (G.1 119)), (1, .ref (G.1 2)), (2, .int a2), (3, .int a3), (4, .int a4), (5, .int a5), (6, .int x6_7), (7, .int k8)]) rfl (hJ105 x6_7 k8 r15)
    have hJ84 : ∀ (x6_5 : Int32) (w6 : ZW), zR G l d "LoveLocks$Looter" cX1_takeFrom 8 none none o (fun x => x = o) 84 [(0, .ref (G.1 119)), (1, .ref (G.1 2)), (2, .int a2), (3, .int a3), (4, .int a4), (5, .int a5), (6, .int x6_5)] [] w6 (f_X1_takeFrom_J84 (f_X1_takeFrom n) a2 a3 a4 a5 x6_5 w6) := by
      intro x6_5 w6
      rw [f_X1_takeFrom_J84]
      refine r_iconst 85 dX1_takeFrom_84 rfl zci_0 ?_
      exact r_sub [0, 1, 2, 3, 4, 5, 6] (lv2 := [(0, .ref (G.1 119)), (1, .ref (G.1 2)), (2, .int a2), (3, .int a3), (4, .int a4), (5, .int a5), (6, .int x6_5)]) rfl (hJ85 x6_5 (0 : Int32) w6)
    have hJ50 : ∀ (k3 : Int32) (w4 : ZW), zR G l d "LoveLocks$Looter" cX1_takeFrom 8 none none o (fun x => x = o) 50 [(0, .ref (G.1 119)), (1, .ref (G.1 2)), (2, .int a2), (3, .int a3), (4, .int a4), (5, .int a5)] [.int k3] w4 (f_X1_takeFrom_J50 (f_X1_takeFrom n) a2 a3 a4 a5 k3 w4) := by
      intro k3 w4
      rw [f_X1_takeFrom_J50]
      refine r_istore 52 [(6, .int k3), (0, .ref (G.1 119)), (1, .ref (G.1 2)), (2, .int a2), (3, .int a3), (4, .int a4), (5, .int a5)] dX1_takeFrom_50 rfl (by decide) rfl ?_
      refine r_iload 54 dX1_takeFrom_52 rfl 0 rfl ?_
      refine r_if_eq 84 57 dX1_takeFrom_54 (by decide) rfl ?_ ?_
      · exact r_sub [1, 2, 3, 4, 5, 6, 0] (lv2 := [(0, .ref (G.1 119)), (1, .ref (G.1 2)), (2, .int a2), (3, .int a3), (4, .int a4), (5, .int a5), (6, .int k3)]) rfl (hJ84 k3 w4)
      · refine r_aload_n 58 dX1_takeFrom_57 rfl 2 rfl rfl ?_
        refine r_get 61 2 11 dX1_takeFrom_58 rfl zl_2 (ce_2 G _) rfl inz4 (by decide) wf_X1_38 rfl ?_
        refine r_iload_n 62 dX1_takeFrom_61 rfl 4 rfl rfl ?_
        refine r_iald 63 11 14 dX1_takeFrom_62 rfl zl_11 (ce_11 G _) ?_
        refine r_if_lt 84 66 dX1_takeFrom_63 (by decide) rfl ?_ ?_
        · exact r_sub [1, 2, 3, 4, 5, 6, 0] (lv2 := [(0, .ref (G.1 119)), (1, .ref (G.1 2)), (2, .int a2), (3, .int a3), (4, .int a4), (5, .int a5), (6, .int k3)]) rfl (hJ84 k3 w4)
        · refine r_iload 68 dX1_takeFrom_66 rfl 5 rfl ?_
          refine r_aload_n 69 dX1_takeFrom_68 rfl 2 rfl rfl ?_
          refine r_get 72 2 11 dX1_takeFrom_69 rfl zl_2 (ce_2 G _) rfl inz4 (by decide) wf_X1_38 rfl ?_
          refine r_iload_n 73 dX1_takeFrom_72 rfl 4 rfl rfl ?_
          refine r_iald 74 11 14 dX1_takeFrom_73 rfl zl_11 (ce_11 G _) ?_
          refine r_ishr 75 dX1_takeFrom_74 rfl ?_
          refine r_iconst 76 dX1_takeFrom_75 rfl zci_1 ?_
          refine r_iand 77 dX1_takeFrom_76 rfl ?_
          refine r_if_eq 84 80 dX1_takeFrom_77 (by decide) rfl ?_ ?_
          · exact r_sub [1, 2, 3, 4, 5, 6, 0] (lv2 := [(0, .ref (G.1 119)), (1, .ref (G.1 2)), (2, .int a2), (3, .int a3), (4, .int a4), (5, .int a5), (6, .int k3)]) rfl (hJ84 k3 w4)
          · refine r_iconst 81 dX1_takeFrom_80 rfl zci_1 ?_
            refine r_goto 85 dX1_takeFrom_81 (by decide) ?_
            exact r_sub [1, 2, 3, 4, 5, 6, 0] (lv2 := [(0, .ref (G.1 119)), (1, .ref (G.1 2)), (2, .int a2), (3, .int a3), (4, .int a4), (5, .int a5), (6, .int k3)]) rfl (hJ85 k3 (1 : Int32) w4)
    refine r_iload 2 dX1_takeFrom_0 rfl 5 rfl ?_
    refine r_if_ge 6 5 dX1_takeFrom_2 (by decide) rfl ?_ ?_
    · refine r_iload_n 7 dX1_takeFrom_6 rfl 3 rfl rfl ?_
      refine r_aload_n 8 dX1_takeFrom_7 rfl 1 rfl rfl ?_
      refine r_get 11 2 4 dX1_takeFrom_8 rfl zl_2 (ce_2 G _) rfl inz4 (by decide) wf_X1_31 rfl ?_
      refine r_icmp_ge 20 14 dX1_takeFrom_11 (by decide) rfl ?_ ?_
      · exact r_sub [0, 4, 5] (lv2 := [(0, .ref (G.1 119)), (4, .int a4), (5, .int a5)]) rfl (hJ20 w)
      · refine r_iload_n 15 dX1_takeFrom_14 rfl 3 rfl rfl ?_
        refine r_bipush 17 dX1_takeFrom_15 rfl zcb_14 ?_
        refine r_icmp_lt 37 20 dX1_takeFrom_17 (by decide) rfl ?_ ?_
        · refine r_iload_n 38 dX1_takeFrom_37 rfl 2 rfl rfl ?_
          refine r_iload_n 39 dX1_takeFrom_38 rfl 3 rfl rfl ?_
          refine r_ishr 40 dX1_takeFrom_39 rfl ?_
          refine r_iconst 41 dX1_takeFrom_40 rfl zci_1 ?_
          refine r_iand 42 dX1_takeFrom_41 rfl ?_
          refine r_if_eq 49 45 dX1_takeFrom_42 (by decide) rfl ?_ ?_
          · refine r_iconst 50 dX1_takeFrom_49 rfl zci_0 ?_
            exact r_sub [0, 1, 2, 3, 4, 5] (lv2 := [(0, .ref (G.1 119)), (1, .ref (G.1 2)), (2, .int a2), (3, .int a3), (4, .int a4), (5, .int a5)]) rfl (hJ50 (0 : Int32) w)
          · refine r_iconst 46 dX1_takeFrom_45 rfl zci_1 ?_
            refine r_goto 50 dX1_takeFrom_46 (by decide) ?_
            exact r_sub [0, 1, 2, 3, 4, 5] (lv2 := [(0, .ref (G.1 119)), (1, .ref (G.1 2)), (2, .int a2), (3, .int a3), (4, .int a4), (5, .int a5)]) rfl (hJ50 (1 : Int32) w)
        · exact r_sub [0, 4, 5] (lv2 := [(0, .ref (G.1 119)), (4, .int a4), (5, .int a5)]) rfl (hJ20 w)
    · exact r_vret dX1_takeFrom_5 rfl z_kvw
-- X1_findLoots
def f_X1_findLoots (w : ZW) (a2 : Int32) (a3 : Int32) : Option (ZW) :=
  z_let (z_upI w 119 0 (0 : Int32)) fun w1 =>
  z_let (z_upI w1 119 1 (-1 : Int32)) fun w2 =>
  z_let (z_upI w2 119 2 (0 : Int32)) fun w3 =>
  (f_X4_weightOf w3 a2).bind fun r4 : Int32 =>
  (f_X1_takeFrom 20 w3 a2 (0 : Int32) (0 : Int32) (r4 - a3)).bind fun r5 : ZW =>
  some r5
set_option maxHeartbeats 4000000 in
set_option maxRecDepth 100000 in
theorem c_X1_findLoots (G : ZG) (l : Launch) (d : Nat) (hd : 23 ≤ d) (w : ZW) (a2 : Int32) (a3 : Int32) : ∀ o, f_X1_findLoots w a2 a3 = some o → zM G l d yX1_findLoots cX1_findLoots 4 none [.ref (G.1 119), .ref (G.1 2), .int a2, .int a3] w none o := by
  intro o ho
  refine zM.of [(0, .ref (G.1 119)), (1, .ref (G.1 2)), (2, .int a2), (3, .int a3)] (by decide) (Nat.le_of_ble_eq_true rfl) rfl ?_
  refine (?_ : zR G l d "LoveLocks$Looter" cX1_findLoots 4 none none o (fun x => x = o) 0 [(0, .ref (G.1 119)), (1, .ref (G.1 2)), (2, .int a2), (3, .int a3)] [] w (f_X1_findLoots w a2 a3)) o ho rfl
  rw [f_X1_findLoots]
  refine r_aload_n 1 dX1_findLoots_0 rfl 0 rfl rfl ?_
  refine r_iconst 2 dX1_findLoots_1 rfl zci_0 ?_
  refine r_puti 5 119 0 dX1_findLoots_2 rfl zl_119 (ce_119 G _) rfl inz1 tyX1_ok nmX1 (by decide) wf_X1_9 rfl rfl (Nat.le_of_ble_eq_true rfl) rfl ?_
  refine r_topw (fun w1 => ?_)
  refine r_aload_n 6 dX1_findLoots_5 rfl 0 rfl rfl ?_
  refine r_iconst 7 dX1_findLoots_6 rfl zci_m1 ?_
  refine r_puti 10 119 1 dX1_findLoots_7 rfl zl_119 (ce_119 G _) rfl inz1 tyX1_ok nmX1 (by decide) wf_X1_15 rfl rfl (Nat.le_of_ble_eq_true rfl) rfl ?_
  refine r_topw (fun w2 => ?_)
  refine r_aload_n 11 dX1_findLoots_10 rfl 0 rfl rfl ?_
  refine r_iconst 12 dX1_findLoots_11 rfl zci_0 ?_
  refine r_puti 15 119 2 dX1_findLoots_12 rfl zl_119 (ce_119 G _) rfl inz1 tyX1_ok nmX1 (by decide) wf_X1_18 rfl rfl (Nat.le_of_ble_eq_true rfl) rfl ?_
  refine r_topw (fun w3 => ?_)
  refine r_aload_n 16 dX1_findLoots_15 rfl 0 rfl rfl ?_
  refine r_aload_n 17 dX1_findLoots_16 rfl 1 rfl rfl ?_
  refine r_iload_n 18 dX1_findLoots_17 rfl 2 rfl rfl ?_
  refine r_iconst 19 dX1_findLoots_18 rfl zci_0 ?_
  refine r_iconst 20 dX1_findLoots_19 rfl zci_0 ?_
  refine r_aload_n 21 dX1_findLoots_20 rfl 1 rfl rfl ?_
  refine r_iload_n 22 dX1_findLoots_21 rfl 2 rfl rfl ?_
  refine r_callVi 25 1 (ko := 2) [.int a2] (st := [.int (0 : Int32), .int (0 : Int32), .int a2, .ref (G.1 2), .ref (G.1 119)]) dX1_findLoots_22 rfl rfl (fun r h => c_X4_weightOf G l (d - 1) (by omega) w3 a2 r h) zl_2 (ce_2 G _) rfl rfl wc_X4_weightOf wz_X4 wl_X1_21 wi_X4_weightOf ws_X4_weightOf zd_X4_weightOf (by decide) (by omega) rfl (Nat.le_of_ble_eq_true rfl) (fun r4 => ?_)
  refine r_iload_n 26 dX1_findLoots_25 rfl 3 rfl rfl ?_
  refine r_isub 27 dX1_findLoots_26 rfl ?_
  refine r_callSvw 30 6 [.ref (G.1 119), .ref (G.1 2), .int a2, .int (0 : Int32), .int (0 : Int32), .int (r4 - a3)] (st := []) dX1_findLoots_27 rfl rfl (fun r h => c_X1_takeFrom G l 20 (d - 1) (by omega) w3 a2 (0 : Int32) (0 : Int32) (r4 - a3) r h) wc_X1_takeFrom wz_X1 wl_X1_27 wst_X1_takeFrom zd_X1_takeFrom (by decide) (by omega) rfl (Nat.le_of_ble_eq_true rfl) (fun r5 => ?_)
  exact r_vret dX1_findLoots_30 rfl z_kvw
-- X11_stolen
def f_X11_stolen (w : ZW) (a1 : Int32) (a2 : Int32) (a3 : Int32) (a4 : Int32) : Option (Int32 × ZW) :=
  (f_X11_isBar w a1 a2).bind fun r1 : Int32 =>
  if r1 = 0 then
  some ((-1 : Int32), w)
else
  (f_X11_within a3 (0 : Int32) (99999 : Int32)).bind fun r2 : Int32 =>
    if r2 = 0 then
    some ((-1 : Int32), w)
  else
    (f_X11_within a4 (0 : Int32) (2 : Int32)).bind fun r3 : Int32 =>
      if r3 = 0 then
      some ((-1 : Int32), w)
    else
      (f_X4_hangingAt w a1 a2).bind fun r4 : Int32 =>
        (f_X1_findLoots w r4 a3).bind fun r5 : ZW =>
        if a4 = 0 then
        some (r5.1 119 0, r5)
      else
        if (r5.1 119 0) = 0 then
          some ((-4 : Int32), r5)
        else
          if a4 = (1 : Int32) then
            some (r5.1 119 1, r5)
          else
            some (r5.1 119 2, r5)
set_option maxHeartbeats 4000000 in
set_option maxRecDepth 100000 in
theorem c_X11_stolen (G : ZG) (l : Launch) (d : Nat) (hd : 24 ≤ d) (w : ZW) (a1 : Int32) (a2 : Int32) (a3 : Int32) (a4 : Int32) : ∀ o, f_X11_stolen w a1 a2 a3 a4 = some o → zM G l d yX11_stolen cX11_stolen 5 (some .int) [.ref (G.1 0), .int a1, .int a2, .int a3, .int a4] w (some (.int o.1)) o.2 := by
  intro o ho
  refine zM.of [(0, .ref (G.1 0)), (1, .int a1), (2, .int a2), (3, .int a3), (4, .int a4)] (by decide) (Nat.le_of_ble_eq_true rfl) rfl ?_
  refine (?_ : zR G l d "LoveLocks" cX11_stolen 5 (some .int) (some (.int o.1)) o.2 (fun x => x = o) 0 [(0, .ref (G.1 0)), (1, .int a1), (2, .int a2), (3, .int a3), (4, .int a4)] [] w (f_X11_stolen w a1 a2 a3 a4)) o ho rfl
  rw [f_X11_stolen]
  refine r_aload_n 1 dX11_stolen_0 rfl 0 rfl rfl ?_
  refine r_iload_n 2 dX11_stolen_1 rfl 1 rfl rfl ?_
  refine r_iload_n 3 dX11_stolen_2 rfl 2 rfl rfl ?_
  refine r_callVi 6 2 (ko := 0) [.int a1, .int a2] (st := []) dX11_stolen_3 rfl rfl (fun r h => c_X11_isBar G l (d - 1) (by omega) w a1 a2 r h) zl_0 (ce_0 G _) rfl rfl wc_X11_isBar wz_X11 wl_X11_73 wi_X11_isBar ws_X11_isBar zd_X11_isBar (by decide) (by omega) rfl (Nat.le_of_ble_eq_true rfl) (fun r1 => ?_)
  refine r_if_eq 29 9 dX11_stolen_6 (by decide) rfl ?_ ?_
  · refine r_iconst 30 dX11_stolen_29 rfl zci_m1 ?_
    exact r_iret dX11_stolen_30 rfl z_kiw
  · refine r_iload_n 10 dX11_stolen_9 rfl 3 rfl rfl ?_
    refine r_iconst 11 dX11_stolen_10 rfl zci_0 ?_
    refine r_ldc 13 dX11_stolen_11 rfl wk_X11_54 ?_
    refine r_callSi 16 3 [.int a3, .int (0 : Int32), .int (99999 : Int32)] (st := []) dX11_stolen_13 rfl rfl (fun r h => c_X11_within G l (d - 1) (by omega) w a3 (0 : Int32) (99999 : Int32) r h) wc_X11_within wz_X11 wl_X11_55 wst_X11_within zd_X11_within (by decide) (by omega) rfl (Nat.le_of_ble_eq_true rfl) (fun r2 => ?_)
    refine r_if_eq 29 19 dX11_stolen_16 (by decide) rfl ?_ ?_
    · refine r_iconst 30 dX11_stolen_29 rfl zci_m1 ?_
      exact r_iret dX11_stolen_30 rfl z_kiw
    · refine r_iload 21 dX11_stolen_19 rfl 4 rfl ?_
      refine r_iconst 22 dX11_stolen_21 rfl zci_0 ?_
      refine r_iconst 23 dX11_stolen_22 rfl zci_2 ?_
      refine r_callSi 26 3 [.int a4, .int (0 : Int32), .int (2 : Int32)] (st := []) dX11_stolen_23 rfl rfl (fun r h => c_X11_within G l (d - 1) (by omega) w a4 (0 : Int32) (2 : Int32) r h) wc_X11_within wz_X11 wl_X11_55 wst_X11_within zd_X11_within (by decide) (by omega) rfl (Nat.le_of_ble_eq_true rfl) (fun r3 => ?_)
      refine r_if_ne 31 29 dX11_stolen_26 (by decide) rfl ?_ ?_
      · refine r_aload_n 32 dX11_stolen_31 rfl 0 rfl rfl ?_
        refine r_get 35 0 5 dX11_stolen_32 rfl zl_0 (ce_0 G _) rfl inz11 (by decide) wf_X11_36 rfl ?_
        refine r_aload_n 36 dX11_stolen_35 rfl 0 rfl rfl ?_
        refine r_get 39 0 0 dX11_stolen_36 rfl zl_0 (ce_0 G _) rfl inz11 (by decide) wf_X11_10 rfl ?_
        refine r_get 42 1 0 dX11_stolen_39 rfl zl_1 (ce_1 G _) rfl inz9 (by decide) wf_X11_59 rfl ?_
        refine r_aload_n 43 dX11_stolen_42 rfl 0 rfl rfl ?_
        refine r_get 46 0 0 dX11_stolen_43 rfl zl_0 (ce_0 G _) rfl inz11 (by decide) wf_X11_10 rfl ?_
        refine r_get 49 1 0 dX11_stolen_46 rfl zl_1 (ce_1 G _) rfl inz9 (by decide) wf_X11_59 rfl ?_
        refine r_iload_n 50 dX11_stolen_49 rfl 1 rfl rfl ?_
        refine r_iload_n 51 dX11_stolen_50 rfl 2 rfl rfl ?_
        refine r_callVi 54 2 (ko := 2) [.int a1, .int a2] (st := [.ref (G.1 2), .ref (G.1 119)]) dX11_stolen_51 rfl rfl (fun r h => c_X4_hangingAt G l (d - 1) (by omega) w a1 a2 r h) zl_2 (ce_2 G _) rfl rfl wc_X4_hangingAt wz_X4 wl_X11_101 wi_X4_hangingAt ws_X4_hangingAt zd_X4_hangingAt (by decide) (by omega) rfl (Nat.le_of_ble_eq_true rfl) (fun r4 => ?_)
        refine r_iload_n 55 dX11_stolen_54 rfl 3 rfl rfl ?_
        refine r_callVvw 58 3 (ko := 119) [.ref (G.1 2), .int r4, .int a3] (st := []) dX11_stolen_55 rfl rfl (fun r h => c_X1_findLoots G l (d - 1) (by omega) w r4 a3 r h) zl_119 (ce_119 G _) rfl rfl wc_X1_findLoots wz_X1 wl_X11_282 wi_X1_findLoots ws_X1_findLoots zd_X1_findLoots (by decide) (by omega) rfl (Nat.le_of_ble_eq_true rfl) (fun r5 => ?_)
        refine r_iload 60 dX11_stolen_58 rfl 4 rfl ?_
        refine r_if_ne 71 63 dX11_stolen_60 (by decide) rfl ?_ ?_
        · refine r_aload_n 72 dX11_stolen_71 rfl 0 rfl rfl ?_
          refine r_get 75 0 5 dX11_stolen_72 rfl zl_0 (ce_0 G _) rfl inz11 (by decide) wf_X11_36 rfl ?_
          refine r_get 78 119 0 dX11_stolen_75 rfl zl_119 (ce_119 G _) rfl inz1 (by decide) wf_X11_286 rfl ?_
          refine r_if_ne 84 81 dX11_stolen_78 (by decide) rfl ?_ ?_
          · refine r_iload 86 dX11_stolen_84 rfl 4 rfl ?_
            refine r_iconst 87 dX11_stolen_86 rfl zci_1 ?_
            refine r_icmp_ne 100 90 dX11_stolen_87 (by decide) rfl ?_ ?_
            · refine r_aload_n 101 dX11_stolen_100 rfl 0 rfl rfl ?_
              refine r_get 104 0 5 dX11_stolen_101 rfl zl_0 (ce_0 G _) rfl inz11 (by decide) wf_X11_36 rfl ?_
              refine r_get 107 119 2 dX11_stolen_104 rfl zl_119 (ce_119 G _) rfl inz1 (by decide) wf_X11_292 rfl ?_
              exact r_iret dX11_stolen_107 rfl z_kiw
            · refine r_aload_n 91 dX11_stolen_90 rfl 0 rfl rfl ?_
              refine r_get 94 0 5 dX11_stolen_91 rfl zl_0 (ce_0 G _) rfl inz11 (by decide) wf_X11_36 rfl ?_
              refine r_get 97 119 1 dX11_stolen_94 rfl zl_119 (ce_119 G _) rfl inz1 (by decide) wf_X11_289 rfl ?_
              refine r_goto 107 dX11_stolen_97 (by decide) ?_
              exact r_iret dX11_stolen_107 rfl z_kiw
          · refine r_bipush 83 dX11_stolen_81 rfl zcb_m4 ?_
            exact r_iret dX11_stolen_83 rfl z_kiw
        · refine r_aload_n 64 dX11_stolen_63 rfl 0 rfl rfl ?_
          refine r_get 67 0 5 dX11_stolen_64 rfl zl_0 (ce_0 G _) rfl inz11 (by decide) wf_X11_36 rfl ?_
          refine r_get 70 119 0 dX11_stolen_67 rfl zl_119 (ce_119 G _) rfl inz1 (by decide) wf_X11_286 rfl ?_
          exact r_iret dX11_stolen_70 rfl z_kiw
      · refine r_iconst 30 dX11_stolen_29 rfl zci_m1 ?_
        exact r_iret dX11_stolen_30 rfl z_kiw
-- X4_takeOver
def f_X4_takeOver_57_2 (w : ZW) : Option (ZW) :=
  z_let (z_upI w 57 0 (w.1 2 0)) fun w1 =>
  if z_cin (0 : Int32) (0 : Int32) (6 : Int32) 6 6 then
  z_let (z_cpI w1 3 58 (0 : Int32).toNatClampNeg (0 : Int32).toNatClampNeg (6 : Int32).toNatClampNeg) fun w2 =>
  if z_cin (0 : Int32) (0 : Int32) (6 : Int32) 6 6 then
  z_let (z_cpI w2 4 59 (0 : Int32).toNatClampNeg (0 : Int32).toNatClampNeg (6 : Int32).toNatClampNeg) fun w3 =>
  if z_cin (0 : Int32) (0 : Int32) (6 : Int32) 6 6 then
  z_let (z_cpI w3 5 60 (0 : Int32).toNatClampNeg (0 : Int32).toNatClampNeg (6 : Int32).toNatClampNeg) fun w4 =>
  z_let (z_upI w4 57 4 (w4.1 2 4)) fun w5 =>
  z_let (z_upI w5 57 5 (w5.1 2 5)) fun w6 =>
  if z_cin (0 : Int32) (0 : Int32) (14 : Int32) 14 14 then
  z_let (z_cpI w6 6 61 (0 : Int32).toNatClampNeg (0 : Int32).toNatClampNeg (14 : Int32).toNatClampNeg) fun w7 =>
  if z_cin (0 : Int32) (0 : Int32) (14 : Int32) 14 14 then
  z_let (z_cpI w7 7 62 (0 : Int32).toNatClampNeg (0 : Int32).toNatClampNeg (14 : Int32).toNatClampNeg) fun w8 =>
  if z_cin (0 : Int32) (0 : Int32) (14 : Int32) 14 14 then
  z_let (z_cpI w8 8 63 (0 : Int32).toNatClampNeg (0 : Int32).toNatClampNeg (14 : Int32).toNatClampNeg) fun w9 =>
  if z_cin (0 : Int32) (0 : Int32) (14 : Int32) 14 14 then
  z_let (z_cpI w9 9 64 (0 : Int32).toNatClampNeg (0 : Int32).toNatClampNeg (14 : Int32).toNatClampNeg) fun w10 =>
  if z_cin (0 : Int32) (0 : Int32) (14 : Int32) 14 14 then
  z_let (z_cpI w10 10 65 (0 : Int32).toNatClampNeg (0 : Int32).toNatClampNeg (14 : Int32).toNatClampNeg) fun w11 =>
  if z_cin (0 : Int32) (0 : Int32) (14 : Int32) 14 14 then
  z_let (z_cpI w11 11 66 (0 : Int32).toNatClampNeg (0 : Int32).toNatClampNeg (14 : Int32).toNatClampNeg) fun w12 =>
  some w12
else none
else none
else none
else none
else none
else none
else none
else none
else none
set_option maxHeartbeats 4000000 in
set_option maxRecDepth 100000 in
theorem c_X4_takeOver_57_2 (G : ZG) (l : Launch) (d : Nat) (hd : 2 ≤ d) (w : ZW) : ∀ o, f_X4_takeOver_57_2 w = some o → zM G l d yX4_takeOver cX4_takeOver 2 none [.ref (G.1 57), .ref (G.1 2)] w none o := by
  intro o ho
  refine zM.of [(0, .ref (G.1 57)), (1, .ref (G.1 2))] (by decide) (Nat.le_of_ble_eq_true rfl) rfl ?_
  refine (?_ : zR G l d "LoveLocks$Rail" cX4_takeOver 2 none none o (fun x => x = o) 0 [(0, .ref (G.1 57)), (1, .ref (G.1 2))] [] w (f_X4_takeOver_57_2 w)) o ho rfl
  rw [f_X4_takeOver_57_2]
  refine r_aload_n 1 dX4_takeOver_0 rfl 0 rfl rfl ?_
  refine r_aload_n 2 dX4_takeOver_1 rfl 1 rfl rfl ?_
  refine r_get 5 2 0 dX4_takeOver_2 rfl zl_2 (ce_2 G _) rfl inz4 (by decide) wf_X4_39 rfl ?_
  refine r_puti 8 57 0 dX4_takeOver_5 rfl zl_57 (ce_57 G _) rfl inz4 tyX4_ok nmX4 (by decide) wf_X4_39 rfl rfl (Nat.le_of_ble_eq_true rfl) rfl ?_
  refine r_topw (fun w1 => ?_)
  refine r_aload_n 9 dX4_takeOver_8 rfl 1 rfl rfl ?_
  refine r_get 12 2 1 dX4_takeOver_9 rfl zl_2 (ce_2 G _) rfl inz4 (by decide) wf_X4_9 rfl ?_
  refine r_iconst 13 dX4_takeOver_12 rfl zci_0 ?_
  refine r_aload_n 14 dX4_takeOver_13 rfl 0 rfl rfl ?_
  refine r_get 17 57 1 dX4_takeOver_14 rfl zl_57 (ce_57 G _) rfl inz4 (by decide) wf_X4_9 rfl ?_
  refine r_iconst 18 dX4_takeOver_17 rfl zci_0 ?_
  refine r_bipush 20 dX4_takeOver_18 rfl zcb_6 ?_
  refine r_copyi 23 3 58 6 6 dX4_takeOver_20 rfl zl_3 zl_58 (ce_3 G) (ce_58 G) wl_X4_43 (by omega) (Nat.le_of_ble_eq_true rfl) ?_
  refine r_topw (fun w2 => ?_)
  refine r_aload_n 24 dX4_takeOver_23 rfl 1 rfl rfl ?_
  refine r_get 27 2 2 dX4_takeOver_24 rfl zl_2 (ce_2 G _) rfl inz4 (by decide) wf_X4_15 rfl ?_
  refine r_iconst 28 dX4_takeOver_27 rfl zci_0 ?_
  refine r_aload_n 29 dX4_takeOver_28 rfl 0 rfl rfl ?_
  refine r_get 32 57 2 dX4_takeOver_29 rfl zl_57 (ce_57 G _) rfl inz4 (by decide) wf_X4_15 rfl ?_
  refine r_iconst 33 dX4_takeOver_32 rfl zci_0 ?_
  refine r_bipush 35 dX4_takeOver_33 rfl zcb_6 ?_
  refine r_copyi 38 4 59 6 6 dX4_takeOver_35 rfl zl_4 zl_59 (ce_4 G) (ce_59 G) wl_X4_43 (by omega) (Nat.le_of_ble_eq_true rfl) ?_
  refine r_topw (fun w3 => ?_)
  refine r_aload_n 39 dX4_takeOver_38 rfl 1 rfl rfl ?_
  refine r_get 42 2 3 dX4_takeOver_39 rfl zl_2 (ce_2 G _) rfl inz4 (by decide) wf_X4_18 rfl ?_
  refine r_iconst 43 dX4_takeOver_42 rfl zci_0 ?_
  refine r_aload_n 44 dX4_takeOver_43 rfl 0 rfl rfl ?_
  refine r_get 47 57 3 dX4_takeOver_44 rfl zl_57 (ce_57 G _) rfl inz4 (by decide) wf_X4_18 rfl ?_
  refine r_iconst 48 dX4_takeOver_47 rfl zci_0 ?_
  refine r_bipush 50 dX4_takeOver_48 rfl zcb_6 ?_
  refine r_copyi 53 5 60 6 6 dX4_takeOver_50 rfl zl_5 zl_60 (ce_5 G) (ce_60 G) wl_X4_43 (by omega) (Nat.le_of_ble_eq_true rfl) ?_
  refine r_topw (fun w4 => ?_)
  refine r_aload_n 54 dX4_takeOver_53 rfl 0 rfl rfl ?_
  refine r_aload_n 55 dX4_takeOver_54 rfl 1 rfl rfl ?_
  refine r_get 58 2 4 dX4_takeOver_55 rfl zl_2 (ce_2 G _) rfl inz4 (by decide) wf_X4_49 rfl ?_
  refine r_puti 61 57 4 dX4_takeOver_58 rfl zl_57 (ce_57 G _) rfl inz4 tyX4_ok nmX4 (by decide) wf_X4_49 rfl rfl (Nat.le_of_ble_eq_true rfl) rfl ?_
  refine r_topw (fun w5 => ?_)
  refine r_aload_n 62 dX4_takeOver_61 rfl 0 rfl rfl ?_
  refine r_aload_n 63 dX4_takeOver_62 rfl 1 rfl rfl ?_
  refine r_get 66 2 5 dX4_takeOver_63 rfl zl_2 (ce_2 G _) rfl inz4 (by decide) wf_X4_52 rfl ?_
  refine r_puti 69 57 5 dX4_takeOver_66 rfl zl_57 (ce_57 G _) rfl inz4 tyX4_ok nmX4 (by decide) wf_X4_52 rfl rfl (Nat.le_of_ble_eq_true rfl) rfl ?_
  refine r_topw (fun w6 => ?_)
  refine r_aload_n 70 dX4_takeOver_69 rfl 1 rfl rfl ?_
  refine r_get 73 2 6 dX4_takeOver_70 rfl zl_2 (ce_2 G _) rfl inz4 (by decide) wf_X4_21 rfl ?_
  refine r_iconst 74 dX4_takeOver_73 rfl zci_0 ?_
  refine r_aload_n 75 dX4_takeOver_74 rfl 0 rfl rfl ?_
  refine r_get 78 57 6 dX4_takeOver_75 rfl zl_57 (ce_57 G _) rfl inz4 (by decide) wf_X4_21 rfl ?_
  refine r_iconst 79 dX4_takeOver_78 rfl zci_0 ?_
  refine r_bipush 81 dX4_takeOver_79 rfl zcb_14 ?_
  refine r_copyi 84 6 61 14 14 dX4_takeOver_81 rfl zl_6 zl_61 (ce_6 G) (ce_61 G) wl_X4_43 (by omega) (Nat.le_of_ble_eq_true rfl) ?_
  refine r_topw (fun w7 => ?_)
  refine r_aload_n 85 dX4_takeOver_84 rfl 1 rfl rfl ?_
  refine r_get 88 2 7 dX4_takeOver_85 rfl zl_2 (ce_2 G _) rfl inz4 (by decide) wf_X4_24 rfl ?_
  refine r_iconst 89 dX4_takeOver_88 rfl zci_0 ?_
  refine r_aload_n 90 dX4_takeOver_89 rfl 0 rfl rfl ?_
  refine r_get 93 57 7 dX4_takeOver_90 rfl zl_57 (ce_57 G _) rfl inz4 (by decide) wf_X4_24 rfl ?_
  refine r_iconst 94 dX4_takeOver_93 rfl zci_0 ?_
  refine r_bipush 96 dX4_takeOver_94 rfl zcb_14 ?_
  refine r_copyi 99 7 62 14 14 dX4_takeOver_96 rfl zl_7 zl_62 (ce_7 G) (ce_62 G) wl_X4_43 (by omega) (Nat.le_of_ble_eq_true rfl) ?_
  refine r_topw (fun w8 => ?_)
  refine r_aload_n 100 dX4_takeOver_99 rfl 1 rfl rfl ?_
  refine r_get 103 2 8 dX4_takeOver_100 rfl zl_2 (ce_2 G _) rfl inz4 (by decide) wf_X4_27 rfl ?_
  refine r_iconst 104 dX4_takeOver_103 rfl zci_0 ?_
  refine r_aload_n 105 dX4_takeOver_104 rfl 0 rfl rfl ?_
  refine r_get 108 57 8 dX4_takeOver_105 rfl zl_57 (ce_57 G _) rfl inz4 (by decide) wf_X4_27 rfl ?_
  refine r_iconst 109 dX4_takeOver_108 rfl zci_0 ?_
  refine r_bipush 111 dX4_takeOver_109 rfl zcb_14 ?_
  refine r_copyi 114 8 63 14 14 dX4_takeOver_111 rfl zl_8 zl_63 (ce_8 G) (ce_63 G) wl_X4_43 (by omega) (Nat.le_of_ble_eq_true rfl) ?_
  refine r_topw (fun w9 => ?_)
  refine r_aload_n 115 dX4_takeOver_114 rfl 1 rfl rfl ?_
  refine r_get 118 2 9 dX4_takeOver_115 rfl zl_2 (ce_2 G _) rfl inz4 (by decide) wf_X4_30 rfl ?_
  refine r_iconst 119 dX4_takeOver_118 rfl zci_0 ?_
  refine r_aload_n 120 dX4_takeOver_119 rfl 0 rfl rfl ?_
  refine r_get 123 57 9 dX4_takeOver_120 rfl zl_57 (ce_57 G _) rfl inz4 (by decide) wf_X4_30 rfl ?_
  refine r_iconst 124 dX4_takeOver_123 rfl zci_0 ?_
  refine r_bipush 126 dX4_takeOver_124 rfl zcb_14 ?_
  refine r_copyi 129 9 64 14 14 dX4_takeOver_126 rfl zl_9 zl_64 (ce_9 G) (ce_64 G) wl_X4_43 (by omega) (Nat.le_of_ble_eq_true rfl) ?_
  refine r_topw (fun w10 => ?_)
  refine r_aload_n 130 dX4_takeOver_129 rfl 1 rfl rfl ?_
  refine r_get 133 2 10 dX4_takeOver_130 rfl zl_2 (ce_2 G _) rfl inz4 (by decide) wf_X4_33 rfl ?_
  refine r_iconst 134 dX4_takeOver_133 rfl zci_0 ?_
  refine r_aload_n 135 dX4_takeOver_134 rfl 0 rfl rfl ?_
  refine r_get 138 57 10 dX4_takeOver_135 rfl zl_57 (ce_57 G _) rfl inz4 (by decide) wf_X4_33 rfl ?_
  refine r_iconst 139 dX4_takeOver_138 rfl zci_0 ?_
  refine r_bipush 141 dX4_takeOver_139 rfl zcb_14 ?_
  refine r_copyi 144 10 65 14 14 dX4_takeOver_141 rfl zl_10 zl_65 (ce_10 G) (ce_65 G) wl_X4_43 (by omega) (Nat.le_of_ble_eq_true rfl) ?_
  refine r_topw (fun w11 => ?_)
  refine r_aload_n 145 dX4_takeOver_144 rfl 1 rfl rfl ?_
  refine r_get 148 2 11 dX4_takeOver_145 rfl zl_2 (ce_2 G _) rfl inz4 (by decide) wf_X4_36 rfl ?_
  refine r_iconst 149 dX4_takeOver_148 rfl zci_0 ?_
  refine r_aload_n 150 dX4_takeOver_149 rfl 0 rfl rfl ?_
  refine r_get 153 57 11 dX4_takeOver_150 rfl zl_57 (ce_57 G _) rfl inz4 (by decide) wf_X4_36 rfl ?_
  refine r_iconst 154 dX4_takeOver_153 rfl zci_0 ?_
  refine r_bipush 156 dX4_takeOver_154 rfl zcb_14 ?_
  refine r_copyi 159 11 66 14 14 dX4_takeOver_156 rfl zl_11 zl_66 (ce_11 G) (ce_66 G) wl_X4_43 (by omega) (Nat.le_of_ble_eq_true rfl) ?_
  refine r_topw (fun w12 => ?_)
  exact r_vret dX4_takeOver_159 rfl z_kvw
-- X8_takeOver
def f_X8_takeOver_67_12 (w : ZW) : Option (ZW) :=
  z_let (z_upI w 67 0 (w.1 12 0)) fun w1 =>
  if z_cin (0 : Int32) (0 : Int32) (6 : Int32) 6 6 then
  z_let (z_cpI w1 13 68 (0 : Int32).toNatClampNeg (0 : Int32).toNatClampNeg (6 : Int32).toNatClampNeg) fun w2 =>
  if z_cin (0 : Int32) (0 : Int32) (6 : Int32) 6 6 then
  z_let (z_cpI w2 14 69 (0 : Int32).toNatClampNeg (0 : Int32).toNatClampNeg (6 : Int32).toNatClampNeg) fun w3 =>
  if z_cin (0 : Int32) (0 : Int32) (6 : Int32) 6 6 then
  z_let (z_cpI w3 15 70 (0 : Int32).toNatClampNeg (0 : Int32).toNatClampNeg (6 : Int32).toNatClampNeg) fun w4 =>
  some w4
else none
else none
else none
set_option maxHeartbeats 4000000 in
set_option maxRecDepth 100000 in
theorem c_X8_takeOver_67_12 (G : ZG) (l : Launch) (d : Nat) (hd : 2 ≤ d) (w : ZW) : ∀ o, f_X8_takeOver_67_12 w = some o → zM G l d yX8_takeOver cX8_takeOver 2 none [.ref (G.1 67), .ref (G.1 12)] w none o := by
  intro o ho
  refine zM.of [(0, .ref (G.1 67)), (1, .ref (G.1 12))] (by decide) (Nat.le_of_ble_eq_true rfl) rfl ?_
  refine (?_ : zR G l d "LoveLocks$Sights" cX8_takeOver 2 none none o (fun x => x = o) 0 [(0, .ref (G.1 67)), (1, .ref (G.1 12))] [] w (f_X8_takeOver_67_12 w)) o ho rfl
  rw [f_X8_takeOver_67_12]
  refine r_aload_n 1 dX8_takeOver_0 rfl 0 rfl rfl ?_
  refine r_aload_n 2 dX8_takeOver_1 rfl 1 rfl rfl ?_
  refine r_get 5 12 0 dX8_takeOver_2 rfl zl_12 (ce_12 G _) rfl inz8 (by decide) wf_X8_21 rfl ?_
  refine r_puti 8 67 0 dX8_takeOver_5 rfl zl_67 (ce_67 G _) rfl inz8 tyX8_ok nmX8 (by decide) wf_X8_21 rfl rfl (Nat.le_of_ble_eq_true rfl) rfl ?_
  refine r_topw (fun w1 => ?_)
  refine r_aload_n 9 dX8_takeOver_8 rfl 1 rfl rfl ?_
  refine r_get 12 12 1 dX8_takeOver_9 rfl zl_12 (ce_12 G _) rfl inz8 (by decide) wf_X8_9 rfl ?_
  refine r_iconst 13 dX8_takeOver_12 rfl zci_0 ?_
  refine r_aload_n 14 dX8_takeOver_13 rfl 0 rfl rfl ?_
  refine r_get 17 67 1 dX8_takeOver_14 rfl zl_67 (ce_67 G _) rfl inz8 (by decide) wf_X8_9 rfl ?_
  refine r_iconst 18 dX8_takeOver_17 rfl zci_0 ?_
  refine r_bipush 20 dX8_takeOver_18 rfl zcb_6 ?_
  refine r_copyi 23 13 68 6 6 dX8_takeOver_20 rfl zl_13 zl_68 (ce_13 G) (ce_68 G) wl_X8_25 (by omega) (Nat.le_of_ble_eq_true rfl) ?_
  refine r_topw (fun w2 => ?_)
  refine r_aload_n 24 dX8_takeOver_23 rfl 1 rfl rfl ?_
  refine r_get 27 12 2 dX8_takeOver_24 rfl zl_12 (ce_12 G _) rfl inz8 (by decide) wf_X8_15 rfl ?_
  refine r_iconst 28 dX8_takeOver_27 rfl zci_0 ?_
  refine r_aload_n 29 dX8_takeOver_28 rfl 0 rfl rfl ?_
  refine r_get 32 67 2 dX8_takeOver_29 rfl zl_67 (ce_67 G _) rfl inz8 (by decide) wf_X8_15 rfl ?_
  refine r_iconst 33 dX8_takeOver_32 rfl zci_0 ?_
  refine r_bipush 35 dX8_takeOver_33 rfl zcb_6 ?_
  refine r_copyi 38 14 69 6 6 dX8_takeOver_35 rfl zl_14 zl_69 (ce_14 G) (ce_69 G) wl_X8_25 (by omega) (Nat.le_of_ble_eq_true rfl) ?_
  refine r_topw (fun w3 => ?_)
  refine r_aload_n 39 dX8_takeOver_38 rfl 1 rfl rfl ?_
  refine r_get 42 12 3 dX8_takeOver_39 rfl zl_12 (ce_12 G _) rfl inz8 (by decide) wf_X8_18 rfl ?_
  refine r_iconst 43 dX8_takeOver_42 rfl zci_0 ?_
  refine r_aload_n 44 dX8_takeOver_43 rfl 0 rfl rfl ?_
  refine r_get 47 67 3 dX8_takeOver_44 rfl zl_67 (ce_67 G _) rfl inz8 (by decide) wf_X8_18 rfl ?_
  refine r_iconst 48 dX8_takeOver_47 rfl zci_0 ?_
  refine r_bipush 50 dX8_takeOver_48 rfl zcb_6 ?_
  refine r_copyi 53 15 70 6 6 dX8_takeOver_50 rfl zl_15 zl_70 (ce_15 G) (ce_70 G) wl_X8_25 (by omega) (Nat.le_of_ble_eq_true rfl) ?_
  refine r_topw (fun w4 => ?_)
  exact r_vret dX8_takeOver_53 rfl z_kvw
-- X2_takeOver
def f_X2_takeOver_71_16 (w : ZW) : Option (ZW) :=
  z_let (z_upI w 71 0 (w.1 16 0)) fun w1 =>
  z_let (z_upI w1 71 1 (w1.1 16 1)) fun w2 =>
  if z_cin (0 : Int32) (0 : Int32) (8 : Int32) 8 8 then
  z_let (z_cpJ w2 17 72 (0 : Int32).toNatClampNeg (0 : Int32).toNatClampNeg (8 : Int32).toNatClampNeg) fun w3 =>
  if z_cin (0 : Int32) (0 : Int32) (14 : Int32) 14 14 then
  z_let (z_cpJ w3 18 73 (0 : Int32).toNatClampNeg (0 : Int32).toNatClampNeg (14 : Int32).toNatClampNeg) fun w4 =>
  if z_cin (0 : Int32) (0 : Int32) (14 : Int32) 14 14 then
  z_let (z_cpJ w4 19 74 (0 : Int32).toNatClampNeg (0 : Int32).toNatClampNeg (14 : Int32).toNatClampNeg) fun w5 =>
  some w5
else none
else none
else none
set_option maxHeartbeats 4000000 in
set_option maxRecDepth 100000 in
theorem c_X2_takeOver_71_16 (G : ZG) (l : Launch) (d : Nat) (hd : 2 ≤ d) (w : ZW) : ∀ o, f_X2_takeOver_71_16 w = some o → zM G l d yX2_takeOver cX2_takeOver 2 none [.ref (G.1 71), .ref (G.1 16)] w none o := by
  intro o ho
  refine zM.of [(0, .ref (G.1 71)), (1, .ref (G.1 16))] (by decide) (Nat.le_of_ble_eq_true rfl) rfl ?_
  refine (?_ : zR G l d "LoveLocks$Names" cX2_takeOver 2 none none o (fun x => x = o) 0 [(0, .ref (G.1 71)), (1, .ref (G.1 16))] [] w (f_X2_takeOver_71_16 w)) o ho rfl
  rw [f_X2_takeOver_71_16]
  refine r_aload_n 1 dX2_takeOver_0 rfl 0 rfl rfl ?_
  refine r_aload_n 2 dX2_takeOver_1 rfl 1 rfl rfl ?_
  refine r_get 5 16 0 dX2_takeOver_2 rfl zl_16 (ce_16 G _) rfl inz2 (by decide) wf_X2_21 rfl ?_
  refine r_puti 8 71 0 dX2_takeOver_5 rfl zl_71 (ce_71 G _) rfl inz2 tyX2_ok nmX2 (by decide) wf_X2_21 rfl rfl (Nat.le_of_ble_eq_true rfl) rfl ?_
  refine r_topw (fun w1 => ?_)
  refine r_aload_n 9 dX2_takeOver_8 rfl 0 rfl rfl ?_
  refine r_aload_n 10 dX2_takeOver_9 rfl 1 rfl rfl ?_
  refine r_get 13 16 1 dX2_takeOver_10 rfl zl_16 (ce_16 G _) rfl inz2 (by decide) wf_X2_25 rfl ?_
  refine r_puti 16 71 1 dX2_takeOver_13 rfl zl_71 (ce_71 G _) rfl inz2 tyX2_ok nmX2 (by decide) wf_X2_25 rfl rfl (Nat.le_of_ble_eq_true rfl) rfl ?_
  refine r_topw (fun w2 => ?_)
  refine r_aload_n 17 dX2_takeOver_16 rfl 1 rfl rfl ?_
  refine r_get 20 16 2 dX2_takeOver_17 rfl zl_16 (ce_16 G _) rfl inz2 (by decide) wf_X2_9 rfl ?_
  refine r_iconst 21 dX2_takeOver_20 rfl zci_0 ?_
  refine r_aload_n 22 dX2_takeOver_21 rfl 0 rfl rfl ?_
  refine r_get 25 71 2 dX2_takeOver_22 rfl zl_71 (ce_71 G _) rfl inz2 (by decide) wf_X2_9 rfl ?_
  refine r_iconst 26 dX2_takeOver_25 rfl zci_0 ?_
  refine r_bipush 28 dX2_takeOver_26 rfl zcb_8 ?_
  refine r_copyj 31 17 72 8 8 dX2_takeOver_28 rfl zl_17 zl_72 (ce_17 G) (ce_72 G) wl_X2_28 (by omega) (Nat.le_of_ble_eq_true rfl) ?_
  refine r_topw (fun w3 => ?_)
  refine r_aload_n 32 dX2_takeOver_31 rfl 1 rfl rfl ?_
  refine r_get 35 16 3 dX2_takeOver_32 rfl zl_16 (ce_16 G _) rfl inz2 (by decide) wf_X2_15 rfl ?_
  refine r_iconst 36 dX2_takeOver_35 rfl zci_0 ?_
  refine r_aload_n 37 dX2_takeOver_36 rfl 0 rfl rfl ?_
  refine r_get 40 71 3 dX2_takeOver_37 rfl zl_71 (ce_71 G _) rfl inz2 (by decide) wf_X2_15 rfl ?_
  refine r_iconst 41 dX2_takeOver_40 rfl zci_0 ?_
  refine r_bipush 43 dX2_takeOver_41 rfl zcb_14 ?_
  refine r_copyj 46 18 73 14 14 dX2_takeOver_43 rfl zl_18 zl_73 (ce_18 G) (ce_73 G) wl_X2_28 (by omega) (Nat.le_of_ble_eq_true rfl) ?_
  refine r_topw (fun w4 => ?_)
  refine r_aload_n 47 dX2_takeOver_46 rfl 1 rfl rfl ?_
  refine r_get 50 16 4 dX2_takeOver_47 rfl zl_16 (ce_16 G _) rfl inz2 (by decide) wf_X2_18 rfl ?_
  refine r_iconst 51 dX2_takeOver_50 rfl zci_0 ?_
  refine r_aload_n 52 dX2_takeOver_51 rfl 0 rfl rfl ?_
  refine r_get 55 71 4 dX2_takeOver_52 rfl zl_71 (ce_71 G _) rfl inz2 (by decide) wf_X2_18 rfl ?_
  refine r_iconst 56 dX2_takeOver_55 rfl zci_0 ?_
  refine r_bipush 58 dX2_takeOver_56 rfl zcb_14 ?_
  refine r_copyj 61 19 74 14 14 dX2_takeOver_58 rfl zl_19 zl_74 (ce_19 G) (ce_74 G) wl_X2_28 (by omega) (Nat.le_of_ble_eq_true rfl) ?_
  refine r_topw (fun w5 => ?_)
  exact r_vret dX2_takeOver_61 rfl z_kvw
-- X3_takeOver
def f_X3_takeOver_75_20 (w : ZW) : Option (ZW) :=
  z_let (z_upI w 75 0 (w.1 20 0)) fun w1 =>
  if z_cin (0 : Int32) (0 : Int32) (6 : Int32) 6 6 then
  z_let (z_cpI w1 21 76 (0 : Int32).toNatClampNeg (0 : Int32).toNatClampNeg (6 : Int32).toNatClampNeg) fun w2 =>
  if z_cin (0 : Int32) (0 : Int32) (6 : Int32) 6 6 then
  z_let (z_cpI w2 22 77 (0 : Int32).toNatClampNeg (0 : Int32).toNatClampNeg (6 : Int32).toNatClampNeg) fun w3 =>
  if z_cin (0 : Int32) (0 : Int32) (6 : Int32) 6 6 then
  z_let (z_cpI w3 23 78 (0 : Int32).toNatClampNeg (0 : Int32).toNatClampNeg (6 : Int32).toNatClampNeg) fun w4 =>
  some w4
else none
else none
else none
set_option maxHeartbeats 4000000 in
set_option maxRecDepth 100000 in
theorem c_X3_takeOver_75_20 (G : ZG) (l : Launch) (d : Nat) (hd : 2 ≤ d) (w : ZW) : ∀ o, f_X3_takeOver_75_20 w = some o → zM G l d yX3_takeOver cX3_takeOver 2 none [.ref (G.1 75), .ref (G.1 20)] w none o := by
  intro o ho
  refine zM.of [(0, .ref (G.1 75)), (1, .ref (G.1 20))] (by decide) (Nat.le_of_ble_eq_true rfl) rfl ?_
  refine (?_ : zR G l d "LoveLocks$Nights" cX3_takeOver 2 none none o (fun x => x = o) 0 [(0, .ref (G.1 75)), (1, .ref (G.1 20))] [] w (f_X3_takeOver_75_20 w)) o ho rfl
  rw [f_X3_takeOver_75_20]
  refine r_aload_n 1 dX3_takeOver_0 rfl 0 rfl rfl ?_
  refine r_aload_n 2 dX3_takeOver_1 rfl 1 rfl rfl ?_
  refine r_get 5 20 0 dX3_takeOver_2 rfl zl_20 (ce_20 G _) rfl inz3 (by decide) wf_X3_9 rfl ?_
  refine r_puti 8 75 0 dX3_takeOver_5 rfl zl_75 (ce_75 G _) rfl inz3 tyX3_ok nmX3 (by decide) wf_X3_9 rfl rfl (Nat.le_of_ble_eq_true rfl) rfl ?_
  refine r_topw (fun w1 => ?_)
  refine r_aload_n 9 dX3_takeOver_8 rfl 1 rfl rfl ?_
  refine r_get 12 20 1 dX3_takeOver_9 rfl zl_20 (ce_20 G _) rfl inz3 (by decide) wf_X3_15 rfl ?_
  refine r_iconst 13 dX3_takeOver_12 rfl zci_0 ?_
  refine r_aload_n 14 dX3_takeOver_13 rfl 0 rfl rfl ?_
  refine r_get 17 75 1 dX3_takeOver_14 rfl zl_75 (ce_75 G _) rfl inz3 (by decide) wf_X3_15 rfl ?_
  refine r_iconst 18 dX3_takeOver_17 rfl zci_0 ?_
  refine r_bipush 20 dX3_takeOver_18 rfl zcb_6 ?_
  refine r_copyi 23 21 76 6 6 dX3_takeOver_20 rfl zl_21 zl_76 (ce_21 G) (ce_76 G) wl_X3_39 (by omega) (Nat.le_of_ble_eq_true rfl) ?_
  refine r_topw (fun w2 => ?_)
  refine r_aload_n 24 dX3_takeOver_23 rfl 1 rfl rfl ?_
  refine r_get 27 20 2 dX3_takeOver_24 rfl zl_20 (ce_20 G _) rfl inz3 (by decide) wf_X3_19 rfl ?_
  refine r_iconst 28 dX3_takeOver_27 rfl zci_0 ?_
  refine r_aload_n 29 dX3_takeOver_28 rfl 0 rfl rfl ?_
  refine r_get 32 75 2 dX3_takeOver_29 rfl zl_75 (ce_75 G _) rfl inz3 (by decide) wf_X3_19 rfl ?_
  refine r_iconst 33 dX3_takeOver_32 rfl zci_0 ?_
  refine r_bipush 35 dX3_takeOver_33 rfl zcb_6 ?_
  refine r_copyi 38 22 77 6 6 dX3_takeOver_35 rfl zl_22 zl_77 (ce_22 G) (ce_77 G) wl_X3_39 (by omega) (Nat.le_of_ble_eq_true rfl) ?_
  refine r_topw (fun w3 => ?_)
  refine r_aload_n 39 dX3_takeOver_38 rfl 1 rfl rfl ?_
  refine r_get 42 20 3 dX3_takeOver_39 rfl zl_20 (ce_20 G _) rfl inz3 (by decide) wf_X3_22 rfl ?_
  refine r_iconst 43 dX3_takeOver_42 rfl zci_0 ?_
  refine r_aload_n 44 dX3_takeOver_43 rfl 0 rfl rfl ?_
  refine r_get 47 75 3 dX3_takeOver_44 rfl zl_75 (ce_75 G _) rfl inz3 (by decide) wf_X3_22 rfl ?_
  refine r_iconst 48 dX3_takeOver_47 rfl zci_0 ?_
  refine r_bipush 50 dX3_takeOver_48 rfl zcb_6 ?_
  refine r_copyi 53 23 78 6 6 dX3_takeOver_50 rfl zl_23 zl_78 (ce_23 G) (ce_78 G) wl_X3_39 (by omega) (Nat.le_of_ble_eq_true rfl) ?_
  refine r_topw (fun w4 => ?_)
  exact r_vret dX3_takeOver_53 rfl z_kvw
-- X0_takeOver
def f_X0_takeOver_108_53 (w : ZW) : Option (ZW) :=
  if z_cin (0 : Int32) (0 : Int32) (12 : Int32) 12 12 then
  z_let (z_cpI w 54 109 (0 : Int32).toNatClampNeg (0 : Int32).toNatClampNeg (12 : Int32).toNatClampNeg) fun w1 =>
  if z_cin (0 : Int32) (0 : Int32) (12 : Int32) 12 12 then
  z_let (z_cpI w1 55 110 (0 : Int32).toNatClampNeg (0 : Int32).toNatClampNeg (12 : Int32).toNatClampNeg) fun w2 =>
  some w2
else none
else none
set_option maxHeartbeats 4000000 in
set_option maxRecDepth 100000 in
theorem c_X0_takeOver_108_53 (G : ZG) (l : Launch) (d : Nat) (hd : 2 ≤ d) (w : ZW) : ∀ o, f_X0_takeOver_108_53 w = some o → zM G l d yX0_takeOver cX0_takeOver 2 none [.ref (G.1 108), .ref (G.1 53)] w none o := by
  intro o ho
  refine zM.of [(0, .ref (G.1 108)), (1, .ref (G.1 53))] (by decide) (Nat.le_of_ble_eq_true rfl) rfl ?_
  refine (?_ : zR G l d "LoveLocks$Growth" cX0_takeOver 2 none none o (fun x => x = o) 0 [(0, .ref (G.1 108)), (1, .ref (G.1 53))] [] w (f_X0_takeOver_108_53 w)) o ho rfl
  rw [f_X0_takeOver_108_53]
  refine r_aload_n 1 dX0_takeOver_0 rfl 1 rfl rfl ?_
  refine r_get 4 53 0 dX0_takeOver_1 rfl zl_53 (ce_53 G _) rfl inz0 (by decide) wf_X0_9 rfl ?_
  refine r_iconst 5 dX0_takeOver_4 rfl zci_0 ?_
  refine r_aload_n 6 dX0_takeOver_5 rfl 0 rfl rfl ?_
  refine r_get 9 108 0 dX0_takeOver_6 rfl zl_108 (ce_108 G _) rfl inz0 (by decide) wf_X0_9 rfl ?_
  refine r_iconst 10 dX0_takeOver_9 rfl zci_0 ?_
  refine r_bipush 12 dX0_takeOver_10 rfl zcb_12 ?_
  refine r_copyi 15 54 109 12 12 dX0_takeOver_12 rfl zl_54 zl_109 (ce_54 G) (ce_109 G) wl_X0_25 (by omega) (Nat.le_of_ble_eq_true rfl) ?_
  refine r_topw (fun w1 => ?_)
  refine r_aload_n 16 dX0_takeOver_15 rfl 1 rfl rfl ?_
  refine r_get 19 53 1 dX0_takeOver_16 rfl zl_53 (ce_53 G _) rfl inz0 (by decide) wf_X0_15 rfl ?_
  refine r_iconst 20 dX0_takeOver_19 rfl zci_0 ?_
  refine r_aload_n 21 dX0_takeOver_20 rfl 0 rfl rfl ?_
  refine r_get 24 108 1 dX0_takeOver_21 rfl zl_108 (ce_108 G _) rfl inz0 (by decide) wf_X0_15 rfl ?_
  refine r_iconst 25 dX0_takeOver_24 rfl zci_0 ?_
  refine r_bipush 27 dX0_takeOver_25 rfl zcb_12 ?_
  refine r_copyi 30 55 110 12 12 dX0_takeOver_27 rfl zl_55 zl_110 (ce_55 G) (ce_110 G) wl_X0_25 (by omega) (Nat.le_of_ble_eq_true rfl) ?_
  refine r_topw (fun w2 => ?_)
  exact r_vret dX0_takeOver_30 rfl z_kvw
-- X9_takeOver
def f_X9_takeOver_56_1 (w : ZW) : Option (ZW) :=
  (f_X4_takeOver_57_2 w).bind fun r1 : ZW =>
  (f_X8_takeOver_67_12 r1).bind fun r2 : ZW =>
  (f_X2_takeOver_71_16 r2).bind fun r3 : ZW =>
  (f_X3_takeOver_75_20 r3).bind fun r4 : ZW =>
  (f_X0_takeOver_108_53 r4).bind fun r5 : ZW =>
  some r5
set_option maxHeartbeats 4000000 in
set_option maxRecDepth 100000 in
theorem c_X9_takeOver_56_1 (G : ZG) (l : Launch) (d : Nat) (hd : 3 ≤ d) (w : ZW) : ∀ o, f_X9_takeOver_56_1 w = some o → zM G l d yX9_takeOver cX9_takeOver 2 none [.ref (G.1 56), .ref (G.1 1)] w none o := by
  intro o ho
  refine zM.of [(0, .ref (G.1 56)), (1, .ref (G.1 1))] (by decide) (Nat.le_of_ble_eq_true rfl) rfl ?_
  refine (?_ : zR G l d "LoveLocks$State" cX9_takeOver 2 none none o (fun x => x = o) 0 [(0, .ref (G.1 56)), (1, .ref (G.1 1))] [] w (f_X9_takeOver_56_1 w)) o ho rfl
  rw [f_X9_takeOver_56_1]
  refine r_aload_n 1 dX9_takeOver_0 rfl 0 rfl rfl ?_
  refine r_get 4 56 0 dX9_takeOver_1 rfl zl_56 (ce_56 G _) rfl inz9 (by decide) wf_X9_10 rfl ?_
  refine r_aload_n 5 dX9_takeOver_4 rfl 1 rfl rfl ?_
  refine r_get 8 1 0 dX9_takeOver_5 rfl zl_1 (ce_1 G _) rfl inz9 (by decide) wf_X9_10 rfl ?_
  refine r_callVvw 11 1 (ko := 57) [.ref (G.1 2)] (st := []) dX9_takeOver_8 rfl rfl (fun r h => c_X4_takeOver_57_2 G l (d - 1) (by omega) w r h) zl_57 (ce_57 G _) rfl rfl wc_X4_takeOver wz_X4 wl_X9_44 wi_X4_takeOver ws_X4_takeOver zd_X4_takeOver (by decide) (by omega) rfl (Nat.le_of_ble_eq_true rfl) (fun r1 => ?_)
  refine r_aload_n 12 dX9_takeOver_11 rfl 0 rfl rfl ?_
  refine r_get 15 56 1 dX9_takeOver_12 rfl zl_56 (ce_56 G _) rfl inz9 (by decide) wf_X9_19 rfl ?_
  refine r_aload_n 16 dX9_takeOver_15 rfl 1 rfl rfl ?_
  refine r_get 19 1 1 dX9_takeOver_16 rfl zl_1 (ce_1 G _) rfl inz9 (by decide) wf_X9_19 rfl ?_
  refine r_callVvw 22 1 (ko := 67) [.ref (G.1 12)] (st := []) dX9_takeOver_19 rfl rfl (fun r h => c_X8_takeOver_67_12 G l (d - 1) (by omega) r1 r h) zl_67 (ce_67 G _) rfl rfl wc_X8_takeOver wz_X8 wl_X9_48 wi_X8_takeOver ws_X8_takeOver zd_X8_takeOver (by decide) (by omega) rfl (Nat.le_of_ble_eq_true rfl) (fun r2 => ?_)
  refine r_aload_n 23 dX9_takeOver_22 rfl 0 rfl rfl ?_
  refine r_get 26 56 2 dX9_takeOver_23 rfl zl_56 (ce_56 G _) rfl inz9 (by decide) wf_X9_26 rfl ?_
  refine r_aload_n 27 dX9_takeOver_26 rfl 1 rfl rfl ?_
  refine r_get 30 1 2 dX9_takeOver_27 rfl zl_1 (ce_1 G _) rfl inz9 (by decide) wf_X9_26 rfl ?_
  refine r_callVvw 33 1 (ko := 71) [.ref (G.1 16)] (st := []) dX9_takeOver_30 rfl rfl (fun r h => c_X2_takeOver_71_16 G l (d - 1) (by omega) r2 r h) zl_71 (ce_71 G _) rfl rfl wc_X2_takeOver wz_X2 wl_X9_51 wi_X2_takeOver ws_X2_takeOver zd_X2_takeOver (by decide) (by omega) rfl (Nat.le_of_ble_eq_true rfl) (fun r3 => ?_)
  refine r_aload_n 34 dX9_takeOver_33 rfl 0 rfl rfl ?_
  refine r_get 37 56 3 dX9_takeOver_34 rfl zl_56 (ce_56 G _) rfl inz9 (by decide) wf_X9_33 rfl ?_
  refine r_aload_n 38 dX9_takeOver_37 rfl 1 rfl rfl ?_
  refine r_get 41 1 3 dX9_takeOver_38 rfl zl_1 (ce_1 G _) rfl inz9 (by decide) wf_X9_33 rfl ?_
  refine r_callVvw 44 1 (ko := 75) [.ref (G.1 20)] (st := []) dX9_takeOver_41 rfl rfl (fun r h => c_X3_takeOver_75_20 G l (d - 1) (by omega) r3 r h) zl_75 (ce_75 G _) rfl rfl wc_X3_takeOver wz_X3 wl_X9_54 wi_X3_takeOver ws_X3_takeOver zd_X3_takeOver (by decide) (by omega) rfl (Nat.le_of_ble_eq_true rfl) (fun r4 => ?_)
  refine r_aload_n 45 dX9_takeOver_44 rfl 0 rfl rfl ?_
  refine r_get 48 56 4 dX9_takeOver_45 rfl zl_56 (ce_56 G _) rfl inz9 (by decide) wf_X9_40 rfl ?_
  refine r_aload_n 49 dX9_takeOver_48 rfl 1 rfl rfl ?_
  refine r_get 52 1 4 dX9_takeOver_49 rfl zl_1 (ce_1 G _) rfl inz9 (by decide) wf_X9_40 rfl ?_
  refine r_callVvw 55 1 (ko := 108) [.ref (G.1 53)] (st := []) dX9_takeOver_52 rfl rfl (fun r h => c_X0_takeOver_108_53 G l (d - 1) (by omega) r4 r h) zl_108 (ce_108 G _) rfl rfl wc_X0_takeOver wz_X0 wl_X9_57 wi_X0_takeOver ws_X0_takeOver zd_X0_takeOver (by decide) (by omega) rfl (Nat.le_of_ble_eq_true rfl) (fun r5 => ?_)
  exact r_vret dX9_takeOver_55 rfl z_kvw
-- X11_image
def f_X11_image (w : ZW) : Option (Int32 × ZW) :=
  (f_X9_takeOver_56_1 w).bind fun r1 : ZW =>
  z_let (z_upI r1 0 2 (1 : Int32)) fun w2 =>
  some ((1 : Int32), w2)
set_option maxHeartbeats 4000000 in
set_option maxRecDepth 100000 in
theorem c_X11_image (G : ZG) (l : Launch) (d : Nat) (hd : 4 ≤ d) (w : ZW) : ∀ o, f_X11_image w = some o → zM G l d yX11_image cX11_image 1 (some .int) [.ref (G.1 0)] w (some (.int o.1)) o.2 := by
  intro o ho
  refine zM.of [(0, .ref (G.1 0))] (by decide) (Nat.le_of_ble_eq_true rfl) rfl ?_
  refine (?_ : zR G l d "LoveLocks" cX11_image 1 (some .int) (some (.int o.1)) o.2 (fun x => x = o) 0 [(0, .ref (G.1 0))] [] w (f_X11_image w)) o ho rfl
  rw [f_X11_image]
  refine r_aload_n 1 dX11_image_0 rfl 0 rfl rfl ?_
  refine r_get 4 0 1 dX11_image_1 rfl zl_0 (ce_0 G _) rfl inz11 (by decide) wf_X11_16 rfl ?_
  refine r_aload_n 5 dX11_image_4 rfl 0 rfl rfl ?_
  refine r_get 8 0 0 dX11_image_5 rfl zl_0 (ce_0 G _) rfl inz11 (by decide) wf_X11_10 rfl ?_
  refine r_callVvw 11 1 (ko := 56) [.ref (G.1 1)] (st := []) dX11_image_8 rfl rfl (fun r h => c_X9_takeOver_56_1 G l (d - 1) (by omega) w r h) zl_56 (ce_56 G _) rfl rfl wc_X9_takeOver wz_X9 wl_X11_295 wi_X9_takeOver ws_X9_takeOver zd_X9_takeOver (by decide) (by omega) rfl (Nat.le_of_ble_eq_true rfl) (fun r1 => ?_)
  refine r_aload_n 12 dX11_image_11 rfl 0 rfl rfl ?_
  refine r_iconst 13 dX11_image_12 rfl zci_1 ?_
  refine r_putz 16 0 2 dX11_image_13 rfl zl_0 (ce_0 G _) rfl inz11 tyX11_ok nmX11 (by decide) wf_X11_299 rfl rfl rfl rfl (Nat.le_of_ble_eq_true rfl) rfl ?_
  refine r_topw (fun w2 => ?_)
  refine r_iconst 17 dX11_image_16 rfl zci_1 ?_
  exact r_iret dX11_image_17 rfl z_kiw
-- X4_takeOver
def f_X4_takeOver_2_57 (w : ZW) : Option (ZW) :=
  z_let (z_upI w 2 0 (w.1 57 0)) fun w1 =>
  if z_cin (0 : Int32) (0 : Int32) (6 : Int32) 6 6 then
  z_let (z_cpI w1 58 3 (0 : Int32).toNatClampNeg (0 : Int32).toNatClampNeg (6 : Int32).toNatClampNeg) fun w2 =>
  if z_cin (0 : Int32) (0 : Int32) (6 : Int32) 6 6 then
  z_let (z_cpI w2 59 4 (0 : Int32).toNatClampNeg (0 : Int32).toNatClampNeg (6 : Int32).toNatClampNeg) fun w3 =>
  if z_cin (0 : Int32) (0 : Int32) (6 : Int32) 6 6 then
  z_let (z_cpI w3 60 5 (0 : Int32).toNatClampNeg (0 : Int32).toNatClampNeg (6 : Int32).toNatClampNeg) fun w4 =>
  z_let (z_upI w4 2 4 (w4.1 57 4)) fun w5 =>
  z_let (z_upI w5 2 5 (w5.1 57 5)) fun w6 =>
  if z_cin (0 : Int32) (0 : Int32) (14 : Int32) 14 14 then
  z_let (z_cpI w6 61 6 (0 : Int32).toNatClampNeg (0 : Int32).toNatClampNeg (14 : Int32).toNatClampNeg) fun w7 =>
  if z_cin (0 : Int32) (0 : Int32) (14 : Int32) 14 14 then
  z_let (z_cpI w7 62 7 (0 : Int32).toNatClampNeg (0 : Int32).toNatClampNeg (14 : Int32).toNatClampNeg) fun w8 =>
  if z_cin (0 : Int32) (0 : Int32) (14 : Int32) 14 14 then
  z_let (z_cpI w8 63 8 (0 : Int32).toNatClampNeg (0 : Int32).toNatClampNeg (14 : Int32).toNatClampNeg) fun w9 =>
  if z_cin (0 : Int32) (0 : Int32) (14 : Int32) 14 14 then
  z_let (z_cpI w9 64 9 (0 : Int32).toNatClampNeg (0 : Int32).toNatClampNeg (14 : Int32).toNatClampNeg) fun w10 =>
  if z_cin (0 : Int32) (0 : Int32) (14 : Int32) 14 14 then
  z_let (z_cpI w10 65 10 (0 : Int32).toNatClampNeg (0 : Int32).toNatClampNeg (14 : Int32).toNatClampNeg) fun w11 =>
  if z_cin (0 : Int32) (0 : Int32) (14 : Int32) 14 14 then
  z_let (z_cpI w11 66 11 (0 : Int32).toNatClampNeg (0 : Int32).toNatClampNeg (14 : Int32).toNatClampNeg) fun w12 =>
  some w12
else none
else none
else none
else none
else none
else none
else none
else none
else none
set_option maxHeartbeats 4000000 in
set_option maxRecDepth 100000 in
theorem c_X4_takeOver_2_57 (G : ZG) (l : Launch) (d : Nat) (hd : 2 ≤ d) (w : ZW) : ∀ o, f_X4_takeOver_2_57 w = some o → zM G l d yX4_takeOver cX4_takeOver 2 none [.ref (G.1 2), .ref (G.1 57)] w none o := by
  intro o ho
  refine zM.of [(0, .ref (G.1 2)), (1, .ref (G.1 57))] (by decide) (Nat.le_of_ble_eq_true rfl) rfl ?_
  refine (?_ : zR G l d "LoveLocks$Rail" cX4_takeOver 2 none none o (fun x => x = o) 0 [(0, .ref (G.1 2)), (1, .ref (G.1 57))] [] w (f_X4_takeOver_2_57 w)) o ho rfl
  rw [f_X4_takeOver_2_57]
  refine r_aload_n 1 dX4_takeOver_0 rfl 0 rfl rfl ?_
  refine r_aload_n 2 dX4_takeOver_1 rfl 1 rfl rfl ?_
  refine r_get 5 57 0 dX4_takeOver_2 rfl zl_57 (ce_57 G _) rfl inz4 (by decide) wf_X4_39 rfl ?_
  refine r_puti 8 2 0 dX4_takeOver_5 rfl zl_2 (ce_2 G _) rfl inz4 tyX4_ok nmX4 (by decide) wf_X4_39 rfl rfl (Nat.le_of_ble_eq_true rfl) rfl ?_
  refine r_topw (fun w1 => ?_)
  refine r_aload_n 9 dX4_takeOver_8 rfl 1 rfl rfl ?_
  refine r_get 12 57 1 dX4_takeOver_9 rfl zl_57 (ce_57 G _) rfl inz4 (by decide) wf_X4_9 rfl ?_
  refine r_iconst 13 dX4_takeOver_12 rfl zci_0 ?_
  refine r_aload_n 14 dX4_takeOver_13 rfl 0 rfl rfl ?_
  refine r_get 17 2 1 dX4_takeOver_14 rfl zl_2 (ce_2 G _) rfl inz4 (by decide) wf_X4_9 rfl ?_
  refine r_iconst 18 dX4_takeOver_17 rfl zci_0 ?_
  refine r_bipush 20 dX4_takeOver_18 rfl zcb_6 ?_
  refine r_copyi 23 58 3 6 6 dX4_takeOver_20 rfl zl_58 zl_3 (ce_58 G) (ce_3 G) wl_X4_43 (by omega) (Nat.le_of_ble_eq_true rfl) ?_
  refine r_topw (fun w2 => ?_)
  refine r_aload_n 24 dX4_takeOver_23 rfl 1 rfl rfl ?_
  refine r_get 27 57 2 dX4_takeOver_24 rfl zl_57 (ce_57 G _) rfl inz4 (by decide) wf_X4_15 rfl ?_
  refine r_iconst 28 dX4_takeOver_27 rfl zci_0 ?_
  refine r_aload_n 29 dX4_takeOver_28 rfl 0 rfl rfl ?_
  refine r_get 32 2 2 dX4_takeOver_29 rfl zl_2 (ce_2 G _) rfl inz4 (by decide) wf_X4_15 rfl ?_
  refine r_iconst 33 dX4_takeOver_32 rfl zci_0 ?_
  refine r_bipush 35 dX4_takeOver_33 rfl zcb_6 ?_
  refine r_copyi 38 59 4 6 6 dX4_takeOver_35 rfl zl_59 zl_4 (ce_59 G) (ce_4 G) wl_X4_43 (by omega) (Nat.le_of_ble_eq_true rfl) ?_
  refine r_topw (fun w3 => ?_)
  refine r_aload_n 39 dX4_takeOver_38 rfl 1 rfl rfl ?_
  refine r_get 42 57 3 dX4_takeOver_39 rfl zl_57 (ce_57 G _) rfl inz4 (by decide) wf_X4_18 rfl ?_
  refine r_iconst 43 dX4_takeOver_42 rfl zci_0 ?_
  refine r_aload_n 44 dX4_takeOver_43 rfl 0 rfl rfl ?_
  refine r_get 47 2 3 dX4_takeOver_44 rfl zl_2 (ce_2 G _) rfl inz4 (by decide) wf_X4_18 rfl ?_
  refine r_iconst 48 dX4_takeOver_47 rfl zci_0 ?_
  refine r_bipush 50 dX4_takeOver_48 rfl zcb_6 ?_
  refine r_copyi 53 60 5 6 6 dX4_takeOver_50 rfl zl_60 zl_5 (ce_60 G) (ce_5 G) wl_X4_43 (by omega) (Nat.le_of_ble_eq_true rfl) ?_
  refine r_topw (fun w4 => ?_)
  refine r_aload_n 54 dX4_takeOver_53 rfl 0 rfl rfl ?_
  refine r_aload_n 55 dX4_takeOver_54 rfl 1 rfl rfl ?_
  refine r_get 58 57 4 dX4_takeOver_55 rfl zl_57 (ce_57 G _) rfl inz4 (by decide) wf_X4_49 rfl ?_
  refine r_puti 61 2 4 dX4_takeOver_58 rfl zl_2 (ce_2 G _) rfl inz4 tyX4_ok nmX4 (by decide) wf_X4_49 rfl rfl (Nat.le_of_ble_eq_true rfl) rfl ?_
  refine r_topw (fun w5 => ?_)
  refine r_aload_n 62 dX4_takeOver_61 rfl 0 rfl rfl ?_
  refine r_aload_n 63 dX4_takeOver_62 rfl 1 rfl rfl ?_
  refine r_get 66 57 5 dX4_takeOver_63 rfl zl_57 (ce_57 G _) rfl inz4 (by decide) wf_X4_52 rfl ?_
  refine r_puti 69 2 5 dX4_takeOver_66 rfl zl_2 (ce_2 G _) rfl inz4 tyX4_ok nmX4 (by decide) wf_X4_52 rfl rfl (Nat.le_of_ble_eq_true rfl) rfl ?_
  refine r_topw (fun w6 => ?_)
  refine r_aload_n 70 dX4_takeOver_69 rfl 1 rfl rfl ?_
  refine r_get 73 57 6 dX4_takeOver_70 rfl zl_57 (ce_57 G _) rfl inz4 (by decide) wf_X4_21 rfl ?_
  refine r_iconst 74 dX4_takeOver_73 rfl zci_0 ?_
  refine r_aload_n 75 dX4_takeOver_74 rfl 0 rfl rfl ?_
  refine r_get 78 2 6 dX4_takeOver_75 rfl zl_2 (ce_2 G _) rfl inz4 (by decide) wf_X4_21 rfl ?_
  refine r_iconst 79 dX4_takeOver_78 rfl zci_0 ?_
  refine r_bipush 81 dX4_takeOver_79 rfl zcb_14 ?_
  refine r_copyi 84 61 6 14 14 dX4_takeOver_81 rfl zl_61 zl_6 (ce_61 G) (ce_6 G) wl_X4_43 (by omega) (Nat.le_of_ble_eq_true rfl) ?_
  refine r_topw (fun w7 => ?_)
  refine r_aload_n 85 dX4_takeOver_84 rfl 1 rfl rfl ?_
  refine r_get 88 57 7 dX4_takeOver_85 rfl zl_57 (ce_57 G _) rfl inz4 (by decide) wf_X4_24 rfl ?_
  refine r_iconst 89 dX4_takeOver_88 rfl zci_0 ?_
  refine r_aload_n 90 dX4_takeOver_89 rfl 0 rfl rfl ?_
  refine r_get 93 2 7 dX4_takeOver_90 rfl zl_2 (ce_2 G _) rfl inz4 (by decide) wf_X4_24 rfl ?_
  refine r_iconst 94 dX4_takeOver_93 rfl zci_0 ?_
  refine r_bipush 96 dX4_takeOver_94 rfl zcb_14 ?_
  refine r_copyi 99 62 7 14 14 dX4_takeOver_96 rfl zl_62 zl_7 (ce_62 G) (ce_7 G) wl_X4_43 (by omega) (Nat.le_of_ble_eq_true rfl) ?_
  refine r_topw (fun w8 => ?_)
  refine r_aload_n 100 dX4_takeOver_99 rfl 1 rfl rfl ?_
  refine r_get 103 57 8 dX4_takeOver_100 rfl zl_57 (ce_57 G _) rfl inz4 (by decide) wf_X4_27 rfl ?_
  refine r_iconst 104 dX4_takeOver_103 rfl zci_0 ?_
  refine r_aload_n 105 dX4_takeOver_104 rfl 0 rfl rfl ?_
  refine r_get 108 2 8 dX4_takeOver_105 rfl zl_2 (ce_2 G _) rfl inz4 (by decide) wf_X4_27 rfl ?_
  refine r_iconst 109 dX4_takeOver_108 rfl zci_0 ?_
  refine r_bipush 111 dX4_takeOver_109 rfl zcb_14 ?_
  refine r_copyi 114 63 8 14 14 dX4_takeOver_111 rfl zl_63 zl_8 (ce_63 G) (ce_8 G) wl_X4_43 (by omega) (Nat.le_of_ble_eq_true rfl) ?_
  refine r_topw (fun w9 => ?_)
  refine r_aload_n 115 dX4_takeOver_114 rfl 1 rfl rfl ?_
  refine r_get 118 57 9 dX4_takeOver_115 rfl zl_57 (ce_57 G _) rfl inz4 (by decide) wf_X4_30 rfl ?_
  refine r_iconst 119 dX4_takeOver_118 rfl zci_0 ?_
  refine r_aload_n 120 dX4_takeOver_119 rfl 0 rfl rfl ?_
  refine r_get 123 2 9 dX4_takeOver_120 rfl zl_2 (ce_2 G _) rfl inz4 (by decide) wf_X4_30 rfl ?_
  refine r_iconst 124 dX4_takeOver_123 rfl zci_0 ?_
  refine r_bipush 126 dX4_takeOver_124 rfl zcb_14 ?_
  refine r_copyi 129 64 9 14 14 dX4_takeOver_126 rfl zl_64 zl_9 (ce_64 G) (ce_9 G) wl_X4_43 (by omega) (Nat.le_of_ble_eq_true rfl) ?_
  refine r_topw (fun w10 => ?_)
  refine r_aload_n 130 dX4_takeOver_129 rfl 1 rfl rfl ?_
  refine r_get 133 57 10 dX4_takeOver_130 rfl zl_57 (ce_57 G _) rfl inz4 (by decide) wf_X4_33 rfl ?_
  refine r_iconst 134 dX4_takeOver_133 rfl zci_0 ?_
  refine r_aload_n 135 dX4_takeOver_134 rfl 0 rfl rfl ?_
  refine r_get 138 2 10 dX4_takeOver_135 rfl zl_2 (ce_2 G _) rfl inz4 (by decide) wf_X4_33 rfl ?_
  refine r_iconst 139 dX4_takeOver_138 rfl zci_0 ?_
  refine r_bipush 141 dX4_takeOver_139 rfl zcb_14 ?_
  refine r_copyi 144 65 10 14 14 dX4_takeOver_141 rfl zl_65 zl_10 (ce_65 G) (ce_10 G) wl_X4_43 (by omega) (Nat.le_of_ble_eq_true rfl) ?_
  refine r_topw (fun w11 => ?_)
  refine r_aload_n 145 dX4_takeOver_144 rfl 1 rfl rfl ?_
  refine r_get 148 57 11 dX4_takeOver_145 rfl zl_57 (ce_57 G _) rfl inz4 (by decide) wf_X4_36 rfl ?_
  refine r_iconst 149 dX4_takeOver_148 rfl zci_0 ?_
  refine r_aload_n 150 dX4_takeOver_149 rfl 0 rfl rfl ?_
  refine r_get 153 2 11 dX4_takeOver_150 rfl zl_2 (ce_2 G _) rfl inz4 (by decide) wf_X4_36 rfl ?_
  refine r_iconst 154 dX4_takeOver_153 rfl zci_0 ?_
  refine r_bipush 156 dX4_takeOver_154 rfl zcb_14 ?_
  refine r_copyi 159 66 11 14 14 dX4_takeOver_156 rfl zl_66 zl_11 (ce_66 G) (ce_11 G) wl_X4_43 (by omega) (Nat.le_of_ble_eq_true rfl) ?_
  refine r_topw (fun w12 => ?_)
  exact r_vret dX4_takeOver_159 rfl z_kvw
-- X8_takeOver
def f_X8_takeOver_12_67 (w : ZW) : Option (ZW) :=
  z_let (z_upI w 12 0 (w.1 67 0)) fun w1 =>
  if z_cin (0 : Int32) (0 : Int32) (6 : Int32) 6 6 then
  z_let (z_cpI w1 68 13 (0 : Int32).toNatClampNeg (0 : Int32).toNatClampNeg (6 : Int32).toNatClampNeg) fun w2 =>
  if z_cin (0 : Int32) (0 : Int32) (6 : Int32) 6 6 then
  z_let (z_cpI w2 69 14 (0 : Int32).toNatClampNeg (0 : Int32).toNatClampNeg (6 : Int32).toNatClampNeg) fun w3 =>
  if z_cin (0 : Int32) (0 : Int32) (6 : Int32) 6 6 then
  z_let (z_cpI w3 70 15 (0 : Int32).toNatClampNeg (0 : Int32).toNatClampNeg (6 : Int32).toNatClampNeg) fun w4 =>
  some w4
else none
else none
else none
set_option maxHeartbeats 4000000 in
set_option maxRecDepth 100000 in
theorem c_X8_takeOver_12_67 (G : ZG) (l : Launch) (d : Nat) (hd : 2 ≤ d) (w : ZW) : ∀ o, f_X8_takeOver_12_67 w = some o → zM G l d yX8_takeOver cX8_takeOver 2 none [.ref (G.1 12), .ref (G.1 67)] w none o := by
  intro o ho
  refine zM.of [(0, .ref (G.1 12)), (1, .ref (G.1 67))] (by decide) (Nat.le_of_ble_eq_true rfl) rfl ?_
  refine (?_ : zR G l d "LoveLocks$Sights" cX8_takeOver 2 none none o (fun x => x = o) 0 [(0, .ref (G.1 12)), (1, .ref (G.1 67))] [] w (f_X8_takeOver_12_67 w)) o ho rfl
  rw [f_X8_takeOver_12_67]
  refine r_aload_n 1 dX8_takeOver_0 rfl 0 rfl rfl ?_
  refine r_aload_n 2 dX8_takeOver_1 rfl 1 rfl rfl ?_
  refine r_get 5 67 0 dX8_takeOver_2 rfl zl_67 (ce_67 G _) rfl inz8 (by decide) wf_X8_21 rfl ?_
  refine r_puti 8 12 0 dX8_takeOver_5 rfl zl_12 (ce_12 G _) rfl inz8 tyX8_ok nmX8 (by decide) wf_X8_21 rfl rfl (Nat.le_of_ble_eq_true rfl) rfl ?_
  refine r_topw (fun w1 => ?_)
  refine r_aload_n 9 dX8_takeOver_8 rfl 1 rfl rfl ?_
  refine r_get 12 67 1 dX8_takeOver_9 rfl zl_67 (ce_67 G _) rfl inz8 (by decide) wf_X8_9 rfl ?_
  refine r_iconst 13 dX8_takeOver_12 rfl zci_0 ?_
  refine r_aload_n 14 dX8_takeOver_13 rfl 0 rfl rfl ?_
  refine r_get 17 12 1 dX8_takeOver_14 rfl zl_12 (ce_12 G _) rfl inz8 (by decide) wf_X8_9 rfl ?_
  refine r_iconst 18 dX8_takeOver_17 rfl zci_0 ?_
  refine r_bipush 20 dX8_takeOver_18 rfl zcb_6 ?_
  refine r_copyi 23 68 13 6 6 dX8_takeOver_20 rfl zl_68 zl_13 (ce_68 G) (ce_13 G) wl_X8_25 (by omega) (Nat.le_of_ble_eq_true rfl) ?_
  refine r_topw (fun w2 => ?_)
  refine r_aload_n 24 dX8_takeOver_23 rfl 1 rfl rfl ?_
  refine r_get 27 67 2 dX8_takeOver_24 rfl zl_67 (ce_67 G _) rfl inz8 (by decide) wf_X8_15 rfl ?_
  refine r_iconst 28 dX8_takeOver_27 rfl zci_0 ?_
  refine r_aload_n 29 dX8_takeOver_28 rfl 0 rfl rfl ?_
  refine r_get 32 12 2 dX8_takeOver_29 rfl zl_12 (ce_12 G _) rfl inz8 (by decide) wf_X8_15 rfl ?_
  refine r_iconst 33 dX8_takeOver_32 rfl zci_0 ?_
  refine r_bipush 35 dX8_takeOver_33 rfl zcb_6 ?_
  refine r_copyi 38 69 14 6 6 dX8_takeOver_35 rfl zl_69 zl_14 (ce_69 G) (ce_14 G) wl_X8_25 (by omega) (Nat.le_of_ble_eq_true rfl) ?_
  refine r_topw (fun w3 => ?_)
  refine r_aload_n 39 dX8_takeOver_38 rfl 1 rfl rfl ?_
  refine r_get 42 67 3 dX8_takeOver_39 rfl zl_67 (ce_67 G _) rfl inz8 (by decide) wf_X8_18 rfl ?_
  refine r_iconst 43 dX8_takeOver_42 rfl zci_0 ?_
  refine r_aload_n 44 dX8_takeOver_43 rfl 0 rfl rfl ?_
  refine r_get 47 12 3 dX8_takeOver_44 rfl zl_12 (ce_12 G _) rfl inz8 (by decide) wf_X8_18 rfl ?_
  refine r_iconst 48 dX8_takeOver_47 rfl zci_0 ?_
  refine r_bipush 50 dX8_takeOver_48 rfl zcb_6 ?_
  refine r_copyi 53 70 15 6 6 dX8_takeOver_50 rfl zl_70 zl_15 (ce_70 G) (ce_15 G) wl_X8_25 (by omega) (Nat.le_of_ble_eq_true rfl) ?_
  refine r_topw (fun w4 => ?_)
  exact r_vret dX8_takeOver_53 rfl z_kvw
-- X2_takeOver
def f_X2_takeOver_16_71 (w : ZW) : Option (ZW) :=
  z_let (z_upI w 16 0 (w.1 71 0)) fun w1 =>
  z_let (z_upI w1 16 1 (w1.1 71 1)) fun w2 =>
  if z_cin (0 : Int32) (0 : Int32) (8 : Int32) 8 8 then
  z_let (z_cpJ w2 72 17 (0 : Int32).toNatClampNeg (0 : Int32).toNatClampNeg (8 : Int32).toNatClampNeg) fun w3 =>
  if z_cin (0 : Int32) (0 : Int32) (14 : Int32) 14 14 then
  z_let (z_cpJ w3 73 18 (0 : Int32).toNatClampNeg (0 : Int32).toNatClampNeg (14 : Int32).toNatClampNeg) fun w4 =>
  if z_cin (0 : Int32) (0 : Int32) (14 : Int32) 14 14 then
  z_let (z_cpJ w4 74 19 (0 : Int32).toNatClampNeg (0 : Int32).toNatClampNeg (14 : Int32).toNatClampNeg) fun w5 =>
  some w5
else none
else none
else none
set_option maxHeartbeats 4000000 in
set_option maxRecDepth 100000 in
theorem c_X2_takeOver_16_71 (G : ZG) (l : Launch) (d : Nat) (hd : 2 ≤ d) (w : ZW) : ∀ o, f_X2_takeOver_16_71 w = some o → zM G l d yX2_takeOver cX2_takeOver 2 none [.ref (G.1 16), .ref (G.1 71)] w none o := by
  intro o ho
  refine zM.of [(0, .ref (G.1 16)), (1, .ref (G.1 71))] (by decide) (Nat.le_of_ble_eq_true rfl) rfl ?_
  refine (?_ : zR G l d "LoveLocks$Names" cX2_takeOver 2 none none o (fun x => x = o) 0 [(0, .ref (G.1 16)), (1, .ref (G.1 71))] [] w (f_X2_takeOver_16_71 w)) o ho rfl
  rw [f_X2_takeOver_16_71]
  refine r_aload_n 1 dX2_takeOver_0 rfl 0 rfl rfl ?_
  refine r_aload_n 2 dX2_takeOver_1 rfl 1 rfl rfl ?_
  refine r_get 5 71 0 dX2_takeOver_2 rfl zl_71 (ce_71 G _) rfl inz2 (by decide) wf_X2_21 rfl ?_
  refine r_puti 8 16 0 dX2_takeOver_5 rfl zl_16 (ce_16 G _) rfl inz2 tyX2_ok nmX2 (by decide) wf_X2_21 rfl rfl (Nat.le_of_ble_eq_true rfl) rfl ?_
  refine r_topw (fun w1 => ?_)
  refine r_aload_n 9 dX2_takeOver_8 rfl 0 rfl rfl ?_
  refine r_aload_n 10 dX2_takeOver_9 rfl 1 rfl rfl ?_
  refine r_get 13 71 1 dX2_takeOver_10 rfl zl_71 (ce_71 G _) rfl inz2 (by decide) wf_X2_25 rfl ?_
  refine r_puti 16 16 1 dX2_takeOver_13 rfl zl_16 (ce_16 G _) rfl inz2 tyX2_ok nmX2 (by decide) wf_X2_25 rfl rfl (Nat.le_of_ble_eq_true rfl) rfl ?_
  refine r_topw (fun w2 => ?_)
  refine r_aload_n 17 dX2_takeOver_16 rfl 1 rfl rfl ?_
  refine r_get 20 71 2 dX2_takeOver_17 rfl zl_71 (ce_71 G _) rfl inz2 (by decide) wf_X2_9 rfl ?_
  refine r_iconst 21 dX2_takeOver_20 rfl zci_0 ?_
  refine r_aload_n 22 dX2_takeOver_21 rfl 0 rfl rfl ?_
  refine r_get 25 16 2 dX2_takeOver_22 rfl zl_16 (ce_16 G _) rfl inz2 (by decide) wf_X2_9 rfl ?_
  refine r_iconst 26 dX2_takeOver_25 rfl zci_0 ?_
  refine r_bipush 28 dX2_takeOver_26 rfl zcb_8 ?_
  refine r_copyj 31 72 17 8 8 dX2_takeOver_28 rfl zl_72 zl_17 (ce_72 G) (ce_17 G) wl_X2_28 (by omega) (Nat.le_of_ble_eq_true rfl) ?_
  refine r_topw (fun w3 => ?_)
  refine r_aload_n 32 dX2_takeOver_31 rfl 1 rfl rfl ?_
  refine r_get 35 71 3 dX2_takeOver_32 rfl zl_71 (ce_71 G _) rfl inz2 (by decide) wf_X2_15 rfl ?_
  refine r_iconst 36 dX2_takeOver_35 rfl zci_0 ?_
  refine r_aload_n 37 dX2_takeOver_36 rfl 0 rfl rfl ?_
  refine r_get 40 16 3 dX2_takeOver_37 rfl zl_16 (ce_16 G _) rfl inz2 (by decide) wf_X2_15 rfl ?_
  refine r_iconst 41 dX2_takeOver_40 rfl zci_0 ?_
  refine r_bipush 43 dX2_takeOver_41 rfl zcb_14 ?_
  refine r_copyj 46 73 18 14 14 dX2_takeOver_43 rfl zl_73 zl_18 (ce_73 G) (ce_18 G) wl_X2_28 (by omega) (Nat.le_of_ble_eq_true rfl) ?_
  refine r_topw (fun w4 => ?_)
  refine r_aload_n 47 dX2_takeOver_46 rfl 1 rfl rfl ?_
  refine r_get 50 71 4 dX2_takeOver_47 rfl zl_71 (ce_71 G _) rfl inz2 (by decide) wf_X2_18 rfl ?_
  refine r_iconst 51 dX2_takeOver_50 rfl zci_0 ?_
  refine r_aload_n 52 dX2_takeOver_51 rfl 0 rfl rfl ?_
  refine r_get 55 16 4 dX2_takeOver_52 rfl zl_16 (ce_16 G _) rfl inz2 (by decide) wf_X2_18 rfl ?_
  refine r_iconst 56 dX2_takeOver_55 rfl zci_0 ?_
  refine r_bipush 58 dX2_takeOver_56 rfl zcb_14 ?_
  refine r_copyj 61 74 19 14 14 dX2_takeOver_58 rfl zl_74 zl_19 (ce_74 G) (ce_19 G) wl_X2_28 (by omega) (Nat.le_of_ble_eq_true rfl) ?_
  refine r_topw (fun w5 => ?_)
  exact r_vret dX2_takeOver_61 rfl z_kvw
-- X3_takeOver
def f_X3_takeOver_20_75 (w : ZW) : Option (ZW) :=
  z_let (z_upI w 20 0 (w.1 75 0)) fun w1 =>
  if z_cin (0 : Int32) (0 : Int32) (6 : Int32) 6 6 then
  z_let (z_cpI w1 76 21 (0 : Int32).toNatClampNeg (0 : Int32).toNatClampNeg (6 : Int32).toNatClampNeg) fun w2 =>
  if z_cin (0 : Int32) (0 : Int32) (6 : Int32) 6 6 then
  z_let (z_cpI w2 77 22 (0 : Int32).toNatClampNeg (0 : Int32).toNatClampNeg (6 : Int32).toNatClampNeg) fun w3 =>
  if z_cin (0 : Int32) (0 : Int32) (6 : Int32) 6 6 then
  z_let (z_cpI w3 78 23 (0 : Int32).toNatClampNeg (0 : Int32).toNatClampNeg (6 : Int32).toNatClampNeg) fun w4 =>
  some w4
else none
else none
else none
set_option maxHeartbeats 4000000 in
set_option maxRecDepth 100000 in
theorem c_X3_takeOver_20_75 (G : ZG) (l : Launch) (d : Nat) (hd : 2 ≤ d) (w : ZW) : ∀ o, f_X3_takeOver_20_75 w = some o → zM G l d yX3_takeOver cX3_takeOver 2 none [.ref (G.1 20), .ref (G.1 75)] w none o := by
  intro o ho
  refine zM.of [(0, .ref (G.1 20)), (1, .ref (G.1 75))] (by decide) (Nat.le_of_ble_eq_true rfl) rfl ?_
  refine (?_ : zR G l d "LoveLocks$Nights" cX3_takeOver 2 none none o (fun x => x = o) 0 [(0, .ref (G.1 20)), (1, .ref (G.1 75))] [] w (f_X3_takeOver_20_75 w)) o ho rfl
  rw [f_X3_takeOver_20_75]
  refine r_aload_n 1 dX3_takeOver_0 rfl 0 rfl rfl ?_
  refine r_aload_n 2 dX3_takeOver_1 rfl 1 rfl rfl ?_
  refine r_get 5 75 0 dX3_takeOver_2 rfl zl_75 (ce_75 G _) rfl inz3 (by decide) wf_X3_9 rfl ?_
  refine r_puti 8 20 0 dX3_takeOver_5 rfl zl_20 (ce_20 G _) rfl inz3 tyX3_ok nmX3 (by decide) wf_X3_9 rfl rfl (Nat.le_of_ble_eq_true rfl) rfl ?_
  refine r_topw (fun w1 => ?_)
  refine r_aload_n 9 dX3_takeOver_8 rfl 1 rfl rfl ?_
  refine r_get 12 75 1 dX3_takeOver_9 rfl zl_75 (ce_75 G _) rfl inz3 (by decide) wf_X3_15 rfl ?_
  refine r_iconst 13 dX3_takeOver_12 rfl zci_0 ?_
  refine r_aload_n 14 dX3_takeOver_13 rfl 0 rfl rfl ?_
  refine r_get 17 20 1 dX3_takeOver_14 rfl zl_20 (ce_20 G _) rfl inz3 (by decide) wf_X3_15 rfl ?_
  refine r_iconst 18 dX3_takeOver_17 rfl zci_0 ?_
  refine r_bipush 20 dX3_takeOver_18 rfl zcb_6 ?_
  refine r_copyi 23 76 21 6 6 dX3_takeOver_20 rfl zl_76 zl_21 (ce_76 G) (ce_21 G) wl_X3_39 (by omega) (Nat.le_of_ble_eq_true rfl) ?_
  refine r_topw (fun w2 => ?_)
  refine r_aload_n 24 dX3_takeOver_23 rfl 1 rfl rfl ?_
  refine r_get 27 75 2 dX3_takeOver_24 rfl zl_75 (ce_75 G _) rfl inz3 (by decide) wf_X3_19 rfl ?_
  refine r_iconst 28 dX3_takeOver_27 rfl zci_0 ?_
  refine r_aload_n 29 dX3_takeOver_28 rfl 0 rfl rfl ?_
  refine r_get 32 20 2 dX3_takeOver_29 rfl zl_20 (ce_20 G _) rfl inz3 (by decide) wf_X3_19 rfl ?_
  refine r_iconst 33 dX3_takeOver_32 rfl zci_0 ?_
  refine r_bipush 35 dX3_takeOver_33 rfl zcb_6 ?_
  refine r_copyi 38 77 22 6 6 dX3_takeOver_35 rfl zl_77 zl_22 (ce_77 G) (ce_22 G) wl_X3_39 (by omega) (Nat.le_of_ble_eq_true rfl) ?_
  refine r_topw (fun w3 => ?_)
  refine r_aload_n 39 dX3_takeOver_38 rfl 1 rfl rfl ?_
  refine r_get 42 75 3 dX3_takeOver_39 rfl zl_75 (ce_75 G _) rfl inz3 (by decide) wf_X3_22 rfl ?_
  refine r_iconst 43 dX3_takeOver_42 rfl zci_0 ?_
  refine r_aload_n 44 dX3_takeOver_43 rfl 0 rfl rfl ?_
  refine r_get 47 20 3 dX3_takeOver_44 rfl zl_20 (ce_20 G _) rfl inz3 (by decide) wf_X3_22 rfl ?_
  refine r_iconst 48 dX3_takeOver_47 rfl zci_0 ?_
  refine r_bipush 50 dX3_takeOver_48 rfl zcb_6 ?_
  refine r_copyi 53 78 23 6 6 dX3_takeOver_50 rfl zl_78 zl_23 (ce_78 G) (ce_23 G) wl_X3_39 (by omega) (Nat.le_of_ble_eq_true rfl) ?_
  refine r_topw (fun w4 => ?_)
  exact r_vret dX3_takeOver_53 rfl z_kvw
-- X0_takeOver
def f_X0_takeOver_53_108 (w : ZW) : Option (ZW) :=
  if z_cin (0 : Int32) (0 : Int32) (12 : Int32) 12 12 then
  z_let (z_cpI w 109 54 (0 : Int32).toNatClampNeg (0 : Int32).toNatClampNeg (12 : Int32).toNatClampNeg) fun w1 =>
  if z_cin (0 : Int32) (0 : Int32) (12 : Int32) 12 12 then
  z_let (z_cpI w1 110 55 (0 : Int32).toNatClampNeg (0 : Int32).toNatClampNeg (12 : Int32).toNatClampNeg) fun w2 =>
  some w2
else none
else none
set_option maxHeartbeats 4000000 in
set_option maxRecDepth 100000 in
theorem c_X0_takeOver_53_108 (G : ZG) (l : Launch) (d : Nat) (hd : 2 ≤ d) (w : ZW) : ∀ o, f_X0_takeOver_53_108 w = some o → zM G l d yX0_takeOver cX0_takeOver 2 none [.ref (G.1 53), .ref (G.1 108)] w none o := by
  intro o ho
  refine zM.of [(0, .ref (G.1 53)), (1, .ref (G.1 108))] (by decide) (Nat.le_of_ble_eq_true rfl) rfl ?_
  refine (?_ : zR G l d "LoveLocks$Growth" cX0_takeOver 2 none none o (fun x => x = o) 0 [(0, .ref (G.1 53)), (1, .ref (G.1 108))] [] w (f_X0_takeOver_53_108 w)) o ho rfl
  rw [f_X0_takeOver_53_108]
  refine r_aload_n 1 dX0_takeOver_0 rfl 1 rfl rfl ?_
  refine r_get 4 108 0 dX0_takeOver_1 rfl zl_108 (ce_108 G _) rfl inz0 (by decide) wf_X0_9 rfl ?_
  refine r_iconst 5 dX0_takeOver_4 rfl zci_0 ?_
  refine r_aload_n 6 dX0_takeOver_5 rfl 0 rfl rfl ?_
  refine r_get 9 53 0 dX0_takeOver_6 rfl zl_53 (ce_53 G _) rfl inz0 (by decide) wf_X0_9 rfl ?_
  refine r_iconst 10 dX0_takeOver_9 rfl zci_0 ?_
  refine r_bipush 12 dX0_takeOver_10 rfl zcb_12 ?_
  refine r_copyi 15 109 54 12 12 dX0_takeOver_12 rfl zl_109 zl_54 (ce_109 G) (ce_54 G) wl_X0_25 (by omega) (Nat.le_of_ble_eq_true rfl) ?_
  refine r_topw (fun w1 => ?_)
  refine r_aload_n 16 dX0_takeOver_15 rfl 1 rfl rfl ?_
  refine r_get 19 108 1 dX0_takeOver_16 rfl zl_108 (ce_108 G _) rfl inz0 (by decide) wf_X0_15 rfl ?_
  refine r_iconst 20 dX0_takeOver_19 rfl zci_0 ?_
  refine r_aload_n 21 dX0_takeOver_20 rfl 0 rfl rfl ?_
  refine r_get 24 53 1 dX0_takeOver_21 rfl zl_53 (ce_53 G _) rfl inz0 (by decide) wf_X0_15 rfl ?_
  refine r_iconst 25 dX0_takeOver_24 rfl zci_0 ?_
  refine r_bipush 27 dX0_takeOver_25 rfl zcb_12 ?_
  refine r_copyi 30 110 55 12 12 dX0_takeOver_27 rfl zl_110 zl_55 (ce_110 G) (ce_55 G) wl_X0_25 (by omega) (Nat.le_of_ble_eq_true rfl) ?_
  refine r_topw (fun w2 => ?_)
  exact r_vret dX0_takeOver_30 rfl z_kvw
-- X9_takeOver
def f_X9_takeOver_1_56 (w : ZW) : Option (ZW) :=
  (f_X4_takeOver_2_57 w).bind fun r1 : ZW =>
  (f_X8_takeOver_12_67 r1).bind fun r2 : ZW =>
  (f_X2_takeOver_16_71 r2).bind fun r3 : ZW =>
  (f_X3_takeOver_20_75 r3).bind fun r4 : ZW =>
  (f_X0_takeOver_53_108 r4).bind fun r5 : ZW =>
  some r5
set_option maxHeartbeats 4000000 in
set_option maxRecDepth 100000 in
theorem c_X9_takeOver_1_56 (G : ZG) (l : Launch) (d : Nat) (hd : 3 ≤ d) (w : ZW) : ∀ o, f_X9_takeOver_1_56 w = some o → zM G l d yX9_takeOver cX9_takeOver 2 none [.ref (G.1 1), .ref (G.1 56)] w none o := by
  intro o ho
  refine zM.of [(0, .ref (G.1 1)), (1, .ref (G.1 56))] (by decide) (Nat.le_of_ble_eq_true rfl) rfl ?_
  refine (?_ : zR G l d "LoveLocks$State" cX9_takeOver 2 none none o (fun x => x = o) 0 [(0, .ref (G.1 1)), (1, .ref (G.1 56))] [] w (f_X9_takeOver_1_56 w)) o ho rfl
  rw [f_X9_takeOver_1_56]
  refine r_aload_n 1 dX9_takeOver_0 rfl 0 rfl rfl ?_
  refine r_get 4 1 0 dX9_takeOver_1 rfl zl_1 (ce_1 G _) rfl inz9 (by decide) wf_X9_10 rfl ?_
  refine r_aload_n 5 dX9_takeOver_4 rfl 1 rfl rfl ?_
  refine r_get 8 56 0 dX9_takeOver_5 rfl zl_56 (ce_56 G _) rfl inz9 (by decide) wf_X9_10 rfl ?_
  refine r_callVvw 11 1 (ko := 2) [.ref (G.1 57)] (st := []) dX9_takeOver_8 rfl rfl (fun r h => c_X4_takeOver_2_57 G l (d - 1) (by omega) w r h) zl_2 (ce_2 G _) rfl rfl wc_X4_takeOver wz_X4 wl_X9_44 wi_X4_takeOver ws_X4_takeOver zd_X4_takeOver (by decide) (by omega) rfl (Nat.le_of_ble_eq_true rfl) (fun r1 => ?_)
  refine r_aload_n 12 dX9_takeOver_11 rfl 0 rfl rfl ?_
  refine r_get 15 1 1 dX9_takeOver_12 rfl zl_1 (ce_1 G _) rfl inz9 (by decide) wf_X9_19 rfl ?_
  refine r_aload_n 16 dX9_takeOver_15 rfl 1 rfl rfl ?_
  refine r_get 19 56 1 dX9_takeOver_16 rfl zl_56 (ce_56 G _) rfl inz9 (by decide) wf_X9_19 rfl ?_
  refine r_callVvw 22 1 (ko := 12) [.ref (G.1 67)] (st := []) dX9_takeOver_19 rfl rfl (fun r h => c_X8_takeOver_12_67 G l (d - 1) (by omega) r1 r h) zl_12 (ce_12 G _) rfl rfl wc_X8_takeOver wz_X8 wl_X9_48 wi_X8_takeOver ws_X8_takeOver zd_X8_takeOver (by decide) (by omega) rfl (Nat.le_of_ble_eq_true rfl) (fun r2 => ?_)
  refine r_aload_n 23 dX9_takeOver_22 rfl 0 rfl rfl ?_
  refine r_get 26 1 2 dX9_takeOver_23 rfl zl_1 (ce_1 G _) rfl inz9 (by decide) wf_X9_26 rfl ?_
  refine r_aload_n 27 dX9_takeOver_26 rfl 1 rfl rfl ?_
  refine r_get 30 56 2 dX9_takeOver_27 rfl zl_56 (ce_56 G _) rfl inz9 (by decide) wf_X9_26 rfl ?_
  refine r_callVvw 33 1 (ko := 16) [.ref (G.1 71)] (st := []) dX9_takeOver_30 rfl rfl (fun r h => c_X2_takeOver_16_71 G l (d - 1) (by omega) r2 r h) zl_16 (ce_16 G _) rfl rfl wc_X2_takeOver wz_X2 wl_X9_51 wi_X2_takeOver ws_X2_takeOver zd_X2_takeOver (by decide) (by omega) rfl (Nat.le_of_ble_eq_true rfl) (fun r3 => ?_)
  refine r_aload_n 34 dX9_takeOver_33 rfl 0 rfl rfl ?_
  refine r_get 37 1 3 dX9_takeOver_34 rfl zl_1 (ce_1 G _) rfl inz9 (by decide) wf_X9_33 rfl ?_
  refine r_aload_n 38 dX9_takeOver_37 rfl 1 rfl rfl ?_
  refine r_get 41 56 3 dX9_takeOver_38 rfl zl_56 (ce_56 G _) rfl inz9 (by decide) wf_X9_33 rfl ?_
  refine r_callVvw 44 1 (ko := 20) [.ref (G.1 75)] (st := []) dX9_takeOver_41 rfl rfl (fun r h => c_X3_takeOver_20_75 G l (d - 1) (by omega) r3 r h) zl_20 (ce_20 G _) rfl rfl wc_X3_takeOver wz_X3 wl_X9_54 wi_X3_takeOver ws_X3_takeOver zd_X3_takeOver (by decide) (by omega) rfl (Nat.le_of_ble_eq_true rfl) (fun r4 => ?_)
  refine r_aload_n 45 dX9_takeOver_44 rfl 0 rfl rfl ?_
  refine r_get 48 1 4 dX9_takeOver_45 rfl zl_1 (ce_1 G _) rfl inz9 (by decide) wf_X9_40 rfl ?_
  refine r_aload_n 49 dX9_takeOver_48 rfl 1 rfl rfl ?_
  refine r_get 52 56 4 dX9_takeOver_49 rfl zl_56 (ce_56 G _) rfl inz9 (by decide) wf_X9_40 rfl ?_
  refine r_callVvw 55 1 (ko := 53) [.ref (G.1 108)] (st := []) dX9_takeOver_52 rfl rfl (fun r h => c_X0_takeOver_53_108 G l (d - 1) (by omega) r4 r h) zl_53 (ce_53 G _) rfl rfl wc_X0_takeOver wz_X0 wl_X9_57 wi_X0_takeOver ws_X0_takeOver zd_X0_takeOver (by decide) (by omega) rfl (Nat.le_of_ble_eq_true rfl) (fun r5 => ?_)
  exact r_vret dX9_takeOver_55 rfl z_kvw
-- X11_restore
def f_X11_restore (w : ZW) : Option (Int32 × ZW) :=
  if (w.1 0 2) = 0 then
  some ((-4 : Int32), w)
else
  (f_X9_takeOver_1_56 w).bind fun r1 : ZW =>
    some ((1 : Int32), r1)
set_option maxHeartbeats 4000000 in
set_option maxRecDepth 100000 in
theorem c_X11_restore (G : ZG) (l : Launch) (d : Nat) (hd : 4 ≤ d) (w : ZW) : ∀ o, f_X11_restore w = some o → zM G l d yX11_restore cX11_restore 1 (some .int) [.ref (G.1 0)] w (some (.int o.1)) o.2 := by
  intro o ho
  refine zM.of [(0, .ref (G.1 0))] (by decide) (Nat.le_of_ble_eq_true rfl) rfl ?_
  refine (?_ : zR G l d "LoveLocks" cX11_restore 1 (some .int) (some (.int o.1)) o.2 (fun x => x = o) 0 [(0, .ref (G.1 0))] [] w (f_X11_restore w)) o ho rfl
  rw [f_X11_restore]
  refine r_aload_n 1 dX11_restore_0 rfl 0 rfl rfl ?_
  refine r_get 4 0 2 dX11_restore_1 rfl zl_0 (ce_0 G _) rfl inz11 (by decide) wf_X11_299 rfl ?_
  refine r_if_ne 10 7 dX11_restore_4 (by decide) rfl ?_ ?_
  · refine r_aload_n 11 dX11_restore_10 rfl 0 rfl rfl ?_
    refine r_get 14 0 0 dX11_restore_11 rfl zl_0 (ce_0 G _) rfl inz11 (by decide) wf_X11_10 rfl ?_
    refine r_aload_n 15 dX11_restore_14 rfl 0 rfl rfl ?_
    refine r_get 18 0 1 dX11_restore_15 rfl zl_0 (ce_0 G _) rfl inz11 (by decide) wf_X11_16 rfl ?_
    refine r_callVvw 21 1 (ko := 1) [.ref (G.1 56)] (st := []) dX11_restore_18 rfl rfl (fun r h => c_X9_takeOver_1_56 G l (d - 1) (by omega) w r h) zl_1 (ce_1 G _) rfl rfl wc_X9_takeOver wz_X9 wl_X11_295 wi_X9_takeOver ws_X9_takeOver zd_X9_takeOver (by decide) (by omega) rfl (Nat.le_of_ble_eq_true rfl) (fun r1 => ?_)
    refine r_iconst 22 dX11_restore_21 rfl zci_1 ?_
    exact r_iret dX11_restore_22 rfl z_kiw
  · refine r_bipush 9 dX11_restore_7 rfl zcb_m4 ?_
    exact r_iret dX11_restore_9 rfl z_kiw
