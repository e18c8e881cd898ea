-- X12_in
def f_X12_in (a0 : Int64) (a2 : Int64) (a4 : Int64) : Option (Int32) :=
  if (lg_cmp a0 a2) < 0 then
  some (0 : Int32)
else
  if 0 < (lg_cmp a0 a4) then
    some (0 : Int32)
  else
    some (1 : Int32)
set_option maxHeartbeats 4000000 in
set_option maxRecDepth 100000 in
theorem c_X12_in (G : ZG) (l : Launch) (d : Nat) (hd : 1 ≤ d) (w0 : ZW) (a0 : Int64) (a2 : Int64) (a4 : Int64) : ∀ o, f_X12_in a0 a2 a4 = some o → zM G l d yX12_in cX12_in 6 (some .boolean) [.long a0, .long a2, .long a4] w0 (some (.int o)) w0 := by
  intro o ho
  refine zM.of [(0, .long a0), (2, .long a2), (4, .long a4)] (by decide) (Nat.le_of_ble_eq_true rfl) rfl ?_
  refine (?_ : zR G l d "LoveLocksModel" cX12_in 6 (some .boolean) (some (.int o)) w0 (fun x => x = o) 0 [(0, .long a0), (2, .long a2), (4, .long a4)] [] w0 (f_X12_in a0 a2 a4)) o ho rfl
  rw [f_X12_in]
  refine r_lload_n 1 dX12_in_0 rfl 0 rfl rfl ?_
  refine r_lload_n 2 dX12_in_1 rfl 1 rfl rfl ?_
  refine r_lcmp 3 dX12_in_2 rfl ?_
  refine r_if_lt 17 6 dX12_in_3 (by decide) rfl ?_ ?_
  · refine r_iconst 18 dX12_in_17 rfl zci_0 ?_
    exact r_zret dX12_in_18 rfl rfl z_ki
  · refine r_lload_n 7 dX12_in_6 rfl 0 rfl rfl ?_
    refine r_lload 9 dX12_in_7 rfl 2 rfl ?_
    refine r_lcmp 10 dX12_in_9 rfl ?_
    refine r_if_gt 17 13 dX12_in_10 (by decide) rfl ?_ ?_
    · refine r_iconst 18 dX12_in_17 rfl zci_0 ?_
      exact r_zret dX12_in_18 rfl rfl z_ki
    · refine r_iconst 14 dX12_in_13 rfl zci_1 ?_
      refine r_goto 18 dX12_in_14 (by decide) ?_
      exact r_zret dX12_in_18 rfl rfl z_ki
-- X12_panel
def f_X12_panel (w : ZW) (a1 : Int32) (a2 : Int32) (a3 : Int32) : Option (Int32 × ZW) :=
  (f_X12_in a1.toInt64 (1 : Int64) (99999 : Int64)).bind fun r1 : Int32 =>
  if r1 = 0 then
  some ((-1 : Int32), w)
else
  (f_X12_in a2.toInt64 (1 : Int64) (99999 : Int64)).bind fun r2 : Int32 =>
    if r2 = 0 then
    some ((-1 : Int32), w)
  else
    (f_X12_in a3.toInt64 (1 : Int64) (99999 : Int64)).bind fun r3 : Int32 =>
      if r3 = 0 then
      some ((-1 : Int32), w)
    else
      if (w.1 130 0) = (6 : Int32) then
        some ((-3 : Int32), w)
      else
        if z_in ((3 : Int32) * (w.1 130 0)) 18 then
          z_let (z_upI w 131 ((3 : Int32) * (w.1 130 0)).toNatClampNeg a1) fun w4 =>
          if z_in (((3 : Int32) * (w4.1 130 0)) + (1 : Int32)) 18 then
          z_let (z_upI w4 131 (((3 : Int32) * (w4.1 130 0)) + (1 : Int32)).toNatClampNeg a2) fun w5 =>
          if z_in (((3 : Int32) * (w5.1 130 0)) + (2 : Int32)) 18 then
          z_let (z_upI w5 131 (((3 : Int32) * (w5.1 130 0)) + (2 : Int32)).toNatClampNeg a3) fun w6 =>
          if z_in (w6.1 130 0) 6 then
          z_let (z_upI w6 149 (w6.1 130 0).toNatClampNeg (0 : Int32)) fun w7 =>
          if z_in (w7.1 130 0) 6 then
          z_let (z_upI w7 150 (w7.1 130 0).toNatClampNeg (0 : Int32)) fun w8 =>
          if z_in (w8.1 130 0) 6 then
          z_let (z_upI w8 151 (w8.1 130 0).toNatClampNeg (0 : Int32)) fun w9 =>
          z_let (z_upI w9 130 0 ((w9.1 130 0) + (1 : Int32))) fun w10 =>
          some ((w10.1 130 0) - (1 : Int32), w10)
        else none
        else none
        else none
        else none
        else none
        else none
set_option maxHeartbeats 4000000 in
set_option maxRecDepth 100000 in
theorem c_X12_panel (G : ZG) (l : Launch) (d : Nat) (hd : 2 ≤ d) (w : ZW) (a1 : Int32) (a2 : Int32) (a3 : Int32) : ∀ o, f_X12_panel w a1 a2 a3 = some o → zM G l d yX12_panel cX12_panel 4 (some .int) [.ref (G.1 130), .int a1, .int a2, .int a3] w (some (.int o.1)) o.2 := by
  intro o ho
  refine zM.of [(0, .ref (G.1 130)), (1, .int a1), (2, .int a2), (3, .int a3)] (by decide) (Nat.le_of_ble_eq_true rfl) rfl ?_
  refine (?_ : zR G l d "LoveLocksModel" cX12_panel 4 (some .int) (some (.int o.1)) o.2 (fun x => x = o) 0 [(0, .ref (G.1 130)), (1, .int a1), (2, .int a2), (3, .int a3)] [] w (f_X12_panel w a1 a2 a3)) o ho rfl
  rw [f_X12_panel]
  refine r_iload_n 1 dX12_panel_0 rfl 1 rfl rfl ?_
  refine r_i2l 2 dX12_panel_1 rfl ?_
  refine r_lconst 3 dX12_panel_2 rfl zcl_1 ?_
  refine r_ldc2 6 dX12_panel_3 rfl wk_X12_118 ?_
  refine r_callSi 9 3 [.long a1.toInt64, .long (1 : Int64), .long (99999 : Int64)] (st := []) dX12_panel_6 rfl rfl (fun r h => c_X12_in G l (d - 1) (by omega) w a1.toInt64 (1 : Int64) (99999 : Int64) r h) wc_X12_in wz_X12 wl_X12_111 wst_X12_in zd_X12_in (by decide) (by omega) rfl (Nat.le_of_ble_eq_true rfl) (fun r1 => ?_)
  refine r_if_eq 36 12 dX12_panel_9 (by decide) rfl ?_ ?_
  · refine r_iconst 37 dX12_panel_36 rfl zci_m1 ?_
    exact r_iret dX12_panel_37 rfl z_kiw
  · refine r_iload_n 13 dX12_panel_12 rfl 2 rfl rfl ?_
    refine r_i2l 14 dX12_panel_13 rfl ?_
    refine r_lconst 15 dX12_panel_14 rfl zcl_1 ?_
    refine r_ldc2 18 dX12_panel_15 rfl wk_X12_118 ?_
    refine r_callSi 21 3 [.long a2.toInt64, .long (1 : Int64), .long (99999 : Int64)] (st := []) dX12_panel_18 rfl rfl (fun r h => c_X12_in G l (d - 1) (by omega) w a2.toInt64 (1 : Int64) (99999 : Int64) r h) wc_X12_in wz_X12 wl_X12_111 wst_X12_in zd_X12_in (by decide) (by omega) rfl (Nat.le_of_ble_eq_true rfl) (fun r2 => ?_)
    refine r_if_eq 36 24 dX12_panel_21 (by decide) rfl ?_ ?_
    · refine r_iconst 37 dX12_panel_36 rfl zci_m1 ?_
      exact r_iret dX12_panel_37 rfl z_kiw
    · refine r_iload_n 25 dX12_panel_24 rfl 3 rfl rfl ?_
      refine r_i2l 26 dX12_panel_25 rfl ?_
      refine r_lconst 27 dX12_panel_26 rfl zcl_1 ?_
      refine r_ldc2 30 dX12_panel_27 rfl wk_X12_118 ?_
      refine r_callSi 33 3 [.long a3.toInt64, .long (1 : Int64), .long (99999 : Int64)] (st := []) dX12_panel_30 rfl rfl (fun r h => c_X12_in G l (d - 1) (by omega) w a3.toInt64 (1 : Int64) (99999 : Int64) r h) wc_X12_in wz_X12 wl_X12_111 wst_X12_in zd_X12_in (by decide) (by omega) rfl (Nat.le_of_ble_eq_true rfl) (fun r3 => ?_)
      refine r_if_ne 38 36 dX12_panel_33 (by decide) rfl ?_ ?_
      · refine r_aload_n 39 dX12_panel_38 rfl 0 rfl rfl ?_
        refine r_get 42 130 0 dX12_panel_39 rfl zl_130 (ce_130 G _) rfl inz12 (by decide) wf_X12_108 rfl ?_
        refine r_bipush 44 dX12_panel_42 rfl zcb_6 ?_
        refine r_icmp_ne 50 47 dX12_panel_44 (by decide) rfl ?_ ?_
        · refine r_aload_n 51 dX12_panel_50 rfl 0 rfl rfl ?_
          refine r_get 54 130 1 dX12_panel_51 rfl zl_130 (ce_130 G _) rfl inz12 (by decide) wf_X12_7 rfl ?_
          refine r_iconst 55 dX12_panel_54 rfl zci_3 ?_
          refine r_aload_n 56 dX12_panel_55 rfl 0 rfl rfl ?_
          refine r_get 59 130 0 dX12_panel_56 rfl zl_130 (ce_130 G _) rfl inz12 (by decide) wf_X12_108 rfl ?_
          refine r_imul 60 dX12_panel_59 rfl ?_
          refine r_iload_n 61 dX12_panel_60 rfl 1 rfl rfl ?_
          refine r_iast 62 131 18 dX12_panel_61 rfl zl_131 (ce_131 G) ?_
          refine r_topw (fun w4 => ?_)
          refine r_aload_n 63 dX12_panel_62 rfl 0 rfl rfl ?_
          refine r_get 66 130 1 dX12_panel_63 rfl zl_130 (ce_130 G _) rfl inz12 (by decide) wf_X12_7 rfl ?_
          refine r_iconst 67 dX12_panel_66 rfl zci_3 ?_
          refine r_aload_n 68 dX12_panel_67 rfl 0 rfl rfl ?_
          refine r_get 71 130 0 dX12_panel_68 rfl zl_130 (ce_130 G _) rfl inz12 (by decide) wf_X12_108 rfl ?_
          refine r_imul 72 dX12_panel_71 rfl ?_
          refine r_iconst 73 dX12_panel_72 rfl zci_1 ?_
          refine r_iadd 74 dX12_panel_73 rfl ?_
          refine r_iload_n 75 dX12_panel_74 rfl 2 rfl rfl ?_
          refine r_iast 76 131 18 dX12_panel_75 rfl zl_131 (ce_131 G) ?_
          refine r_topw (fun w5 => ?_)
          refine r_aload_n 77 dX12_panel_76 rfl 0 rfl rfl ?_
          refine r_get 80 130 1 dX12_panel_77 rfl zl_130 (ce_130 G _) rfl inz12 (by decide) wf_X12_7 rfl ?_
          refine r_iconst 81 dX12_panel_80 rfl zci_3 ?_
          refine r_aload_n 82 dX12_panel_81 rfl 0 rfl rfl ?_
          refine r_get 85 130 0 dX12_panel_82 rfl zl_130 (ce_130 G _) rfl inz12 (by decide) wf_X12_108 rfl ?_
          refine r_imul 86 dX12_panel_85 rfl ?_
          refine r_iconst 87 dX12_panel_86 rfl zci_2 ?_
          refine r_iadd 88 dX12_panel_87 rfl ?_
          refine r_iload_n 89 dX12_panel_88 rfl 3 rfl rfl ?_
          refine r_iast 90 131 18 dX12_panel_89 rfl zl_131 (ce_131 G) ?_
          refine r_topw (fun w6 => ?_)
          refine r_aload_n 91 dX12_panel_90 rfl 0 rfl rfl ?_
          refine r_get 94 130 26 dX12_panel_91 rfl zl_130 (ce_130 G _) rfl inz12 (by decide) wf_X12_69 rfl ?_
          refine r_aload_n 95 dX12_panel_94 rfl 0 rfl rfl ?_
          refine r_get 98 130 0 dX12_panel_95 rfl zl_130 (ce_130 G _) rfl inz12 (by decide) wf_X12_108 rfl ?_
          refine r_iconst 99 dX12_panel_98 rfl zci_0 ?_
          refine r_iast 100 149 6 dX12_panel_99 rfl zl_149 (ce_149 G) ?_
          refine r_topw (fun w7 => ?_)
          refine r_aload_n 101 dX12_panel_100 rfl 0 rfl rfl ?_
          refine r_get 104 130 27 dX12_panel_101 rfl zl_130 (ce_130 G _) rfl inz12 (by decide) wf_X12_72 rfl ?_
          refine r_aload_n 105 dX12_panel_104 rfl 0 rfl rfl ?_
          refine r_get 108 130 0 dX12_panel_105 rfl zl_130 (ce_130 G _) rfl inz12 (by decide) wf_X12_108 rfl ?_
          refine r_iconst 109 dX12_panel_108 rfl zci_0 ?_
          refine r_iast 110 150 6 dX12_panel_109 rfl zl_150 (ce_150 G) ?_
          refine r_topw (fun w8 => ?_)
          refine r_aload_n 111 dX12_panel_110 rfl 0 rfl rfl ?_
          refine r_get 114 130 28 dX12_panel_111 rfl zl_130 (ce_130 G _) rfl inz12 (by decide) wf_X12_75 rfl ?_
          refine r_aload_n 115 dX12_panel_114 rfl 0 rfl rfl ?_
          refine r_get 118 130 0 dX12_panel_115 rfl zl_130 (ce_130 G _) rfl inz12 (by decide) wf_X12_108 rfl ?_
          refine r_iconst 119 dX12_panel_118 rfl zci_0 ?_
          refine r_iast 120 151 6 dX12_panel_119 rfl zl_151 (ce_151 G) ?_
          refine r_topw (fun w9 => ?_)
          refine r_aload_n 121 dX12_panel_120 rfl 0 rfl rfl ?_
          refine r_dup 122 dX12_panel_121 rfl rfl ?_
          refine r_get 125 130 0 dX12_panel_122 rfl zl_130 (ce_130 G _) rfl inz12 (by decide) wf_X12_108 rfl ?_
          refine r_iconst 126 dX12_panel_125 rfl zci_1 ?_
          refine r_iadd 127 dX12_panel_126 rfl ?_
          refine r_puti 130 130 0 dX12_panel_127 rfl zl_130 (ce_130 G _) rfl inz12 tyX12_ok nmX12 (by decide) wf_X12_108 rfl rfl (Nat.le_of_ble_eq_true rfl) rfl ?_
          refine r_topw (fun w10 => ?_)
          refine r_aload_n 131 dX12_panel_130 rfl 0 rfl rfl ?_
          refine r_get 134 130 0 dX12_panel_131 rfl zl_130 (ce_130 G _) rfl inz12 (by decide) wf_X12_108 rfl ?_
          refine r_iconst 135 dX12_panel_134 rfl zci_1 ?_
          refine r_isub 136 dX12_panel_135 rfl ?_
          exact r_iret dX12_panel_136 rfl z_kiw
        · refine r_bipush 49 dX12_panel_47 rfl zcb_m3 ?_
          exact r_iret dX12_panel_49 rfl z_kiw
      · refine r_iconst 37 dX12_panel_36 rfl zci_m1 ?_
        exact r_iret dX12_panel_37 rfl z_kiw
-- X12_isPanel
def f_X12_isPanel (w : ZW) (a1 : Int32) : Option (Int32) :=
  (f_X12_in a1.toInt64 (0 : Int64) (((w.1 130 0) - (1 : Int32)).toInt64)).bind fun r1 : Int32 =>
  if z_bo r1 then some r1 else none
set_option maxHeartbeats 4000000 in
set_option maxRecDepth 100000 in
theorem c_X12_isPanel (G : ZG) (l : Launch) (d : Nat) (hd : 2 ≤ d) (w : ZW) (a1 : Int32) : ∀ o, f_X12_isPanel w a1 = some o → zM G l d yX12_isPanel cX12_isPanel 2 (some .boolean) [.ref (G.1 130), .int a1] w (some (.int o)) w := by
  intro o ho
  refine zM.of [(0, .ref (G.1 130)), (1, .int a1)] (by decide) (Nat.le_of_ble_eq_true rfl) rfl ?_
  refine (?_ : zR G l d "LoveLocksModel" cX12_isPanel 2 (some .boolean) (some (.int o)) w (fun x => x = o) 0 [(0, .ref (G.1 130)), (1, .int a1)] [] w (f_X12_isPanel w a1)) o ho rfl
  rw [f_X12_isPanel]
  refine r_iload_n 1 dX12_isPanel_0 rfl 1 rfl rfl ?_
  refine r_i2l 2 dX12_isPanel_1 rfl ?_
  refine r_lconst 3 dX12_isPanel_2 rfl zcl_0 ?_
  refine r_aload_n 4 dX12_isPanel_3 rfl 0 rfl rfl ?_
  refine r_get 7 130 0 dX12_isPanel_4 rfl zl_130 (ce_130 G _) rfl inz12 (by decide) wf_X12_108 rfl ?_
  refine r_iconst 8 dX12_isPanel_7 rfl zci_1 ?_
  refine r_isub 9 dX12_isPanel_8 rfl ?_
  refine r_i2l 10 dX12_isPanel_9 rfl ?_
  refine r_callSi 13 3 [.long a1.toInt64, .long (0 : Int64), .long (((w.1 130 0) - (1 : Int32)).toInt64)] (st := []) dX12_isPanel_10 rfl rfl (fun r h => c_X12_in G l (d - 1) (by omega) w a1.toInt64 (0 : Int64) (((w.1 130 0) - (1 : Int32)).toInt64) r h) wc_X12_in wz_X12 wl_X12_111 wst_X12_in zd_X12_in (by decide) (by omega) rfl (Nat.le_of_ble_eq_true rfl) (fun r1 => ?_)
  refine r_gd (fun hz => ?_)
  exact r_zret dX12_isPanel_13 rfl (z_bo_n hz) z_ki
-- X12_isTold
def f_X12_isTold (a0 : Int32) (a1 : Int32) (a2 : Int32) : Option (Int32) :=
  (f_X12_in a0.toInt64 (1 : Int64) (999 : Int64)).bind fun r1 : Int32 =>
  if r1 = 0 then
  some (0 : Int32)
else
  (f_X12_in a1.toInt64 (0 : Int64) (1 : Int64)).bind fun r2 : Int32 =>
    if r2 = 0 then
    some (0 : Int32)
  else
    (f_X12_in a2.toInt64 (0 : Int64) (19 : Int64)).bind fun r3 : Int32 =>
      if r3 = 0 then
      some (0 : Int32)
    else
      some (1 : Int32)
set_option maxHeartbeats 4000000 in
set_option maxRecDepth 100000 in
theorem c_X12_isTold (G : ZG) (l : Launch) (d : Nat) (hd : 2 ≤ d) (w0 : ZW) (a0 : Int32) (a1 : Int32) (a2 : Int32) : ∀ o, f_X12_isTold a0 a1 a2 = some o → zM G l d yX12_isTold cX12_isTold 3 (some .boolean) [.int a0, .int a1, .int a2] w0 (some (.int o)) w0 := by
  intro o ho
  refine zM.of [(0, .int a0), (1, .int a1), (2, .int a2)] (by decide) (Nat.le_of_ble_eq_true rfl) rfl ?_
  refine (?_ : zR G l d "LoveLocksModel" cX12_isTold 3 (some .boolean) (some (.int o)) w0 (fun x => x = o) 0 [(0, .int a0), (1, .int a1), (2, .int a2)] [] w0 (f_X12_isTold a0 a1 a2)) o ho rfl
  rw [f_X12_isTold]
  refine r_iload_n 1 dX12_isTold_0 rfl 0 rfl rfl ?_
  refine r_i2l 2 dX12_isTold_1 rfl ?_
  refine r_lconst 3 dX12_isTold_2 rfl zcl_1 ?_
  refine r_ldc2 6 dX12_isTold_3 rfl wk_X12_120 ?_
  refine r_callSi 9 3 [.long a0.toInt64, .long (1 : Int64), .long (999 : Int64)] (st := []) dX12_isTold_6 rfl rfl (fun r h => c_X12_in G l (d - 1) (by omega) w0 a0.toInt64 (1 : Int64) (999 : Int64) r h) wc_X12_in wz_X12 wl_X12_111 wst_X12_in zd_X12_in (by decide) (by omega) rfl (Nat.le_of_ble_eq_true rfl) (fun r1 => ?_)
  refine r_if_eq 38 12 dX12_isTold_9 (by decide) rfl ?_ ?_
  · refine r_iconst 39 dX12_isTold_38 rfl zci_0 ?_
    exact r_zret dX12_isTold_39 rfl rfl z_ki
  · refine r_iload_n 13 dX12_isTold_12 rfl 1 rfl rfl ?_
    refine r_i2l 14 dX12_isTold_13 rfl ?_
    refine r_lconst 15 dX12_isTold_14 rfl zcl_0 ?_
    refine r_lconst 16 dX12_isTold_15 rfl zcl_1 ?_
    refine r_callSi 19 3 [.long a1.toInt64, .long (0 : Int64), .long (1 : Int64)] (st := []) dX12_isTold_16 rfl rfl (fun r h => c_X12_in G l (d - 1) (by omega) w0 a1.toInt64 (0 : Int64) (1 : Int64) r h) wc_X12_in wz_X12 wl_X12_111 wst_X12_in zd_X12_in (by decide) (by omega) rfl (Nat.le_of_ble_eq_true rfl) (fun r2 => ?_)
    refine r_if_eq 38 22 dX12_isTold_19 (by decide) rfl ?_ ?_
    · refine r_iconst 39 dX12_isTold_38 rfl zci_0 ?_
      exact r_zret dX12_isTold_39 rfl rfl z_ki
    · refine r_iload_n 23 dX12_isTold_22 rfl 2 rfl rfl ?_
      refine r_i2l 24 dX12_isTold_23 rfl ?_
      refine r_lconst 25 dX12_isTold_24 rfl zcl_0 ?_
      refine r_ldc2 28 dX12_isTold_25 rfl wk_X12_122 ?_
      refine r_callSi 31 3 [.long a2.toInt64, .long (0 : Int64), .long (19 : Int64)] (st := []) dX12_isTold_28 rfl rfl (fun r h => c_X12_in G l (d - 1) (by omega) w0 a2.toInt64 (0 : Int64) (19 : Int64) r h) wc_X12_in wz_X12 wl_X12_111 wst_X12_in zd_X12_in (by decide) (by omega) rfl (Nat.le_of_ble_eq_true rfl) (fun r3 => ?_)
      refine r_if_eq 38 34 dX12_isTold_31 (by decide) rfl ?_ ?_
      · refine r_iconst 39 dX12_isTold_38 rfl zci_0 ?_
        exact r_zret dX12_isTold_39 rfl rfl z_ki
      · refine r_iconst 35 dX12_isTold_34 rfl zci_1 ?_
        refine r_goto 39 dX12_isTold_35 (by decide) ?_
        exact r_zret dX12_isTold_39 rfl rfl z_ki
-- X12_comes
def f_X12_comes (w : ZW) (a1 : Int32) (a2 : Int32) (a3 : Int32) (a4 : Int32) (a5 : Int32) (a6 : Int32) : Option (Int32 × ZW) :=
  if z_in (w.1 130 2) 14 then
  z_let (z_upI w 135 (w.1 130 2).toNatClampNeg a1) fun w1 =>
  if z_in (w1.1 130 2) 14 then
  z_let (z_upI w1 136 (w1.1 130 2).toNatClampNeg a2) fun w2 =>
  if z_in (w2.1 130 2) 14 then
  z_let (z_upI w2 137 (w2.1 130 2).toNatClampNeg a3) fun w3 =>
  if z_in (w3.1 130 2) 14 then
  z_let (z_upI w3 132 (w3.1 130 2).toNatClampNeg a4) fun w4 =>
  if z_in (w4.1 130 2) 14 then
  z_let (z_upI w4 133 (w4.1 130 2).toNatClampNeg a5) fun w5 =>
  if z_in (w5.1 130 2) 14 then
  z_let (z_upI w5 134 (w5.1 130 2).toNatClampNeg a6) fun w6 =>
  if z_in (w6.1 130 2) 14 then
  z_let (z_upI w6 138 (w6.1 130 2).toNatClampNeg (0 : Int32)) fun w7 =>
  if z_in (w7.1 130 2) 14 then
  z_let (z_upI w7 144 (w7.1 130 2).toNatClampNeg (0 : Int32)) fun w8 =>
  z_let (z_upI w8 130 2 ((w8.1 130 2) + (1 : Int32))) fun w9 =>
  some ((w9.1 130 2) - (1 : Int32), w9)
else none
else none
else none
else none
else none
else none
else none
else none
set_option maxHeartbeats 4000000 in
set_option maxRecDepth 100000 in
theorem c_X12_comes (G : ZG) (l : Launch) (d : Nat) (hd : 1 ≤ d) (w : ZW) (a1 : Int32) (a2 : Int32) (a3 : Int32) (a4 : Int32) (a5 : Int32) (a6 : Int32) : ∀ o, f_X12_comes w a1 a2 a3 a4 a5 a6 = some o → zM G l d yX12_comes cX12_comes 7 (some .int) [.ref (G.1 130), .int a1, .int a2, .int a3, .int a4, .int a5, .int a6] w (some (.int o.1)) o.2 := by
  intro o ho
  refine zM.of [(0, .ref (G.1 130)), (1, .int a1), (2, .int a2), (3, .int a3), (4, .int a4), (5, .int a5), (6, .int a6)] (by decide) (Nat.le_of_ble_eq_true rfl) rfl ?_
  refine (?_ : zR G l d "LoveLocksModel" cX12_comes 7 (some .int) (some (.int o.1)) o.2 (fun x => x = o) 0 [(0, .ref (G.1 130)), (1, .int a1), (2, .int a2), (3, .int a3), (4, .int a4), (5, .int a5), (6, .int a6)] [] w (f_X12_comes w a1 a2 a3 a4 a5 a6)) o ho rfl
  rw [f_X12_comes]
  refine r_aload_n 1 dX12_comes_0 rfl 0 rfl rfl ?_
  refine r_get 4 130 6 dX12_comes_1 rfl zl_130 (ce_130 G _) rfl inz12 (by decide) wf_X12_22 rfl ?_
  refine r_aload_n 5 dX12_comes_4 rfl 0 rfl rfl ?_
  refine r_get 8 130 2 dX12_comes_5 rfl zl_130 (ce_130 G _) rfl inz12 (by decide) wf_X12_115 rfl ?_
  refine r_iload_n 9 dX12_comes_8 rfl 1 rfl rfl ?_
  refine r_iast 10 135 14 dX12_comes_9 rfl zl_135 (ce_135 G) ?_
  refine r_topw (fun w1 => ?_)
  refine r_aload_n 11 dX12_comes_10 rfl 0 rfl rfl ?_
  refine r_get 14 130 7 dX12_comes_11 rfl zl_130 (ce_130 G _) rfl inz12 (by decide) wf_X12_25 rfl ?_
  refine r_aload_n 15 dX12_comes_14 rfl 0 rfl rfl ?_
  refine r_get 18 130 2 dX12_comes_15 rfl zl_130 (ce_130 G _) rfl inz12 (by decide) wf_X12_115 rfl ?_
  refine r_iload_n 19 dX12_comes_18 rfl 2 rfl rfl ?_
  refine r_iast 20 136 14 dX12_comes_19 rfl zl_136 (ce_136 G) ?_
  refine r_topw (fun w2 => ?_)
  refine r_aload_n 21 dX12_comes_20 rfl 0 rfl rfl ?_
  refine r_get 24 130 8 dX12_comes_21 rfl zl_130 (ce_130 G _) rfl inz12 (by decide) wf_X12_28 rfl ?_
  refine r_aload_n 25 dX12_comes_24 rfl 0 rfl rfl ?_
  refine r_get 28 130 2 dX12_comes_25 rfl zl_130 (ce_130 G _) rfl inz12 (by decide) wf_X12_115 rfl ?_
  refine r_iload_n 29 dX12_comes_28 rfl 3 rfl rfl ?_
  refine r_iast 30 137 14 dX12_comes_29 rfl zl_137 (ce_137 G) ?_
  refine r_topw (fun w3 => ?_)
  refine r_aload_n 31 dX12_comes_30 rfl 0 rfl rfl ?_
  refine r_get 34 130 3 dX12_comes_31 rfl zl_130 (ce_130 G _) rfl inz12 (by decide) wf_X12_13 rfl ?_
  refine r_aload_n 35 dX12_comes_34 rfl 0 rfl rfl ?_
  refine r_get 38 130 2 dX12_comes_35 rfl zl_130 (ce_130 G _) rfl inz12 (by decide) wf_X12_115 rfl ?_
  refine r_iload 40 dX12_comes_38 rfl 4 rfl ?_
  refine r_iast 41 132 14 dX12_comes_40 rfl zl_132 (ce_132 G) ?_
  refine r_topw (fun w4 => ?_)
  refine r_aload_n 42 dX12_comes_41 rfl 0 rfl rfl ?_
  refine r_get 45 130 4 dX12_comes_42 rfl zl_130 (ce_130 G _) rfl inz12 (by decide) wf_X12_16 rfl ?_
  refine r_aload_n 46 dX12_comes_45 rfl 0 rfl rfl ?_
  refine r_get 49 130 2 dX12_comes_46 rfl zl_130 (ce_130 G _) rfl inz12 (by decide) wf_X12_115 rfl ?_
  refine r_iload 51 dX12_comes_49 rfl 5 rfl ?_
  refine r_iast 52 133 14 dX12_comes_51 rfl zl_133 (ce_133 G) ?_
  refine r_topw (fun w5 => ?_)
  refine r_aload_n 53 dX12_comes_52 rfl 0 rfl rfl ?_
  refine r_get 56 130 5 dX12_comes_53 rfl zl_130 (ce_130 G _) rfl inz12 (by decide) wf_X12_19 rfl ?_
  refine r_aload_n 57 dX12_comes_56 rfl 0 rfl rfl ?_
  refine r_get 60 130 2 dX12_comes_57 rfl zl_130 (ce_130 G _) rfl inz12 (by decide) wf_X12_115 rfl ?_
  refine r_iload 62 dX12_comes_60 rfl 6 rfl ?_
  refine r_iast 63 134 14 dX12_comes_62 rfl zl_134 (ce_134 G) ?_
  refine r_topw (fun w6 => ?_)
  refine r_aload_n 64 dX12_comes_63 rfl 0 rfl rfl ?_
  refine r_get 67 130 9 dX12_comes_64 rfl zl_130 (ce_130 G _) rfl inz12 (by decide) wf_X12_31 rfl ?_
  refine r_aload_n 68 dX12_comes_67 rfl 0 rfl rfl ?_
  refine r_get 71 130 2 dX12_comes_68 rfl zl_130 (ce_130 G _) rfl inz12 (by decide) wf_X12_115 rfl ?_
  refine r_iconst 72 dX12_comes_71 rfl zci_0 ?_
  refine r_iast 73 138 14 dX12_comes_72 rfl zl_138 (ce_138 G) ?_
  refine r_topw (fun w7 => ?_)
  refine r_aload_n 74 dX12_comes_73 rfl 0 rfl rfl ?_
  refine r_get 77 130 20 dX12_comes_74 rfl zl_130 (ce_130 G _) rfl inz12 (by decide) wf_X12_49 rfl ?_
  refine r_aload_n 78 dX12_comes_77 rfl 0 rfl rfl ?_
  refine r_get 81 130 2 dX12_comes_78 rfl zl_130 (ce_130 G _) rfl inz12 (by decide) wf_X12_115 rfl ?_
  refine r_iconst 82 dX12_comes_81 rfl zci_0 ?_
  refine r_iast 83 144 14 dX12_comes_82 rfl zl_144 (ce_144 G) ?_
  refine r_topw (fun w8 => ?_)
  refine r_aload_n 84 dX12_comes_83 rfl 0 rfl rfl ?_
  refine r_dup 85 dX12_comes_84 rfl rfl ?_
  refine r_get 88 130 2 dX12_comes_85 rfl zl_130 (ce_130 G _) rfl inz12 (by decide) wf_X12_115 rfl ?_
  refine r_iconst 89 dX12_comes_88 rfl zci_1 ?_
  refine r_iadd 90 dX12_comes_89 rfl ?_
  refine r_puti 93 130 2 dX12_comes_90 rfl zl_130 (ce_130 G _) rfl inz12 tyX12_ok nmX12 (by decide) wf_X12_115 rfl rfl (Nat.le_of_ble_eq_true rfl) rfl ?_
  refine r_topw (fun w9 => ?_)
  refine r_aload_n 94 dX12_comes_93 rfl 0 rfl rfl ?_
  refine r_get 97 130 2 dX12_comes_94 rfl zl_130 (ce_130 G _) rfl inz12 (by decide) wf_X12_115 rfl ?_
  refine r_iconst 98 dX12_comes_97 rfl zci_1 ?_
  refine r_isub 99 dX12_comes_98 rfl ?_
  exact r_iret dX12_comes_99 rfl z_kiw
-- X12_hang
def f_X12_hang (w : ZW) (a1 : Int32) (a2 : Int32) (a3 : Int32) (a4 : Int32) (a5 : Int32) : Option (Int32 × ZW) :=
  (f_X12_isPanel w a1).bind fun r1 : Int32 =>
  if r1 = 0 then
  some ((-1 : Int32), w)
else
  (f_X12_in a2.toInt64 (0 : Int64) (2 : Int64)).bind fun r2 : Int32 =>
    if r2 = 0 then
    some ((-1 : Int32), w)
  else
    (f_X12_isTold a3 a4 a5).bind fun r3 : Int32 =>
      if r3 = 0 then
      some ((-1 : Int32), w)
    else
      if (w.1 130 2) = (14 : Int32) then
        some ((-3 : Int32), w)
      else
        (f_X12_comes w a1 a2 (-4 : Int32) a3 a4 a5).bind fun r4 : Int32 × ZW =>
          some (r4.1, r4.2)
set_option maxHeartbeats 4000000 in
set_option maxRecDepth 100000 in
theorem c_X12_hang (G : ZG) (l : Launch) (d : Nat) (hd : 3 ≤ d) (w : ZW) (a1 : Int32) (a2 : Int32) (a3 : Int32) (a4 : Int32) (a5 : Int32) : ∀ o, f_X12_hang w a1 a2 a3 a4 a5 = some o → zM G l d yX12_hang cX12_hang 6 (some .int) [.ref (G.1 130), .int a1, .int a2, .int a3, .int a4, .int a5] w (some (.int o.1)) o.2 := by
  intro o ho
  refine zM.of [(0, .ref (G.1 130)), (1, .int a1), (2, .int a2), (3, .int a3), (4, .int a4), (5, .int a5)] (by decide) (Nat.le_of_ble_eq_true rfl) rfl ?_
  refine (?_ : zR G l d "LoveLocksModel" cX12_hang 6 (some .int) (some (.int o.1)) o.2 (fun x => x = o) 0 [(0, .ref (G.1 130)), (1, .int a1), (2, .int a2), (3, .int a3), (4, .int a4), (5, .int a5)] [] w (f_X12_hang w a1 a2 a3 a4 a5)) o ho rfl
  rw [f_X12_hang]
  refine r_aload_n 1 dX12_hang_0 rfl 0 rfl rfl ?_
  refine r_iload_n 2 dX12_hang_1 rfl 1 rfl rfl ?_
  refine r_callVi 5 1 (ko := 130) [.int a1] (st := []) dX12_hang_2 rfl rfl (fun r h => c_X12_isPanel G l (d - 1) (by omega) w a1 r h) zl_130 (ce_130 G _) rfl rfl wc_X12_isPanel wz_X12 wl_X12_124 wi_X12_isPanel ws_X12_isPanel zd_X12_isPanel (by decide) (by omega) rfl (Nat.le_of_ble_eq_true rfl) (fun r1 => ?_)
  refine r_if_eq 31 8 dX12_hang_5 (by decide) rfl ?_ ?_
  · refine r_iconst 32 dX12_hang_31 rfl zci_m1 ?_
    exact r_iret dX12_hang_32 rfl z_kiw
  · refine r_iload_n 9 dX12_hang_8 rfl 2 rfl rfl ?_
    refine r_i2l 10 dX12_hang_9 rfl ?_
    refine r_lconst 11 dX12_hang_10 rfl zcl_0 ?_
    refine r_ldc2 14 dX12_hang_11 rfl wk_X12_128 ?_
    refine r_callSi 17 3 [.long a2.toInt64, .long (0 : Int64), .long (2 : Int64)] (st := []) dX12_hang_14 rfl rfl (fun r h => c_X12_in G l (d - 1) (by omega) w a2.toInt64 (0 : Int64) (2 : Int64) r h) wc_X12_in wz_X12 wl_X12_111 wst_X12_in zd_X12_in (by decide) (by omega) rfl (Nat.le_of_ble_eq_true rfl) (fun r2 => ?_)
    refine r_if_eq 31 20 dX12_hang_17 (by decide) rfl ?_ ?_
    · refine r_iconst 32 dX12_hang_31 rfl zci_m1 ?_
      exact r_iret dX12_hang_32 rfl z_kiw
    · refine r_iload_n 21 dX12_hang_20 rfl 3 rfl rfl ?_
      refine r_iload 23 dX12_hang_21 rfl 4 rfl ?_
      refine r_iload 25 dX12_hang_23 rfl 5 rfl ?_
      refine r_callSi 28 3 [.int a3, .int a4, .int a5] (st := []) dX12_hang_25 rfl rfl (fun r h => c_X12_isTold G l (d - 1) (by omega) w a3 a4 a5 r h) wc_X12_isTold wz_X12 wl_X12_130 wst_X12_isTold zd_X12_isTold (by decide) (by omega) rfl (Nat.le_of_ble_eq_true rfl) (fun r3 => ?_)
      refine r_if_ne 33 31 dX12_hang_28 (by decide) rfl ?_ ?_
      · refine r_aload_n 34 dX12_hang_33 rfl 0 rfl rfl ?_
        refine r_get 37 130 2 dX12_hang_34 rfl zl_130 (ce_130 G _) rfl inz12 (by decide) wf_X12_115 rfl ?_
        refine r_bipush 39 dX12_hang_37 rfl zcb_14 ?_
        refine r_icmp_ne 47 42 dX12_hang_39 (by decide) rfl ?_ ?_
        · refine r_aload_n 48 dX12_hang_47 rfl 0 rfl rfl ?_
          refine r_iload_n 49 dX12_hang_48 rfl 1 rfl rfl ?_
          refine r_iload_n 50 dX12_hang_49 rfl 2 rfl rfl ?_
          refine r_bipush 52 dX12_hang_50 rfl zcb_m4 ?_
          refine r_iload_n 53 dX12_hang_52 rfl 3 rfl rfl ?_
          refine r_iload 55 dX12_hang_53 rfl 4 rfl ?_
          refine r_iload 57 dX12_hang_55 rfl 5 rfl ?_
          refine r_callViw 60 6 (ko := 130) [.int a1, .int a2, .int (-4 : Int32), .int a3, .int a4, .int a5] (st := []) dX12_hang_57 rfl rfl (fun r h => c_X12_comes G l (d - 1) (by omega) w a1 a2 (-4 : Int32) a3 a4 a5 r h) zl_130 (ce_130 G _) rfl rfl wc_X12_comes wz_X12 wl_X12_134 wi_X12_comes ws_X12_comes zd_X12_comes (by decide) (by omega) rfl (Nat.le_of_ble_eq_true rfl) (fun r4 => ?_)
          exact r_iret dX12_hang_60 rfl z_kiw
        · refine r_bipush 44 dX12_hang_42 rfl zcb_m3 ?_
          refine r_goto 60 dX12_hang_44 (by decide) ?_
          exact r_iret dX12_hang_60 rfl z_kiw
      · refine r_iconst 32 dX12_hang_31 rfl zci_m1 ?_
        exact r_iret dX12_hang_32 rfl z_kiw
-- X12_isLock
def f_X12_isLock (w : ZW) (a1 : Int32) : Option (Int32) :=
  (f_X12_in a1.toInt64 (0 : Int64) (((w.1 130 2) - (1 : Int32)).toInt64)).bind fun r1 : Int32 =>
  if z_bo r1 then some r1 else none
set_option maxHeartbeats 4000000 in
set_option maxRecDepth 100000 in
theorem c_X12_isLock (G : ZG) (l : Launch) (d : Nat) (hd : 2 ≤ d) (w : ZW) (a1 : Int32) : ∀ o, f_X12_isLock w a1 = some o → zM G l d yX12_isLock cX12_isLock 2 (some .boolean) [.ref (G.1 130), .int a1] w (some (.int o)) w := by
  intro o ho
  refine zM.of [(0, .ref (G.1 130)), (1, .int a1)] (by decide) (Nat.le_of_ble_eq_true rfl) rfl ?_
  refine (?_ : zR G l d "LoveLocksModel" cX12_isLock 2 (some .boolean) (some (.int o)) w (fun x => x = o) 0 [(0, .ref (G.1 130)), (1, .int a1)] [] w (f_X12_isLock w a1)) o ho rfl
  rw [f_X12_isLock]
  refine r_iload_n 1 dX12_isLock_0 rfl 1 rfl rfl ?_
  refine r_i2l 2 dX12_isLock_1 rfl ?_
  refine r_lconst 3 dX12_isLock_2 rfl zcl_0 ?_
  refine r_aload_n 4 dX12_isLock_3 rfl 0 rfl rfl ?_
  refine r_get 7 130 2 dX12_isLock_4 rfl zl_130 (ce_130 G _) rfl inz12 (by decide) wf_X12_115 rfl ?_
  refine r_iconst 8 dX12_isLock_7 rfl zci_1 ?_
  refine r_isub 9 dX12_isLock_8 rfl ?_
  refine r_i2l 10 dX12_isLock_9 rfl ?_
  refine r_callSi 13 3 [.long a1.toInt64, .long (0 : Int64), .long (((w.1 130 2) - (1 : Int32)).toInt64)] (st := []) dX12_isLock_10 rfl rfl (fun r h => c_X12_in G l (d - 1) (by omega) w a1.toInt64 (0 : Int64) (((w.1 130 2) - (1 : Int32)).toInt64) r h) wc_X12_in wz_X12 wl_X12_111 wst_X12_in zd_X12_in (by decide) (by omega) rfl (Nat.le_of_ble_eq_true rfl) (fun r1 => ?_)
  refine r_gd (fun hz => ?_)
  exact r_zret dX12_isLock_13 rfl (z_bo_n hz) z_ki
-- X12_hangOn
def f_X12_hangOn (w : ZW) (a1 : Int32) (a2 : Int32) (a3 : Int32) (a4 : Int32) : Option (Int32 × ZW) :=
  (f_X12_isLock w a1).bind fun r1 : Int32 =>
  if r1 = 0 then
  some ((-1 : Int32), w)
else
  (f_X12_isTold a2 a3 a4).bind fun r2 : Int32 =>
    if r2 = 0 then
    some ((-1 : Int32), w)
  else
    if z_in a1 14 then
      if (w.1 138 a1.toNatClampNeg) = (1 : Int32) then
      some ((-2 : Int32), w)
    else
      if (w.1 130 2) = (14 : Int32) then
        some ((-3 : Int32), w)
      else
        if z_in a1 14 then
          if z_in a1 14 then
          (f_X12_comes w (w.1 135 a1.toNatClampNeg) (w.1 136 a1.toNatClampNeg) a1 a2 a3 a4).bind fun r3 : Int32 × ZW =>
          some (r3.1, r3.2)
        else none
        else none
    else none
set_option maxHeartbeats 4000000 in
set_option maxRecDepth 100000 in
theorem c_X12_hangOn (G : ZG) (l : Launch) (d : Nat) (hd : 3 ≤ d) (w : ZW) (a1 : Int32) (a2 : Int32) (a3 : Int32) (a4 : Int32) : ∀ o, f_X12_hangOn w a1 a2 a3 a4 = some o → zM G l d yX12_hangOn cX12_hangOn 5 (some .int) [.ref (G.1 130), .int a1, .int a2, .int a3, .int a4] w (some (.int o.1)) o.2 := by
  intro o ho
  refine zM.of [(0, .ref (G.1 130)), (1, .int a1), (2, .int a2), (3, .int a3), (4, .int a4)] (by decide) (Nat.le_of_ble_eq_true rfl) rfl ?_
  refine (?_ : zR G l d "LoveLocksModel" cX12_hangOn 5 (some .int) (some (.int o.1)) o.2 (fun x => x = o) 0 [(0, .ref (G.1 130)), (1, .int a1), (2, .int a2), (3, .int a3), (4, .int a4)] [] w (f_X12_hangOn w a1 a2 a3 a4)) o ho rfl
  rw [f_X12_hangOn]
  refine r_aload_n 1 dX12_hangOn_0 rfl 0 rfl rfl ?_
  refine r_iload_n 2 dX12_hangOn_1 rfl 1 rfl rfl ?_
  refine r_callVi 5 1 (ko := 130) [.int a1] (st := []) dX12_hangOn_2 rfl rfl (fun r h => c_X12_isLock G l (d - 1) (by omega) w a1 r h) zl_130 (ce_130 G _) rfl rfl wc_X12_isLock wz_X12 wl_X12_138 wi_X12_isLock ws_X12_isLock zd_X12_isLock (by decide) (by omega) rfl (Nat.le_of_ble_eq_true rfl) (fun r1 => ?_)
  refine r_if_eq 18 8 dX12_hangOn_5 (by decide) rfl ?_ ?_
  · refine r_iconst 19 dX12_hangOn_18 rfl zci_m1 ?_
    exact r_iret dX12_hangOn_19 rfl z_kiw
  · refine r_iload_n 9 dX12_hangOn_8 rfl 2 rfl rfl ?_
    refine r_iload_n 10 dX12_hangOn_9 rfl 3 rfl rfl ?_
    refine r_iload 12 dX12_hangOn_10 rfl 4 rfl ?_
    refine r_callSi 15 3 [.int a2, .int a3, .int a4] (st := []) dX12_hangOn_12 rfl rfl (fun r h => c_X12_isTold G l (d - 1) (by omega) w a2 a3 a4 r h) wc_X12_isTold wz_X12 wl_X12_130 wst_X12_isTold zd_X12_isTold (by decide) (by omega) rfl (Nat.le_of_ble_eq_true rfl) (fun r2 => ?_)
    refine r_if_ne 20 18 dX12_hangOn_15 (by decide) rfl ?_ ?_
    · refine r_aload_n 21 dX12_hangOn_20 rfl 0 rfl rfl ?_
      refine r_get 24 130 9 dX12_hangOn_21 rfl zl_130 (ce_130 G _) rfl inz12 (by decide) wf_X12_31 rfl ?_
      refine r_iload_n 25 dX12_hangOn_24 rfl 1 rfl rfl ?_
      refine r_iald 26 138 14 dX12_hangOn_25 rfl zl_138 (ce_138 G _) ?_
      refine r_iconst 27 dX12_hangOn_26 rfl zci_1 ?_
      refine r_icmp_ne 33 30 dX12_hangOn_27 (by decide) rfl ?_ ?_
      · refine r_aload_n 34 dX12_hangOn_33 rfl 0 rfl rfl ?_
        refine r_get 37 130 2 dX12_hangOn_34 rfl zl_130 (ce_130 G _) rfl inz12 (by decide) wf_X12_115 rfl ?_
        refine r_bipush 39 dX12_hangOn_37 rfl zcb_14 ?_
        refine r_icmp_ne 47 42 dX12_hangOn_39 (by decide) rfl ?_ ?_
        · refine r_aload_n 48 dX12_hangOn_47 rfl 0 rfl rfl ?_
          refine r_aload_n 49 dX12_hangOn_48 rfl 0 rfl rfl ?_
          refine r_get 52 130 6 dX12_hangOn_49 rfl zl_130 (ce_130 G _) rfl inz12 (by decide) wf_X12_22 rfl ?_
          refine r_iload_n 53 dX12_hangOn_52 rfl 1 rfl rfl ?_
          refine r_iald 54 135 14 dX12_hangOn_53 rfl zl_135 (ce_135 G _) ?_
          refine r_aload_n 55 dX12_hangOn_54 rfl 0 rfl rfl ?_
          refine r_get 58 130 7 dX12_hangOn_55 rfl zl_130 (ce_130 G _) rfl inz12 (by decide) wf_X12_25 rfl ?_
          refine r_iload_n 59 dX12_hangOn_58 rfl 1 rfl rfl ?_
          refine r_iald 60 136 14 dX12_hangOn_59 rfl zl_136 (ce_136 G _) ?_
          refine r_iload_n 61 dX12_hangOn_60 rfl 1 rfl rfl ?_
          refine r_iload_n 62 dX12_hangOn_61 rfl 2 rfl rfl ?_
          refine r_iload_n 63 dX12_hangOn_62 rfl 3 rfl rfl ?_
          refine r_iload 65 dX12_hangOn_63 rfl 4 rfl ?_
          refine r_callViw 68 6 (ko := 130) [.int (w.1 135 a1.toNatClampNeg), .int (w.1 136 a1.toNatClampNeg), .int a1, .int a2, .int a3, .int a4] (st := []) dX12_hangOn_65 rfl rfl (fun r h => c_X12_comes G l (d - 1) (by omega) w (w.1 135 a1.toNatClampNeg) (w.1 136 a1.toNatClampNeg) a1 a2 a3 a4 r h) zl_130 (ce_130 G _) rfl rfl wc_X12_comes wz_X12 wl_X12_134 wi_X12_comes ws_X12_comes zd_X12_comes (by decide) (by omega) rfl (Nat.le_of_ble_eq_true rfl) (fun r3 => ?_)
          exact r_iret dX12_hangOn_68 rfl z_kiw
        · refine r_bipush 44 dX12_hangOn_42 rfl zcb_m3 ?_
          refine r_goto 68 dX12_hangOn_44 (by decide) ?_
          exact r_iret dX12_hangOn_68 rfl z_kiw
      · refine r_bipush 32 dX12_hangOn_30 rfl zcb_m2 ?_
        exact r_iret dX12_hangOn_32 rfl z_kiw
    · refine r_iconst 19 dX12_hangOn_18 rfl zci_m1 ?_
      exact r_iret dX12_hangOn_19 rfl z_kiw
-- X12_under
def f_X12_under_J67 (x2_6 : Int32) (x3_7 : Int32) (k8 : Int32) : Option ((Int32 × Int32) ⊕ (Int32)) :=
  if k8 = 0 then
  some (.inl (x2_6 ||| (0 : Int32), x3_7 + (1 : Int32)))
else
  z_let (x2_6 ||| ((1 : Int32) <<< (x3_7 &&& 31))) fun y9 =>
    some (.inl (y9, x3_7 + (1 : Int32)))
def f_X12_under_J66 (x2_4 : Int32) (x3_5 : Int32) : Option ((Int32 × Int32) ⊕ (Int32)) :=
  f_X12_under_J67 x2_4 x3_5 (0 : Int32)
def f_X12_under_L22 (w : ZW) (s2 : Int32 × Int32) : Option ((Int32 × Int32) ⊕ (Int32)) :=
  if (w.1 130 2) ≤ s2.2 then
  some (.inr s2.1)
else
  if z_in s2.2 14 then
    if (w.1 138 s2.2.toNatClampNeg) = 0 then
    if z_in s2.2 14 then
      if (w.1 137 s2.2.toNatClampNeg) < 0 then
      f_X12_under_J66 s2.1 s2.2
    else
      if z_in s2.2 14 then
        if ((s2.1 >>> ((w.1 137 s2.2.toNatClampNeg) &&& 31)) &&& (1 : Int32)) = (1 : Int32) then
        f_X12_under_J67 s2.1 s2.2 (1 : Int32)
      else
        f_X12_under_J66 s2.1 s2.2
      else none
    else none
  else
    f_X12_under_J66 s2.1 s2.2
  else none
def f_X12_under_J17 (w : ZW) (a1 : Int32) (k1 : Int32) : Option (Int32) :=
  (z_iter (f_X12_under_L22 w) z_fuel (k1, a1 + (1 : Int32))).bind (fun q3 : Int32 =>
  some q3)
def f_X12_under (w : ZW) (a1 : Int32) : Option (Int32) :=
  if z_in a1 14 then
  if (w.1 138 a1.toNatClampNeg) = (1 : Int32) then
  f_X12_under_J17 w a1 (0 : Int32)
else
  f_X12_under_J17 w a1 ((1 : Int32) <<< (a1 &&& 31))
else none
set_option maxHeartbeats 4000000 in
set_option maxRecDepth 100000 in
theorem c_X12_under (G : ZG) (l : Launch) (d : Nat) (hd : 1 ≤ d) (w : ZW) (a1 : Int32) : ∀ o, f_X12_under w a1 = some o → zM G l d yX12_under cX12_under 5 (some .int) [.ref (G.1 130), .int a1] w (some (.int o)) w := by
  intro o ho
  refine zM.of [(0, .ref (G.1 130)), (1, .int a1)] (by decide) (Nat.le_of_ble_eq_true rfl) rfl ?_
  refine (?_ : zR G l d "LoveLocksModel" cX12_under 5 (some .int) (some (.int o)) w (fun x => x = o) 0 [(0, .ref (G.1 130)), (1, .int a1)] [] w (f_X12_under w a1)) o ho rfl
  rw [f_X12_under]
  have hJ17 : ∀ (k1 : Int32), zR G l d "LoveLocksModel" cX12_under 5 (some .int) (some (.int o)) w (fun x => x = o) 17 [(0, .ref (G.1 130)), (1, .int a1)] [.int k1] w (f_X12_under_J17 w a1 k1) := by
    intro k1
    rw [f_X12_under_J17]
    refine r_istore_n 18 [(2, .int k1), (0, .ref (G.1 130)), (1, .int a1)] dX12_under_17 rfl rfl (by decide) rfl ?_
    refine r_iload_n 19 dX12_under_18 rfl 2 rfl rfl ?_
    refine r_iconst 20 dX12_under_19 rfl zci_1 ?_
    refine r_iadd 21 dX12_under_20 rfl ?_
    refine r_istore_n 22 [(3, .int (a1 + (1 : Int32))), (2, .int k1), (0, .ref (G.1 130)), (1, .int a1)] dX12_under_21 rfl rfl (by decide) rfl ?_
    refine r_loopE [2, 1, 0] (fun s2 => [(0, .ref (G.1 130)), (2, .int s2.1), (3, .int s2.2)]) (fun s2 => w) 90 (fun q3 => [(2, .int q3)]) (fun q3 => w) rfl rfl (fun s2 => ?_) (fun q3 => ?_)
    · rw [f_X12_under_L22]
      have hJ67 : ∀ (x2_6 : Int32) (x3_7 : Int32) (k8 : Int32), zR G l d "LoveLocksModel" cX12_under 5 (some .int) (some (.int o)) w (Sum.elim (fun s2 => zA G l d "LoveLocksModel" cX12_under 5 (some .int) (some (.int o)) w 22 [(0, .ref (G.1 130)), (2, .int s2.1), (3, .int s2.2)] [] w) (fun q3 => zA G l d "LoveLocksModel" cX12_under 5 (some .int) (some (.int o)) w 90 [(2, .int q3)] [] w)) 67 [(0, .ref (G.1 130)), (2, .int x2_6), (3, .int x3_7)] [.int k8] w (f_X12_under_J67 x2_6 x3_7 k8) := by
        intro x2_6 x3_7 k8
        rw [f_X12_under_J67]
        refine r_istore 69 [(4, .int k8), (0, .ref (G.1 130)), (2, .int x2_6), (3, .int x3_7)] dX12_under_67 rfl (by decide) rfl ?_
        refine r_iload_n 70 dX12_under_69 rfl 2 rfl rfl ?_
        refine r_iload 72 dX12_under_70 rfl 0 rfl ?_
        refine r_if_eq 81 75 dX12_under_72 (by decide) rfl ?_ ?_
        · refine r_iconst 82 dX12_under_81 rfl zci_0 ?_
          refine r_ior 83 dX12_under_82 rfl ?_
          refine r_istore_n 84 [(2, .int (x2_6 ||| (0 : Int32))), (4, .int k8), (0, .ref (G.1 130)), (3, .int x3_7)] dX12_under_83 rfl rfl (by decide) rfl ?_
          refine r_iinc 87 3 [(3, .int (x3_7 + (1 : Int32))), (2, .int (x2_6 ||| (0 : Int32))), (4, .int k8), (0, .ref (G.1 130))] dX12_under_84 rfl rfl zci_1 (by decide) rfl ?_
          refine r_goto 22 dX12_under_87 (by decide) ?_
          exact r_leaf [3, 1, 0] (lv2 := [(0, .ref (G.1 130)), (2, .int (x2_6 ||| (0 : Int32))), (3, .int (x3_7 + (1 : Int32)))]) rfl (fun h => h)
        · refine r_iconst 76 dX12_under_75 rfl zci_1 ?_
          refine r_iload_n 77 dX12_under_76 rfl 3 rfl rfl ?_
          refine r_ishl 78 dX12_under_77 rfl ?_
          refine r_goto 82 dX12_under_78 (by decide) ?_
          refine r_ior 83 dX12_under_82 rfl ?_
          refine r_topi (fun y9 => ?_)
          refine r_istore_n 84 [(2, .int y9), (4, .int k8), (0, .ref (G.1 130)), (3, .int x3_7)] dX12_under_83 rfl rfl (by decide) rfl ?_
          refine r_iinc 87 3 [(3, .int (x3_7 + (1 : Int32))), (2, .int y9), (4, .int k8), (0, .ref (G.1 130))] dX12_under_84 rfl rfl zci_1 (by decide) rfl ?_
          refine r_goto 22 dX12_under_87 (by decide) ?_
          exact r_leaf [3, 1, 0] (lv2 := [(0, .ref (G.1 130)), (2, .int y9), (3, .int (x3_7 + (1 : Int32)))]) rfl (fun h => h)
      have hJ66 : ∀ (x2_4 : Int32) (x3_5 : Int32), zR G l d "LoveLocksModel" cX12_under 5 (some .int) (some (.int o)) w (Sum.elim (fun s2 => zA G l d "LoveLocksModel" cX12_under 5 (some .int) (some (.int o)) w 22 [(0, .ref (G.1 130)), (2, .int s2.1), (3, .int s2.2)] [] w) (fun q3 => zA G l d "LoveLocksModel" cX12_under 5 (some .int) (some (.int o)) w 90 [(2, .int q3)] [] w)) 66 [(0, .ref (G.1 130)), (2, .int x2_4), (3, .int x3_5)] [] w (f_X12_under_J66 x2_4 x3_5) := by
        intro x2_4 x3_5
        rw [f_X12_under_J66]
        refine r_iconst 67 dX12_under_66 rfl zci_0 ?_
        exact r_sub [0, 1, 2] (lv2 := [(0, .ref (G.1 130)), (2, .int x2_4), (3, .int x3_5)]) rfl (hJ67 x2_4 x3_5 (0 : Int32))
      refine r_iload_n 23 dX12_under_22 rfl 2 rfl rfl ?_
      refine r_aload_n 24 dX12_under_23 rfl 0 rfl rfl ?_
      refine r_get 27 130 2 dX12_under_24 rfl zl_130 (ce_130 G _) rfl inz12 (by decide) wf_X12_115 rfl ?_
      refine r_icmp_ge 90 30 dX12_under_27 (by decide) rfl ?_ ?_
      · exact r_leaf [1] (lv2 := [(2, .int s2.1)]) rfl (fun h => h)
      · refine r_aload_n 31 dX12_under_30 rfl 0 rfl rfl ?_
        refine r_get 34 130 9 dX12_under_31 rfl zl_130 (ce_130 G _) rfl inz12 (by decide) wf_X12_31 rfl ?_
        refine r_iload_n 35 dX12_under_34 rfl 2 rfl rfl ?_
        refine r_iald 36 138 14 dX12_under_35 rfl zl_138 (ce_138 G _) ?_
        refine r_if_ne 66 39 dX12_under_36 (by decide) rfl ?_ ?_
        · exact r_sub [0, 1, 2] (lv2 := [(0, .ref (G.1 130)), (2, .int s2.1), (3, .int s2.2)]) rfl (hJ66 s2.1 s2.2)
        · refine r_aload_n 40 dX12_under_39 rfl 0 rfl rfl ?_
          refine r_get 43 130 8 dX12_under_40 rfl zl_130 (ce_130 G _) rfl inz12 (by decide) wf_X12_28 rfl ?_
          refine r_iload_n 44 dX12_under_43 rfl 2 rfl rfl ?_
          refine r_iald 45 137 14 dX12_under_44 rfl zl_137 (ce_137 G _) ?_
          refine r_if_lt 66 48 dX12_under_45 (by decide) rfl ?_ ?_
          · exact r_sub [0, 1, 2] (lv2 := [(0, .ref (G.1 130)), (2, .int s2.1), (3, .int s2.2)]) rfl (hJ66 s2.1 s2.2)
          · refine r_iload_n 49 dX12_under_48 rfl 1 rfl rfl ?_
            refine r_aload_n 50 dX12_under_49 rfl 0 rfl rfl ?_
            refine r_get 53 130 8 dX12_under_50 rfl zl_130 (ce_130 G _) rfl inz12 (by decide) wf_X12_28 rfl ?_
            refine r_iload_n 54 dX12_under_53 rfl 2 rfl rfl ?_
            refine r_iald 55 137 14 dX12_under_54 rfl zl_137 (ce_137 G _) ?_
            refine r_ishr 56 dX12_under_55 rfl ?_
            refine r_iconst 57 dX12_under_56 rfl zci_1 ?_
            refine r_iand 58 dX12_under_57 rfl ?_
            refine r_iconst 59 dX12_under_58 rfl zci_1 ?_
            refine r_icmp_ne 66 62 dX12_under_59 (by decide) rfl ?_ ?_
            · exact r_sub [0, 1, 2] (lv2 := [(0, .ref (G.1 130)), (2, .int s2.1), (3, .int s2.2)]) rfl (hJ66 s2.1 s2.2)
            · refine r_iconst 63 dX12_under_62 rfl zci_1 ?_
              refine r_goto 67 dX12_under_63 (by decide) ?_
              exact r_sub [0, 1, 2] (lv2 := [(0, .ref (G.1 130)), (2, .int s2.1), (3, .int s2.2)]) rfl (hJ67 s2.1 s2.2 (1 : Int32))
    · refine r_iload_n 91 dX12_under_90 rfl 0 rfl rfl ?_
      exact r_iret dX12_under_91 rfl z_ki
  refine r_aload_n 1 dX12_under_0 rfl 0 rfl rfl ?_
  refine r_get 4 130 9 dX12_under_1 rfl zl_130 (ce_130 G _) rfl inz12 (by decide) wf_X12_31 rfl ?_
  refine r_iload_n 5 dX12_under_4 rfl 1 rfl rfl ?_
  refine r_iald 6 138 14 dX12_under_5 rfl zl_138 (ce_138 G _) ?_
  refine r_iconst 7 dX12_under_6 rfl zci_1 ?_
  refine r_icmp_ne 14 10 dX12_under_7 (by decide) rfl ?_ ?_
  · refine r_iconst 15 dX12_under_14 rfl zci_1 ?_
    refine r_iload_n 16 dX12_under_15 rfl 1 rfl rfl ?_
    refine r_ishl 17 dX12_under_16 rfl ?_
    exact r_sub [0, 1] (lv2 := [(0, .ref (G.1 130)), (1, .int a1)]) rfl (hJ17 ((1 : Int32) <<< (a1 &&& 31)))
  · refine r_iconst 11 dX12_under_10 rfl zci_0 ?_
    refine r_goto 17 dX12_under_11 (by decide) ?_
    exact r_sub [0, 1] (lv2 := [(0, .ref (G.1 130)), (1, .int a1)]) rfl (hJ17 (0 : Int32))
-- X12_weigh
def f_X12_weigh_L4 (w : ZW) (a1 : Int32) (s1 : Int32 × Int32) : Option ((Int32 × Int32) ⊕ (Int32)) :=
  if (w.1 130 2) ≤ s1.2 then
  some (.inr s1.1)
else
  if ((a1 >>> (s1.2 &&& 31)) &&& (1 : Int32)) = (1 : Int32) then
    if z_in s1.2 14 then
      z_let (s1.1 + (w.1 132 s1.2.toNatClampNeg)) fun y3 =>
      some (.inl (y3, s1.2 + (1 : Int32)))
    else none
  else
    some (.inl (s1.1 + (0 : Int32), s1.2 + (1 : Int32)))
def f_X12_weigh (w : ZW) (a1 : Int32) : Option (Int32) :=
  (z_iter (f_X12_weigh_L4 w a1) z_fuel ((0 : Int32), (0 : Int32))).bind (fun q2 : Int32 =>
  some q2)
set_option maxHeartbeats 4000000 in
set_option maxRecDepth 100000 in
theorem c_X12_weigh (G : ZG) (l : Launch) (d : Nat) (hd : 1 ≤ d) (w : ZW) (a1 : Int32) : ∀ o, f_X12_weigh w a1 = some o → zM G l d yX12_weigh cX12_weigh 4 (some .int) [.ref (G.1 130), .int a1] w (some (.int o)) w := by
  intro o ho
  refine zM.of [(0, .ref (G.1 130)), (1, .int a1)] (by decide) (Nat.le_of_ble_eq_true rfl) rfl ?_
  refine (?_ : zR G l d "LoveLocksModel" cX12_weigh 4 (some .int) (some (.int o)) w (fun x => x = o) 0 [(0, .ref (G.1 130)), (1, .int a1)] [] w (f_X12_weigh w a1)) o ho rfl
  rw [f_X12_weigh]
  refine r_iconst 1 dX12_weigh_0 rfl zci_0 ?_
  refine r_istore_n 2 [(2, .int (0 : Int32)), (0, .ref (G.1 130)), (1, .int a1)] dX12_weigh_1 rfl rfl (by decide) rfl ?_
  refine r_iconst 3 dX12_weigh_2 rfl zci_0 ?_
  refine r_istore_n 4 [(3, .int (0 : Int32)), (2, .int (0 : Int32)), (0, .ref (G.1 130)), (1, .int a1)] dX12_weigh_3 rfl rfl (by decide) rfl ?_
  refine r_loopE [2, 3, 1, 0] (fun s1 => [(0, .ref (G.1 130)), (1, .int a1), (2, .int s1.1), (3, .int s1.2)]) (fun s1 => w) 40 (fun q2 => [(2, .int q2)]) (fun q2 => w) rfl rfl (fun s1 => ?_) (fun q2 => ?_)
  · rw [f_X12_weigh_L4]
    refine r_iload_n 5 dX12_weigh_4 rfl 3 rfl rfl ?_
    refine r_aload_n 6 dX12_weigh_5 rfl 0 rfl rfl ?_
    refine r_get 9 130 2 dX12_weigh_6 rfl zl_130 (ce_130 G _) rfl inz12 (by decide) wf_X12_115 rfl ?_
    refine r_icmp_ge 40 12 dX12_weigh_9 (by decide) rfl ?_ ?_
    · exact r_leaf [2] (lv2 := [(2, .int s1.1)]) rfl (fun h => h)
    · refine r_iload_n 13 dX12_weigh_12 rfl 2 rfl rfl ?_
      refine r_iload_n 14 dX12_weigh_13 rfl 1 rfl rfl ?_
      refine r_iload_n 15 dX12_weigh_14 rfl 3 rfl rfl ?_
      refine r_ishr 16 dX12_weigh_15 rfl ?_
      refine r_iconst 17 dX12_weigh_16 rfl zci_1 ?_
      refine r_iand 18 dX12_weigh_17 rfl ?_
      refine r_iconst 19 dX12_weigh_18 rfl zci_1 ?_
      refine r_icmp_ne 31 22 dX12_weigh_19 (by decide) rfl ?_ ?_
      · refine r_iconst 32 dX12_weigh_31 rfl zci_0 ?_
        refine r_iadd 33 dX12_weigh_32 rfl ?_
        refine r_istore_n 34 [(2, .int (s1.1 + (0 : Int32))), (0, .ref (G.1 130)), (1, .int a1), (3, .int s1.2)] dX12_weigh_33 rfl rfl (by decide) rfl ?_
        refine r_iinc 37 3 [(3, .int (s1.2 + (1 : Int32))), (2, .int (s1.1 + (0 : Int32))), (0, .ref (G.1 130)), (1, .int a1)] dX12_weigh_34 rfl rfl zci_1 (by decide) rfl ?_
        refine r_goto 4 dX12_weigh_37 (by decide) ?_
        exact r_leaf [2, 3, 1, 0] (lv2 := [(0, .ref (G.1 130)), (1, .int a1), (2, .int (s1.1 + (0 : Int32))), (3, .int (s1.2 + (1 : Int32)))]) rfl (fun h => h)
      · refine r_aload_n 23 dX12_weigh_22 rfl 0 rfl rfl ?_
        refine r_get 26 130 3 dX12_weigh_23 rfl zl_130 (ce_130 G _) rfl inz12 (by decide) wf_X12_13 rfl ?_
        refine r_iload_n 27 dX12_weigh_26 rfl 3 rfl rfl ?_
        refine r_iald 28 132 14 dX12_weigh_27 rfl zl_132 (ce_132 G _) ?_
        refine r_goto 32 dX12_weigh_28 (by decide) ?_
        refine r_iadd 33 dX12_weigh_32 rfl ?_
        refine r_topi (fun y3 => ?_)
        refine r_istore_n 34 [(2, .int y3), (0, .ref (G.1 130)), (1, .int a1), (3, .int s1.2)] dX12_weigh_33 rfl rfl (by decide) rfl ?_
        refine r_iinc 37 3 [(3, .int (s1.2 + (1 : Int32))), (2, .int y3), (0, .ref (G.1 130)), (1, .int a1)] dX12_weigh_34 rfl rfl zci_1 (by decide) rfl ?_
        refine r_goto 4 dX12_weigh_37 (by decide) ?_
        exact r_leaf [2, 3, 1, 0] (lv2 := [(0, .ref (G.1 130)), (1, .int a1), (2, .int y3), (3, .int (s1.2 + (1 : Int32)))]) rfl (fun h => h)
  · refine r_iload_n 41 dX12_weigh_40 rfl 0 rfl rfl ?_
    exact r_iret dX12_weigh_41 rfl z_ki
-- X12_bears
def f_X12_bears (w : ZW) (a1 : Int32) : Option (Int32) :=
  if z_in a1 14 then
  if (w.1 138 a1.toNatClampNeg) = (1 : Int32) then
  some (0 : Int32)
else
  (f_X12_under w a1).bind fun r1 : Int32 =>
    (f_X12_weigh w r1).bind fun r2 : Int32 =>
    if z_in a1 14 then
    some (r2 - (w.1 132 a1.toNatClampNeg))
  else none
else none
set_option maxHeartbeats 4000000 in
set_option maxRecDepth 100000 in
theorem c_X12_bears (G : ZG) (l : Launch) (d : Nat) (hd : 2 ≤ d) (w : ZW) (a1 : Int32) : ∀ o, f_X12_bears w a1 = some o → zM G l d yX12_bears cX12_bears 2 (some .int) [.ref (G.1 130), .int a1] w (some (.int o)) w := by
  intro o ho
  refine zM.of [(0, .ref (G.1 130)), (1, .int a1)] (by decide) (Nat.le_of_ble_eq_true rfl) rfl ?_
  refine (?_ : zR G l d "LoveLocksModel" cX12_bears 2 (some .int) (some (.int o)) w (fun x => x = o) 0 [(0, .ref (G.1 130)), (1, .int a1)] [] w (f_X12_bears w a1)) o ho rfl
  rw [f_X12_bears]
  refine r_aload_n 1 dX12_bears_0 rfl 0 rfl rfl ?_
  refine r_get 4 130 9 dX12_bears_1 rfl zl_130 (ce_130 G _) rfl inz12 (by decide) wf_X12_31 rfl ?_
  refine r_iload_n 5 dX12_bears_4 rfl 1 rfl rfl ?_
  refine r_iald 6 138 14 dX12_bears_5 rfl zl_138 (ce_138 G _) ?_
  refine r_iconst 7 dX12_bears_6 rfl zci_1 ?_
  refine r_icmp_ne 14 10 dX12_bears_7 (by decide) rfl ?_ ?_
  · refine r_aload_n 15 dX12_bears_14 rfl 0 rfl rfl ?_
    refine r_aload_n 16 dX12_bears_15 rfl 0 rfl rfl ?_
    refine r_iload_n 17 dX12_bears_16 rfl 1 rfl rfl ?_
    refine r_callVi 20 1 (ko := 130) [.int a1] (st := [.ref (G.1 130)]) dX12_bears_17 rfl rfl (fun r h => c_X12_under G l (d - 1) (by omega) w a1 r h) zl_130 (ce_130 G _) rfl rfl wc_X12_under wz_X12 wl_X12_141 wi_X12_under ws_X12_under zd_X12_under (by decide) (by omega) rfl (Nat.le_of_ble_eq_true rfl) (fun r1 => ?_)
    refine r_callVi 23 1 (ko := 130) [.int r1] (st := []) dX12_bears_20 rfl rfl (fun r h => c_X12_weigh G l (d - 1) (by omega) w r1 r h) zl_130 (ce_130 G _) rfl rfl wc_X12_weigh wz_X12 wl_X12_145 wi_X12_weigh ws_X12_weigh zd_X12_weigh (by decide) (by omega) rfl (Nat.le_of_ble_eq_true rfl) (fun r2 => ?_)
    refine r_aload_n 24 dX12_bears_23 rfl 0 rfl rfl ?_
    refine r_get 27 130 3 dX12_bears_24 rfl zl_130 (ce_130 G _) rfl inz12 (by decide) wf_X12_13 rfl ?_
    refine r_iload_n 28 dX12_bears_27 rfl 1 rfl rfl ?_
    refine r_iald 29 132 14 dX12_bears_28 rfl zl_132 (ce_132 G _) ?_
    refine r_isub 30 dX12_bears_29 rfl ?_
    exact r_iret dX12_bears_30 rfl z_ki
  · refine r_iconst 11 dX12_bears_10 rfl zci_0 ?_
    refine r_goto 30 dX12_bears_11 (by decide) ?_
    exact r_iret dX12_bears_30 rfl z_ki
-- X12_told
def f_X12_told (w : ZW) (a1 : Int32) (a2 : Int32) : Option (Int32) :=
  (f_X12_isLock w a1).bind fun r1 : Int32 =>
  if r1 = 0 then
  some (-1 : Int32)
else
  (f_X12_in a2.toInt64 (0 : Int64) (7 : Int64)).bind fun r2 : Int32 =>
    if r2 = 0 then
    some (-1 : Int32)
  else
    if a2 = (0 : Int32) then
      if z_in a1 14 then
        some (w.1 132 a1.toNatClampNeg)
      else none
    else
      if a2 = (1 : Int32) then
      if z_in a1 14 then
        some (w.1 133 a1.toNatClampNeg)
      else none
    else
      if a2 = (2 : Int32) then
      if z_in a1 14 then
        some (w.1 134 a1.toNatClampNeg)
      else none
    else
      if a2 = (3 : Int32) then
      if z_in a1 14 then
        some (w.1 135 a1.toNatClampNeg)
      else none
    else
      if a2 = (4 : Int32) then
      if z_in a1 14 then
        some (w.1 136 a1.toNatClampNeg)
      else none
    else
      if a2 = (5 : Int32) then
      if z_in a1 14 then
        some (w.1 137 a1.toNatClampNeg)
      else none
    else
      if a2 = (6 : Int32) then
      (f_X12_bears w a1).bind fun r3 : Int32 =>
        some r3
    else
      if z_in a1 14 then
      some (w.1 138 a1.toNatClampNeg)
    else none
set_option maxHeartbeats 4000000 in
set_option maxRecDepth 100000 in
theorem c_X12_told (G : ZG) (l : Launch) (d : Nat) (hd : 3 ≤ d) (w : ZW) (a1 : Int32) (a2 : Int32) : ∀ o, f_X12_told w a1 a2 = some o → zM G l d yX12_told cX12_told 3 (some .int) [.ref (G.1 130), .int a1, .int a2] w (some (.int o)) w := by
  intro o ho
  refine zM.of [(0, .ref (G.1 130)), (1, .int a1), (2, .int a2)] (by decide) (Nat.le_of_ble_eq_true rfl) rfl ?_
  refine (?_ : zR G l d "LoveLocksModel" cX12_told 3 (some .int) (some (.int o)) w (fun x => x = o) 0 [(0, .ref (G.1 130)), (1, .int a1), (2, .int a2)] [] w (f_X12_told w a1 a2)) o ho rfl
  rw [f_X12_told]
  refine r_aload_n 1 dX12_told_0 rfl 0 rfl rfl ?_
  refine r_iload_n 2 dX12_told_1 rfl 1 rfl rfl ?_
  refine r_callVi 5 1 (ko := 130) [.int a1] (st := []) dX12_told_2 rfl rfl (fun r h => c_X12_isLock G l (d - 1) (by omega) w a1 r h) zl_130 (ce_130 G _) rfl rfl wc_X12_isLock wz_X12 wl_X12_138 wi_X12_isLock ws_X12_isLock zd_X12_isLock (by decide) (by omega) rfl (Nat.le_of_ble_eq_true rfl) (fun r1 => ?_)
  refine r_if_eq 20 8 dX12_told_5 (by decide) rfl ?_ ?_
  · refine r_iconst 21 dX12_told_20 rfl zci_m1 ?_
    exact r_iret dX12_told_21 rfl z_ki
  · refine r_iload_n 9 dX12_told_8 rfl 2 rfl rfl ?_
    refine r_i2l 10 dX12_told_9 rfl ?_
    refine r_lconst 11 dX12_told_10 rfl zcl_0 ?_
    refine r_ldc2 14 dX12_told_11 rfl wk_X12_148 ?_
    refine r_callSi 17 3 [.long a2.toInt64, .long (0 : Int64), .long (7 : Int64)] (st := []) dX12_told_14 rfl rfl (fun r h => c_X12_in G l (d - 1) (by omega) w a2.toInt64 (0 : Int64) (7 : Int64) r h) wc_X12_in wz_X12 wl_X12_111 wst_X12_in zd_X12_in (by decide) (by omega) rfl (Nat.le_of_ble_eq_true rfl) (fun r2 => ?_)
    refine r_if_ne 22 20 dX12_told_17 (by decide) rfl ?_ ?_
    · refine r_iload_n 23 dX12_told_22 rfl 2 rfl rfl ?_
      refine r_case (0 : Int32) (fun hx => ?_) (fun hn0 => ?_)
      · refine r_tin 64 (0 : Int32) hx dX12_told_23 (by decide) (by decide) rfl (by decide) ?_
        refine r_aload_n 65 dX12_told_64 rfl 0 rfl rfl ?_
        refine r_get 68 130 3 dX12_told_65 rfl zl_130 (ce_130 G _) rfl inz12 (by decide) wf_X12_13 rfl ?_
        refine r_iload_n 69 dX12_told_68 rfl 1 rfl rfl ?_
        refine r_iald 70 132 14 dX12_told_69 rfl zl_132 (ce_132 G _) ?_
        exact r_iret dX12_told_70 rfl z_ki
      refine r_case (1 : Int32) (fun hx => ?_) (fun hn1 => ?_)
      · refine r_tin 71 (1 : Int32) hx dX12_told_23 (by decide) (by decide) rfl (by decide) ?_
        refine r_aload_n 72 dX12_told_71 rfl 0 rfl rfl ?_
        refine r_get 75 130 4 dX12_told_72 rfl zl_130 (ce_130 G _) rfl inz12 (by decide) wf_X12_16 rfl ?_
        refine r_iload_n 76 dX12_told_75 rfl 1 rfl rfl ?_
        refine r_iald 77 133 14 dX12_told_76 rfl zl_133 (ce_133 G _) ?_
        exact r_iret dX12_told_77 rfl z_ki
      refine r_case (2 : Int32) (fun hx => ?_) (fun hn2 => ?_)
      · refine r_tin 78 (2 : Int32) hx dX12_told_23 (by decide) (by decide) rfl (by decide) ?_
        refine r_aload_n 79 dX12_told_78 rfl 0 rfl rfl ?_
        refine r_get 82 130 5 dX12_told_79 rfl zl_130 (ce_130 G _) rfl inz12 (by decide) wf_X12_19 rfl ?_
        refine r_iload_n 83 dX12_told_82 rfl 1 rfl rfl ?_
        refine r_iald 84 134 14 dX12_told_83 rfl zl_134 (ce_134 G _) ?_
        exact r_iret dX12_told_84 rfl z_ki
      refine r_case (3 : Int32) (fun hx => ?_) (fun hn3 => ?_)
      · refine r_tin 85 (3 : Int32) hx dX12_told_23 (by decide) (by decide) rfl (by decide) ?_
        refine r_aload_n 86 dX12_told_85 rfl 0 rfl rfl ?_
        refine r_get 89 130 6 dX12_told_86 rfl zl_130 (ce_130 G _) rfl inz12 (by decide) wf_X12_22 rfl ?_
        refine r_iload_n 90 dX12_told_89 rfl 1 rfl rfl ?_
        refine r_iald 91 135 14 dX12_told_90 rfl zl_135 (ce_135 G _) ?_
        exact r_iret dX12_told_91 rfl z_ki
      refine r_case (4 : Int32) (fun hx => ?_) (fun hn4 => ?_)
      · refine r_tin 92 (4 : Int32) hx dX12_told_23 (by decide) (by decide) rfl (by decide) ?_
        refine r_aload_n 93 dX12_told_92 rfl 0 rfl rfl ?_
        refine r_get 96 130 7 dX12_told_93 rfl zl_130 (ce_130 G _) rfl inz12 (by decide) wf_X12_25 rfl ?_
        refine r_iload_n 97 dX12_told_96 rfl 1 rfl rfl ?_
        refine r_iald 98 136 14 dX12_told_97 rfl zl_136 (ce_136 G _) ?_
        exact r_iret dX12_told_98 rfl z_ki
      refine r_case (5 : Int32) (fun hx => ?_) (fun hn5 => ?_)
      · refine r_tin 99 (5 : Int32) hx dX12_told_23 (by decide) (by decide) rfl (by decide) ?_
        refine r_aload_n 100 dX12_told_99 rfl 0 rfl rfl ?_
        refine r_get 103 130 8 dX12_told_100 rfl zl_130 (ce_130 G _) rfl inz12 (by decide) wf_X12_28 rfl ?_
        refine r_iload_n 104 dX12_told_103 rfl 1 rfl rfl ?_
        refine r_iald 105 137 14 dX12_told_104 rfl zl_137 (ce_137 G _) ?_
        exact r_iret dX12_told_105 rfl z_ki
      refine r_case (6 : Int32) (fun hx => ?_) (fun hn6 => ?_)
      · refine r_tin 106 (6 : Int32) hx dX12_told_23 (by decide) (by decide) rfl (by decide) ?_
        refine r_aload_n 107 dX12_told_106 rfl 0 rfl rfl ?_
        refine r_iload_n 108 dX12_told_107 rfl 1 rfl rfl ?_
        refine r_callVi 111 1 (ko := 130) [.int a1] (st := []) dX12_told_108 rfl rfl (fun r h => c_X12_bears G l (d - 1) (by omega) w a1 r h) zl_130 (ce_130 G _) rfl rfl wc_X12_bears wz_X12 wl_X12_150 wi_X12_bears ws_X12_bears zd_X12_bears (by decide) (by omega) rfl (Nat.le_of_ble_eq_true rfl) (fun r3 => ?_)
        exact r_iret dX12_told_111 rfl z_ki
      refine r_tout 112 dX12_told_23 (z_tout6 hn0 hn1 hn2 hn3 hn4 hn5 hn6) (by decide) ?_
      refine r_aload_n 113 dX12_told_112 rfl 0 rfl rfl ?_
      refine r_get 116 130 9 dX12_told_113 rfl zl_130 (ce_130 G _) rfl inz12 (by decide) wf_X12_31 rfl ?_
      refine r_iload_n 117 dX12_told_116 rfl 1 rfl rfl ?_
      refine r_iald 118 138 14 dX12_told_117 rfl zl_138 (ce_138 G _) ?_
      exact r_iret dX12_told_118 rfl z_ki
    · refine r_iconst 21 dX12_told_20 rfl zci_m1 ?_
      exact r_iret dX12_told_21 rfl z_ki
-- X12_hung
def f_X12_hung_J52 (x4_3 : Int32) (k4 : Int32) : Option ((Int32 × Int32) ⊕ (Int32)) :=
  z_let (k4 ||| ((1 : Int32) <<< (x4_3 &&& 31))) fun y5 =>
  some (.inl (y5, x4_3 + (1 : Int32)))
def f_X12_hung_L5 (w : ZW) (a1 : Int32) (a2 : Int32) (s1 : Int32 × Int32) : Option ((Int32 × Int32) ⊕ (Int32)) :=
  if (w.1 130 2) ≤ s1.2 then
  some (.inr s1.1)
else
  if z_in s1.2 14 then
    if (w.1 138 s1.2.toNatClampNeg) = 0 then
    if z_in s1.2 14 then
      if (w.1 135 s1.2.toNatClampNeg) = a1 then
      if a2 = (3 : Int32) then
        f_X12_hung_J52 s1.2 s1.1
      else
        if z_in s1.2 14 then
          if (w.1 136 s1.2.toNatClampNeg) = a2 then
          f_X12_hung_J52 s1.2 s1.1
        else
          some (.inl (s1.1 ||| (0 : Int32), s1.2 + (1 : Int32)))
        else none
    else
      some (.inl (s1.1 ||| (0 : Int32), s1.2 + (1 : Int32)))
    else none
  else
    some (.inl (s1.1 ||| (0 : Int32), s1.2 + (1 : Int32)))
  else none
def f_X12_hung (w : ZW) (a1 : Int32) (a2 : Int32) : Option (Int32) :=
  (z_iter (f_X12_hung_L5 w a1 a2) z_fuel ((0 : Int32), (0 : Int32))).bind (fun q2 : Int32 =>
  some q2)
set_option maxHeartbeats 4000000 in
set_option maxRecDepth 100000 in
theorem c_X12_hung (G : ZG) (l : Launch) (d : Nat) (hd : 1 ≤ d) (w : ZW) (a1 : Int32) (a2 : Int32) : ∀ o, f_X12_hung w a1 a2 = some o → zM G l d yX12_hung cX12_hung 5 (some .int) [.ref (G.1 130), .int a1, .int a2] w (some (.int o)) w := by
  intro o ho
  refine zM.of [(0, .ref (G.1 130)), (1, .int a1), (2, .int a2)] (by decide) (Nat.le_of_ble_eq_true rfl) rfl ?_
  refine (?_ : zR G l d "LoveLocksModel" cX12_hung 5 (some .int) (some (.int o)) w (fun x => x = o) 0 [(0, .ref (G.1 130)), (1, .int a1), (2, .int a2)] [] w (f_X12_hung w a1 a2)) o ho rfl
  rw [f_X12_hung]
  refine r_iconst 1 dX12_hung_0 rfl zci_0 ?_
  refine r_istore_n 2 [(3, .int (0 : Int32)), (0, .ref (G.1 130)), (1, .int a1), (2, .int a2)] dX12_hung_1 rfl rfl (by decide) rfl ?_
  refine r_iconst 3 dX12_hung_2 rfl zci_0 ?_
  refine r_istore 5 [(4, .int (0 : Int32)), (3, .int (0 : Int32)), (0, .ref (G.1 130)), (1, .int a1), (2, .int a2)] dX12_hung_3 rfl (by decide) rfl ?_
  refine r_loopE [2, 3, 4, 1, 0] (fun s1 => [(0, .ref (G.1 130)), (1, .int a1), (2, .int a2), (3, .int s1.1), (4, .int s1.2)]) (fun s1 => w) 68 (fun q2 => [(3, .int q2)]) (fun q2 => w) rfl rfl (fun s1 => ?_) (fun q2 => ?_)
  · rw [f_X12_hung_L5]
    have hJ52 : ∀ (x4_3 : Int32) (k4 : Int32), zR G l d "LoveLocksModel" cX12_hung 5 (some .int) (some (.int o)) w (Sum.elim (fun s1 => zA G l d "LoveLocksModel" cX12_hung 5 (some .int) (some (.int o)) w 5 [(0, .ref (G.1 130)), (1, .int a1), (2, .int a2), (3, .int s1.1), (4, .int s1.2)] [] w) (fun q2 => zA G l d "LoveLocksModel" cX12_hung 5 (some .int) (some (.int o)) w 68 [(3, .int q2)] [] w)) 52 [(0, .ref (G.1 130)), (1, .int a1), (2, .int a2), (4, .int x4_3)] [.int k4] w (f_X12_hung_J52 x4_3 k4) := by
      intro x4_3 k4
      rw [f_X12_hung_J52]
      refine r_iconst 53 dX12_hung_52 rfl zci_1 ?_
      refine r_iload 55 dX12_hung_53 rfl 3 rfl ?_
      refine r_ishl 56 dX12_hung_55 rfl ?_
      refine r_goto 60 dX12_hung_56 (by decide) ?_
      refine r_ior 61 dX12_hung_60 rfl ?_
      refine r_topi (fun y5 => ?_)
      refine r_istore_n 62 [(3, .int y5), (0, .ref (G.1 130)), (1, .int a1), (2, .int a2), (4, .int x4_3)] dX12_hung_61 rfl rfl (by decide) rfl ?_
      refine r_iinc 65 4 [(4, .int (x4_3 + (1 : Int32))), (3, .int y5), (0, .ref (G.1 130)), (1, .int a1), (2, .int a2)] dX12_hung_62 rfl rfl zci_1 (by decide) rfl ?_
      refine r_goto 5 dX12_hung_65 (by decide) ?_
      exact r_leaf [2, 3, 4, 1, 0] (lv2 := [(0, .ref (G.1 130)), (1, .int a1), (2, .int a2), (3, .int y5), (4, .int (x4_3 + (1 : Int32)))]) rfl (fun h => h)
    refine r_iload 7 dX12_hung_5 rfl 4 rfl ?_
    refine r_aload_n 8 dX12_hung_7 rfl 0 rfl rfl ?_
    refine r_get 11 130 2 dX12_hung_8 rfl zl_130 (ce_130 G _) rfl inz12 (by decide) wf_X12_115 rfl ?_
    refine r_icmp_ge 68 14 dX12_hung_11 (by decide) rfl ?_ ?_
    · exact r_leaf [3] (lv2 := [(3, .int s1.1)]) rfl (fun h => h)
    · refine r_iload_n 15 dX12_hung_14 rfl 3 rfl rfl ?_
      refine r_aload_n 16 dX12_hung_15 rfl 0 rfl rfl ?_
      refine r_get 19 130 9 dX12_hung_16 rfl zl_130 (ce_130 G _) rfl inz12 (by decide) wf_X12_31 rfl ?_
      refine r_iload 21 dX12_hung_19 rfl 4 rfl ?_
      refine r_iald 22 138 14 dX12_hung_21 rfl zl_138 (ce_138 G _) ?_
      refine r_if_ne 59 25 dX12_hung_22 (by decide) rfl ?_ ?_
      · refine r_iconst 60 dX12_hung_59 rfl zci_0 ?_
        refine r_ior 61 dX12_hung_60 rfl ?_
        refine r_istore_n 62 [(3, .int (s1.1 ||| (0 : Int32))), (0, .ref (G.1 130)), (1, .int a1), (2, .int a2), (4, .int s1.2)] dX12_hung_61 rfl rfl (by decide) rfl ?_
        refine r_iinc 65 4 [(4, .int (s1.2 + (1 : Int32))), (3, .int (s1.1 ||| (0 : Int32))), (0, .ref (G.1 130)), (1, .int a1), (2, .int a2)] dX12_hung_62 rfl rfl zci_1 (by decide) rfl ?_
        refine r_goto 5 dX12_hung_65 (by decide) ?_
        exact r_leaf [2, 3, 4, 1, 0] (lv2 := [(0, .ref (G.1 130)), (1, .int a1), (2, .int a2), (3, .int (s1.1 ||| (0 : Int32))), (4, .int (s1.2 + (1 : Int32)))]) rfl (fun h => h)
      · refine r_aload_n 26 dX12_hung_25 rfl 0 rfl rfl ?_
        refine r_get 29 130 6 dX12_hung_26 rfl zl_130 (ce_130 G _) rfl inz12 (by decide) wf_X12_22 rfl ?_
        refine r_iload 31 dX12_hung_29 rfl 4 rfl ?_
        refine r_iald 32 135 14 dX12_hung_31 rfl zl_135 (ce_135 G _) ?_
        refine r_iload_n 33 dX12_hung_32 rfl 1 rfl rfl ?_
        refine r_icmp_ne 59 36 dX12_hung_33 (by decide) rfl ?_ ?_
        · refine r_iconst 60 dX12_hung_59 rfl zci_0 ?_
          refine r_ior 61 dX12_hung_60 rfl ?_
          refine r_istore_n 62 [(3, .int (s1.1 ||| (0 : Int32))), (0, .ref (G.1 130)), (1, .int a1), (2, .int a2), (4, .int s1.2)] dX12_hung_61 rfl rfl (by decide) rfl ?_
          refine r_iinc 65 4 [(4, .int (s1.2 + (1 : Int32))), (3, .int (s1.1 ||| (0 : Int32))), (0, .ref (G.1 130)), (1, .int a1), (2, .int a2)] dX12_hung_62 rfl rfl zci_1 (by decide) rfl ?_
          refine r_goto 5 dX12_hung_65 (by decide) ?_
          exact r_leaf [2, 3, 4, 1, 0] (lv2 := [(0, .ref (G.1 130)), (1, .int a1), (2, .int a2), (3, .int (s1.1 ||| (0 : Int32))), (4, .int (s1.2 + (1 : Int32)))]) rfl (fun h => h)
        · refine r_iload_n 37 dX12_hung_36 rfl 2 rfl rfl ?_
          refine r_iconst 38 dX12_hung_37 rfl zci_3 ?_
          refine r_icmp_eq 52 41 dX12_hung_38 (by decide) rfl ?_ ?_
          · exact r_sub [0, 1, 2, 4] (lv2 := [(0, .ref (G.1 130)), (1, .int a1), (2, .int a2), (4, .int s1.2)]) rfl (hJ52 s1.2 s1.1)
          · refine r_aload_n 42 dX12_hung_41 rfl 0 rfl rfl ?_
            refine r_get 45 130 7 dX12_hung_42 rfl zl_130 (ce_130 G _) rfl inz12 (by decide) wf_X12_25 rfl ?_
            refine r_iload 47 dX12_hung_45 rfl 4 rfl ?_
            refine r_iald 48 136 14 dX12_hung_47 rfl zl_136 (ce_136 G _) ?_
            refine r_iload_n 49 dX12_hung_48 rfl 2 rfl rfl ?_
            refine r_icmp_ne 59 52 dX12_hung_49 (by decide) rfl ?_ ?_
            · refine r_iconst 60 dX12_hung_59 rfl zci_0 ?_
              refine r_ior 61 dX12_hung_60 rfl ?_
              refine r_istore_n 62 [(3, .int (s1.1 ||| (0 : Int32))), (0, .ref (G.1 130)), (1, .int a1), (2, .int a2), (4, .int s1.2)] dX12_hung_61 rfl rfl (by decide) rfl ?_
              refine r_iinc 65 4 [(4, .int (s1.2 + (1 : Int32))), (3, .int (s1.1 ||| (0 : Int32))), (0, .ref (G.1 130)), (1, .int a1), (2, .int a2)] dX12_hung_62 rfl rfl zci_1 (by decide) rfl ?_
              refine r_goto 5 dX12_hung_65 (by decide) ?_
              exact r_leaf [2, 3, 4, 1, 0] (lv2 := [(0, .ref (G.1 130)), (1, .int a1), (2, .int a2), (3, .int (s1.1 ||| (0 : Int32))), (4, .int (s1.2 + (1 : Int32)))]) rfl (fun h => h)
            · exact r_sub [0, 1, 2, 4] (lv2 := [(0, .ref (G.1 130)), (1, .int a1), (2, .int a2), (4, .int s1.2)]) rfl (hJ52 s1.2 s1.1)
  · refine r_iload_n 69 dX12_hung_68 rfl 0 rfl rfl ?_
    exact r_iret dX12_hung_69 rfl z_ki
-- X12_loadOf
def f_X12_loadOf (w : ZW) (a1 : Int32) (a2 : Int32) : Option (Int32) :=
  if (4 : Int32) ≤ a2 then
  (f_X12_hung w a1 (0 : Int32)).bind fun r1 : Int32 =>
    (f_X12_weigh w r1).bind fun r2 : Int32 =>
    (f_X12_hung w a1 (1 : Int32)).bind fun r3 : Int32 =>
    (f_X12_weigh w r3).bind fun r4 : Int32 =>
    (f_X12_hung w a1 (2 : Int32)).bind fun r5 : Int32 =>
    (f_X12_weigh w r5).bind fun r6 : Int32 =>
    some ((r2 + ((2 : Int32) * r4)) + r6)
else
  (f_X12_hung w a1 a2).bind fun r7 : Int32 =>
    (f_X12_weigh w r7).bind fun r8 : Int32 =>
    some r8
set_option maxHeartbeats 4000000 in
set_option maxRecDepth 100000 in
theorem c_X12_loadOf (G : ZG) (l : Launch) (d : Nat) (hd : 2 ≤ d) (w : ZW) (a1 : Int32) (a2 : Int32) : ∀ o, f_X12_loadOf w a1 a2 = some o → zM G l d yX12_loadOf cX12_loadOf 3 (some .int) [.ref (G.1 130), .int a1, .int a2] w (some (.int o)) w := by
  intro o ho
  refine zM.of [(0, .ref (G.1 130)), (1, .int a1), (2, .int a2)] (by decide) (Nat.le_of_ble_eq_true rfl) rfl ?_
  refine (?_ : zR G l d "LoveLocksModel" cX12_loadOf 3 (some .int) (some (.int o)) w (fun x => x = o) 0 [(0, .ref (G.1 130)), (1, .int a1), (2, .int a2)] [] w (f_X12_loadOf w a1 a2)) o ho rfl
  rw [f_X12_loadOf]
  refine r_iload_n 1 dX12_loadOf_0 rfl 2 rfl rfl ?_
  refine r_iconst 2 dX12_loadOf_1 rfl zci_4 ?_
  refine r_icmp_ge 18 5 dX12_loadOf_2 (by decide) rfl ?_ ?_
  · refine r_aload_n 19 dX12_loadOf_18 rfl 0 rfl rfl ?_
    refine r_aload_n 20 dX12_loadOf_19 rfl 0 rfl rfl ?_
    refine r_iload_n 21 dX12_loadOf_20 rfl 1 rfl rfl ?_
    refine r_iconst 22 dX12_loadOf_21 rfl zci_0 ?_
    refine r_callVi 25 2 (ko := 130) [.int a1, .int (0 : Int32)] (st := [.ref (G.1 130)]) dX12_loadOf_22 rfl rfl (fun r h => c_X12_hung G l (d - 1) (by omega) w a1 (0 : Int32) r h) zl_130 (ce_130 G _) rfl rfl wc_X12_hung wz_X12 wl_X12_153 wi_X12_hung ws_X12_hung zd_X12_hung (by decide) (by omega) rfl (Nat.le_of_ble_eq_true rfl) (fun r1 => ?_)
    refine r_callVi 28 1 (ko := 130) [.int r1] (st := []) dX12_loadOf_25 rfl rfl (fun r h => c_X12_weigh G l (d - 1) (by omega) w r1 r h) zl_130 (ce_130 G _) rfl rfl wc_X12_weigh wz_X12 wl_X12_145 wi_X12_weigh ws_X12_weigh zd_X12_weigh (by decide) (by omega) rfl (Nat.le_of_ble_eq_true rfl) (fun r2 => ?_)
    refine r_iconst 29 dX12_loadOf_28 rfl zci_2 ?_
    refine r_aload_n 30 dX12_loadOf_29 rfl 0 rfl rfl ?_
    refine r_aload_n 31 dX12_loadOf_30 rfl 0 rfl rfl ?_
    refine r_iload_n 32 dX12_loadOf_31 rfl 1 rfl rfl ?_
    refine r_iconst 33 dX12_loadOf_32 rfl zci_1 ?_
    refine r_callVi 36 2 (ko := 130) [.int a1, .int (1 : Int32)] (st := [.ref (G.1 130), .int (2 : Int32), .int r2]) dX12_loadOf_33 rfl rfl (fun r h => c_X12_hung G l (d - 1) (by omega) w a1 (1 : Int32) r h) zl_130 (ce_130 G _) rfl rfl wc_X12_hung wz_X12 wl_X12_153 wi_X12_hung ws_X12_hung zd_X12_hung (by decide) (by omega) rfl (Nat.le_of_ble_eq_true rfl) (fun r3 => ?_)
    refine r_callVi 39 1 (ko := 130) [.int r3] (st := [.int (2 : Int32), .int r2]) dX12_loadOf_36 rfl rfl (fun r h => c_X12_weigh G l (d - 1) (by omega) w r3 r h) zl_130 (ce_130 G _) rfl rfl wc_X12_weigh wz_X12 wl_X12_145 wi_X12_weigh ws_X12_weigh zd_X12_weigh (by decide) (by omega) rfl (Nat.le_of_ble_eq_true rfl) (fun r4 => ?_)
    refine r_imul 40 dX12_loadOf_39 rfl ?_
    refine r_iadd 41 dX12_loadOf_40 rfl ?_
    refine r_aload_n 42 dX12_loadOf_41 rfl 0 rfl rfl ?_
    refine r_aload_n 43 dX12_loadOf_42 rfl 0 rfl rfl ?_
    refine r_iload_n 44 dX12_loadOf_43 rfl 1 rfl rfl ?_
    refine r_iconst 45 dX12_loadOf_44 rfl zci_2 ?_
    refine r_callVi 48 2 (ko := 130) [.int a1, .int (2 : Int32)] (st := [.ref (G.1 130), .int (r2 + ((2 : Int32) * r4))]) dX12_loadOf_45 rfl rfl (fun r h => c_X12_hung G l (d - 1) (by omega) w a1 (2 : Int32) r h) zl_130 (ce_130 G _) rfl rfl wc_X12_hung wz_X12 wl_X12_153 wi_X12_hung ws_X12_hung zd_X12_hung (by decide) (by omega) rfl (Nat.le_of_ble_eq_true rfl) (fun r5 => ?_)
    refine r_callVi 51 1 (ko := 130) [.int r5] (st := [.int (r2 + ((2 : Int32) * r4))]) dX12_loadOf_48 rfl rfl (fun r h => c_X12_weigh G l (d - 1) (by omega) w r5 r h) zl_130 (ce_130 G _) rfl rfl wc_X12_weigh wz_X12 wl_X12_145 wi_X12_weigh ws_X12_weigh zd_X12_weigh (by decide) (by omega) rfl (Nat.le_of_ble_eq_true rfl) (fun r6 => ?_)
    refine r_iadd 52 dX12_loadOf_51 rfl ?_
    exact r_iret dX12_loadOf_52 rfl z_ki
  · refine r_aload_n 6 dX12_loadOf_5 rfl 0 rfl rfl ?_
    refine r_aload_n 7 dX12_loadOf_6 rfl 0 rfl rfl ?_
    refine r_iload_n 8 dX12_loadOf_7 rfl 1 rfl rfl ?_
    refine r_iload_n 9 dX12_loadOf_8 rfl 2 rfl rfl ?_
    refine r_callVi 12 2 (ko := 130) [.int a1, .int a2] (st := [.ref (G.1 130)]) dX12_loadOf_9 rfl rfl (fun r h => c_X12_hung G l (d - 1) (by omega) w a1 a2 r h) zl_130 (ce_130 G _) rfl rfl wc_X12_hung wz_X12 wl_X12_153 wi_X12_hung ws_X12_hung zd_X12_hung (by decide) (by omega) rfl (Nat.le_of_ble_eq_true rfl) (fun r7 => ?_)
    refine r_callVi 15 1 (ko := 130) [.int r7] (st := []) dX12_loadOf_12 rfl rfl (fun r h => c_X12_weigh G l (d - 1) (by omega) w r7 r h) zl_130 (ce_130 G _) rfl rfl wc_X12_weigh wz_X12 wl_X12_145 wi_X12_weigh ws_X12_weigh zd_X12_weigh (by decide) (by omega) rfl (Nat.le_of_ble_eq_true rfl) (fun r8 => ?_)
    refine r_goto 52 dX12_loadOf_15 (by decide) ?_
    exact r_iret dX12_loadOf_52 rfl z_ki
-- X12_load
def f_X12_load (w : ZW) (a1 : Int32) (a2 : Int32) : Option (Int32) :=
  (f_X12_isPanel w a1).bind fun r1 : Int32 =>
  if r1 = 0 then
  some (-1 : Int32)
else
  (f_X12_in a2.toInt64 (0 : Int64) (4 : Int64)).bind fun r2 : Int32 =>
    if r2 = 0 then
    some (-1 : Int32)
  else
    (f_X12_loadOf w a1 a2).bind fun r3 : Int32 =>
      some r3
set_option maxHeartbeats 4000000 in
set_option maxRecDepth 100000 in
theorem c_X12_load (G : ZG) (l : Launch) (d : Nat) (hd : 3 ≤ d) (w : ZW) (a1 : Int32) (a2 : Int32) : ∀ o, f_X12_load w a1 a2 = some o → zM G l d yX12_load cX12_load 3 (some .int) [.ref (G.1 130), .int a1, .int a2] w (some (.int o)) w := by
  intro o ho
  refine zM.of [(0, .ref (G.1 130)), (1, .int a1), (2, .int a2)] (by decide) (Nat.le_of_ble_eq_true rfl) rfl ?_
  refine (?_ : zR G l d "LoveLocksModel" cX12_load 3 (some .int) (some (.int o)) w (fun x => x = o) 0 [(0, .ref (G.1 130)), (1, .int a1), (2, .int a2)] [] w (f_X12_load w a1 a2)) o ho rfl
  rw [f_X12_load]
  refine r_aload_n 1 dX12_load_0 rfl 0 rfl rfl ?_
  refine r_iload_n 2 dX12_load_1 rfl 1 rfl rfl ?_
  refine r_callVi 5 1 (ko := 130) [.int a1] (st := []) dX12_load_2 rfl rfl (fun r h => c_X12_isPanel G l (d - 1) (by omega) w a1 r h) zl_130 (ce_130 G _) rfl rfl wc_X12_isPanel wz_X12 wl_X12_124 wi_X12_isPanel ws_X12_isPanel zd_X12_isPanel (by decide) (by omega) rfl (Nat.le_of_ble_eq_true rfl) (fun r1 => ?_)
  refine r_if_eq 29 8 dX12_load_5 (by decide) rfl ?_ ?_
  · refine r_iconst 30 dX12_load_29 rfl zci_m1 ?_
    exact r_iret dX12_load_30 rfl z_ki
  · refine r_iload_n 9 dX12_load_8 rfl 2 rfl rfl ?_
    refine r_i2l 10 dX12_load_9 rfl ?_
    refine r_lconst 11 dX12_load_10 rfl zcl_0 ?_
    refine r_ldc2 14 dX12_load_11 rfl wk_X12_157 ?_
    refine r_callSi 17 3 [.long a2.toInt64, .long (0 : Int64), .long (4 : Int64)] (st := []) dX12_load_14 rfl rfl (fun r h => c_X12_in G l (d - 1) (by omega) w a2.toInt64 (0 : Int64) (4 : Int64) r h) wc_X12_in wz_X12 wl_X12_111 wst_X12_in zd_X12_in (by decide) (by omega) rfl (Nat.le_of_ble_eq_true rfl) (fun r2 => ?_)
    refine r_if_eq 29 20 dX12_load_17 (by decide) rfl ?_ ?_
    · refine r_iconst 30 dX12_load_29 rfl zci_m1 ?_
      exact r_iret dX12_load_30 rfl z_ki
    · refine r_aload_n 21 dX12_load_20 rfl 0 rfl rfl ?_
      refine r_iload_n 22 dX12_load_21 rfl 1 rfl rfl ?_
      refine r_iload_n 23 dX12_load_22 rfl 2 rfl rfl ?_
      refine r_callVi 26 2 (ko := 130) [.int a1, .int a2] (st := []) dX12_load_23 rfl rfl (fun r h => c_X12_loadOf G l (d - 1) (by omega) w a1 a2 r h) zl_130 (ce_130 G _) rfl rfl wc_X12_loadOf wz_X12 wl_X12_159 wi_X12_loadOf ws_X12_loadOf zd_X12_loadOf (by decide) (by omega) rfl (Nat.le_of_ble_eq_true rfl) (fun r3 => ?_)
      refine r_goto 30 dX12_load_26 (by decide) ?_
      exact r_iret dX12_load_30 rfl z_ki
-- X12_on
def f_X12_on (w : ZW) (a1 : Int32) (a2 : Int32) : Option (Int32) :=
  (f_X12_isPanel w a1).bind fun r1 : Int32 =>
  if r1 = 0 then
  some (-1 : Int32)
else
  (f_X12_in a2.toInt64 (0 : Int64) (2 : Int64)).bind fun r2 : Int32 =>
    if r2 = 0 then
    some (-1 : Int32)
  else
    (f_X12_hung w a1 a2).bind fun r3 : Int32 =>
      some r3
set_option maxHeartbeats 4000000 in
set_option maxRecDepth 100000 in
theorem c_X12_on (G : ZG) (l : Launch) (d : Nat) (hd : 3 ≤ d) (w : ZW) (a1 : Int32) (a2 : Int32) : ∀ o, f_X12_on w a1 a2 = some o → zM G l d yX12_on cX12_on 3 (some .int) [.ref (G.1 130), .int a1, .int a2] w (some (.int o)) w := by
  intro o ho
  refine zM.of [(0, .ref (G.1 130)), (1, .int a1), (2, .int a2)] (by decide) (Nat.le_of_ble_eq_true rfl) rfl ?_
  refine (?_ : zR G l d "LoveLocksModel" cX12_on 3 (some .int) (some (.int o)) w (fun x => x = o) 0 [(0, .ref (G.1 130)), (1, .int a1), (2, .int a2)] [] w (f_X12_on w a1 a2)) o ho rfl
  rw [f_X12_on]
  refine r_aload_n 1 dX12_on_0 rfl 0 rfl rfl ?_
  refine r_iload_n 2 dX12_on_1 rfl 1 rfl rfl ?_
  refine r_callVi 5 1 (ko := 130) [.int a1] (st := []) dX12_on_2 rfl rfl (fun r h => c_X12_isPanel G l (d - 1) (by omega) w a1 r h) zl_130 (ce_130 G _) rfl rfl wc_X12_isPanel wz_X12 wl_X12_124 wi_X12_isPanel ws_X12_isPanel zd_X12_isPanel (by decide) (by omega) rfl (Nat.le_of_ble_eq_true rfl) (fun r1 => ?_)
  refine r_if_eq 29 8 dX12_on_5 (by decide) rfl ?_ ?_
  · refine r_iconst 30 dX12_on_29 rfl zci_m1 ?_
    exact r_iret dX12_on_30 rfl z_ki
  · refine r_iload_n 9 dX12_on_8 rfl 2 rfl rfl ?_
    refine r_i2l 10 dX12_on_9 rfl ?_
    refine r_lconst 11 dX12_on_10 rfl zcl_0 ?_
    refine r_ldc2 14 dX12_on_11 rfl wk_X12_128 ?_
    refine r_callSi 17 3 [.long a2.toInt64, .long (0 : Int64), .long (2 : Int64)] (st := []) dX12_on_14 rfl rfl (fun r h => c_X12_in G l (d - 1) (by omega) w a2.toInt64 (0 : Int64) (2 : Int64) r h) wc_X12_in wz_X12 wl_X12_111 wst_X12_in zd_X12_in (by decide) (by omega) rfl (Nat.le_of_ble_eq_true rfl) (fun r2 => ?_)
    refine r_if_eq 29 20 dX12_on_17 (by decide) rfl ?_ ?_
    · refine r_iconst 30 dX12_on_29 rfl zci_m1 ?_
      exact r_iret dX12_on_30 rfl z_ki
    · refine r_aload_n 21 dX12_on_20 rfl 0 rfl rfl ?_
      refine r_iload_n 22 dX12_on_21 rfl 1 rfl rfl ?_
      refine r_iload_n 23 dX12_on_22 rfl 2 rfl rfl ?_
      refine r_callVi 26 2 (ko := 130) [.int a1, .int a2] (st := []) dX12_on_23 rfl rfl (fun r h => c_X12_hung G l (d - 1) (by omega) w a1 a2 r h) zl_130 (ce_130 G _) rfl rfl wc_X12_hung wz_X12 wl_X12_153 wi_X12_hung ws_X12_hung zd_X12_hung (by decide) (by omega) rfl (Nat.le_of_ble_eq_true rfl) (fun r3 => ?_)
      refine r_goto 30 dX12_on_26 (by decide) ?_
      exact r_iret dX12_on_30 rfl z_ki
-- X12_size
def f_X12_size_L4 (s1 : Int32 × Int32) : Option ((Int32 × Int32) ⊕ (Int32)) :=
  if s1.2 = 0 then
  some (.inr s1.1)
else
  z_let (s1.2 &&& (s1.2 - (1 : Int32))) fun y3 =>
    some (.inl (s1.1 + (1 : Int32), y3))
def f_X12_size (a0 : Int32) : Option (Int32) :=
  (z_iter (f_X12_size_L4) z_fuel ((0 : Int32), a0)).bind (fun q2 : Int32 =>
  some q2)
set_option maxHeartbeats 4000000 in
set_option maxRecDepth 100000 in
theorem c_X12_size (G : ZG) (l : Launch) (d : Nat) (hd : 1 ≤ d) (w0 : ZW) (a0 : Int32) : ∀ o, f_X12_size a0 = some o → zM G l d yX12_size cX12_size 3 (some .int) [.int a0] w0 (some (.int o)) w0 := by
  intro o ho
  refine zM.of [(0, .int a0)] (by decide) (Nat.le_of_ble_eq_true rfl) rfl ?_
  refine (?_ : zR G l d "LoveLocksModel" cX12_size 3 (some .int) (some (.int o)) w0 (fun x => x = o) 0 [(0, .int a0)] [] w0 (f_X12_size a0)) o ho rfl
  rw [f_X12_size]
  refine r_iconst 1 dX12_size_0 rfl zci_0 ?_
  refine r_istore_n 2 [(1, .int (0 : Int32)), (0, .int a0)] dX12_size_1 rfl rfl (by decide) rfl ?_
  refine r_iload_n 3 dX12_size_2 rfl 1 rfl rfl ?_
  refine r_istore_n 4 [(2, .int a0), (1, .int (0 : Int32)), (0, .int a0)] dX12_size_3 rfl rfl (by decide) rfl ?_
  refine r_loopE [1, 0] (fun s1 => [(1, .int s1.1), (2, .int s1.2)]) (fun s1 => w0) 20 (fun q2 => [(1, .int q2)]) (fun q2 => w0) rfl rfl (fun s1 => ?_) (fun q2 => ?_)
  · rw [f_X12_size_L4]
    refine r_iload_n 5 dX12_size_4 rfl 1 rfl rfl ?_
    refine r_if_eq 20 8 dX12_size_5 (by decide) rfl ?_ ?_
    · exact r_leaf [0] (lv2 := [(1, .int s1.1)]) rfl (fun h => h)
    · refine r_iinc 11 0 [(1, .int (s1.1 + (1 : Int32))), (2, .int s1.2)] dX12_size_8 rfl rfl zci_1 (by decide) rfl ?_
      refine r_iload_n 12 dX12_size_11 rfl 1 rfl rfl ?_
      refine r_iload_n 13 dX12_size_12 rfl 1 rfl rfl ?_
      refine r_iconst 14 dX12_size_13 rfl zci_1 ?_
      refine r_isub 15 dX12_size_14 rfl ?_
      refine r_iand 16 dX12_size_15 rfl ?_
      refine r_topi (fun y3 => ?_)
      refine r_istore_n 17 [(2, .int y3), (1, .int (s1.1 + (1 : Int32)))] dX12_size_16 rfl rfl (by decide) rfl ?_
      refine r_goto 4 dX12_size_17 (by decide) ?_
      exact r_leaf [1, 0] (lv2 := [(1, .int (s1.1 + (1 : Int32))), (2, .int y3)]) rfl (fun h => h)
  · refine r_iload_n 21 dX12_size_20 rfl 0 rfl rfl ?_
    exact r_iret dX12_size_21 rfl z_ki
-- X12_falls
def f_X12_falls_L2 (a1 : Int32) (s1 : Int32 × ZW) : Option ((Int32 × ZW) ⊕ (ZW)) :=
  if (s1.2.1 130 2) ≤ s1.1 then
  some (.inr s1.2)
else
  if z_in s1.1 14 then
    if z_in s1.1 14 then
    z_let (z_upI s1.2 138 s1.1.toNatClampNeg ((s1.2.1 138 s1.1.toNatClampNeg) ||| ((a1 >>> (s1.1 &&& 31)) &&& (1 : Int32)))) fun w3 =>
    some (.inl (s1.1 + (1 : Int32), w3))
  else none
  else none
def f_X12_falls (w : ZW) (a1 : Int32) : Option (Int32 × ZW) :=
  (z_iter (f_X12_falls_L2 a1) z_fuel ((0 : Int32), w)).bind (fun q2 : ZW =>
  (f_X12_size a1).bind fun r4 : Int32 =>
  some (r4, q2))
set_option maxHeartbeats 4000000 in
set_option maxRecDepth 100000 in
theorem c_X12_falls (G : ZG) (l : Launch) (d : Nat) (hd : 2 ≤ d) (w : ZW) (a1 : Int32) : ∀ o, f_X12_falls w a1 = some o → zM G l d yX12_falls cX12_falls 3 (some .int) [.ref (G.1 130), .int a1] w (some (.int o.1)) o.2 := by
  intro o ho
  refine zM.of [(0, .ref (G.1 130)), (1, .int a1)] (by decide) (Nat.le_of_ble_eq_true rfl) rfl ?_
  refine (?_ : zR G l d "LoveLocksModel" cX12_falls 3 (some .int) (some (.int o.1)) o.2 (fun x => x = o) 0 [(0, .ref (G.1 130)), (1, .int a1)] [] w (f_X12_falls w a1)) o ho rfl
  rw [f_X12_falls]
  refine r_iconst 1 dX12_falls_0 rfl zci_0 ?_
  refine r_istore_n 2 [(2, .int (0 : Int32)), (0, .ref (G.1 130)), (1, .int a1)] dX12_falls_1 rfl rfl (by decide) rfl ?_
  refine r_loopE [1, 2, 0] (fun s1 => [(0, .ref (G.1 130)), (1, .int a1), (2, .int s1.1)]) (fun s1 => s1.2) 30 (fun q2 => [(1, .int a1)]) (fun q2 => q2) rfl rfl (fun s1 => ?_) (fun q2 => ?_)
  · rw [f_X12_falls_L2]
    refine r_iload_n 3 dX12_falls_2 rfl 2 rfl rfl ?_
    refine r_aload_n 4 dX12_falls_3 rfl 0 rfl rfl ?_
    refine r_get 7 130 2 dX12_falls_4 rfl zl_130 (ce_130 G _) rfl inz12 (by decide) wf_X12_115 rfl ?_
    refine r_icmp_ge 30 10 dX12_falls_7 (by decide) rfl ?_ ?_
    · exact r_leaf [1] (lv2 := [(1, .int a1)]) rfl (fun h => h)
    · refine r_aload_n 11 dX12_falls_10 rfl 0 rfl rfl ?_
      refine r_get 14 130 9 dX12_falls_11 rfl zl_130 (ce_130 G _) rfl inz12 (by decide) wf_X12_31 rfl ?_
      refine r_iload_n 15 dX12_falls_14 rfl 2 rfl rfl ?_
      refine r_dup2 16 dX12_falls_15 rfl rfl rfl ?_
      refine r_iald 17 138 14 dX12_falls_16 rfl zl_138 (ce_138 G _) ?_
      refine r_iload_n 18 dX12_falls_17 rfl 1 rfl rfl ?_
      refine r_iload_n 19 dX12_falls_18 rfl 2 rfl rfl ?_
      refine r_ishr 20 dX12_falls_19 rfl ?_
      refine r_iconst 21 dX12_falls_20 rfl zci_1 ?_
      refine r_iand 22 dX12_falls_21 rfl ?_
      refine r_ior 23 dX12_falls_22 rfl ?_
      refine r_iast 24 138 14 dX12_falls_23 rfl zl_138 (ce_138 G) ?_
      refine r_topw (fun w3 => ?_)
      refine r_iinc 27 2 [(2, .int (s1.1 + (1 : Int32))), (0, .ref (G.1 130)), (1, .int a1)] dX12_falls_24 rfl rfl zci_1 (by decide) rfl ?_
      refine r_goto 2 dX12_falls_27 (by decide) ?_
      exact r_leaf [1, 2, 0] (lv2 := [(0, .ref (G.1 130)), (1, .int a1), (2, .int (s1.1 + (1 : Int32)))]) rfl (fun h => h)
  · refine r_iload_n 31 dX12_falls_30 rfl 0 rfl rfl ?_
    refine r_callSi 34 1 [.int a1] (st := []) dX12_falls_31 rfl rfl (fun r h => c_X12_size G l (d - 1) (by omega) q2 a1 r h) wc_X12_size wz_X12 wl_X12_162 wst_X12_size zd_X12_size (by decide) (by omega) rfl (Nat.le_of_ble_eq_true rfl) (fun r4 => ?_)
    exact r_iret dX12_falls_34 rfl z_kiw
-- X12_cut
def f_X12_cut (w : ZW) (a1 : Int32) : Option (Int32 × ZW) :=
  (f_X12_isLock w a1).bind fun r1 : Int32 =>
  if r1 = 0 then
  some ((-1 : Int32), w)
else
  if z_in a1 14 then
    if (w.1 138 a1.toNatClampNeg) = (1 : Int32) then
    some ((-2 : Int32), w)
  else
    (f_X12_under w a1).bind fun r2 : Int32 =>
      (f_X12_falls w r2).bind fun r3 : Int32 × ZW =>
      some (r3.1, r3.2)
  else none
set_option maxHeartbeats 4000000 in
set_option maxRecDepth 100000 in
theorem c_X12_cut (G : ZG) (l : Launch) (d : Nat) (hd : 3 ≤ d) (w : ZW) (a1 : Int32) : ∀ o, f_X12_cut w a1 = some o → zM G l d yX12_cut cX12_cut 2 (some .int) [.ref (G.1 130), .int a1] w (some (.int o.1)) o.2 := by
  intro o ho
  refine zM.of [(0, .ref (G.1 130)), (1, .int a1)] (by decide) (Nat.le_of_ble_eq_true rfl) rfl ?_
  refine (?_ : zR G l d "LoveLocksModel" cX12_cut 2 (some .int) (some (.int o.1)) o.2 (fun x => x = o) 0 [(0, .ref (G.1 130)), (1, .int a1)] [] w (f_X12_cut w a1)) o ho rfl
  rw [f_X12_cut]
  refine r_aload_n 1 dX12_cut_0 rfl 0 rfl rfl ?_
  refine r_iload_n 2 dX12_cut_1 rfl 1 rfl rfl ?_
  refine r_callVi 5 1 (ko := 130) [.int a1] (st := []) dX12_cut_2 rfl rfl (fun r h => c_X12_isLock G l (d - 1) (by omega) w a1 r h) zl_130 (ce_130 G _) rfl rfl wc_X12_isLock wz_X12 wl_X12_138 wi_X12_isLock ws_X12_isLock zd_X12_isLock (by decide) (by omega) rfl (Nat.le_of_ble_eq_true rfl) (fun r1 => ?_)
  refine r_if_ne 10 8 dX12_cut_5 (by decide) rfl ?_ ?_
  · refine r_aload_n 11 dX12_cut_10 rfl 0 rfl rfl ?_
    refine r_get 14 130 9 dX12_cut_11 rfl zl_130 (ce_130 G _) rfl inz12 (by decide) wf_X12_31 rfl ?_
    refine r_iload_n 15 dX12_cut_14 rfl 1 rfl rfl ?_
    refine r_iald 16 138 14 dX12_cut_15 rfl zl_138 (ce_138 G _) ?_
    refine r_iconst 17 dX12_cut_16 rfl zci_1 ?_
    refine r_icmp_ne 25 20 dX12_cut_17 (by decide) rfl ?_ ?_
    · refine r_aload_n 26 dX12_cut_25 rfl 0 rfl rfl ?_
      refine r_aload_n 27 dX12_cut_26 rfl 0 rfl rfl ?_
      refine r_iload_n 28 dX12_cut_27 rfl 1 rfl rfl ?_
      refine r_callVi 31 1 (ko := 130) [.int a1] (st := [.ref (G.1 130)]) dX12_cut_28 rfl rfl (fun r h => c_X12_under G l (d - 1) (by omega) w a1 r h) zl_130 (ce_130 G _) rfl rfl wc_X12_under wz_X12 wl_X12_141 wi_X12_under ws_X12_under zd_X12_under (by decide) (by omega) rfl (Nat.le_of_ble_eq_true rfl) (fun r2 => ?_)
      refine r_callViw 34 1 (ko := 130) [.int r2] (st := []) dX12_cut_31 rfl rfl (fun r h => c_X12_falls G l (d - 1) (by omega) w r2 r h) zl_130 (ce_130 G _) rfl rfl wc_X12_falls wz_X12 wl_X12_165 wi_X12_falls ws_X12_falls zd_X12_falls (by decide) (by omega) rfl (Nat.le_of_ble_eq_true rfl) (fun r3 => ?_)
      exact r_iret dX12_cut_34 rfl z_kiw
    · refine r_bipush 22 dX12_cut_20 rfl zcb_m2 ?_
      refine r_goto 34 dX12_cut_22 (by decide) ?_
      exact r_iret dX12_cut_34 rfl z_kiw
  · refine r_iconst 9 dX12_cut_8 rfl zci_m1 ?_
    exact r_iret dX12_cut_9 rfl z_kiw
-- X12_over
def f_X12_over_L2 (w : ZW) (s1 : Int32) : Option ((Int32) ⊕ ((Int32) ⊕ (Unit))) :=
  if (w.1 130 2) ≤ s1 then
  some (.inr (.inr ()))
else
  (f_X12_bears w s1).bind fun r3 : Int32 =>
    if z_in s1 14 then
    if z_in s1 14 then
    if (w.1 133 s1.toNatClampNeg) = 0 then
    if r3 ≤ ((w.1 132 s1.toNatClampNeg) * (5 : Int32)) then
      some (.inl (s1 + (1 : Int32)))
    else
      some (.inr (.inl s1))
  else
    if r3 ≤ ((w.1 132 s1.toNatClampNeg) * (9 : Int32)) then
      some (.inl (s1 + (1 : Int32)))
    else
      some (.inr (.inl s1))
  else none
  else none
def f_X12_over_L60 (w : ZW) (s4 : Int32) (s6 : Int32) : Option ((Int32) ⊕ ((Int32) ⊕ (Unit))) :=
  if (3 : Int32) ≤ s6 then
  some (.inr (.inr ()))
else
  (f_X12_loadOf w s4 s6).bind fun r8 : Int32 =>
    if z_in ((3 : Int32) * s4) 18 then
    if r8 ≤ (w.1 131 ((3 : Int32) * s4).toNatClampNeg) then
    some (.inl (s6 + (1 : Int32)))
  else
    some (.inr (.inl (((100 : Int32) + ((10 : Int32) * s4)) + s6)))
  else none
def f_X12_over_L50 (w : ZW) (s4 : Int32) : Option ((Int32) ⊕ ((Int32) ⊕ (Unit))) :=
  if (w.1 130 0) ≤ s4 then
  some (.inr (.inr ()))
else
  (z_iter (f_X12_over_L60 w s4) z_fuel (0 : Int32)).bind (Sum.elim (fun x : Int32 => some (.inr (.inl x))) (fun q7 : Unit =>
    some (.inl (s4 + (1 : Int32)))))
def f_X12_over_L106 (w : ZW) (s9 : Int32) : Option ((Int32) ⊕ ((Int32) ⊕ (Unit))) :=
  if (w.1 130 0) ≤ s9 then
  some (.inr (.inr ()))
else
  (f_X12_loadOf w s9 (3 : Int32)).bind fun r11 : Int32 =>
    if z_in (((3 : Int32) * s9) + (1 : Int32)) 18 then
    if (w.1 131 (((3 : Int32) * s9) + (1 : Int32)).toNatClampNeg) < r11 then
    some (.inr (.inl ((200 : Int32) + s9)))
  else
    (f_X12_loadOf w s9 (4 : Int32)).bind fun r12 : Int32 =>
      if z_in (((3 : Int32) * s9) + (2 : Int32)) 18 then
      if r12 ≤ (w.1 131 (((3 : Int32) * s9) + (2 : Int32)).toNatClampNeg) then
      some (.inl (s9 + (1 : Int32)))
    else
      some (.inr (.inl ((200 : Int32) + s9)))
    else none
  else none
def f_X12_over (w : ZW) : Option (Int32) :=
  (z_iter (f_X12_over_L2 w) z_fuel (0 : Int32)).bind (Sum.elim (fun x : Int32 => some x) (fun q2 : Unit =>
  (z_iter (f_X12_over_L50 w) z_fuel (0 : Int32)).bind (Sum.elim (fun x : Int32 => some x) (fun q5 : Unit =>
  (z_iter (f_X12_over_L106 w) z_fuel (0 : Int32)).bind (Sum.elim (fun x : Int32 => some x) (fun q10 : Unit =>
  some (-4 : Int32)))))))
set_option maxHeartbeats 4000000 in
set_option maxRecDepth 100000 in
theorem c_X12_over (G : ZG) (l : Launch) (d : Nat) (hd : 3 ≤ d) (w : ZW) : ∀ o, f_X12_over w = some o → zM G l d yX12_over cX12_over 3 (some .int) [.ref (G.1 130)] w (some (.int o)) w := by
  intro o ho
  refine zM.of [(0, .ref (G.1 130))] (by decide) (Nat.le_of_ble_eq_true rfl) rfl ?_
  refine (?_ : zR G l d "LoveLocksModel" cX12_over 3 (some .int) (some (.int o)) w (fun x => x = o) 0 [(0, .ref (G.1 130))] [] w (f_X12_over w)) o ho rfl
  rw [f_X12_over]
  refine r_iconst 1 dX12_over_0 rfl zci_0 ?_
  refine r_istore_n 2 [(1, .int (0 : Int32)), (0, .ref (G.1 130))] dX12_over_1 rfl rfl (by decide) rfl ?_
  refine r_loopR [1, 0] (fun s1 => [(0, .ref (G.1 130)), (1, .int s1)]) (fun s1 => w) (fun x => x = o) 48 (fun q2 => [(0, .ref (G.1 130))]) (fun q2 => w) rfl rfl (fun s1 => ?_) (fun x y h1 h2 => by cases h1; exact h2) (fun q2 => ?_)
  · rw [f_X12_over_L2]
    refine r_iload_n 3 dX12_over_2 rfl 1 rfl rfl ?_
    refine r_aload_n 4 dX12_over_3 rfl 0 rfl rfl ?_
    refine r_get 7 130 2 dX12_over_4 rfl zl_130 (ce_130 G _) rfl inz12 (by decide) wf_X12_115 rfl ?_
    refine r_icmp_ge 48 10 dX12_over_7 (by decide) rfl ?_ ?_
    · exact r_leaf [0] (lv2 := [(0, .ref (G.1 130))]) rfl (fun h => h)
    · refine r_aload_n 11 dX12_over_10 rfl 0 rfl rfl ?_
      refine r_iload_n 12 dX12_over_11 rfl 1 rfl rfl ?_
      refine r_callVi 15 1 (ko := 130) [.int s1] (st := []) dX12_over_12 rfl rfl (fun r h => c_X12_bears G l (d - 1) (by omega) w s1 r h) zl_130 (ce_130 G _) rfl rfl wc_X12_bears wz_X12 wl_X12_150 wi_X12_bears ws_X12_bears zd_X12_bears (by decide) (by omega) rfl (Nat.le_of_ble_eq_true rfl) (fun r3 => ?_)
      refine r_aload_n 16 dX12_over_15 rfl 0 rfl rfl ?_
      refine r_get 19 130 3 dX12_over_16 rfl zl_130 (ce_130 G _) rfl inz12 (by decide) wf_X12_13 rfl ?_
      refine r_iload_n 20 dX12_over_19 rfl 1 rfl rfl ?_
      refine r_iald 21 132 14 dX12_over_20 rfl zl_132 (ce_132 G _) ?_
      refine r_aload_n 22 dX12_over_21 rfl 0 rfl rfl ?_
      refine r_get 25 130 4 dX12_over_22 rfl zl_130 (ce_130 G _) rfl inz12 (by decide) wf_X12_16 rfl ?_
      refine r_iload_n 26 dX12_over_25 rfl 1 rfl rfl ?_
      refine r_iald 27 133 14 dX12_over_26 rfl zl_133 (ce_133 G _) ?_
      refine r_if_ne 34 30 dX12_over_27 (by decide) rfl ?_ ?_
      · refine r_bipush 36 dX12_over_34 rfl zcb_9 ?_
        refine r_imul 37 dX12_over_36 rfl ?_
        refine r_icmp_le 42 40 dX12_over_37 (by decide) rfl ?_ ?_
        · refine r_iinc 45 1 [(1, .int (s1 + (1 : Int32))), (0, .ref (G.1 130))] dX12_over_42 rfl rfl zci_1 (by decide) rfl ?_
          refine r_goto 2 dX12_over_45 (by decide) ?_
          exact r_leaf [1, 0] (lv2 := [(0, .ref (G.1 130)), (1, .int (s1 + (1 : Int32)))]) rfl (fun h => h)
        · refine r_iload_n 41 dX12_over_40 rfl 1 rfl rfl ?_
          exact r_iret dX12_over_41 rfl z_ki
      · refine r_iconst 31 dX12_over_30 rfl zci_5 ?_
        refine r_goto 36 dX12_over_31 (by decide) ?_
        refine r_imul 37 dX12_over_36 rfl ?_
        refine r_icmp_le 42 40 dX12_over_37 (by decide) rfl ?_ ?_
        · refine r_iinc 45 1 [(1, .int (s1 + (1 : Int32))), (0, .ref (G.1 130))] dX12_over_42 rfl rfl zci_1 (by decide) rfl ?_
          refine r_goto 2 dX12_over_45 (by decide) ?_
          exact r_leaf [1, 0] (lv2 := [(0, .ref (G.1 130)), (1, .int (s1 + (1 : Int32)))]) rfl (fun h => h)
        · refine r_iload_n 41 dX12_over_40 rfl 1 rfl rfl ?_
          exact r_iret dX12_over_41 rfl z_ki
  · refine r_iconst 49 dX12_over_48 rfl zci_0 ?_
    refine r_istore_n 50 [(1, .int (0 : Int32)), (0, .ref (G.1 130))] dX12_over_49 rfl rfl (by decide) rfl ?_
    refine r_loopR [1, 0] (fun s4 => [(0, .ref (G.1 130)), (1, .int s4)]) (fun s4 => w) (fun x => x = o) 104 (fun q5 => [(0, .ref (G.1 130))]) (fun q5 => w) rfl rfl (fun s4 => ?_) (fun x y h1 h2 => by cases h1; exact h2) (fun q5 => ?_)
    · rw [f_X12_over_L50]
      refine r_iload_n 51 dX12_over_50 rfl 1 rfl rfl ?_
      refine r_aload_n 52 dX12_over_51 rfl 0 rfl rfl ?_
      refine r_get 55 130 0 dX12_over_52 rfl zl_130 (ce_130 G _) rfl inz12 (by decide) wf_X12_108 rfl ?_
      refine r_icmp_ge 104 58 dX12_over_55 (by decide) rfl ?_ ?_
      · exact r_leaf [0] (lv2 := [(0, .ref (G.1 130))]) rfl (fun h => h)
      · refine r_iconst 59 dX12_over_58 rfl zci_0 ?_
        refine r_istore_n 60 [(2, .int (0 : Int32)), (0, .ref (G.1 130)), (1, .int s4)] dX12_over_59 rfl rfl (by decide) rfl ?_
        refine r_loopR [1, 2, 0] (fun s6 => [(0, .ref (G.1 130)), (1, .int s4), (2, .int s6)]) (fun s6 => w) (fun x => x = o) 98 (fun q7 => [(0, .ref (G.1 130)), (1, .int s4)]) (fun q7 => w) rfl rfl (fun s6 => ?_) (fun x y h1 h2 => by cases h1; exact h2) (fun q7 => ?_)
        · rw [f_X12_over_L60]
          refine r_iload_n 61 dX12_over_60 rfl 2 rfl rfl ?_
          refine r_iconst 62 dX12_over_61 rfl zci_3 ?_
          refine r_icmp_ge 98 65 dX12_over_62 (by decide) rfl ?_ ?_
          · exact r_leaf [0, 1] (lv2 := [(0, .ref (G.1 130)), (1, .int s4)]) rfl (fun h => h)
          · refine r_aload_n 66 dX12_over_65 rfl 0 rfl rfl ?_
            refine r_iload_n 67 dX12_over_66 rfl 1 rfl rfl ?_
            refine r_iload_n 68 dX12_over_67 rfl 2 rfl rfl ?_
            refine r_callVi 71 2 (ko := 130) [.int s4, .int s6] (st := []) dX12_over_68 rfl rfl (fun r h => c_X12_loadOf G l (d - 1) (by omega) w s4 s6 r h) zl_130 (ce_130 G _) rfl rfl wc_X12_loadOf wz_X12 wl_X12_159 wi_X12_loadOf ws_X12_loadOf zd_X12_loadOf (by decide) (by omega) rfl (Nat.le_of_ble_eq_true rfl) (fun r8 => ?_)
            refine r_aload_n 72 dX12_over_71 rfl 0 rfl rfl ?_
            refine r_get 75 130 1 dX12_over_72 rfl zl_130 (ce_130 G _) rfl inz12 (by decide) wf_X12_7 rfl ?_
            refine r_iconst 76 dX12_over_75 rfl zci_3 ?_
            refine r_iload_n 77 dX12_over_76 rfl 1 rfl rfl ?_
            refine r_imul 78 dX12_over_77 rfl ?_
            refine r_iald 79 131 18 dX12_over_78 rfl zl_131 (ce_131 G _) ?_
            refine r_icmp_le 92 82 dX12_over_79 (by decide) rfl ?_ ?_
            · refine r_iinc 95 2 [(2, .int (s6 + (1 : Int32))), (0, .ref (G.1 130)), (1, .int s4)] dX12_over_92 rfl rfl zci_1 (by decide) rfl ?_
              refine r_goto 60 dX12_over_95 (by decide) ?_
              exact r_leaf [1, 2, 0] (lv2 := [(0, .ref (G.1 130)), (1, .int s4), (2, .int (s6 + (1 : Int32)))]) rfl (fun h => h)
            · refine r_bipush 84 dX12_over_82 rfl zcb_100 ?_
              refine r_bipush 86 dX12_over_84 rfl zcb_10 ?_
              refine r_iload_n 87 dX12_over_86 rfl 1 rfl rfl ?_
              refine r_imul 88 dX12_over_87 rfl ?_
              refine r_iadd 89 dX12_over_88 rfl ?_
              refine r_iload_n 90 dX12_over_89 rfl 2 rfl rfl ?_
              refine r_iadd 91 dX12_over_90 rfl ?_
              exact r_iret dX12_over_91 rfl z_ki
        · refine r_iinc 101 1 [(1, .int (s4 + (1 : Int32))), (0, .ref (G.1 130))] dX12_over_98 rfl rfl zci_1 (by decide) rfl ?_
          refine r_goto 50 dX12_over_101 (by decide) ?_
          exact r_leaf [1, 0] (lv2 := [(0, .ref (G.1 130)), (1, .int (s4 + (1 : Int32)))]) rfl (fun h => h)
    · refine r_iconst 105 dX12_over_104 rfl zci_0 ?_
      refine r_istore_n 106 [(1, .int (0 : Int32)), (0, .ref (G.1 130))] dX12_over_105 rfl rfl (by decide) rfl ?_
      refine r_loopR [1, 0] (fun s9 => [(0, .ref (G.1 130)), (1, .int s9)]) (fun s9 => w) (fun x => x = o) 164 (fun q10 => []) (fun q10 => w) rfl rfl (fun s9 => ?_) (fun x y h1 h2 => by cases h1; exact h2) (fun q10 => ?_)
      · rw [f_X12_over_L106]
        refine r_iload_n 107 dX12_over_106 rfl 1 rfl rfl ?_
        refine r_aload_n 108 dX12_over_107 rfl 0 rfl rfl ?_
        refine r_get 111 130 0 dX12_over_108 rfl zl_130 (ce_130 G _) rfl inz12 (by decide) wf_X12_108 rfl ?_
        refine r_icmp_ge 164 114 dX12_over_111 (by decide) rfl ?_ ?_
        · exact r_leaf [] (lv2 := []) rfl (fun h => h)
        · refine r_aload_n 115 dX12_over_114 rfl 0 rfl rfl ?_
          refine r_iload_n 116 dX12_over_115 rfl 1 rfl rfl ?_
          refine r_iconst 117 dX12_over_116 rfl zci_3 ?_
          refine r_callVi 120 2 (ko := 130) [.int s9, .int (3 : Int32)] (st := []) dX12_over_117 rfl rfl (fun r h => c_X12_loadOf G l (d - 1) (by omega) w s9 (3 : Int32) r h) zl_130 (ce_130 G _) rfl rfl wc_X12_loadOf wz_X12 wl_X12_159 wi_X12_loadOf ws_X12_loadOf zd_X12_loadOf (by decide) (by omega) rfl (Nat.le_of_ble_eq_true rfl) (fun r11 => ?_)
          refine r_aload_n 121 dX12_over_120 rfl 0 rfl rfl ?_
          refine r_get 124 130 1 dX12_over_121 rfl zl_130 (ce_130 G _) rfl inz12 (by decide) wf_X12_7 rfl ?_
          refine r_iconst 125 dX12_over_124 rfl zci_3 ?_
          refine r_iload_n 126 dX12_over_125 rfl 1 rfl rfl ?_
          refine r_imul 127 dX12_over_126 rfl ?_
          refine r_iconst 128 dX12_over_127 rfl zci_1 ?_
          refine r_iadd 129 dX12_over_128 rfl ?_
          refine r_iald 130 131 18 dX12_over_129 rfl zl_131 (ce_131 G _) ?_
          refine r_icmp_gt 152 133 dX12_over_130 (by decide) rfl ?_ ?_
          · refine r_sipush 155 dX12_over_152 rfl zcs_200 ?_
            refine r_iload_n 156 dX12_over_155 rfl 1 rfl rfl ?_
            refine r_iadd 157 dX12_over_156 rfl ?_
            exact r_iret dX12_over_157 rfl z_ki
          · refine r_aload_n 134 dX12_over_133 rfl 0 rfl rfl ?_
            refine r_iload_n 135 dX12_over_134 rfl 1 rfl rfl ?_
            refine r_iconst 136 dX12_over_135 rfl zci_4 ?_
            refine r_callVi 139 2 (ko := 130) [.int s9, .int (4 : Int32)] (st := []) dX12_over_136 rfl rfl (fun r h => c_X12_loadOf G l (d - 1) (by omega) w s9 (4 : Int32) r h) zl_130 (ce_130 G _) rfl rfl wc_X12_loadOf wz_X12 wl_X12_159 wi_X12_loadOf ws_X12_loadOf zd_X12_loadOf (by decide) (by omega) rfl (Nat.le_of_ble_eq_true rfl) (fun r12 => ?_)
            refine r_aload_n 140 dX12_over_139 rfl 0 rfl rfl ?_
            refine r_get 143 130 1 dX12_over_140 rfl zl_130 (ce_130 G _) rfl inz12 (by decide) wf_X12_7 rfl ?_
            refine r_iconst 144 dX12_over_143 rfl zci_3 ?_
            refine r_iload_n 145 dX12_over_144 rfl 1 rfl rfl ?_
            refine r_imul 146 dX12_over_145 rfl ?_
            refine r_iconst 147 dX12_over_146 rfl zci_2 ?_
            refine r_iadd 148 dX12_over_147 rfl ?_
            refine r_iald 149 131 18 dX12_over_148 rfl zl_131 (ce_131 G _) ?_
            refine r_icmp_le 158 152 dX12_over_149 (by decide) rfl ?_ ?_
            · refine r_iinc 161 1 [(1, .int (s9 + (1 : Int32))), (0, .ref (G.1 130))] dX12_over_158 rfl rfl zci_1 (by decide) rfl ?_
              refine r_goto 106 dX12_over_161 (by decide) ?_
              exact r_leaf [1, 0] (lv2 := [(0, .ref (G.1 130)), (1, .int (s9 + (1 : Int32)))]) rfl (fun h => h)
            · refine r_sipush 155 dX12_over_152 rfl zcs_200 ?_
              refine r_iload_n 156 dX12_over_155 rfl 1 rfl rfl ?_
              refine r_iadd 157 dX12_over_156 rfl ?_
              exact r_iret dX12_over_157 rfl z_ki
      · refine r_bipush 166 dX12_over_164 rfl zcb_m4 ?_
        exact r_iret dX12_over_166 rfl z_ki
-- X12_giveWay
def f_X12_giveWay_J62 (k5 : Int32) (k6 : Int32) (w7 : ZW) : Option ((Int32 × Int32 × ZW) ⊕ (Int32 × ZW)) :=
  (f_X12_falls w7 k5).bind fun r8 : Int32 × ZW =>
  (f_X12_over r8.2).bind fun r9 : Int32 =>
  some (.inl (k6 + r8.1, r9, r8.2))
def f_X12_giveWay_L7 (s2 : Int32 × Int32 × ZW) : Option ((Int32 × Int32 × ZW) ⊕ (Int32 × ZW)) :=
  if s2.2.1 < 0 then
  some (.inr (s2.1, s2.2.2))
else
  if (100 : Int32) ≤ s2.2.1 then
    if (200 : Int32) ≤ s2.2.1 then
      (f_X12_hung s2.2.2 (s2.2.1 - (200 : Int32)) (3 : Int32)).bind fun r4 : Int32 =>
        f_X12_giveWay_J62 r4 s2.1 s2.2.2
    else
      (f_X12_hung s2.2.2 ((s2.2.1 - (100 : Int32)) / (10 : Int32)) (s2.2.1 - s2.2.1 / (10 : Int32) * (10 : Int32))).bind fun r10 : Int32 =>
        f_X12_giveWay_J62 r10 s2.1 s2.2.2
  else
    (f_X12_under s2.2.2 s2.2.1).bind fun r11 : Int32 =>
      f_X12_giveWay_J62 r11 s2.1 s2.2.2
def f_X12_giveWay (w : ZW) : Option (Int32 × ZW) :=
  (f_X12_over w).bind fun r1 : Int32 =>
  (z_iter (f_X12_giveWay_L7) z_fuel ((0 : Int32), r1, w)).bind (fun q3 : Int32 × ZW =>
  some (q3.1, q3.2))
set_option maxHeartbeats 4000000 in
set_option maxRecDepth 100000 in
theorem c_X12_giveWay (G : ZG) (l : Launch) (d : Nat) (hd : 4 ≤ d) (w : ZW) : ∀ o, f_X12_giveWay w = some o → zM G l d yX12_giveWay cX12_giveWay 3 (some .int) [.ref (G.1 130)] w (some (.int o.1)) o.2 := by
  intro o ho
  refine zM.of [(0, .ref (G.1 130))] (by decide) (Nat.le_of_ble_eq_true rfl) rfl ?_
  refine (?_ : zR G l d "LoveLocksModel" cX12_giveWay 3 (some .int) (some (.int o.1)) o.2 (fun x => x = o) 0 [(0, .ref (G.1 130))] [] w (f_X12_giveWay w)) o ho rfl
  rw [f_X12_giveWay]
  refine r_iconst 1 dX12_giveWay_0 rfl zci_0 ?_
  refine r_istore_n 2 [(1, .int (0 : Int32)), (0, .ref (G.1 130))] dX12_giveWay_1 rfl rfl (by decide) rfl ?_
  refine r_aload_n 3 dX12_giveWay_2 rfl 1 rfl rfl ?_
  refine r_callVi 6 0 (ko := 130) [] (st := []) dX12_giveWay_3 rfl rfl (fun r h => c_X12_over G l (d - 1) (by omega) w r h) zl_130 (ce_130 G _) rfl rfl wc_X12_over wz_X12 wl_X12_168 wi_X12_over ws_X12_over zd_X12_over (by decide) (by omega) rfl (Nat.le_of_ble_eq_true rfl) (fun r1 => ?_)
  refine r_istore_n 7 [(2, .int r1), (1, .int (0 : Int32)), (0, .ref (G.1 130))] dX12_giveWay_6 rfl rfl (by decide) rfl ?_
  refine r_loopE [2, 1, 0] (fun s2 => [(0, .ref (G.1 130)), (1, .int s2.1), (2, .int s2.2.1)]) (fun s2 => s2.2.2) 75 (fun q3 => [(1, .int q3.1)]) (fun q3 => q3.2) rfl rfl (fun s2 => ?_) (fun q3 => ?_)
  · rw [f_X12_giveWay_L7]
    have hJ62 : ∀ (k5 : Int32) (k6 : Int32) (w7 : ZW), zR G l d "LoveLocksModel" cX12_giveWay 3 (some .int) (some (.int o.1)) o.2 (Sum.elim (fun s2 => zA G l d "LoveLocksModel" cX12_giveWay 3 (some .int) (some (.int o.1)) o.2 7 [(0, .ref (G.1 130)), (1, .int s2.1), (2, .int s2.2.1)] [] s2.2.2) (fun q3 => zA G l d "LoveLocksModel" cX12_giveWay 3 (some .int) (some (.int o.1)) o.2 75 [(1, .int q3.1)] [] q3.2)) 62 [(0, .ref (G.1 130))] [.int k5, .ref (G.1 130), .int k6] w7 (f_X12_giveWay_J62 k5 k6 w7) := by
      intro k5 k6 w7
      rw [f_X12_giveWay_J62]
      refine r_callViw 65 1 (ko := 130) [.int k5] (st := [.int k6]) dX12_giveWay_62 rfl rfl (fun r h => c_X12_falls G l (d - 1) (by omega) w7 k5 r h) zl_130 (ce_130 G _) rfl rfl wc_X12_falls wz_X12 wl_X12_165 wi_X12_falls ws_X12_falls zd_X12_falls (by decide) (by omega) rfl (Nat.le_of_ble_eq_true rfl) (fun r8 => ?_)
      refine r_iadd 66 dX12_giveWay_65 rfl ?_
      refine r_istore_n 67 [(1, .int (k6 + r8.1)), (0, .ref (G.1 130))] dX12_giveWay_66 rfl rfl (by decide) rfl ?_
      refine r_aload_n 68 dX12_giveWay_67 rfl 1 rfl rfl ?_
      refine r_callVi 71 0 (ko := 130) [] (st := []) dX12_giveWay_68 rfl rfl (fun r h => c_X12_over G l (d - 1) (by omega) r8.2 r h) zl_130 (ce_130 G _) rfl rfl wc_X12_over wz_X12 wl_X12_168 wi_X12_over ws_X12_over zd_X12_over (by decide) (by omega) rfl (Nat.le_of_ble_eq_true rfl) (fun r9 => ?_)
      refine r_istore_n 72 [(2, .int r9), (1, .int (k6 + r8.1)), (0, .ref (G.1 130))] dX12_giveWay_71 rfl rfl (by decide) rfl ?_
      refine r_goto 7 dX12_giveWay_72 (by decide) ?_
      exact r_leaf [2, 1, 0] (lv2 := [(0, .ref (G.1 130)), (1, .int (k6 + r8.1)), (2, .int r9)]) rfl (fun h => h)
    refine r_iload_n 8 dX12_giveWay_7 rfl 2 rfl rfl ?_
    refine r_if_lt 75 11 dX12_giveWay_8 (by decide) rfl ?_ ?_
    · exact r_leaf [1] (lv2 := [(1, .int s2.1)]) rfl (fun h => h)
    · refine r_iload_n 12 dX12_giveWay_11 rfl 1 rfl rfl ?_
      refine r_aload_n 13 dX12_giveWay_12 rfl 0 rfl rfl ?_
      refine r_iload_n 14 dX12_giveWay_13 rfl 2 rfl rfl ?_
      refine r_bipush 16 dX12_giveWay_14 rfl zcb_100 ?_
      refine r_icmp_ge 27 19 dX12_giveWay_16 (by decide) rfl ?_ ?_
      · refine r_iload_n 28 dX12_giveWay_27 rfl 2 rfl rfl ?_
        refine r_sipush 31 dX12_giveWay_28 rfl zcs_200 ?_
        refine r_icmp_ge 52 34 dX12_giveWay_31 (by decide) rfl ?_ ?_
        · refine r_aload_n 53 dX12_giveWay_52 rfl 0 rfl rfl ?_
          refine r_iload_n 54 dX12_giveWay_53 rfl 2 rfl rfl ?_
          refine r_sipush 57 dX12_giveWay_54 rfl zcs_200 ?_
          refine r_isub 58 dX12_giveWay_57 rfl ?_
          refine r_iconst 59 dX12_giveWay_58 rfl zci_3 ?_
          refine r_callVi 62 2 (ko := 130) [.int (s2.2.1 - (200 : Int32)), .int (3 : Int32)] (st := [.ref (G.1 130), .int s2.1]) dX12_giveWay_59 rfl rfl (fun r h => c_X12_hung G l (d - 1) (by omega) s2.2.2 (s2.2.1 - (200 : Int32)) (3 : Int32) r h) zl_130 (ce_130 G _) rfl rfl wc_X12_hung wz_X12 wl_X12_153 wi_X12_hung ws_X12_hung zd_X12_hung (by decide) (by omega) rfl (Nat.le_of_ble_eq_true rfl) (fun r4 => ?_)
          exact r_sub [0] (lv2 := [(0, .ref (G.1 130))]) rfl (hJ62 r4 s2.1 s2.2.2)
        · refine r_aload_n 35 dX12_giveWay_34 rfl 0 rfl rfl ?_
          refine r_iload_n 36 dX12_giveWay_35 rfl 2 rfl rfl ?_
          refine r_bipush 38 dX12_giveWay_36 rfl zcb_100 ?_
          refine r_isub 39 dX12_giveWay_38 rfl ?_
          refine r_bipush 41 dX12_giveWay_39 rfl zcb_10 ?_
          refine r_idiv 42 dX12_giveWay_41 rfl (by decide) ?_
          refine r_iload_n 43 dX12_giveWay_42 rfl 2 rfl rfl ?_
          refine r_bipush 45 dX12_giveWay_43 rfl zcb_10 ?_
          refine r_irem 46 dX12_giveWay_45 rfl (by decide) ?_
          refine r_callVi 49 2 (ko := 130) [.int ((s2.2.1 - (100 : Int32)) / (10 : Int32)), .int (s2.2.1 - s2.2.1 / (10 : Int32) * (10 : Int32))] (st := [.ref (G.1 130), .int s2.1]) dX12_giveWay_46 rfl rfl (fun r h => c_X12_hung G l (d - 1) (by omega) s2.2.2 ((s2.2.1 - (100 : Int32)) / (10 : Int32)) (s2.2.1 - s2.2.1 / (10 : Int32) * (10 : Int32)) r h) zl_130 (ce_130 G _) rfl rfl wc_X12_hung wz_X12 wl_X12_153 wi_X12_hung ws_X12_hung zd_X12_hung (by decide) (by omega) rfl (Nat.le_of_ble_eq_true rfl) (fun r10 => ?_)
          refine r_goto 62 dX12_giveWay_49 (by decide) ?_
          exact r_sub [0] (lv2 := [(0, .ref (G.1 130))]) rfl (hJ62 r10 s2.1 s2.2.2)
      · refine r_aload_n 20 dX12_giveWay_19 rfl 0 rfl rfl ?_
        refine r_iload_n 21 dX12_giveWay_20 rfl 2 rfl rfl ?_
        refine r_callVi 24 1 (ko := 130) [.int s2.2.1] (st := [.ref (G.1 130), .int s2.1]) dX12_giveWay_21 rfl rfl (fun r h => c_X12_under G l (d - 1) (by omega) s2.2.2 s2.2.1 r h) zl_130 (ce_130 G _) rfl rfl wc_X12_under wz_X12 wl_X12_141 wi_X12_under ws_X12_under zd_X12_under (by decide) (by omega) rfl (Nat.le_of_ble_eq_true rfl) (fun r11 => ?_)
        refine r_goto 62 dX12_giveWay_24 (by decide) ?_
        exact r_sub [0] (lv2 := [(0, .ref (G.1 130))]) rfl (hJ62 r11 s2.1 s2.2.2)
  · refine r_iload_n 76 dX12_giveWay_75 rfl 0 rfl rfl ?_
    exact r_iret dX12_giveWay_76 rfl z_kiw
-- X12_count
def f_X12_count_L4 (w : ZW) (a1 : Int32) (s1 : Int32 × Int32) : Option ((Int32 × Int32) ⊕ (Int32)) :=
  if (w.1 130 2) ≤ s1.2 then
  some (.inr s1.1)
else
  if a1 = (2 : Int32) then
    if z_in s1.2 14 then
      z_let (s1.1 + (w.1 138 s1.2.toNatClampNeg)) fun y3 =>
      some (.inl (y3, s1.2 + (1 : Int32)))
    else none
  else
    if z_in s1.2 14 then
      if (w.1 144 s1.2.toNatClampNeg) ≤ 0 then
      some (.inl (s1.1 + (0 : Int32), s1.2 + (1 : Int32)))
    else
      some (.inl (s1.1 + (1 : Int32), s1.2 + (1 : Int32)))
    else none
def f_X12_count (w : ZW) (a1 : Int32) : Option (Int32) :=
  (z_iter (f_X12_count_L4 w a1) z_fuel ((0 : Int32), (0 : Int32))).bind (fun q2 : Int32 =>
  if a1 = (0 : Int32) then
  some (w.1 130 0)
else
  if a1 = (1 : Int32) then
  some (w.1 130 2)
else
  if a1 = (2 : Int32) then
  some q2
else
  if a1 = (3 : Int32) then
  some (w.1 130 10)
else
  if a1 = (4 : Int32) then
  some (w.1 130 16)
else
  if a1 = (5 : Int32) then
  some q2
else
  some (-1 : Int32))
set_option maxHeartbeats 4000000 in
set_option maxRecDepth 100000 in
theorem c_X12_count (G : ZG) (l : Launch) (d : Nat) (hd : 1 ≤ d) (w : ZW) (a1 : Int32) : ∀ o, f_X12_count w a1 = some o → zM G l d yX12_count cX12_count 4 (some .int) [.ref (G.1 130), .int a1] w (some (.int o)) w := by
  intro o ho
  refine zM.of [(0, .ref (G.1 130)), (1, .int a1)] (by decide) (Nat.le_of_ble_eq_true rfl) rfl ?_
  refine (?_ : zR G l d "LoveLocksModel" cX12_count 4 (some .int) (some (.int o)) w (fun x => x = o) 0 [(0, .ref (G.1 130)), (1, .int a1)] [] w (f_X12_count w a1)) o ho rfl
  rw [f_X12_count]
  refine r_iconst 1 dX12_count_0 rfl zci_0 ?_
  refine r_istore_n 2 [(2, .int (0 : Int32)), (0, .ref (G.1 130)), (1, .int a1)] dX12_count_1 rfl rfl (by decide) rfl ?_
  refine r_iconst 3 dX12_count_2 rfl zci_0 ?_
  refine r_istore_n 4 [(3, .int (0 : Int32)), (2, .int (0 : Int32)), (0, .ref (G.1 130)), (1, .int a1)] dX12_count_3 rfl rfl (by decide) rfl ?_
  refine r_loopE [2, 3, 1, 0] (fun s1 => [(0, .ref (G.1 130)), (1, .int a1), (2, .int s1.1), (3, .int s1.2)]) (fun s1 => w) 49 (fun q2 => [(0, .ref (G.1 130)), (1, .int a1), (2, .int q2)]) (fun q2 => w) rfl rfl (fun s1 => ?_) (fun q2 => ?_)
  · rw [f_X12_count_L4]
    refine r_iload_n 5 dX12_count_4 rfl 3 rfl rfl ?_
    refine r_aload_n 6 dX12_count_5 rfl 0 rfl rfl ?_
    refine r_get 9 130 2 dX12_count_6 rfl zl_130 (ce_130 G _) rfl inz12 (by decide) wf_X12_115 rfl ?_
    refine r_icmp_ge 49 12 dX12_count_9 (by decide) rfl ?_ ?_
    · exact r_leaf [0, 1, 2] (lv2 := [(0, .ref (G.1 130)), (1, .int a1), (2, .int s1.1)]) rfl (fun h => h)
    · refine r_iload_n 13 dX12_count_12 rfl 2 rfl rfl ?_
      refine r_iload_n 14 dX12_count_13 rfl 1 rfl rfl ?_
      refine r_iconst 15 dX12_count_14 rfl zci_2 ?_
      refine r_icmp_ne 27 18 dX12_count_15 (by decide) rfl ?_ ?_
      · refine r_aload_n 28 dX12_count_27 rfl 0 rfl rfl ?_
        refine r_get 31 130 20 dX12_count_28 rfl zl_130 (ce_130 G _) rfl inz12 (by decide) wf_X12_49 rfl ?_
        refine r_iload_n 32 dX12_count_31 rfl 3 rfl rfl ?_
        refine r_iald 33 144 14 dX12_count_32 rfl zl_144 (ce_144 G _) ?_
        refine r_if_le 40 36 dX12_count_33 (by decide) rfl ?_ ?_
        · refine r_iconst 41 dX12_count_40 rfl zci_0 ?_
          refine r_iadd 42 dX12_count_41 rfl ?_
          refine r_istore_n 43 [(2, .int (s1.1 + (0 : Int32))), (0, .ref (G.1 130)), (1, .int a1), (3, .int s1.2)] dX12_count_42 rfl rfl (by decide) rfl ?_
          refine r_iinc 46 3 [(3, .int (s1.2 + (1 : Int32))), (2, .int (s1.1 + (0 : Int32))), (0, .ref (G.1 130)), (1, .int a1)] dX12_count_43 rfl rfl zci_1 (by decide) rfl ?_
          refine r_goto 4 dX12_count_46 (by decide) ?_
          exact r_leaf [2, 3, 1, 0] (lv2 := [(0, .ref (G.1 130)), (1, .int a1), (2, .int (s1.1 + (0 : Int32))), (3, .int (s1.2 + (1 : Int32)))]) rfl (fun h => h)
        · refine r_iconst 37 dX12_count_36 rfl zci_1 ?_
          refine r_goto 41 dX12_count_37 (by decide) ?_
          refine r_iadd 42 dX12_count_41 rfl ?_
          refine r_istore_n 43 [(2, .int (s1.1 + (1 : Int32))), (0, .ref (G.1 130)), (1, .int a1), (3, .int s1.2)] dX12_count_42 rfl rfl (by decide) rfl ?_
          refine r_iinc 46 3 [(3, .int (s1.2 + (1 : Int32))), (2, .int (s1.1 + (1 : Int32))), (0, .ref (G.1 130)), (1, .int a1)] dX12_count_43 rfl rfl zci_1 (by decide) rfl ?_
          refine r_goto 4 dX12_count_46 (by decide) ?_
          exact r_leaf [2, 3, 1, 0] (lv2 := [(0, .ref (G.1 130)), (1, .int a1), (2, .int (s1.1 + (1 : Int32))), (3, .int (s1.2 + (1 : Int32)))]) rfl (fun h => h)
      · refine r_aload_n 19 dX12_count_18 rfl 0 rfl rfl ?_
        refine r_get 22 130 9 dX12_count_19 rfl zl_130 (ce_130 G _) rfl inz12 (by decide) wf_X12_31 rfl ?_
        refine r_iload_n 23 dX12_count_22 rfl 3 rfl rfl ?_
        refine r_iald 24 138 14 dX12_count_23 rfl zl_138 (ce_138 G _) ?_
        refine r_goto 41 dX12_count_24 (by decide) ?_
        refine r_iadd 42 dX12_count_41 rfl ?_
        refine r_topi (fun y3 => ?_)
        refine r_istore_n 43 [(2, .int y3), (0, .ref (G.1 130)), (1, .int a1), (3, .int s1.2)] dX12_count_42 rfl rfl (by decide) rfl ?_
        refine r_iinc 46 3 [(3, .int (s1.2 + (1 : Int32))), (2, .int y3), (0, .ref (G.1 130)), (1, .int a1)] dX12_count_43 rfl rfl zci_1 (by decide) rfl ?_
        refine r_goto 4 dX12_count_46 (by decide) ?_
        exact r_leaf [2, 3, 1, 0] (lv2 := [(0, .ref (G.1 130)), (1, .int a1), (2, .int y3), (3, .int (s1.2 + (1 : Int32)))]) rfl (fun h => h)
  · refine r_iload_n 50 dX12_count_49 rfl 1 rfl rfl ?_
    refine r_case (0 : Int32) (fun hx => ?_) (fun hn0 => ?_)
    · refine r_tin 88 (0 : Int32) hx dX12_count_50 (by decide) (by decide) rfl (by decide) ?_
      refine r_aload_n 89 dX12_count_88 rfl 0 rfl rfl ?_
      refine r_get 92 130 0 dX12_count_89 rfl zl_130 (ce_130 G _) rfl inz12 (by decide) wf_X12_108 rfl ?_
      exact r_iret dX12_count_92 rfl z_ki
    refine r_case (1 : Int32) (fun hx => ?_) (fun hn1 => ?_)
    · refine r_tin 93 (1 : Int32) hx dX12_count_50 (by decide) (by decide) rfl (by decide) ?_
      refine r_aload_n 94 dX12_count_93 rfl 0 rfl rfl ?_
      refine r_get 97 130 2 dX12_count_94 rfl zl_130 (ce_130 G _) rfl inz12 (by decide) wf_X12_115 rfl ?_
      exact r_iret dX12_count_97 rfl z_ki
    refine r_case (2 : Int32) (fun hx => ?_) (fun hn2 => ?_)
    · refine r_tin 98 (2 : Int32) hx dX12_count_50 (by decide) (by decide) rfl (by decide) ?_
      refine r_iload_n 99 dX12_count_98 rfl 2 rfl rfl ?_
      exact r_iret dX12_count_99 rfl z_ki
    refine r_case (3 : Int32) (fun hx => ?_) (fun hn3 => ?_)
    · refine r_tin 100 (3 : Int32) hx dX12_count_50 (by decide) (by decide) rfl (by decide) ?_
      refine r_aload_n 101 dX12_count_100 rfl 0 rfl rfl ?_
      refine r_get 104 130 10 dX12_count_101 rfl zl_130 (ce_130 G _) rfl inz12 (by decide) wf_X12_172 rfl ?_
      exact r_iret dX12_count_104 rfl z_ki
    refine r_case (4 : Int32) (fun hx => ?_) (fun hn4 => ?_)
    · refine r_tin 105 (4 : Int32) hx dX12_count_50 (by decide) (by decide) rfl (by decide) ?_
      refine r_aload_n 106 dX12_count_105 rfl 0 rfl rfl ?_
      refine r_get 109 130 16 dX12_count_106 rfl zl_130 (ce_130 G _) rfl inz12 (by decide) wf_X12_175 rfl ?_
      exact r_iret dX12_count_109 rfl z_ki
    refine r_case (5 : Int32) (fun hx => ?_) (fun hn5 => ?_)
    · refine r_tin 98 (5 : Int32) hx dX12_count_50 (by decide) (by decide) rfl (by decide) ?_
      refine r_iload_n 99 dX12_count_98 rfl 2 rfl rfl ?_
      exact r_iret dX12_count_99 rfl z_ki
    refine r_tout 110 dX12_count_50 (z_tout5 hn0 hn1 hn2 hn3 hn4 hn5) (by decide) ?_
    refine r_iconst 111 dX12_count_110 rfl zci_m1 ?_
    exact r_iret dX12_count_111 rfl z_ki
-- X12_sees
def f_X12_sees (w : ZW) (a1 : Int32) (a2 : Int32) (a3 : Int32) : Option (Int32 × ZW) :=
  if (w.1 130 10) = (12 : Int32) then
  some ((-3 : Int32), w)
else
  if z_in ((3 : Int32) * (w.1 130 10)) 36 then
    z_let (z_upI w 139 ((3 : Int32) * (w.1 130 10)).toNatClampNeg a1) fun w1 =>
    if z_in (((3 : Int32) * (w1.1 130 10)) + (1 : Int32)) 36 then
    z_let (z_upI w1 139 (((3 : Int32) * (w1.1 130 10)) + (1 : Int32)).toNatClampNeg a2) fun w2 =>
    if z_in (((3 : Int32) * (w2.1 130 10)) + (2 : Int32)) 36 then
    z_let (z_upI w2 139 (((3 : Int32) * (w2.1 130 10)) + (2 : Int32)).toNatClampNeg a3) fun w3 =>
    z_let (z_upI w3 130 10 ((w3.1 130 10) + (1 : Int32))) fun w4 =>
    some (w4.1 130 10, w4)
  else none
  else none
  else none
set_option maxHeartbeats 4000000 in
set_option maxRecDepth 100000 in
theorem c_X12_sees (G : ZG) (l : Launch) (d : Nat) (hd : 1 ≤ d) (w : ZW) (a1 : Int32) (a2 : Int32) (a3 : Int32) : ∀ o, f_X12_sees w a1 a2 a3 = some o → zM G l d yX12_sees cX12_sees 4 (some .int) [.ref (G.1 130), .int a1, .int a2, .int a3] w (some (.int o.1)) o.2 := by
  intro o ho
  refine zM.of [(0, .ref (G.1 130)), (1, .int a1), (2, .int a2), (3, .int a3)] (by decide) (Nat.le_of_ble_eq_true rfl) rfl ?_
  refine (?_ : zR G l d "LoveLocksModel" cX12_sees 4 (some .int) (some (.int o.1)) o.2 (fun x => x = o) 0 [(0, .ref (G.1 130)), (1, .int a1), (2, .int a2), (3, .int a3)] [] w (f_X12_sees w a1 a2 a3)) o ho rfl
  rw [f_X12_sees]
  refine r_aload_n 1 dX12_sees_0 rfl 0 rfl rfl ?_
  refine r_get 4 130 10 dX12_sees_1 rfl zl_130 (ce_130 G _) rfl inz12 (by decide) wf_X12_172 rfl ?_
  refine r_bipush 6 dX12_sees_4 rfl zcb_12 ?_
  refine r_icmp_ne 12 9 dX12_sees_6 (by decide) rfl ?_ ?_
  · refine r_aload_n 13 dX12_sees_12 rfl 0 rfl rfl ?_
    refine r_get 16 130 11 dX12_sees_13 rfl zl_130 (ce_130 G _) rfl inz12 (by decide) wf_X12_34 rfl ?_
    refine r_iconst 17 dX12_sees_16 rfl zci_3 ?_
    refine r_aload_n 18 dX12_sees_17 rfl 0 rfl rfl ?_
    refine r_get 21 130 10 dX12_sees_18 rfl zl_130 (ce_130 G _) rfl inz12 (by decide) wf_X12_172 rfl ?_
    refine r_imul 22 dX12_sees_21 rfl ?_
    refine r_iload_n 23 dX12_sees_22 rfl 1 rfl rfl ?_
    refine r_iast 24 139 36 dX12_sees_23 rfl zl_139 (ce_139 G) ?_
    refine r_topw (fun w1 => ?_)
    refine r_aload_n 25 dX12_sees_24 rfl 0 rfl rfl ?_
    refine r_get 28 130 11 dX12_sees_25 rfl zl_130 (ce_130 G _) rfl inz12 (by decide) wf_X12_34 rfl ?_
    refine r_iconst 29 dX12_sees_28 rfl zci_3 ?_
    refine r_aload_n 30 dX12_sees_29 rfl 0 rfl rfl ?_
    refine r_get 33 130 10 dX12_sees_30 rfl zl_130 (ce_130 G _) rfl inz12 (by decide) wf_X12_172 rfl ?_
    refine r_imul 34 dX12_sees_33 rfl ?_
    refine r_iconst 35 dX12_sees_34 rfl zci_1 ?_
    refine r_iadd 36 dX12_sees_35 rfl ?_
    refine r_iload_n 37 dX12_sees_36 rfl 2 rfl rfl ?_
    refine r_iast 38 139 36 dX12_sees_37 rfl zl_139 (ce_139 G) ?_
    refine r_topw (fun w2 => ?_)
    refine r_aload_n 39 dX12_sees_38 rfl 0 rfl rfl ?_
    refine r_get 42 130 11 dX12_sees_39 rfl zl_130 (ce_130 G _) rfl inz12 (by decide) wf_X12_34 rfl ?_
    refine r_iconst 43 dX12_sees_42 rfl zci_3 ?_
    refine r_aload_n 44 dX12_sees_43 rfl 0 rfl rfl ?_
    refine r_get 47 130 10 dX12_sees_44 rfl zl_130 (ce_130 G _) rfl inz12 (by decide) wf_X12_172 rfl ?_
    refine r_imul 48 dX12_sees_47 rfl ?_
    refine r_iconst 49 dX12_sees_48 rfl zci_2 ?_
    refine r_iadd 50 dX12_sees_49 rfl ?_
    refine r_iload_n 51 dX12_sees_50 rfl 3 rfl rfl ?_
    refine r_iast 52 139 36 dX12_sees_51 rfl zl_139 (ce_139 G) ?_
    refine r_topw (fun w3 => ?_)
    refine r_aload_n 53 dX12_sees_52 rfl 0 rfl rfl ?_
    refine r_dup 54 dX12_sees_53 rfl rfl ?_
    refine r_get 57 130 10 dX12_sees_54 rfl zl_130 (ce_130 G _) rfl inz12 (by decide) wf_X12_172 rfl ?_
    refine r_iconst 58 dX12_sees_57 rfl zci_1 ?_
    refine r_iadd 59 dX12_sees_58 rfl ?_
    refine r_puti 62 130 10 dX12_sees_59 rfl zl_130 (ce_130 G _) rfl inz12 tyX12_ok nmX12 (by decide) wf_X12_172 rfl rfl (Nat.le_of_ble_eq_true rfl) rfl ?_
    refine r_topw (fun w4 => ?_)
    refine r_aload_n 63 dX12_sees_62 rfl 0 rfl rfl ?_
    refine r_get 66 130 10 dX12_sees_63 rfl zl_130 (ce_130 G _) rfl inz12 (by decide) wf_X12_172 rfl ?_
    exact r_iret dX12_sees_66 rfl z_kiw
  · refine r_bipush 11 dX12_sees_9 rfl zcb_m3 ?_
    exact r_iret dX12_sees_11 rfl z_kiw
-- X12_photo
def f_X12_photo (w : ZW) (a1 : Int32) (a2 : Int32) (a3 : Int32) : Option (Int32 × ZW) :=
  (f_X12_isPanel w a1).bind fun r1 : Int32 =>
  if r1 = 0 then
  some ((-1 : Int32), w)
else
  (f_X12_in a2.toInt64 (0 : Int64) (999 : Int64)).bind fun r2 : Int32 =>
    if r2 = 0 then
    some ((-1 : Int32), w)
  else
    (f_X12_in a3.toInt64 (0 : Int64) (999 : Int64)).bind fun r3 : Int32 =>
      if r3 = 0 then
      some ((-1 : Int32), w)
    else
      (f_X12_sees w a1 a2 (a2 + a3)).bind fun r4 : Int32 × ZW =>
        some (r4.1, r4.2)
set_option maxHeartbeats 4000000 in
set_option maxRecDepth 100000 in
theorem c_X12_photo (G : ZG) (l : Launch) (d : Nat) (hd : 3 ≤ d) (w : ZW) (a1 : Int32) (a2 : Int32) (a3 : Int32) : ∀ o, f_X12_photo w a1 a2 a3 = some o → zM G l d yX12_photo cX12_photo 4 (some .int) [.ref (G.1 130), .int a1, .int a2, .int a3] w (some (.int o.1)) o.2 := by
  intro o ho
  refine zM.of [(0, .ref (G.1 130)), (1, .int a1), (2, .int a2), (3, .int a3)] (by decide) (Nat.le_of_ble_eq_true rfl) rfl ?_
  refine (?_ : zR G l d "LoveLocksModel" cX12_photo 4 (some .int) (some (.int o.1)) o.2 (fun x => x = o) 0 [(0, .ref (G.1 130)), (1, .int a1), (2, .int a2), (3, .int a3)] [] w (f_X12_photo w a1 a2 a3)) o ho rfl
  rw [f_X12_photo]
  refine r_aload_n 1 dX12_photo_0 rfl 0 rfl rfl ?_
  refine r_iload_n 2 dX12_photo_1 rfl 1 rfl rfl ?_
  refine r_callVi 5 1 (ko := 130) [.int a1] (st := []) dX12_photo_2 rfl rfl (fun r h => c_X12_isPanel G l (d - 1) (by omega) w a1 r h) zl_130 (ce_130 G _) rfl rfl wc_X12_isPanel wz_X12 wl_X12_124 wi_X12_isPanel ws_X12_isPanel zd_X12_isPanel (by decide) (by omega) rfl (Nat.le_of_ble_eq_true rfl) (fun r1 => ?_)
  refine r_if_eq 32 8 dX12_photo_5 (by decide) rfl ?_ ?_
  · refine r_iconst 33 dX12_photo_32 rfl zci_m1 ?_
    exact r_iret dX12_photo_33 rfl z_kiw
  · refine r_iload_n 9 dX12_photo_8 rfl 2 rfl rfl ?_
    refine r_i2l 10 dX12_photo_9 rfl ?_
    refine r_lconst 11 dX12_photo_10 rfl zcl_0 ?_
    refine r_ldc2 14 dX12_photo_11 rfl wk_X12_120 ?_
    refine r_callSi 17 3 [.long a2.toInt64, .long (0 : Int64), .long (999 : Int64)] (st := []) dX12_photo_14 rfl rfl (fun r h => c_X12_in G l (d - 1) (by omega) w a2.toInt64 (0 : Int64) (999 : Int64) r h) wc_X12_in wz_X12 wl_X12_111 wst_X12_in zd_X12_in (by decide) (by omega) rfl (Nat.le_of_ble_eq_true rfl) (fun r2 => ?_)
    refine r_if_eq 32 20 dX12_photo_17 (by decide) rfl ?_ ?_
    · refine r_iconst 33 dX12_photo_32 rfl zci_m1 ?_
      exact r_iret dX12_photo_33 rfl z_kiw
    · refine r_iload_n 21 dX12_photo_20 rfl 3 rfl rfl ?_
      refine r_i2l 22 dX12_photo_21 rfl ?_
      refine r_lconst 23 dX12_photo_22 rfl zcl_0 ?_
      refine r_ldc2 26 dX12_photo_23 rfl wk_X12_120 ?_
      refine r_callSi 29 3 [.long a3.toInt64, .long (0 : Int64), .long (999 : Int64)] (st := []) dX12_photo_26 rfl rfl (fun r h => c_X12_in G l (d - 1) (by omega) w a3.toInt64 (0 : Int64) (999 : Int64) r h) wc_X12_in wz_X12 wl_X12_111 wst_X12_in zd_X12_in (by decide) (by omega) rfl (Nat.le_of_ble_eq_true rfl) (fun r3 => ?_)
      refine r_if_ne 34 32 dX12_photo_29 (by decide) rfl ?_ ?_
      · refine r_aload_n 35 dX12_photo_34 rfl 0 rfl rfl ?_
        refine r_iload_n 36 dX12_photo_35 rfl 1 rfl rfl ?_
        refine r_iload_n 37 dX12_photo_36 rfl 2 rfl rfl ?_
        refine r_iload_n 38 dX12_photo_37 rfl 2 rfl rfl ?_
        refine r_iload_n 39 dX12_photo_38 rfl 3 rfl rfl ?_
        refine r_iadd 40 dX12_photo_39 rfl ?_
        refine r_callViw 43 3 (ko := 130) [.int a1, .int a2, .int (a2 + a3)] (st := []) dX12_photo_40 rfl rfl (fun r h => c_X12_sees G l (d - 1) (by omega) w a1 a2 (a2 + a3) r h) zl_130 (ce_130 G _) rfl rfl wc_X12_sees wz_X12 wl_X12_178 wi_X12_sees ws_X12_sees zd_X12_sees (by decide) (by omega) rfl (Nat.le_of_ble_eq_true rfl) (fun r4 => ?_)
        exact r_iret dX12_photo_43 rfl z_kiw
      · refine r_iconst 33 dX12_photo_32 rfl zci_m1 ?_
        exact r_iret dX12_photo_33 rfl z_kiw
-- X12_truck
def f_X12_truck_J80 (a4 : Int32) (a1 : Int32) (a2 : Int32) (a3 : Int32) (k6 : Int32) (w7 : ZW) : Option (Int32 × ZW) :=
  if a4 = 0 then none else
  (f_X12_sees w7 a1 k6 ((a2 + a3) / a4)).bind fun r8 : Int32 × ZW =>
  some (r8.1, r8.2)
def f_X12_truck (w : ZW) (a1 : Int32) (a2 : Int32) (a3 : Int32) (a4 : Int32) (a5 : Int32) : Option (Int32 × ZW) :=
  (f_X12_isPanel w a1).bind fun r1 : Int32 =>
  if r1 = 0 then
  some ((-1 : Int32), w)
else
  (f_X12_in a2.toInt64 (0 : Int64) (99999 : Int64)).bind fun r2 : Int32 =>
    if r2 = 0 then
    some ((-1 : Int32), w)
  else
    (f_X12_in a3.toInt64 (0 : Int64) (9999 : Int64)).bind fun r3 : Int32 =>
      if r3 = 0 then
      some ((-1 : Int32), w)
    else
      (f_X12_in a5.toInt64 (1 : Int64) (999 : Int64)).bind fun r4 : Int32 =>
        if r4 = 0 then
        some ((-1 : Int32), w)
      else
        (f_X12_in a4.toInt64 (1 : Int64) a5.toInt64).bind fun r5 : Int32 =>
          if r5 = 0 then
          some ((-1 : Int32), w)
        else
          if a3 ≤ a2 then
            if a5 = 0 then none else
              f_X12_truck_J80 a4 a1 a2 a3 ((((a2 - a3) + a5) - (1 : Int32)) / a5) w
          else
            f_X12_truck_J80 a4 a1 a2 a3 (0 : Int32) w
set_option maxHeartbeats 4000000 in
set_option maxRecDepth 100000 in
theorem c_X12_truck (G : ZG) (l : Launch) (d : Nat) (hd : 3 ≤ d) (w : ZW) (a1 : Int32) (a2 : Int32) (a3 : Int32) (a4 : Int32) (a5 : Int32) : ∀ o, f_X12_truck w a1 a2 a3 a4 a5 = some o → zM G l d yX12_truck cX12_truck 7 (some .int) [.ref (G.1 130), .int a1, .int a2, .int a3, .int a4, .int a5] w (some (.int o.1)) o.2 := by
  intro o ho
  refine zM.of [(0, .ref (G.1 130)), (1, .int a1), (2, .int a2), (3, .int a3), (4, .int a4), (5, .int a5)] (by decide) (Nat.le_of_ble_eq_true rfl) rfl ?_
  refine (?_ : zR G l d "LoveLocksModel" cX12_truck 7 (some .int) (some (.int o.1)) o.2 (fun x => x = o) 0 [(0, .ref (G.1 130)), (1, .int a1), (2, .int a2), (3, .int a3), (4, .int a4), (5, .int a5)] [] w (f_X12_truck w a1 a2 a3 a4 a5)) o ho rfl
  rw [f_X12_truck]
  have hJ80 : ∀ (k6 : Int32) (w7 : ZW), zR G l d "LoveLocksModel" cX12_truck 7 (some .int) (some (.int o.1)) o.2 (fun x => x = o) 80 [(0, .ref (G.1 130)), (1, .int a1), (2, .int a2), (3, .int a3), (4, .int a4)] [.int k6] w7 (f_X12_truck_J80 a4 a1 a2 a3 k6 w7) := by
    intro k6 w7
    rw [f_X12_truck_J80]
    refine r_istore 82 [(6, .int k6), (0, .ref (G.1 130)), (1, .int a1), (2, .int a2), (3, .int a3), (4, .int a4)] dX12_truck_80 rfl (by decide) rfl ?_
    refine r_aload_n 83 dX12_truck_82 rfl 1 rfl rfl ?_
    refine r_iload_n 84 dX12_truck_83 rfl 2 rfl rfl ?_
    refine r_iload 86 dX12_truck_84 rfl 0 rfl ?_
    refine r_iload_n 87 dX12_truck_86 rfl 3 rfl rfl ?_
    refine r_iload_n 88 dX12_truck_87 rfl 4 rfl rfl ?_
    refine r_iadd 89 dX12_truck_88 rfl ?_
    refine r_iload 91 dX12_truck_89 rfl 5 rfl ?_
    refine r_ne (fun hy => ?_)
    refine r_idiv 92 dX12_truck_91 rfl hy ?_
    refine r_callViw 95 3 (ko := 130) [.int a1, .int k6, .int ((a2 + a3) / a4)] (st := []) dX12_truck_92 rfl rfl (fun r h => c_X12_sees G l (d - 1) (by omega) w7 a1 k6 ((a2 + a3) / a4) r h) zl_130 (ce_130 G _) rfl rfl wc_X12_sees wz_X12 wl_X12_178 wi_X12_sees ws_X12_sees zd_X12_sees (by decide) (by omega) rfl (Nat.le_of_ble_eq_true rfl) (fun r8 => ?_)
    exact r_iret dX12_truck_95 rfl z_kiw
  refine r_aload_n 1 dX12_truck_0 rfl 0 rfl rfl ?_
  refine r_iload_n 2 dX12_truck_1 rfl 1 rfl rfl ?_
  refine r_callVi 5 1 (ko := 130) [.int a1] (st := []) dX12_truck_2 rfl rfl (fun r h => c_X12_isPanel G l (d - 1) (by omega) w a1 r h) zl_130 (ce_130 G _) rfl rfl wc_X12_isPanel wz_X12 wl_X12_124 wi_X12_isPanel ws_X12_isPanel zd_X12_isPanel (by decide) (by omega) rfl (Nat.le_of_ble_eq_true rfl) (fun r1 => ?_)
  refine r_if_eq 58 8 dX12_truck_5 (by decide) rfl ?_ ?_
  · refine r_iconst 59 dX12_truck_58 rfl zci_m1 ?_
    exact r_iret dX12_truck_59 rfl z_kiw
  · refine r_iload_n 9 dX12_truck_8 rfl 2 rfl rfl ?_
    refine r_i2l 10 dX12_truck_9 rfl ?_
    refine r_lconst 11 dX12_truck_10 rfl zcl_0 ?_
    refine r_ldc2 14 dX12_truck_11 rfl wk_X12_118 ?_
    refine r_callSi 17 3 [.long a2.toInt64, .long (0 : Int64), .long (99999 : Int64)] (st := []) dX12_truck_14 rfl rfl (fun r h => c_X12_in G l (d - 1) (by omega) w a2.toInt64 (0 : Int64) (99999 : Int64) r h) wc_X12_in wz_X12 wl_X12_111 wst_X12_in zd_X12_in (by decide) (by omega) rfl (Nat.le_of_ble_eq_true rfl) (fun r2 => ?_)
    refine r_if_eq 58 20 dX12_truck_17 (by decide) rfl ?_ ?_
    · refine r_iconst 59 dX12_truck_58 rfl zci_m1 ?_
      exact r_iret dX12_truck_59 rfl z_kiw
    · refine r_iload_n 21 dX12_truck_20 rfl 3 rfl rfl ?_
      refine r_i2l 22 dX12_truck_21 rfl ?_
      refine r_lconst 23 dX12_truck_22 rfl zcl_0 ?_
      refine r_ldc2 26 dX12_truck_23 rfl wk_X12_182 ?_
      refine r_callSi 29 3 [.long a3.toInt64, .long (0 : Int64), .long (9999 : Int64)] (st := []) dX12_truck_26 rfl rfl (fun r h => c_X12_in G l (d - 1) (by omega) w a3.toInt64 (0 : Int64) (9999 : Int64) r h) wc_X12_in wz_X12 wl_X12_111 wst_X12_in zd_X12_in (by decide) (by omega) rfl (Nat.le_of_ble_eq_true rfl) (fun r3 => ?_)
      refine r_if_eq 58 32 dX12_truck_29 (by decide) rfl ?_ ?_
      · refine r_iconst 59 dX12_truck_58 rfl zci_m1 ?_
        exact r_iret dX12_truck_59 rfl z_kiw
      · refine r_iload 34 dX12_truck_32 rfl 5 rfl ?_
        refine r_i2l 35 dX12_truck_34 rfl ?_
        refine r_lconst 36 dX12_truck_35 rfl zcl_1 ?_
        refine r_ldc2 39 dX12_truck_36 rfl wk_X12_120 ?_
        refine r_callSi 42 3 [.long a5.toInt64, .long (1 : Int64), .long (999 : Int64)] (st := []) dX12_truck_39 rfl rfl (fun r h => c_X12_in G l (d - 1) (by omega) w a5.toInt64 (1 : Int64) (999 : Int64) r h) wc_X12_in wz_X12 wl_X12_111 wst_X12_in zd_X12_in (by decide) (by omega) rfl (Nat.le_of_ble_eq_true rfl) (fun r4 => ?_)
        refine r_if_eq 58 45 dX12_truck_42 (by decide) rfl ?_ ?_
        · refine r_iconst 59 dX12_truck_58 rfl zci_m1 ?_
          exact r_iret dX12_truck_59 rfl z_kiw
        · refine r_iload 47 dX12_truck_45 rfl 4 rfl ?_
          refine r_i2l 48 dX12_truck_47 rfl ?_
          refine r_lconst 49 dX12_truck_48 rfl zcl_1 ?_
          refine r_iload 51 dX12_truck_49 rfl 5 rfl ?_
          refine r_i2l 52 dX12_truck_51 rfl ?_
          refine r_callSi 55 3 [.long a4.toInt64, .long (1 : Int64), .long a5.toInt64] (st := []) dX12_truck_52 rfl rfl (fun r h => c_X12_in G l (d - 1) (by omega) w a4.toInt64 (1 : Int64) a5.toInt64 r h) wc_X12_in wz_X12 wl_X12_111 wst_X12_in zd_X12_in (by decide) (by omega) rfl (Nat.le_of_ble_eq_true rfl) (fun r5 => ?_)
          refine r_if_ne 60 58 dX12_truck_55 (by decide) rfl ?_ ?_
          · refine r_iload_n 61 dX12_truck_60 rfl 2 rfl rfl ?_
            refine r_iload_n 62 dX12_truck_61 rfl 3 rfl rfl ?_
            refine r_icmp_ge 69 65 dX12_truck_62 (by decide) rfl ?_ ?_
            · refine r_iload_n 70 dX12_truck_69 rfl 2 rfl rfl ?_
              refine r_iload_n 71 dX12_truck_70 rfl 3 rfl rfl ?_
              refine r_isub 72 dX12_truck_71 rfl ?_
              refine r_iload 74 dX12_truck_72 rfl 5 rfl ?_
              refine r_iadd 75 dX12_truck_74 rfl ?_
              refine r_iconst 76 dX12_truck_75 rfl zci_1 ?_
              refine r_isub 77 dX12_truck_76 rfl ?_
              refine r_iload 79 dX12_truck_77 rfl 5 rfl ?_
              refine r_ne (fun hy => ?_)
              refine r_idiv 80 dX12_truck_79 rfl hy ?_
              exact r_sub [0, 1, 2, 3, 4] (lv2 := [(0, .ref (G.1 130)), (1, .int a1), (2, .int a2), (3, .int a3), (4, .int a4)]) rfl (hJ80 ((((a2 - a3) + a5) - (1 : Int32)) / a5) w)
            · refine r_iconst 66 dX12_truck_65 rfl zci_0 ?_
              refine r_goto 80 dX12_truck_66 (by decide) ?_
              exact r_sub [0, 1, 2, 3, 4] (lv2 := [(0, .ref (G.1 130)), (1, .int a1), (2, .int a2), (3, .int a3), (4, .int a4)]) rfl (hJ80 (0 : Int32) w)
          · refine r_iconst 59 dX12_truck_58 rfl zci_m1 ?_
            exact r_iret dX12_truck_59 rfl z_kiw
-- X12_spanOf
def f_X12_spanOf_J72 (x4_5 : Int32) (x5_6 : Int32) (x6_7 : Int32) (x8_8 : Int32) (k9 : Int32) : Option ((Int32 × Int32 × Int32 × Int32) ⊕ (Int32 × Int32)) :=
  if x5_6 = 0 then
  some (.inl (k9, x8_8, (1 : Int32), x6_7 + (1 : Int32)))
else
  if x4_5 ≤ x8_8 then
    some (.inl (k9, x4_5, (1 : Int32), x6_7 + (1 : Int32)))
  else
    some (.inl (k9, x8_8, (1 : Int32), x6_7 + (1 : Int32)))
def f_X12_spanOf_L12 (w : ZW) (a1 : Int32) (s1 : Int32 × Int32 × Int32 × Int32) : Option ((Int32 × Int32 × Int32 × Int32) ⊕ (Int32 × Int32)) :=
  if (w.1 130 10) ≤ s1.2.2.2 then
  some (.inr (s1.1, s1.2.1))
else
  if z_in ((3 : Int32) * s1.2.2.2) 36 then
    if (w.1 139 ((3 : Int32) * s1.2.2.2).toNatClampNeg) = a1 then
    if z_in (((3 : Int32) * s1.2.2.2) + (1 : Int32)) 36 then
      z_let (w.1 139 (((3 : Int32) * s1.2.2.2) + (1 : Int32)).toNatClampNeg) fun y3 =>
      if z_in (((3 : Int32) * s1.2.2.2) + (2 : Int32)) 36 then
      z_let (w.1 139 (((3 : Int32) * s1.2.2.2) + (2 : Int32)).toNatClampNeg) fun y4 =>
      if y3 ≤ s1.1 then
      f_X12_spanOf_J72 s1.2.1 s1.2.2.1 s1.2.2.2 y4 s1.1
    else
      f_X12_spanOf_J72 s1.2.1 s1.2.2.1 s1.2.2.2 y4 y3
    else none
    else none
  else
    some (.inl (s1.1, s1.2.1, s1.2.2.1, s1.2.2.2 + (1 : Int32)))
  else none
def f_X12_spanOf (w : ZW) (a1 : Int32) (a2 : Int32) : Option (Int32) :=
  (z_iter (f_X12_spanOf_L12 w a1) z_fuel ((0 : Int32), (99999 : Int32), (0 : Int32), (0 : Int32))).bind (fun q2 : Int32 × Int32 =>
  if q2.1 ≤ q2.2 then
  if a2 = 0 then
    some q2.1
  else
    some q2.2
else
  some (-4 : Int32))
set_option maxHeartbeats 4000000 in
set_option maxRecDepth 100000 in
theorem c_X12_spanOf (G : ZG) (l : Launch) (d : Nat) (hd : 1 ≤ d) (w : ZW) (a1 : Int32) (a2 : Int32) : ∀ o, f_X12_spanOf w a1 a2 = some o → zM G l d yX12_spanOf cX12_spanOf 9 (some .int) [.ref (G.1 130), .int a1, .int a2] w (some (.int o)) w := by
  intro o ho
  refine zM.of [(0, .ref (G.1 130)), (1, .int a1), (2, .int a2)] (by decide) (Nat.le_of_ble_eq_true rfl) rfl ?_
  refine (?_ : zR G l d "LoveLocksModel" cX12_spanOf 9 (some .int) (some (.int o)) w (fun x => x = o) 0 [(0, .ref (G.1 130)), (1, .int a1), (2, .int a2)] [] w (f_X12_spanOf w a1 a2)) o ho rfl
  rw [f_X12_spanOf]
  refine r_iconst 1 dX12_spanOf_0 rfl zci_0 ?_
  refine r_istore_n 2 [(3, .int (0 : Int32)), (0, .ref (G.1 130)), (1, .int a1), (2, .int a2)] dX12_spanOf_1 rfl rfl (by decide) rfl ?_
  refine r_ldc 4 dX12_spanOf_2 rfl wk_X12_184 ?_
  refine r_istore 6 [(4, .int (99999 : Int32)), (3, .int (0 : Int32)), (0, .ref (G.1 130)), (1, .int a1), (2, .int a2)] dX12_spanOf_4 rfl (by decide) rfl ?_
  refine r_iconst 7 dX12_spanOf_6 rfl zci_0 ?_
  refine r_istore 9 [(5, .int (0 : Int32)), (4, .int (99999 : Int32)), (3, .int (0 : Int32)), (0, .ref (G.1 130)), (1, .int a1), (2, .int a2)] dX12_spanOf_7 rfl (by decide) rfl ?_
  refine r_iconst 10 dX12_spanOf_9 rfl zci_0 ?_
  refine r_istore 12 [(6, .int (0 : Int32)), (5, .int (0 : Int32)), (4, .int (99999 : Int32)), (3, .int (0 : Int32)), (0, .ref (G.1 130)), (1, .int a1), (2, .int a2)] dX12_spanOf_10 rfl (by decide) rfl ?_
  refine r_loopE [4, 5, 6, 3, 2, 1, 0] (fun s1 => [(0, .ref (G.1 130)), (1, .int a1), (2, .int a2), (3, .int s1.1), (4, .int s1.2.1), (5, .int s1.2.2.1), (6, .int s1.2.2.2)]) (fun s1 => w) 103 (fun q2 => [(2, .int a2), (3, .int q2.1), (4, .int q2.2)]) (fun q2 => w) rfl rfl (fun s1 => ?_) (fun q2 => ?_)
  · rw [f_X12_spanOf_L12]
    have hJ72 : ∀ (x4_5 : Int32) (x5_6 : Int32) (x6_7 : Int32) (x8_8 : Int32) (k9 : Int32), zR G l d "LoveLocksModel" cX12_spanOf 9 (some .int) (some (.int o)) w (Sum.elim (fun s1 => zA G l d "LoveLocksModel" cX12_spanOf 9 (some .int) (some (.int o)) w 12 [(0, .ref (G.1 130)), (1, .int a1), (2, .int a2), (3, .int s1.1), (4, .int s1.2.1), (5, .int s1.2.2.1), (6, .int s1.2.2.2)] [] w) (fun q2 => zA G l d "LoveLocksModel" cX12_spanOf 9 (some .int) (some (.int o)) w 103 [(2, .int a2), (3, .int q2.1), (4, .int q2.2)] [] w)) 72 [(0, .ref (G.1 130)), (1, .int a1), (2, .int a2), (4, .int x4_5), (5, .int x5_6), (6, .int x6_7), (8, .int x8_8)] [.int k9] w (f_X12_spanOf_J72 x4_5 x5_6 x6_7 x8_8 k9) := by
      intro x4_5 x5_6 x6_7 x8_8 k9
      rw [f_X12_spanOf_J72]
      refine r_istore_n 73 [(3, .int k9), (0, .ref (G.1 130)), (1, .int a1), (2, .int a2), (4, .int x4_5), (5, .int x5_6), (6, .int x6_7), (8, .int x8_8)] dX12_spanOf_72 rfl rfl (by decide) rfl ?_
      refine r_iload 75 dX12_spanOf_73 rfl 5 rfl ?_
      refine r_if_eq 85 78 dX12_spanOf_75 (by decide) rfl ?_ ?_
      · refine r_iload 87 dX12_spanOf_85 rfl 7 rfl ?_
        refine r_goto 92 dX12_spanOf_87 (by decide) ?_
        refine r_istore 94 [(4, .int x8_8), (3, .int k9), (0, .ref (G.1 130)), (1, .int a1), (2, .int a2), (5, .int x5_6), (6, .int x6_7), (8, .int x8_8)] dX12_spanOf_92 rfl (by decide) rfl ?_
        refine r_iconst 95 dX12_spanOf_94 rfl zci_1 ?_
        refine r_istore 97 [(5, .int (1 : Int32)), (4, .int x8_8), (3, .int k9), (0, .ref (G.1 130)), (1, .int a1), (2, .int a2), (6, .int x6_7), (8, .int x8_8)] dX12_spanOf_95 rfl (by decide) rfl ?_
        refine r_iinc 100 6 [(6, .int (x6_7 + (1 : Int32))), (5, .int (1 : Int32)), (4, .int x8_8), (3, .int k9), (0, .ref (G.1 130)), (1, .int a1), (2, .int a2), (8, .int x8_8)] dX12_spanOf_97 rfl rfl zci_1 (by decide) rfl ?_
        refine r_goto 12 dX12_spanOf_100 (by decide) ?_
        exact r_leaf [4, 5, 6, 3, 2, 1, 0] (lv2 := [(0, .ref (G.1 130)), (1, .int a1), (2, .int a2), (3, .int k9), (4, .int x8_8), (5, .int (1 : Int32)), (6, .int (x6_7 + (1 : Int32)))]) rfl (fun h => h)
      · refine r_iload 80 dX12_spanOf_78 rfl 7 rfl ?_
        refine r_iload 82 dX12_spanOf_80 rfl 4 rfl ?_
        refine r_icmp_ge 90 85 dX12_spanOf_82 (by decide) rfl ?_ ?_
        · refine r_iload 92 dX12_spanOf_90 rfl 4 rfl ?_
          refine r_istore 94 [(4, .int x4_5), (3, .int k9), (0, .ref (G.1 130)), (1, .int a1), (2, .int a2), (5, .int x5_6), (6, .int x6_7), (8, .int x8_8)] dX12_spanOf_92 rfl (by decide) rfl ?_
          refine r_iconst 95 dX12_spanOf_94 rfl zci_1 ?_
          refine r_istore 97 [(5, .int (1 : Int32)), (4, .int x4_5), (3, .int k9), (0, .ref (G.1 130)), (1, .int a1), (2, .int a2), (6, .int x6_7), (8, .int x8_8)] dX12_spanOf_95 rfl (by decide) rfl ?_
          refine r_iinc 100 6 [(6, .int (x6_7 + (1 : Int32))), (5, .int (1 : Int32)), (4, .int x4_5), (3, .int k9), (0, .ref (G.1 130)), (1, .int a1), (2, .int a2), (8, .int x8_8)] dX12_spanOf_97 rfl rfl zci_1 (by decide) rfl ?_
          refine r_goto 12 dX12_spanOf_100 (by decide) ?_
          exact r_leaf [4, 5, 6, 3, 2, 1, 0] (lv2 := [(0, .ref (G.1 130)), (1, .int a1), (2, .int a2), (3, .int k9), (4, .int x4_5), (5, .int (1 : Int32)), (6, .int (x6_7 + (1 : Int32)))]) rfl (fun h => h)
        · refine r_iload 87 dX12_spanOf_85 rfl 7 rfl ?_
          refine r_goto 92 dX12_spanOf_87 (by decide) ?_
          refine r_istore 94 [(4, .int x8_8), (3, .int k9), (0, .ref (G.1 130)), (1, .int a1), (2, .int a2), (5, .int x5_6), (6, .int x6_7), (8, .int x8_8)] dX12_spanOf_92 rfl (by decide) rfl ?_
          refine r_iconst 95 dX12_spanOf_94 rfl zci_1 ?_
          refine r_istore 97 [(5, .int (1 : Int32)), (4, .int x8_8), (3, .int k9), (0, .ref (G.1 130)), (1, .int a1), (2, .int a2), (6, .int x6_7), (8, .int x8_8)] dX12_spanOf_95 rfl (by decide) rfl ?_
          refine r_iinc 100 6 [(6, .int (x6_7 + (1 : Int32))), (5, .int (1 : Int32)), (4, .int x8_8), (3, .int k9), (0, .ref (G.1 130)), (1, .int a1), (2, .int a2), (8, .int x8_8)] dX12_spanOf_97 rfl rfl zci_1 (by decide) rfl ?_
          refine r_goto 12 dX12_spanOf_100 (by decide) ?_
          exact r_leaf [4, 5, 6, 3, 2, 1, 0] (lv2 := [(0, .ref (G.1 130)), (1, .int a1), (2, .int a2), (3, .int k9), (4, .int x8_8), (5, .int (1 : Int32)), (6, .int (x6_7 + (1 : Int32)))]) rfl (fun h => h)
    refine r_iload 14 dX12_spanOf_12 rfl 6 rfl ?_
    refine r_aload_n 15 dX12_spanOf_14 rfl 0 rfl rfl ?_
    refine r_get 18 130 10 dX12_spanOf_15 rfl zl_130 (ce_130 G _) rfl inz12 (by decide) wf_X12_172 rfl ?_
    refine r_icmp_ge 103 21 dX12_spanOf_18 (by decide) rfl ?_ ?_
    · exact r_leaf [2, 3, 4] (lv2 := [(2, .int a2), (3, .int s1.1), (4, .int s1.2.1)]) rfl (fun h => h)
    · refine r_aload_n 22 dX12_spanOf_21 rfl 0 rfl rfl ?_
      refine r_get 25 130 11 dX12_spanOf_22 rfl zl_130 (ce_130 G _) rfl inz12 (by decide) wf_X12_34 rfl ?_
      refine r_iconst 26 dX12_spanOf_25 rfl zci_3 ?_
      refine r_iload 28 dX12_spanOf_26 rfl 6 rfl ?_
      refine r_imul 29 dX12_spanOf_28 rfl ?_
      refine r_iald 30 139 36 dX12_spanOf_29 rfl zl_139 (ce_139 G _) ?_
      refine r_iload_n 31 dX12_spanOf_30 rfl 1 rfl rfl ?_
      refine r_icmp_ne 97 34 dX12_spanOf_31 (by decide) rfl ?_ ?_
      · refine r_iinc 100 6 [(6, .int (s1.2.2.2 + (1 : Int32))), (0, .ref (G.1 130)), (1, .int a1), (2, .int a2), (3, .int s1.1), (4, .int s1.2.1), (5, .int s1.2.2.1)] dX12_spanOf_97 rfl rfl zci_1 (by decide) rfl ?_
        refine r_goto 12 dX12_spanOf_100 (by decide) ?_
        exact r_leaf [1, 2, 3, 4, 5, 6, 0] (lv2 := [(0, .ref (G.1 130)), (1, .int a1), (2, .int a2), (3, .int s1.1), (4, .int s1.2.1), (5, .int s1.2.2.1), (6, .int (s1.2.2.2 + (1 : Int32)))]) rfl (fun h => h)
      · refine r_aload_n 35 dX12_spanOf_34 rfl 0 rfl rfl ?_
        refine r_get 38 130 11 dX12_spanOf_35 rfl zl_130 (ce_130 G _) rfl inz12 (by decide) wf_X12_34 rfl ?_
        refine r_iconst 39 dX12_spanOf_38 rfl zci_3 ?_
        refine r_iload 41 dX12_spanOf_39 rfl 6 rfl ?_
        refine r_imul 42 dX12_spanOf_41 rfl ?_
        refine r_iconst 43 dX12_spanOf_42 rfl zci_1 ?_
        refine r_iadd 44 dX12_spanOf_43 rfl ?_
        refine r_iald 45 139 36 dX12_spanOf_44 rfl zl_139 (ce_139 G _) ?_
        refine r_topi (fun y3 => ?_)
        refine r_istore 47 [(7, .int y3), (0, .ref (G.1 130)), (1, .int a1), (2, .int a2), (3, .int s1.1), (4, .int s1.2.1), (5, .int s1.2.2.1), (6, .int s1.2.2.2)] dX12_spanOf_45 rfl (by decide) rfl ?_
        refine r_aload_n 48 dX12_spanOf_47 rfl 1 rfl rfl ?_
        refine r_get 51 130 11 dX12_spanOf_48 rfl zl_130 (ce_130 G _) rfl inz12 (by decide) wf_X12_34 rfl ?_
        refine r_iconst 52 dX12_spanOf_51 rfl zci_3 ?_
        refine r_iload 54 dX12_spanOf_52 rfl 7 rfl ?_
        refine r_imul 55 dX12_spanOf_54 rfl ?_
        refine r_iconst 56 dX12_spanOf_55 rfl zci_2 ?_
        refine r_iadd 57 dX12_spanOf_56 rfl ?_
        refine r_iald 58 139 36 dX12_spanOf_57 rfl zl_139 (ce_139 G _) ?_
        refine r_topi (fun y4 => ?_)
        refine r_istore 60 [(8, .int y4), (7, .int y3), (0, .ref (G.1 130)), (1, .int a1), (2, .int a2), (3, .int s1.1), (4, .int s1.2.1), (5, .int s1.2.2.1), (6, .int s1.2.2.2)] dX12_spanOf_58 rfl (by decide) rfl ?_
        refine r_iload 62 dX12_spanOf_60 rfl 1 rfl ?_
        refine r_iload_n 63 dX12_spanOf_62 rfl 5 rfl rfl ?_
        refine r_icmp_le 71 66 dX12_spanOf_63 (by decide) rfl ?_ ?_
        · refine r_iload_n 72 dX12_spanOf_71 rfl 5 rfl rfl ?_
          exact r_sub [2, 3, 4, 6, 7, 8, 0] (lv2 := [(0, .ref (G.1 130)), (1, .int a1), (2, .int a2), (4, .int s1.2.1), (5, .int s1.2.2.1), (6, .int s1.2.2.2), (8, .int y4)]) rfl (hJ72 s1.2.1 s1.2.2.1 s1.2.2.2 y4 s1.1)
        · refine r_iload 68 dX12_spanOf_66 rfl 1 rfl ?_
          refine r_goto 72 dX12_spanOf_68 (by decide) ?_
          exact r_sub [2, 3, 4, 6, 7, 8, 0] (lv2 := [(0, .ref (G.1 130)), (1, .int a1), (2, .int a2), (4, .int s1.2.1), (5, .int s1.2.2.1), (6, .int s1.2.2.2), (8, .int y4)]) rfl (hJ72 s1.2.1 s1.2.2.1 s1.2.2.2 y4 y3)
  · refine r_iload_n 104 dX12_spanOf_103 rfl 1 rfl rfl ?_
    refine r_iload 106 dX12_spanOf_104 rfl 2 rfl ?_
    refine r_icmp_le 114 109 dX12_spanOf_106 (by decide) rfl ?_ ?_
    · refine r_iload_n 115 dX12_spanOf_114 rfl 0 rfl rfl ?_
      refine r_if_ne 122 118 dX12_spanOf_115 (by decide) rfl ?_ ?_
      · refine r_iload 124 dX12_spanOf_122 rfl 2 rfl ?_
        exact r_iret dX12_spanOf_124 rfl z_ki
      · refine r_iload_n 119 dX12_spanOf_118 rfl 1 rfl rfl ?_
        refine r_goto 124 dX12_spanOf_119 (by decide) ?_
        exact r_iret dX12_spanOf_124 rfl z_ki
    · refine r_bipush 111 dX12_spanOf_109 rfl zcb_m4 ?_
      refine r_goto 124 dX12_spanOf_111 (by decide) ?_
      exact r_iret dX12_spanOf_124 rfl z_ki
-- X12_span
def f_X12_span (w : ZW) (a1 : Int32) (a2 : Int32) : Option (Int32) :=
  (f_X12_isPanel w a1).bind fun r1 : Int32 =>
  if r1 = 0 then
  some (-1 : Int32)
else
  (f_X12_in a2.toInt64 (0 : Int64) (1 : Int64)).bind fun r2 : Int32 =>
    if r2 = 0 then
    some (-1 : Int32)
  else
    (f_X12_spanOf w a1 a2).bind fun r3 : Int32 =>
      some r3
set_option maxHeartbeats 4000000 in
set_option maxRecDepth 100000 in
theorem c_X12_span (G : ZG) (l : Launch) (d : Nat) (hd : 3 ≤ d) (w : ZW) (a1 : Int32) (a2 : Int32) : ∀ o, f_X12_span w a1 a2 = some o → zM G l d yX12_span cX12_span 3 (some .int) [.ref (G.1 130), .int a1, .int a2] w (some (.int o)) w := by
  intro o ho
  refine zM.of [(0, .ref (G.1 130)), (1, .int a1), (2, .int a2)] (by decide) (Nat.le_of_ble_eq_true rfl) rfl ?_
  refine (?_ : zR G l d "LoveLocksModel" cX12_span 3 (some .int) (some (.int o)) w (fun x => x = o) 0 [(0, .ref (G.1 130)), (1, .int a1), (2, .int a2)] [] w (f_X12_span w a1 a2)) o ho rfl
  rw [f_X12_span]
  refine r_aload_n 1 dX12_span_0 rfl 0 rfl rfl ?_
  refine r_iload_n 2 dX12_span_1 rfl 1 rfl rfl ?_
  refine r_callVi 5 1 (ko := 130) [.int a1] (st := []) dX12_span_2 rfl rfl (fun r h => c_X12_isPanel G l (d - 1) (by omega) w a1 r h) zl_130 (ce_130 G _) rfl rfl wc_X12_isPanel wz_X12 wl_X12_124 wi_X12_isPanel ws_X12_isPanel zd_X12_isPanel (by decide) (by omega) rfl (Nat.le_of_ble_eq_true rfl) (fun r1 => ?_)
  refine r_if_eq 27 8 dX12_span_5 (by decide) rfl ?_ ?_
  · refine r_iconst 28 dX12_span_27 rfl zci_m1 ?_
    exact r_iret dX12_span_28 rfl z_ki
  · refine r_iload_n 9 dX12_span_8 rfl 2 rfl rfl ?_
    refine r_i2l 10 dX12_span_9 rfl ?_
    refine r_lconst 11 dX12_span_10 rfl zcl_0 ?_
    refine r_lconst 12 dX12_span_11 rfl zcl_1 ?_
    refine r_callSi 15 3 [.long a2.toInt64, .long (0 : Int64), .long (1 : Int64)] (st := []) dX12_span_12 rfl rfl (fun r h => c_X12_in G l (d - 1) (by omega) w a2.toInt64 (0 : Int64) (1 : Int64) r h) wc_X12_in wz_X12 wl_X12_111 wst_X12_in zd_X12_in (by decide) (by omega) rfl (Nat.le_of_ble_eq_true rfl) (fun r2 => ?_)
    refine r_if_eq 27 18 dX12_span_15 (by decide) rfl ?_ ?_
    · refine r_iconst 28 dX12_span_27 rfl zci_m1 ?_
      exact r_iret dX12_span_28 rfl z_ki
    · refine r_aload_n 19 dX12_span_18 rfl 0 rfl rfl ?_
      refine r_iload_n 20 dX12_span_19 rfl 1 rfl rfl ?_
      refine r_iload_n 21 dX12_span_20 rfl 2 rfl rfl ?_
      refine r_callVi 24 2 (ko := 130) [.int a1, .int a2] (st := []) dX12_span_21 rfl rfl (fun r h => c_X12_spanOf G l (d - 1) (by omega) w a1 a2 r h) zl_130 (ce_130 G _) rfl rfl wc_X12_spanOf wz_X12 wl_X12_185 wi_X12_spanOf ws_X12_spanOf zd_X12_spanOf (by decide) (by omega) rfl (Nat.le_of_ble_eq_true rfl) (fun r3 => ?_)
      refine r_goto 28 dX12_span_24 (by decide) ?_
      exact r_iret dX12_span_28 rfl z_ki
-- X12_safe
def f_X12_safe (w : ZW) (a1 : Int32) (a2 : Int32) : Option (Int32) :=
  (f_X12_isPanel w a1).bind fun r1 : Int32 =>
  if r1 = 0 then
  some (-1 : Int32)
else
  (f_X12_in a2.toInt64 (1 : Int64) (999 : Int64)).bind fun r2 : Int32 =>
    if r2 = 0 then
    some (-1 : Int32)
  else
    (f_X12_spanOf w a1 (1 : Int32)).bind fun r3 : Int32 =>
      if 0 ≤ r3 then
      if z_in (((3 : Int32) * a1) + (1 : Int32)) 18 then
        if 0 < (lg_cmp (r3.toInt64 * a2.toInt64) ((w.1 131 (((3 : Int32) * a1) + (1 : Int32)).toNatClampNeg).toInt64)) then
        some (0 : Int32)
      else
        some (1 : Int32)
      else none
    else
      some (-4 : Int32)
set_option maxHeartbeats 4000000 in
set_option maxRecDepth 100000 in
theorem c_X12_safe (G : ZG) (l : Launch) (d : Nat) (hd : 3 ≤ d) (w : ZW) (a1 : Int32) (a2 : Int32) : ∀ o, f_X12_safe w a1 a2 = some o → zM G l d yX12_safe cX12_safe 4 (some .int) [.ref (G.1 130), .int a1, .int a2] w (some (.int o)) w := by
  intro o ho
  refine zM.of [(0, .ref (G.1 130)), (1, .int a1), (2, .int a2)] (by decide) (Nat.le_of_ble_eq_true rfl) rfl ?_
  refine (?_ : zR G l d "LoveLocksModel" cX12_safe 4 (some .int) (some (.int o)) w (fun x => x = o) 0 [(0, .ref (G.1 130)), (1, .int a1), (2, .int a2)] [] w (f_X12_safe w a1 a2)) o ho rfl
  rw [f_X12_safe]
  refine r_aload_n 1 dX12_safe_0 rfl 0 rfl rfl ?_
  refine r_iload_n 2 dX12_safe_1 rfl 1 rfl rfl ?_
  refine r_callVi 5 1 (ko := 130) [.int a1] (st := []) dX12_safe_2 rfl rfl (fun r h => c_X12_isPanel G l (d - 1) (by omega) w a1 r h) zl_130 (ce_130 G _) rfl rfl wc_X12_isPanel wz_X12 wl_X12_124 wi_X12_isPanel ws_X12_isPanel zd_X12_isPanel (by decide) (by omega) rfl (Nat.le_of_ble_eq_true rfl) (fun r1 => ?_)
  refine r_if_eq 20 8 dX12_safe_5 (by decide) rfl ?_ ?_
  · refine r_iconst 21 dX12_safe_20 rfl zci_m1 ?_
    exact r_iret dX12_safe_21 rfl z_ki
  · refine r_iload_n 9 dX12_safe_8 rfl 2 rfl rfl ?_
    refine r_i2l 10 dX12_safe_9 rfl ?_
    refine r_lconst 11 dX12_safe_10 rfl zcl_1 ?_
    refine r_ldc2 14 dX12_safe_11 rfl wk_X12_120 ?_
    refine r_callSi 17 3 [.long a2.toInt64, .long (1 : Int64), .long (999 : Int64)] (st := []) dX12_safe_14 rfl rfl (fun r h => c_X12_in G l (d - 1) (by omega) w a2.toInt64 (1 : Int64) (999 : Int64) r h) wc_X12_in wz_X12 wl_X12_111 wst_X12_in zd_X12_in (by decide) (by omega) rfl (Nat.le_of_ble_eq_true rfl) (fun r2 => ?_)
    refine r_if_ne 22 20 dX12_safe_17 (by decide) rfl ?_ ?_
    · refine r_aload_n 23 dX12_safe_22 rfl 0 rfl rfl ?_
      refine r_iload_n 24 dX12_safe_23 rfl 1 rfl rfl ?_
      refine r_iconst 25 dX12_safe_24 rfl zci_1 ?_
      refine r_callVi 28 2 (ko := 130) [.int a1, .int (1 : Int32)] (st := []) dX12_safe_25 rfl rfl (fun r h => c_X12_spanOf G l (d - 1) (by omega) w a1 (1 : Int32) r h) zl_130 (ce_130 G _) rfl rfl wc_X12_spanOf wz_X12 wl_X12_185 wi_X12_spanOf ws_X12_spanOf zd_X12_spanOf (by decide) (by omega) rfl (Nat.le_of_ble_eq_true rfl) (fun r3 => ?_)
      refine r_istore_n 29 [(3, .int r3), (0, .ref (G.1 130)), (1, .int a1), (2, .int a2)] dX12_safe_28 rfl rfl (by decide) rfl ?_
      refine r_iload_n 30 dX12_safe_29 rfl 0 rfl rfl ?_
      refine r_if_ge 38 33 dX12_safe_30 (by decide) rfl ?_ ?_
      · refine r_iload_n 39 dX12_safe_38 rfl 0 rfl rfl ?_
        refine r_i2l 40 dX12_safe_39 rfl ?_
        refine r_iload_n 41 dX12_safe_40 rfl 3 rfl rfl ?_
        refine r_i2l 42 dX12_safe_41 rfl ?_
        refine r_lmul 43 dX12_safe_42 rfl ?_
        refine r_aload_n 44 dX12_safe_43 rfl 1 rfl rfl ?_
        refine r_get 47 130 1 dX12_safe_44 rfl zl_130 (ce_130 G _) rfl inz12 (by decide) wf_X12_7 rfl ?_
        refine r_iconst 48 dX12_safe_47 rfl zci_3 ?_
        refine r_iload_n 49 dX12_safe_48 rfl 2 rfl rfl ?_
        refine r_imul 50 dX12_safe_49 rfl ?_
        refine r_iconst 51 dX12_safe_50 rfl zci_1 ?_
        refine r_iadd 52 dX12_safe_51 rfl ?_
        refine r_iald 53 131 18 dX12_safe_52 rfl zl_131 (ce_131 G _) ?_
        refine r_i2l 54 dX12_safe_53 rfl ?_
        refine r_lcmp 55 dX12_safe_54 rfl ?_
        refine r_if_gt 62 58 dX12_safe_55 (by decide) rfl ?_ ?_
        · refine r_iconst 63 dX12_safe_62 rfl zci_0 ?_
          exact r_iret dX12_safe_63 rfl z_ki
        · refine r_iconst 59 dX12_safe_58 rfl zci_1 ?_
          refine r_goto 63 dX12_safe_59 (by decide) ?_
          exact r_iret dX12_safe_63 rfl z_ki
      · refine r_bipush 35 dX12_safe_33 rfl zcb_m4 ?_
        refine r_goto 63 dX12_safe_35 (by decide) ?_
        exact r_iret dX12_safe_63 rfl z_ki
    · refine r_iconst 21 dX12_safe_20 rfl zci_m1 ?_
      exact r_iret dX12_safe_21 rfl z_ki
-- X12_type
def f_X12_type_L17 (a3 : Int32) (a1 : Int64) (w : ZW) (s2 : Int32) : Option ((Int32) ⊕ ((Int32 × ZW) ⊕ (Unit))) :=
  if a3 ≤ s2 then
  some (.inr (.inr ()))
else
  (f_X12_in ((a1 >>> (((8 : Int32) * s2).toInt64 &&& 63)) &&& (255 : Int64)) (32 : Int64) (126 : Int64)).bind fun r4 : Int32 =>
    if r4 = 0 then
    some (.inr (.inl ((-1 : Int32), w)))
  else
    some (.inl (s2 + (1 : Int32)))
def f_X12_type_L73 (a1 : Int64) (s5 : Int32 × ZW) : Option ((Int32 × ZW) ⊕ (ZW)) :=
  if s5.1 < 0 then
  some (.inr s5.2)
else
  if z_in (s5.2.1 130 13) 40 then
    z_let (z_upI s5.2 140 (s5.2.1 130 13).toNatClampNeg (((a1 >>> (((8 : Int32) * s5.1).toInt64 &&& 63)) &&& (255 : Int64)).toInt32)) fun w7 =>
    z_let (z_upI w7 130 13 ((w7.1 130 13) + (1 : Int32))) fun w8 =>
    some (.inl (s5.1 + (-1 : Int32), w8))
  else none
def f_X12_type (w : ZW) (a1 : Int64) (a3 : Int32) : Option (Int32 × ZW) :=
  (f_X12_in a3.toInt64 (1 : Int64) (8 : Int64)).bind fun r1 : Int32 =>
  if r1 = 0 then
  some ((-1 : Int32), w)
else
  (z_iter (f_X12_type_L17 a3 a1 w) z_fuel (0 : Int32)).bind (Sum.elim (fun x : Int32 × ZW => some x) (fun q3 : Unit =>
    if ((w.1 130 13) + a3) ≤ (40 : Int32) then
    (z_iter (f_X12_type_L73 a1) z_fuel (a3 - (1 : Int32), w)).bind (fun q6 : ZW =>
      some (q6.1 130 13, q6))
  else
    some ((-3 : Int32), w)))
set_option maxHeartbeats 4000000 in
set_option maxRecDepth 100000 in
theorem c_X12_type (G : ZG) (l : Launch) (d : Nat) (hd : 2 ≤ d) (w : ZW) (a1 : Int64) (a3 : Int32) : ∀ o, f_X12_type w a1 a3 = some o → zM G l d yX12_type cX12_type 5 (some .int) [.ref (G.1 130), .long a1, .int a3] w (some (.int o.1)) o.2 := by
  intro o ho
  refine zM.of [(0, .ref (G.1 130)), (1, .long a1), (3, .int a3)] (by decide) (Nat.le_of_ble_eq_true rfl) rfl ?_
  refine (?_ : zR G l d "LoveLocksModel" cX12_type 5 (some .int) (some (.int o.1)) o.2 (fun x => x = o) 0 [(0, .ref (G.1 130)), (1, .long a1), (3, .int a3)] [] w (f_X12_type w a1 a3)) o ho rfl
  rw [f_X12_type]
  refine r_iload_n 1 dX12_type_0 rfl 2 rfl rfl ?_
  refine r_i2l 2 dX12_type_1 rfl ?_
  refine r_lconst 3 dX12_type_2 rfl zcl_1 ?_
  refine r_ldc2 6 dX12_type_3 rfl wk_X12_188 ?_
  refine r_callSi 9 3 [.long a3.toInt64, .long (1 : Int64), .long (8 : Int64)] (st := []) dX12_type_6 rfl rfl (fun r h => c_X12_in G l (d - 1) (by omega) w a3.toInt64 (1 : Int64) (8 : Int64) r h) wc_X12_in wz_X12 wl_X12_111 wst_X12_in zd_X12_in (by decide) (by omega) rfl (Nat.le_of_ble_eq_true rfl) (fun r1 => ?_)
  refine r_if_ne 14 12 dX12_type_9 (by decide) rfl ?_ ?_
  · refine r_iconst 15 dX12_type_14 rfl zci_0 ?_
    refine r_istore 17 [(4, .int (0 : Int32)), (0, .ref (G.1 130)), (1, .long a1), (3, .int a3)] dX12_type_15 rfl (by decide) rfl ?_
    refine r_loopR [1, 2, 3, 0] (fun s2 => [(0, .ref (G.1 130)), (1, .long a1), (3, .int a3), (4, .int s2)]) (fun s2 => w) (fun x => x = o) 54 (fun q3 => [(0, .ref (G.1 130)), (1, .long a1), (3, .int a3)]) (fun q3 => w) rfl rfl (fun s2 => ?_) (fun x y h1 h2 => by cases h1; exact h2) (fun q3 => ?_)
    · rw [f_X12_type_L17]
      refine r_iload 19 dX12_type_17 rfl 3 rfl ?_
      refine r_iload_n 20 dX12_type_19 rfl 2 rfl rfl ?_
      refine r_icmp_ge 54 23 dX12_type_20 (by decide) rfl ?_ ?_
      · exact r_leaf [0, 1, 2] (lv2 := [(0, .ref (G.1 130)), (1, .long a1), (3, .int a3)]) rfl (fun h => h)
      · refine r_lload_n 24 dX12_type_23 rfl 1 rfl rfl ?_
        refine r_bipush 26 dX12_type_24 rfl zcb_8 ?_
        refine r_iload 28 dX12_type_26 rfl 3 rfl ?_
        refine r_imul 29 dX12_type_28 rfl ?_
        refine r_lshr 30 dX12_type_29 rfl ?_
        refine r_ldc2 33 dX12_type_30 rfl wk_X12_190 ?_
        refine r_land 34 dX12_type_33 rfl ?_
        refine r_ldc2 37 dX12_type_34 rfl wk_X12_192 ?_
        refine r_ldc2 40 dX12_type_37 rfl wk_X12_194 ?_
        refine r_callSi 43 3 [.long ((a1 >>> (((8 : Int32) * s2).toInt64 &&& 63)) &&& (255 : Int64)), .long (32 : Int64), .long (126 : Int64)] (st := []) dX12_type_40 rfl rfl (fun r h => c_X12_in G l (d - 1) (by omega) w ((a1 >>> (((8 : Int32) * s2).toInt64 &&& 63)) &&& (255 : Int64)) (32 : Int64) (126 : Int64) r h) wc_X12_in wz_X12 wl_X12_111 wst_X12_in zd_X12_in (by decide) (by omega) rfl (Nat.le_of_ble_eq_true rfl) (fun r4 => ?_)
        refine r_if_ne 48 46 dX12_type_43 (by decide) rfl ?_ ?_
        · refine r_iinc 51 3 [(4, .int (s2 + (1 : Int32))), (0, .ref (G.1 130)), (1, .long a1), (3, .int a3)] dX12_type_48 rfl rfl zci_1 (by decide) rfl ?_
          refine r_goto 17 dX12_type_51 (by decide) ?_
          exact r_leaf [1, 2, 3, 0] (lv2 := [(0, .ref (G.1 130)), (1, .long a1), (3, .int a3), (4, .int (s2 + (1 : Int32)))]) rfl (fun h => h)
        · refine r_iconst 47 dX12_type_46 rfl zci_m1 ?_
          exact r_iret dX12_type_47 rfl z_kiw
    · refine r_aload_n 55 dX12_type_54 rfl 0 rfl rfl ?_
      refine r_get 58 130 13 dX12_type_55 rfl zl_130 (ce_130 G _) rfl inz12 (by decide) wf_X12_196 rfl ?_
      refine r_iload_n 59 dX12_type_58 rfl 2 rfl rfl ?_
      refine r_iadd 60 dX12_type_59 rfl ?_
      refine r_bipush 62 dX12_type_60 rfl zcb_40 ?_
      refine r_icmp_le 68 65 dX12_type_62 (by decide) rfl ?_ ?_
      · refine r_iload_n 69 dX12_type_68 rfl 2 rfl rfl ?_
        refine r_iconst 70 dX12_type_69 rfl zci_1 ?_
        refine r_isub 71 dX12_type_70 rfl ?_
        refine r_istore 73 [(4, .int (a3 - (1 : Int32))), (0, .ref (G.1 130)), (1, .long a1), (3, .int a3)] dX12_type_71 rfl (by decide) rfl ?_
        refine r_loopE [1, 2, 0] (fun s5 => [(0, .ref (G.1 130)), (1, .long a1), (4, .int s5.1)]) (fun s5 => s5.2) 115 (fun q6 => [(0, .ref (G.1 130))]) (fun q6 => q6) rfl rfl (fun s5 => ?_) (fun q6 => ?_)
        · rw [f_X12_type_L73]
          refine r_iload 75 dX12_type_73 rfl 2 rfl ?_
          refine r_if_lt 115 78 dX12_type_75 (by decide) rfl ?_ ?_
          · exact r_leaf [0] (lv2 := [(0, .ref (G.1 130))]) rfl (fun h => h)
          · refine r_aload_n 79 dX12_type_78 rfl 0 rfl rfl ?_
            refine r_get 82 130 12 dX12_type_79 rfl zl_130 (ce_130 G _) rfl inz12 (by decide) wf_X12_37 rfl ?_
            refine r_aload_n 83 dX12_type_82 rfl 0 rfl rfl ?_
            refine r_get 86 130 13 dX12_type_83 rfl zl_130 (ce_130 G _) rfl inz12 (by decide) wf_X12_196 rfl ?_
            refine r_lload_n 87 dX12_type_86 rfl 1 rfl rfl ?_
            refine r_bipush 89 dX12_type_87 rfl zcb_8 ?_
            refine r_iload 91 dX12_type_89 rfl 2 rfl ?_
            refine r_imul 92 dX12_type_91 rfl ?_
            refine r_lshr 93 dX12_type_92 rfl ?_
            refine r_ldc2 96 dX12_type_93 rfl wk_X12_190 ?_
            refine r_land 97 dX12_type_96 rfl ?_
            refine r_l2i 98 dX12_type_97 rfl ?_
            refine r_iast 99 140 40 dX12_type_98 rfl zl_140 (ce_140 G) ?_
            refine r_topw (fun w7 => ?_)
            refine r_aload_n 100 dX12_type_99 rfl 0 rfl rfl ?_
            refine r_dup 101 dX12_type_100 rfl rfl ?_
            refine r_get 104 130 13 dX12_type_101 rfl zl_130 (ce_130 G _) rfl inz12 (by decide) wf_X12_196 rfl ?_
            refine r_iconst 105 dX12_type_104 rfl zci_1 ?_
            refine r_iadd 106 dX12_type_105 rfl ?_
            refine r_puti 109 130 13 dX12_type_106 rfl zl_130 (ce_130 G _) rfl inz12 tyX12_ok nmX12 (by decide) wf_X12_196 rfl rfl (Nat.le_of_ble_eq_true rfl) rfl ?_
            refine r_topw (fun w8 => ?_)
            refine r_iinc 112 2 [(4, .int (s5.1 + (-1 : Int32))), (0, .ref (G.1 130)), (1, .long a1)] dX12_type_109 rfl rfl zci_m1 (by decide) rfl ?_
            refine r_goto 73 dX12_type_112 (by decide) ?_
            exact r_leaf [1, 2, 0] (lv2 := [(0, .ref (G.1 130)), (1, .long a1), (4, .int (s5.1 + (-1 : Int32)))]) rfl (fun h => h)
        · refine r_aload_n 116 dX12_type_115 rfl 0 rfl rfl ?_
          refine r_get 119 130 13 dX12_type_116 rfl zl_130 (ce_130 G _) rfl inz12 (by decide) wf_X12_196 rfl ?_
          exact r_iret dX12_type_119 rfl z_kiw
      · refine r_bipush 67 dX12_type_65 rfl zcb_m3 ?_
        exact r_iret dX12_type_67 rfl z_kiw
  · refine r_iconst 13 dX12_type_12 rfl zci_m1 ?_
    exact r_iret dX12_type_13 rfl z_kiw
-- X12_here
def f_X12_here_L0 (s1 : ZW) : Option ((ZW) ⊕ (ZW)) :=
  if (s1.1 130 13) ≤ (s1.1 130 14) then
  some (.inr s1)
else
  if z_in (s1.1 130 14) 40 then
    if (s1.1 140 (s1.1 130 14).toNatClampNeg) = (32 : Int32) then
    z_let (z_upI s1 130 14 ((s1.1 130 14) + (1 : Int32))) fun w3 =>
      some (.inl w3)
  else
    some (.inr s1)
  else none
def f_X12_here_J38 (w4 : ZW) : Option (Int32 × ZW) :=
  if (w4.1 130 13) ≤ (w4.1 130 14) then
  some ((0 : Int32), w4)
else
  if z_in (w4.1 130 14) 40 then
    some (w4.1 140 (w4.1 130 14).toNatClampNeg, w4)
  else none
def f_X12_here (w : ZW) : Option (Int32 × ZW) :=
  (z_iter (f_X12_here_L0) z_fuel w).bind (fun q2 : ZW =>
  f_X12_here_J38 q2)
set_option maxHeartbeats 4000000 in
set_option maxRecDepth 100000 in
theorem c_X12_here (G : ZG) (l : Launch) (d : Nat) (hd : 1 ≤ d) (w : ZW) : ∀ o, f_X12_here w = some o → zM G l d yX12_here cX12_here 1 (some .int) [.ref (G.1 130)] w (some (.int o.1)) o.2 := by
  intro o ho
  refine zM.of [(0, .ref (G.1 130))] (by decide) (Nat.le_of_ble_eq_true rfl) rfl ?_
  refine (?_ : zR G l d "LoveLocksModel" cX12_here 1 (some .int) (some (.int o.1)) o.2 (fun x => x = o) 0 [(0, .ref (G.1 130))] [] w (f_X12_here w)) o ho rfl
  rw [f_X12_here]
  have hJ38 : ∀ (w4 : ZW), zR G l d "LoveLocksModel" cX12_here 1 (some .int) (some (.int o.1)) o.2 (fun x => x = o) 38 [(0, .ref (G.1 130))] [] w4 (f_X12_here_J38 w4) := by
    intro w4
    rw [f_X12_here_J38]
    refine r_aload_n 39 dX12_here_38 rfl 0 rfl rfl ?_
    refine r_get 42 130 14 dX12_here_39 rfl zl_130 (ce_130 G _) rfl inz12 (by decide) wf_X12_199 rfl ?_
    refine r_aload_n 43 dX12_here_42 rfl 0 rfl rfl ?_
    refine r_get 46 130 13 dX12_here_43 rfl zl_130 (ce_130 G _) rfl inz12 (by decide) wf_X12_196 rfl ?_
    refine r_icmp_ge 61 49 dX12_here_46 (by decide) rfl ?_ ?_
    · refine r_iconst 62 dX12_here_61 rfl zci_0 ?_
      exact r_iret dX12_here_62 rfl z_kiw
    · refine r_aload_n 50 dX12_here_49 rfl 0 rfl rfl ?_
      refine r_get 53 130 12 dX12_here_50 rfl zl_130 (ce_130 G _) rfl inz12 (by decide) wf_X12_37 rfl ?_
      refine r_aload_n 54 dX12_here_53 rfl 0 rfl rfl ?_
      refine r_get 57 130 14 dX12_here_54 rfl zl_130 (ce_130 G _) rfl inz12 (by decide) wf_X12_199 rfl ?_
      refine r_iald 58 140 40 dX12_here_57 rfl zl_140 (ce_140 G _) ?_
      refine r_goto 62 dX12_here_58 (by decide) ?_
      exact r_iret dX12_here_62 rfl z_kiw
  refine r_loopE [0] (fun s1 => [(0, .ref (G.1 130))]) (fun s1 => s1) 38 (fun q2 => [(0, .ref (G.1 130))]) (fun q2 => q2) rfl rfl (fun s1 => ?_) (fun q2 => ?_)
  · rw [f_X12_here_L0]
    refine r_aload_n 1 dX12_here_0 rfl 0 rfl rfl ?_
    refine r_get 4 130 14 dX12_here_1 rfl zl_130 (ce_130 G _) rfl inz12 (by decide) wf_X12_199 rfl ?_
    refine r_aload_n 5 dX12_here_4 rfl 0 rfl rfl ?_
    refine r_get 8 130 13 dX12_here_5 rfl zl_130 (ce_130 G _) rfl inz12 (by decide) wf_X12_196 rfl ?_
    refine r_icmp_ge 38 11 dX12_here_8 (by decide) rfl ?_ ?_
    · exact r_leaf [0] (lv2 := [(0, .ref (G.1 130))]) rfl (fun h => h)
    · refine r_aload_n 12 dX12_here_11 rfl 0 rfl rfl ?_
      refine r_get 15 130 12 dX12_here_12 rfl zl_130 (ce_130 G _) rfl inz12 (by decide) wf_X12_37 rfl ?_
      refine r_aload_n 16 dX12_here_15 rfl 0 rfl rfl ?_
      refine r_get 19 130 14 dX12_here_16 rfl zl_130 (ce_130 G _) rfl inz12 (by decide) wf_X12_199 rfl ?_
      refine r_iald 20 140 40 dX12_here_19 rfl zl_140 (ce_140 G _) ?_
      refine r_bipush 22 dX12_here_20 rfl zcb_32 ?_
      refine r_icmp_ne 38 25 dX12_here_22 (by decide) rfl ?_ ?_
      · exact r_leaf [0] (lv2 := [(0, .ref (G.1 130))]) rfl (fun h => h)
      · refine r_aload_n 26 dX12_here_25 rfl 0 rfl rfl ?_
        refine r_dup 27 dX12_here_26 rfl rfl ?_
        refine r_get 30 130 14 dX12_here_27 rfl zl_130 (ce_130 G _) rfl inz12 (by decide) wf_X12_199 rfl ?_
        refine r_iconst 31 dX12_here_30 rfl zci_1 ?_
        refine r_iadd 32 dX12_here_31 rfl ?_
        refine r_puti 35 130 14 dX12_here_32 rfl zl_130 (ce_130 G _) rfl inz12 tyX12_ok nmX12 (by decide) wf_X12_199 rfl rfl (Nat.le_of_ble_eq_true rfl) rfl ?_
        refine r_topw (fun w3 => ?_)
        refine r_goto 0 dX12_here_35 (by decide) ?_
        exact r_leaf [0] (lv2 := [(0, .ref (G.1 130))]) rfl (fun h => h)
  · exact r_sub [0] (lv2 := [(0, .ref (G.1 130))]) rfl (hJ38 q2)
-- X12_name
def f_X12_name_J109 (a1 : Int32) (x3_24 : Int32) (x5_25 : Int32) (k26 : Int32) (w27 : ZW) : Option ((Int32 × Int32 × ZW) ⊕ (Int32 × ZW)) :=
  if k26 = 0 then
  some (.inl (x3_24, k26, w27))
else
  if z_in (a1 + x3_24) 12 then
    z_let (z_upI w27 146 (a1 + x3_24).toNatClampNeg x5_25) fun w28 =>
    z_let (z_upI w28 130 14 ((w28.1 130 14) + (1 : Int32))) fun w29 =>
    some (.inl (x3_24 + (1 : Int32), k26, w29))
  else none
def f_X12_name_J108 (a1 : Int32) (x3_21 : Int32) (x5_22 : Int32) (w23 : ZW) : Option ((Int32 × Int32 × ZW) ⊕ (Int32 × ZW)) :=
  f_X12_name_J109 a1 x3_21 x5_22 (0 : Int32) w23
def f_X12_name_J89 (a1 : Int32) (x3_15 : Int32) (x5_16 : Int32) (x6_17 : Int32) (k18 : Int32) (w19 : ZW) : Option ((Int32 × Int32 × ZW) ⊕ (Int32 × ZW)) :=
  if z_bo k18 then
  z_let (z_upI w19 130 15 k18) fun w20 =>
  if x6_17 = 0 then
  f_X12_name_J108 a1 x3_15 x5_16 w20
else
  if (w20.1 130 15) = 0 then
    f_X12_name_J109 a1 x3_15 x5_16 (1 : Int32) w20
  else
    f_X12_name_J108 a1 x3_15 x5_16 w20 else none
def f_X12_name_J58 (a1 : Int32) (x3_11 : Int32) (x5_12 : Int32) (k13 : Int32) (w14 : ZW) : Option ((Int32 × Int32 × ZW) ⊕ (Int32 × ZW)) :=
  if k13 = 0 then
  if x3_11 = 0 then
    f_X12_name_J89 a1 x3_11 x5_12 k13 (1 : Int32) w14
  else
    f_X12_name_J89 a1 x3_11 x5_12 k13 (0 : Int32) w14
else
  if x3_11 = (6 : Int32) then
    f_X12_name_J89 a1 x3_11 x5_12 k13 (1 : Int32) w14
  else
    f_X12_name_J89 a1 x3_11 x5_12 k13 (0 : Int32) w14
def f_X12_name_J53 (a1 : Int32) (x3_8 : Int32) (x5_9 : Int32) (w10 : ZW) : Option ((Int32 × Int32 × ZW) ⊕ (Int32 × ZW)) :=
  f_X12_name_J58 a1 x3_8 x5_9 (1 : Int32) w10
def f_X12_name_J57 (a1 : Int32) (x3_30 : Int32) (x5_31 : Int32) (w32 : ZW) : Option ((Int32 × Int32 × ZW) ⊕ (Int32 × ZW)) :=
  f_X12_name_J58 a1 x3_30 x5_31 (0 : Int32) w32
def f_X12_name_L16 (a2 : Int32) (a1 : Int32) (s4 : Int32 × Int32 × ZW) : Option ((Int32 × Int32 × ZW) ⊕ (Int32 × ZW)) :=
  if s4.2.1 = 0 then
  some (.inr (s4.1, s4.2.2))
else
  (f_X12_here s4.2.2).bind fun r6 : Int32 × ZW =>
    (f_X12_in r6.1.toInt64 (65 : Int64) (90 : Int64)).bind fun r7 : Int32 =>
    if r7 = 0 then
    if a2 = 0 then
      f_X12_name_J57 a1 s4.1 r6.1 r6.2
    else
      if r6.1 = (63 : Int32) then
        f_X12_name_J53 a1 s4.1 r6.1 r6.2
      else
        f_X12_name_J57 a1 s4.1 r6.1 r6.2
  else
    f_X12_name_J53 a1 s4.1 r6.1 r6.2
def f_X12_name_J14 (a2 : Int32) (a1 : Int32) (x3_1 : Int32) (k2 : Int32) (w3 : ZW) : Option (Int32 × ZW) :=
  (z_iter (f_X12_name_L16 a2 a1) z_fuel (x3_1, k2, w3)).bind (fun q5 : Int32 × ZW =>
  some (q5.1, q5.2))
def f_X12_name (w : ZW) (a1 : Int32) (a2 : Int32) : Option (Int32 × ZW) :=
  if (w.1 130 15) = 0 then
  f_X12_name_J14 a2 a1 (0 : Int32) (1 : Int32) w
else
  f_X12_name_J14 a2 a1 (0 : Int32) (0 : Int32) w
set_option maxHeartbeats 4000000 in
set_option maxRecDepth 100000 in
theorem c_X12_name (G : ZG) (l : Launch) (d : Nat) (hd : 2 ≤ d) (w : ZW) (a1 : Int32) (a2 : Int32) : ∀ o, f_X12_name w a1 a2 = some o → zM G l d yX12_name cX12_name 7 (some .int) [.ref (G.1 130), .int a1, .int a2] w (some (.int o.1)) o.2 := by
  intro o ho
  refine zM.of [(0, .ref (G.1 130)), (1, .int a1), (2, .int a2)] (by decide) (Nat.le_of_ble_eq_true rfl) rfl ?_
  refine (?_ : zR G l d "LoveLocksModel" cX12_name 7 (some .int) (some (.int o.1)) o.2 (fun x => x = o) 0 [(0, .ref (G.1 130)), (1, .int a1), (2, .int a2)] [] w (f_X12_name w a1 a2)) o ho rfl
  rw [f_X12_name]
  have hJ14 : ∀ (x3_1 : Int32) (k2 : Int32) (w3 : ZW), zR G l d "LoveLocksModel" cX12_name 7 (some .int) (some (.int o.1)) o.2 (fun x => x = o) 14 [(0, .ref (G.1 130)), (1, .int a1), (2, .int a2), (3, .int x3_1)] [.int k2] w3 (f_X12_name_J14 a2 a1 x3_1 k2 w3) := by
    intro x3_1 k2 w3
    rw [f_X12_name_J14]
    refine r_istore 16 [(4, .int k2), (0, .ref (G.1 130)), (1, .int a1), (2, .int a2), (3, .int x3_1)] dX12_name_14 rfl (by decide) rfl ?_
    refine r_loopE [1, 2, 3, 4, 0] (fun s4 => [(0, .ref (G.1 130)), (1, .int a1), (2, .int a2), (3, .int s4.1), (4, .int s4.2.1)]) (fun s4 => s4.2.2) 142 (fun q5 => [(3, .int q5.1)]) (fun q5 => q5.2) rfl rfl (fun s4 => ?_) (fun q5 => ?_)
    · rw [f_X12_name_L16]
      have hJ109 : ∀ (x3_24 : Int32) (x5_25 : Int32) (k26 : Int32) (w27 : ZW), zR G l d "LoveLocksModel" cX12_name 7 (some .int) (some (.int o.1)) o.2 (Sum.elim (fun s4 => zA G l d "LoveLocksModel" cX12_name 7 (some .int) (some (.int o.1)) o.2 16 [(0, .ref (G.1 130)), (1, .int a1), (2, .int a2), (3, .int s4.1), (4, .int s4.2.1)] [] s4.2.2) (fun q5 => zA G l d "LoveLocksModel" cX12_name 7 (some .int) (some (.int o.1)) o.2 142 [(3, .int q5.1)] [] q5.2)) 109 [(0, .ref (G.1 130)), (1, .int a1), (2, .int a2), (3, .int x3_24), (5, .int x5_25)] [.int k26] w27 (f_X12_name_J109 a1 x3_24 x5_25 k26 w27) := by
        intro x3_24 x5_25 k26 w27
        rw [f_X12_name_J109]
        refine r_istore 111 [(4, .int k26), (0, .ref (G.1 130)), (1, .int a1), (2, .int a2), (3, .int x3_24), (5, .int x5_25)] dX12_name_109 rfl (by decide) rfl ?_
        refine r_iload 113 dX12_name_111 rfl 0 rfl ?_
        refine r_if_eq 139 116 dX12_name_113 (by decide) rfl ?_ ?_
        · refine r_goto 16 dX12_name_139 (by decide) ?_
          exact r_leaf [1, 2, 3, 4, 0] (lv2 := [(0, .ref (G.1 130)), (1, .int a1), (2, .int a2), (3, .int x3_24), (4, .int k26)]) rfl (fun h => h)
        · refine r_aload_n 117 dX12_name_116 rfl 1 rfl rfl ?_
          refine r_get 120 130 22 dX12_name_117 rfl zl_130 (ce_130 G _) rfl inz12 (by decide) wf_X12_55 rfl ?_
          refine r_iload_n 121 dX12_name_120 rfl 2 rfl rfl ?_
          refine r_iload_n 122 dX12_name_121 rfl 4 rfl rfl ?_
          refine r_iadd 123 dX12_name_122 rfl ?_
          refine r_iload 125 dX12_name_123 rfl 5 rfl ?_
          refine r_iast 126 146 12 dX12_name_125 rfl zl_146 (ce_146 G) ?_
          refine r_topw (fun w28 => ?_)
          refine r_iinc 129 4 [(3, .int (x3_24 + (1 : Int32))), (4, .int k26), (0, .ref (G.1 130)), (1, .int a1), (2, .int a2), (5, .int x5_25)] dX12_name_126 rfl rfl zci_1 (by decide) rfl ?_
          refine r_aload_n 130 dX12_name_129 rfl 2 rfl rfl ?_
          refine r_dup 131 dX12_name_130 rfl rfl ?_
          refine r_get 134 130 14 dX12_name_131 rfl zl_130 (ce_130 G _) rfl inz12 (by decide) wf_X12_199 rfl ?_
          refine r_iconst 135 dX12_name_134 rfl zci_1 ?_
          refine r_iadd 136 dX12_name_135 rfl ?_
          refine r_puti 139 130 14 dX12_name_136 rfl zl_130 (ce_130 G _) rfl inz12 tyX12_ok nmX12 (by decide) wf_X12_199 rfl rfl (Nat.le_of_ble_eq_true rfl) rfl ?_
          refine r_topw (fun w29 => ?_)
          refine r_goto 16 dX12_name_139 (by decide) ?_
          exact r_leaf [2, 3, 4, 0, 1] (lv2 := [(0, .ref (G.1 130)), (1, .int a1), (2, .int a2), (3, .int (x3_24 + (1 : Int32))), (4, .int k26)]) rfl (fun h => h)
      have hJ108 : ∀ (x3_21 : Int32) (x5_22 : Int32) (w23 : ZW), zR G l d "LoveLocksModel" cX12_name 7 (some .int) (some (.int o.1)) o.2 (Sum.elim (fun s4 => zA G l d "LoveLocksModel" cX12_name 7 (some .int) (some (.int o.1)) o.2 16 [(0, .ref (G.1 130)), (1, .int a1), (2, .int a2), (3, .int s4.1), (4, .int s4.2.1)] [] s4.2.2) (fun q5 => zA G l d "LoveLocksModel" cX12_name 7 (some .int) (some (.int o.1)) o.2 142 [(3, .int q5.1)] [] q5.2)) 108 [(0, .ref (G.1 130)), (1, .int a1), (2, .int a2), (3, .int x3_21), (5, .int x5_22)] [] w23 (f_X12_name_J108 a1 x3_21 x5_22 w23) := by
        intro x3_21 x5_22 w23
        rw [f_X12_name_J108]
        refine r_iconst 109 dX12_name_108 rfl zci_0 ?_
        exact r_sub [0, 1, 2, 3, 4] (lv2 := [(0, .ref (G.1 130)), (1, .int a1), (2, .int a2), (3, .int x3_21), (5, .int x5_22)]) rfl (hJ109 x3_21 x5_22 (0 : Int32) w23)
      have hJ89 : ∀ (x3_15 : Int32) (x5_16 : Int32) (x6_17 : Int32) (k18 : Int32) (w19 : ZW), zR G l d "LoveLocksModel" cX12_name 7 (some .int) (some (.int o.1)) o.2 (Sum.elim (fun s4 => zA G l d "LoveLocksModel" cX12_name 7 (some .int) (some (.int o.1)) o.2 16 [(0, .ref (G.1 130)), (1, .int a1), (2, .int a2), (3, .int s4.1), (4, .int s4.2.1)] [] s4.2.2) (fun q5 => zA G l d "LoveLocksModel" cX12_name 7 (some .int) (some (.int o.1)) o.2 142 [(3, .int q5.1)] [] q5.2)) 89 [(0, .ref (G.1 130)), (1, .int a1), (2, .int a2), (3, .int x3_15), (5, .int x5_16), (6, .int x6_17)] [.int k18, .ref (G.1 130)] w19 (f_X12_name_J89 a1 x3_15 x5_16 x6_17 k18 w19) := by
        intro x3_15 x5_16 x6_17 k18 w19
        rw [f_X12_name_J89]
        refine r_gd (fun hz => ?_)
        refine r_putz 92 130 15 dX12_name_89 rfl zl_130 (ce_130 G _) rfl inz12 tyX12_ok nmX12 (by decide) wf_X12_202 rfl rfl (z_bo_n hz) (z_bo_f hz) (Nat.le_of_ble_eq_true rfl) rfl ?_
        refine r_topw (fun w20 => ?_)
        refine r_iload 94 dX12_name_92 rfl 5 rfl ?_
        refine r_if_eq 108 97 dX12_name_94 (by decide) rfl ?_ ?_
        · exact r_sub [0, 1, 2, 3, 4] (lv2 := [(0, .ref (G.1 130)), (1, .int a1), (2, .int a2), (3, .int x3_15), (5, .int x5_16)]) rfl (hJ108 x3_15 x5_16 w20)
        · refine r_aload_n 98 dX12_name_97 rfl 0 rfl rfl ?_
          refine r_get 101 130 15 dX12_name_98 rfl zl_130 (ce_130 G _) rfl inz12 (by decide) wf_X12_202 rfl ?_
          refine r_if_ne 108 104 dX12_name_101 (by decide) rfl ?_ ?_
          · exact r_sub [0, 1, 2, 3, 4] (lv2 := [(0, .ref (G.1 130)), (1, .int a1), (2, .int a2), (3, .int x3_15), (5, .int x5_16)]) rfl (hJ108 x3_15 x5_16 w20)
          · refine r_iconst 105 dX12_name_104 rfl zci_1 ?_
            refine r_goto 109 dX12_name_105 (by decide) ?_
            exact r_sub [0, 1, 2, 3, 4] (lv2 := [(0, .ref (G.1 130)), (1, .int a1), (2, .int a2), (3, .int x3_15), (5, .int x5_16)]) rfl (hJ109 x3_15 x5_16 (1 : Int32) w20)
      have hJ58 : ∀ (x3_11 : Int32) (x5_12 : Int32) (k13 : Int32) (w14 : ZW), zR G l d "LoveLocksModel" cX12_name 7 (some .int) (some (.int o.1)) o.2 (Sum.elim (fun s4 => zA G l d "LoveLocksModel" cX12_name 7 (some .int) (some (.int o.1)) o.2 16 [(0, .ref (G.1 130)), (1, .int a1), (2, .int a2), (3, .int s4.1), (4, .int s4.2.1)] [] s4.2.2) (fun q5 => zA G l d "LoveLocksModel" cX12_name 7 (some .int) (some (.int o.1)) o.2 142 [(3, .int q5.1)] [] q5.2)) 58 [(0, .ref (G.1 130)), (1, .int a1), (2, .int a2), (3, .int x3_11), (5, .int x5_12)] [.int k13] w14 (f_X12_name_J58 a1 x3_11 x5_12 k13 w14) := by
        intro x3_11 x5_12 k13 w14
        rw [f_X12_name_J58]
        refine r_istore 60 [(6, .int k13), (0, .ref (G.1 130)), (1, .int a1), (2, .int a2), (3, .int x3_11), (5, .int x5_12)] dX12_name_58 rfl (by decide) rfl ?_
        refine r_aload_n 61 dX12_name_60 rfl 1 rfl rfl ?_
        refine r_iload 63 dX12_name_61 rfl 0 rfl ?_
        refine r_if_eq 80 66 dX12_name_63 (by decide) rfl ?_ ?_
        · refine r_iload_n 81 dX12_name_80 rfl 4 rfl rfl ?_
          refine r_if_ne 88 84 dX12_name_81 (by decide) rfl ?_ ?_
          · refine r_iconst 89 dX12_name_88 rfl zci_0 ?_
            exact r_sub [1, 2, 3, 4, 5, 0] (lv2 := [(0, .ref (G.1 130)), (1, .int a1), (2, .int a2), (3, .int x3_11), (5, .int x5_12), (6, .int k13)]) rfl (hJ89 x3_11 x5_12 k13 (0 : Int32) w14)
          · refine r_iconst 85 dX12_name_84 rfl zci_1 ?_
            refine r_goto 89 dX12_name_85 (by decide) ?_
            exact r_sub [1, 2, 3, 4, 5, 0] (lv2 := [(0, .ref (G.1 130)), (1, .int a1), (2, .int a2), (3, .int x3_11), (5, .int x5_12), (6, .int k13)]) rfl (hJ89 x3_11 x5_12 k13 (1 : Int32) w14)
        · refine r_iload_n 67 dX12_name_66 rfl 4 rfl rfl ?_
          refine r_bipush 69 dX12_name_67 rfl zcb_6 ?_
          refine r_icmp_ne 76 72 dX12_name_69 (by decide) rfl ?_ ?_
          · refine r_iconst 77 dX12_name_76 rfl zci_0 ?_
            refine r_goto 89 dX12_name_77 (by decide) ?_
            exact r_sub [1, 2, 3, 4, 5, 0] (lv2 := [(0, .ref (G.1 130)), (1, .int a1), (2, .int a2), (3, .int x3_11), (5, .int x5_12), (6, .int k13)]) rfl (hJ89 x3_11 x5_12 k13 (0 : Int32) w14)
          · refine r_iconst 73 dX12_name_72 rfl zci_1 ?_
            refine r_goto 89 dX12_name_73 (by decide) ?_
            exact r_sub [1, 2, 3, 4, 5, 0] (lv2 := [(0, .ref (G.1 130)), (1, .int a1), (2, .int a2), (3, .int x3_11), (5, .int x5_12), (6, .int k13)]) rfl (hJ89 x3_11 x5_12 k13 (1 : Int32) w14)
      have hJ53 : ∀ (x3_8 : Int32) (x5_9 : Int32) (w10 : ZW), zR G l d "LoveLocksModel" cX12_name 7 (some .int) (some (.int o.1)) o.2 (Sum.elim (fun s4 => zA G l d "LoveLocksModel" cX12_name 7 (some .int) (some (.int o.1)) o.2 16 [(0, .ref (G.1 130)), (1, .int a1), (2, .int a2), (3, .int s4.1), (4, .int s4.2.1)] [] s4.2.2) (fun q5 => zA G l d "LoveLocksModel" cX12_name 7 (some .int) (some (.int o.1)) o.2 142 [(3, .int q5.1)] [] q5.2)) 53 [(0, .ref (G.1 130)), (1, .int a1), (2, .int a2), (3, .int x3_8), (5, .int x5_9)] [] w10 (f_X12_name_J53 a1 x3_8 x5_9 w10) := by
        intro x3_8 x5_9 w10
        rw [f_X12_name_J53]
        refine r_iconst 54 dX12_name_53 rfl zci_1 ?_
        refine r_goto 58 dX12_name_54 (by decide) ?_
        exact r_sub [0, 1, 2, 3, 4] (lv2 := [(0, .ref (G.1 130)), (1, .int a1), (2, .int a2), (3, .int x3_8), (5, .int x5_9)]) rfl (hJ58 x3_8 x5_9 (1 : Int32) w10)
      have hJ57 : ∀ (x3_30 : Int32) (x5_31 : Int32) (w32 : ZW), zR G l d "LoveLocksModel" cX12_name 7 (some .int) (some (.int o.1)) o.2 (Sum.elim (fun s4 => zA G l d "LoveLocksModel" cX12_name 7 (some .int) (some (.int o.1)) o.2 16 [(0, .ref (G.1 130)), (1, .int a1), (2, .int a2), (3, .int s4.1), (4, .int s4.2.1)] [] s4.2.2) (fun q5 => zA G l d "LoveLocksModel" cX12_name 7 (some .int) (some (.int o.1)) o.2 142 [(3, .int q5.1)] [] q5.2)) 57 [(0, .ref (G.1 130)), (1, .int a1), (2, .int a2), (3, .int x3_30), (5, .int x5_31)] [] w32 (f_X12_name_J57 a1 x3_30 x5_31 w32) := by
        intro x3_30 x5_31 w32
        rw [f_X12_name_J57]
        refine r_iconst 58 dX12_name_57 rfl zci_0 ?_
        exact r_sub [0, 1, 2, 3, 4] (lv2 := [(0, .ref (G.1 130)), (1, .int a1), (2, .int a2), (3, .int x3_30), (5, .int x5_31)]) rfl (hJ58 x3_30 x5_31 (0 : Int32) w32)
      refine r_iload 18 dX12_name_16 rfl 4 rfl ?_
      refine r_if_eq 142 21 dX12_name_18 (by decide) rfl ?_ ?_
      · exact r_leaf [3] (lv2 := [(3, .int s4.1)]) rfl (fun h => h)
      · refine r_aload_n 22 dX12_name_21 rfl 0 rfl rfl ?_
        refine r_callViw 25 0 (ko := 130) [] (st := []) dX12_name_22 rfl rfl (fun r h => c_X12_here G l (d - 1) (by omega) s4.2.2 r h) zl_130 (ce_130 G _) rfl rfl wc_X12_here wz_X12 wl_X12_206 wi_X12_here ws_X12_here zd_X12_here (by decide) (by omega) rfl (Nat.le_of_ble_eq_true rfl) (fun r6 => ?_)
        refine r_istore 27 [(5, .int r6.1), (0, .ref (G.1 130)), (1, .int a1), (2, .int a2), (3, .int s4.1), (4, .int s4.2.1)] dX12_name_25 rfl (by decide) rfl ?_
        refine r_iload 29 dX12_name_27 rfl 0 rfl ?_
        refine r_i2l 30 dX12_name_29 rfl ?_
        refine r_ldc2 33 dX12_name_30 rfl wk_X12_209 ?_
        refine r_ldc2 36 dX12_name_33 rfl wk_X12_211 ?_
        refine r_callSi 39 3 [.long r6.1.toInt64, .long (65 : Int64), .long (90 : Int64)] (st := []) dX12_name_36 rfl rfl (fun r h => c_X12_in G l (d - 1) (by omega) r6.2 r6.1.toInt64 (65 : Int64) (90 : Int64) r h) wc_X12_in wz_X12 wl_X12_111 wst_X12_in zd_X12_in (by decide) (by omega) rfl (Nat.le_of_ble_eq_true rfl) (fun r7 => ?_)
        refine r_if_ne 53 42 dX12_name_39 (by decide) rfl ?_ ?_
        · exact r_sub [1, 2, 3, 4, 0] (lv2 := [(0, .ref (G.1 130)), (1, .int a1), (2, .int a2), (3, .int s4.1), (5, .int r6.1)]) rfl (hJ53 s4.1 r6.1 r6.2)
        · refine r_iload_n 43 dX12_name_42 rfl 3 rfl rfl ?_
          refine r_if_eq 57 46 dX12_name_43 (by decide) rfl ?_ ?_
          · exact r_sub [1, 2, 3, 4, 0] (lv2 := [(0, .ref (G.1 130)), (1, .int a1), (2, .int a2), (3, .int s4.1), (5, .int r6.1)]) rfl (hJ57 s4.1 r6.1 r6.2)
          · refine r_iload 48 dX12_name_46 rfl 0 rfl ?_
            refine r_bipush 50 dX12_name_48 rfl zcb_63 ?_
            refine r_icmp_ne 57 53 dX12_name_50 (by decide) rfl ?_ ?_
            · exact r_sub [1, 2, 3, 4, 0] (lv2 := [(0, .ref (G.1 130)), (1, .int a1), (2, .int a2), (3, .int s4.1), (5, .int r6.1)]) rfl (hJ57 s4.1 r6.1 r6.2)
            · exact r_sub [1, 2, 3, 4, 0] (lv2 := [(0, .ref (G.1 130)), (1, .int a1), (2, .int a2), (3, .int s4.1), (5, .int r6.1)]) rfl (hJ53 s4.1 r6.1 r6.2)
    · refine r_iload_n 143 dX12_name_142 rfl 0 rfl rfl ?_
      exact r_iret dX12_name_143 rfl z_kiw
  refine r_iconst 1 dX12_name_0 rfl zci_0 ?_
  refine r_istore_n 2 [(3, .int (0 : Int32)), (0, .ref (G.1 130)), (1, .int a1), (2, .int a2)] dX12_name_1 rfl rfl (by decide) rfl ?_
  refine r_aload_n 3 dX12_name_2 rfl 1 rfl rfl ?_
  refine r_get 6 130 15 dX12_name_3 rfl zl_130 (ce_130 G _) rfl inz12 (by decide) wf_X12_202 rfl ?_
  refine r_if_ne 13 9 dX12_name_6 (by decide) rfl ?_ ?_
  · refine r_iconst 14 dX12_name_13 rfl zci_0 ?_
    exact r_sub [1, 2, 3, 0] (lv2 := [(0, .ref (G.1 130)), (1, .int a1), (2, .int a2), (3, .int (0 : Int32))]) rfl (hJ14 (0 : Int32) (0 : Int32) w)
  · refine r_iconst 10 dX12_name_9 rfl zci_1 ?_
    refine r_goto 14 dX12_name_10 (by decide) ?_
    exact r_sub [1, 2, 3, 0] (lv2 := [(0, .ref (G.1 130)), (1, .int a1), (2, .int a2), (3, .int (0 : Int32))]) rfl (hJ14 (0 : Int32) (1 : Int32) w)
-- X12_person
def f_X12_person_L74 (x1_6 : Int32) (s11 : Int32 × ZW) : Option ((Int32 × ZW) ⊕ (ZW)) :=
  if x1_6 ≤ s11.1 then
  some (.inr s11.2)
else
  if z_in s11.1 12 then
    if z_in (((6 : Int32) * (s11.2.1 130 16)) + s11.1) 48 then
    z_let (z_upI s11.2 141 (((6 : Int32) * (s11.2.1 130 16)) + s11.1).toNatClampNeg (s11.2.1 146 s11.1.toNatClampNeg)) fun w13 =>
    some (.inl (s11.1 + (1 : Int32), w13))
  else none
  else none
def f_X12_person_J37 (x1_6 : Int32) (k7 : Int32) (w8 : ZW) : Option (Int32 × ZW) :=
  if z_bo k7 then
  z_let (z_upI w8 130 15 k7) fun w9 =>
  z_let (z_upI w9 130 13 (0 : Int32)) fun w10 =>
  if (w10.1 130 15) = 0 then
  if (w10.1 130 16) = (8 : Int32) then
    some ((-3 : Int32), w10)
  else
    (z_iter (f_X12_person_L74 x1_6) z_fuel ((0 : Int32), w10)).bind (fun q12 : ZW =>
      if z_in (q12.1 130 16) 8 then
      z_let (z_upI q12 142 (q12.1 130 16).toNatClampNeg x1_6) fun w14 =>
      z_let (z_upI w14 130 16 ((w14.1 130 16) + (1 : Int32))) fun w15 =>
      some ((w15.1 130 16) - (1 : Int32), w15)
    else none)
else
  some ((-20 : Int32) - (w10.1 130 14), w10) else none
def f_X12_person_J32 (x1_4 : Int32) (w5 : ZW) : Option (Int32 × ZW) :=
  f_X12_person_J37 x1_4 (1 : Int32) w5
def f_X12_person (w : ZW) : Option (Int32 × ZW) :=
  z_let (z_upI w 130 14 (0 : Int32)) fun w1 =>
  z_let (z_upI w1 130 15 (0 : Int32)) fun w2 =>
  (f_X12_name w2 (0 : Int32) (0 : Int32)).bind fun r3 : Int32 × ZW =>
  if (r3.2.1 130 15) = 0 then
  (f_X12_here r3.2).bind fun r16 : Int32 × ZW =>
    if r16.1 = 0 then
    f_X12_person_J37 r3.1 (0 : Int32) r16.2
  else
    f_X12_person_J32 r3.1 r16.2
else
  f_X12_person_J32 r3.1 r3.2
set_option maxHeartbeats 4000000 in
set_option maxRecDepth 100000 in
theorem c_X12_person (G : ZG) (l : Launch) (d : Nat) (hd : 3 ≤ d) (w : ZW) : ∀ o, f_X12_person w = some o → zM G l d yX12_person cX12_person 3 (some .int) [.ref (G.1 130)] w (some (.int o.1)) o.2 := by
  intro o ho
  refine zM.of [(0, .ref (G.1 130))] (by decide) (Nat.le_of_ble_eq_true rfl) rfl ?_
  refine (?_ : zR G l d "LoveLocksModel" cX12_person 3 (some .int) (some (.int o.1)) o.2 (fun x => x = o) 0 [(0, .ref (G.1 130))] [] w (f_X12_person w)) o ho rfl
  rw [f_X12_person]
  have hJ37 : ∀ (x1_6 : Int32) (k7 : Int32) (w8 : ZW), zR G l d "LoveLocksModel" cX12_person 3 (some .int) (some (.int o.1)) o.2 (fun x => x = o) 37 [(0, .ref (G.1 130)), (1, .int x1_6)] [.int k7, .ref (G.1 130)] w8 (f_X12_person_J37 x1_6 k7 w8) := by
    intro x1_6 k7 w8
    rw [f_X12_person_J37]
    refine r_gd (fun hz => ?_)
    refine r_putz 40 130 15 dX12_person_37 rfl zl_130 (ce_130 G _) rfl inz12 tyX12_ok nmX12 (by decide) wf_X12_202 rfl rfl (z_bo_n hz) (z_bo_f hz) (Nat.le_of_ble_eq_true rfl) rfl ?_
    refine r_topw (fun w9 => ?_)
    refine r_aload_n 41 dX12_person_40 rfl 0 rfl rfl ?_
    refine r_iconst 42 dX12_person_41 rfl zci_0 ?_
    refine r_puti 45 130 13 dX12_person_42 rfl zl_130 (ce_130 G _) rfl inz12 tyX12_ok nmX12 (by decide) wf_X12_196 rfl rfl (Nat.le_of_ble_eq_true rfl) rfl ?_
    refine r_topw (fun w10 => ?_)
    refine r_aload_n 46 dX12_person_45 rfl 0 rfl rfl ?_
    refine r_get 49 130 15 dX12_person_46 rfl zl_130 (ce_130 G _) rfl inz12 (by decide) wf_X12_202 rfl ?_
    refine r_if_eq 60 52 dX12_person_49 (by decide) rfl ?_ ?_
    · refine r_aload_n 61 dX12_person_60 rfl 0 rfl rfl ?_
      refine r_get 64 130 16 dX12_person_61 rfl zl_130 (ce_130 G _) rfl inz12 (by decide) wf_X12_175 rfl ?_
      refine r_bipush 66 dX12_person_64 rfl zcb_8 ?_
      refine r_icmp_ne 72 69 dX12_person_66 (by decide) rfl ?_ ?_
      · refine r_iconst 73 dX12_person_72 rfl zci_0 ?_
        refine r_istore_n 74 [(2, .int (0 : Int32)), (0, .ref (G.1 130)), (1, .int x1_6)] dX12_person_73 rfl rfl (by decide) rfl ?_
        refine r_loopE [1, 2, 0] (fun s11 => [(0, .ref (G.1 130)), (1, .int x1_6), (2, .int s11.1)]) (fun s11 => s11.2) 105 (fun q12 => [(0, .ref (G.1 130)), (1, .int x1_6)]) (fun q12 => q12) rfl rfl (fun s11 => ?_) (fun q12 => ?_)
        · rw [f_X12_person_L74]
          refine r_iload_n 75 dX12_person_74 rfl 2 rfl rfl ?_
          refine r_iload_n 76 dX12_person_75 rfl 1 rfl rfl ?_
          refine r_icmp_ge 105 79 dX12_person_76 (by decide) rfl ?_ ?_
          · exact r_leaf [0, 1] (lv2 := [(0, .ref (G.1 130)), (1, .int x1_6)]) rfl (fun h => h)
          · refine r_aload_n 80 dX12_person_79 rfl 0 rfl rfl ?_
            refine r_get 83 130 17 dX12_person_80 rfl zl_130 (ce_130 G _) rfl inz12 (by decide) wf_X12_40 rfl ?_
            refine r_bipush 85 dX12_person_83 rfl zcb_6 ?_
            refine r_aload_n 86 dX12_person_85 rfl 0 rfl rfl ?_
            refine r_get 89 130 16 dX12_person_86 rfl zl_130 (ce_130 G _) rfl inz12 (by decide) wf_X12_175 rfl ?_
            refine r_imul 90 dX12_person_89 rfl ?_
            refine r_iload_n 91 dX12_person_90 rfl 2 rfl rfl ?_
            refine r_iadd 92 dX12_person_91 rfl ?_
            refine r_aload_n 93 dX12_person_92 rfl 0 rfl rfl ?_
            refine r_get 96 130 22 dX12_person_93 rfl zl_130 (ce_130 G _) rfl inz12 (by decide) wf_X12_55 rfl ?_
            refine r_iload_n 97 dX12_person_96 rfl 2 rfl rfl ?_
            refine r_iald 98 146 12 dX12_person_97 rfl zl_146 (ce_146 G _) ?_
            refine r_iast 99 141 48 dX12_person_98 rfl zl_141 (ce_141 G) ?_
            refine r_topw (fun w13 => ?_)
            refine r_iinc 102 2 [(2, .int (s11.1 + (1 : Int32))), (0, .ref (G.1 130)), (1, .int x1_6)] dX12_person_99 rfl rfl zci_1 (by decide) rfl ?_
            refine r_goto 74 dX12_person_102 (by decide) ?_
            exact r_leaf [1, 2, 0] (lv2 := [(0, .ref (G.1 130)), (1, .int x1_6), (2, .int (s11.1 + (1 : Int32)))]) rfl (fun h => h)
        · refine r_aload_n 106 dX12_person_105 rfl 0 rfl rfl ?_
          refine r_get 109 130 18 dX12_person_106 rfl zl_130 (ce_130 G _) rfl inz12 (by decide) wf_X12_43 rfl ?_
          refine r_aload_n 110 dX12_person_109 rfl 0 rfl rfl ?_
          refine r_get 113 130 16 dX12_person_110 rfl zl_130 (ce_130 G _) rfl inz12 (by decide) wf_X12_175 rfl ?_
          refine r_iload_n 114 dX12_person_113 rfl 1 rfl rfl ?_
          refine r_iast 115 142 8 dX12_person_114 rfl zl_142 (ce_142 G) ?_
          refine r_topw (fun w14 => ?_)
          refine r_aload_n 116 dX12_person_115 rfl 0 rfl rfl ?_
          refine r_dup 117 dX12_person_116 rfl rfl ?_
          refine r_get 120 130 16 dX12_person_117 rfl zl_130 (ce_130 G _) rfl inz12 (by decide) wf_X12_175 rfl ?_
          refine r_iconst 121 dX12_person_120 rfl zci_1 ?_
          refine r_iadd 122 dX12_person_121 rfl ?_
          refine r_puti 125 130 16 dX12_person_122 rfl zl_130 (ce_130 G _) rfl inz12 tyX12_ok nmX12 (by decide) wf_X12_175 rfl rfl (Nat.le_of_ble_eq_true rfl) rfl ?_
          refine r_topw (fun w15 => ?_)
          refine r_aload_n 126 dX12_person_125 rfl 0 rfl rfl ?_
          refine r_get 129 130 16 dX12_person_126 rfl zl_130 (ce_130 G _) rfl inz12 (by decide) wf_X12_175 rfl ?_
          refine r_iconst 130 dX12_person_129 rfl zci_1 ?_
          refine r_isub 131 dX12_person_130 rfl ?_
          exact r_iret dX12_person_131 rfl z_kiw
      · refine r_bipush 71 dX12_person_69 rfl zcb_m3 ?_
        exact r_iret dX12_person_71 rfl z_kiw
    · refine r_bipush 54 dX12_person_52 rfl zcb_m20 ?_
      refine r_aload_n 55 dX12_person_54 rfl 0 rfl rfl ?_
      refine r_get 58 130 14 dX12_person_55 rfl zl_130 (ce_130 G _) rfl inz12 (by decide) wf_X12_199 rfl ?_
      refine r_isub 59 dX12_person_58 rfl ?_
      exact r_iret dX12_person_59 rfl z_kiw
  have hJ32 : ∀ (x1_4 : Int32) (w5 : ZW), zR G l d "LoveLocksModel" cX12_person 3 (some .int) (some (.int o.1)) o.2 (fun x => x = o) 32 [(0, .ref (G.1 130)), (1, .int x1_4)] [.ref (G.1 130)] w5 (f_X12_person_J32 x1_4 w5) := by
    intro x1_4 w5
    rw [f_X12_person_J32]
    refine r_iconst 33 dX12_person_32 rfl zci_1 ?_
    refine r_goto 37 dX12_person_33 (by decide) ?_
    exact r_sub [0, 1] (lv2 := [(0, .ref (G.1 130)), (1, .int x1_4)]) rfl (hJ37 x1_4 (1 : Int32) w5)
  refine r_aload_n 1 dX12_person_0 rfl 0 rfl rfl ?_
  refine r_iconst 2 dX12_person_1 rfl zci_0 ?_
  refine r_puti 5 130 14 dX12_person_2 rfl zl_130 (ce_130 G _) rfl inz12 tyX12_ok nmX12 (by decide) wf_X12_199 rfl rfl (Nat.le_of_ble_eq_true rfl) rfl ?_
  refine r_topw (fun w1 => ?_)
  refine r_aload_n 6 dX12_person_5 rfl 0 rfl rfl ?_
  refine r_iconst 7 dX12_person_6 rfl zci_0 ?_
  refine r_putz 10 130 15 dX12_person_7 rfl zl_130 (ce_130 G _) rfl inz12 tyX12_ok nmX12 (by decide) wf_X12_202 rfl rfl rfl rfl (Nat.le_of_ble_eq_true rfl) rfl ?_
  refine r_topw (fun w2 => ?_)
  refine r_aload_n 11 dX12_person_10 rfl 0 rfl rfl ?_
  refine r_iconst 12 dX12_person_11 rfl zci_0 ?_
  refine r_iconst 13 dX12_person_12 rfl zci_0 ?_
  refine r_callViw 16 2 (ko := 130) [.int (0 : Int32), .int (0 : Int32)] (st := []) dX12_person_13 rfl rfl (fun r h => c_X12_name G l (d - 1) (by omega) w2 (0 : Int32) (0 : Int32) r h) zl_130 (ce_130 G _) rfl rfl wc_X12_name wz_X12 wl_X12_213 wi_X12_name ws_X12_name zd_X12_name (by decide) (by omega) rfl (Nat.le_of_ble_eq_true rfl) (fun r3 => ?_)
  refine r_istore_n 17 [(1, .int r3.1), (0, .ref (G.1 130))] dX12_person_16 rfl rfl (by decide) rfl ?_
  refine r_aload_n 18 dX12_person_17 rfl 1 rfl rfl ?_
  refine r_aload_n 19 dX12_person_18 rfl 1 rfl rfl ?_
  refine r_get 22 130 15 dX12_person_19 rfl zl_130 (ce_130 G _) rfl inz12 (by decide) wf_X12_202 rfl ?_
  refine r_if_ne 32 25 dX12_person_22 (by decide) rfl ?_ ?_
  · exact r_sub [1, 0] (lv2 := [(0, .ref (G.1 130)), (1, .int r3.1)]) rfl (hJ32 r3.1 r3.2)
  · refine r_aload_n 26 dX12_person_25 rfl 1 rfl rfl ?_
    refine r_callViw 29 0 (ko := 130) [] (st := [.ref (G.1 130)]) dX12_person_26 rfl rfl (fun r h => c_X12_here G l (d - 1) (by omega) r3.2 r h) zl_130 (ce_130 G _) rfl rfl wc_X12_here wz_X12 wl_X12_206 wi_X12_here ws_X12_here zd_X12_here (by decide) (by omega) rfl (Nat.le_of_ble_eq_true rfl) (fun r16 => ?_)
    refine r_if_eq 36 32 dX12_person_29 (by decide) rfl ?_ ?_
    · refine r_iconst 37 dX12_person_36 rfl zci_0 ?_
      exact r_sub [1, 0] (lv2 := [(0, .ref (G.1 130)), (1, .int r3.1)]) rfl (hJ37 r3.1 (0 : Int32) r16.2)
    · exact r_sub [1, 0] (lv2 := [(0, .ref (G.1 130)), (1, .int r3.1)]) rfl (hJ32 r3.1 r16.2)
-- X12_letters
def f_X12_letters_L149 (a1 : Int32) (s29 : Int32 × ZW) : Option ((Int32 × ZW) ⊕ (ZW)) :=
  if (12 : Int32) ≤ s29.1 then
  some (.inr s29.2)
else
  if z_in s29.1 12 then
    if z_in (((12 : Int32) * a1) + s29.1) 168 then
    z_let (z_upI s29.2 143 (((12 : Int32) * a1) + s29.1).toNatClampNeg (s29.2.1 146 s29.1.toNatClampNeg)) fun w31 =>
    some (.inl (s29.1 + (1 : Int32), w31))
  else none
  else none
def f_X12_letters_J146 (a1 : Int32) (x2_26 : Int32) (x3_27 : Int32) (w28 : ZW) : Option (Int32 × ZW) :=
  (z_iter (f_X12_letters_L149 a1) z_fuel ((0 : Int32), w28)).bind (fun q30 : ZW =>
  if z_in a1 14 then
  z_let (z_upI q30 144 a1.toNatClampNeg x2_26) fun w32 =>
  if z_in a1 14 then
  z_let (z_upI w32 145 a1.toNatClampNeg x3_27) fun w33 =>
  some (x2_26 + x3_27, w33)
else none
else none)
def f_X12_letters_J101 (a1 : Int32) (x2_20 : Int32) (x3_21 : Int32) (k22 : Int32) (w23 : ZW) : Option (Int32 × ZW) :=
  if z_bo k22 then
  z_let (z_upI w23 130 15 k22) fun w24 =>
  z_let (z_upI w24 130 13 (0 : Int32)) fun w25 =>
  if (w25.1 130 15) = 0 then
  if z_in a1 14 then
    if (w25.1 144 a1.toNatClampNeg) = 0 then
    (f_X12_count w25 (5 : Int32)).bind fun r34 : Int32 =>
      if r34 = (12 : Int32) then
      some ((-3 : Int32), w25)
    else
      f_X12_letters_J146 a1 x2_20 x3_21 w25
  else
    f_X12_letters_J146 a1 x2_20 x3_21 w25
  else none
else
  some ((-20 : Int32) - (w25.1 130 14), w25) else none
def f_X12_letters_J96 (a1 : Int32) (x2_17 : Int32) (x3_18 : Int32) (w19 : ZW) : Option (Int32 × ZW) :=
  f_X12_letters_J101 a1 x2_17 x3_18 (1 : Int32) w19
def f_X12_letters_J69 (a1 : Int32) (x2_11 : Int32) (k12 : Int32) (k13 : Int32) (w14 : ZW) : Option (Int32 × ZW) :=
  z_let (z_upI w14 130 14 (k13 + k12)) fun w15 =>
  (f_X12_name w15 (6 : Int32) (1 : Int32)).bind fun r16 : Int32 × ZW =>
  if (r16.2.1 130 15) = 0 then
  (f_X12_here r16.2).bind fun r35 : Int32 × ZW =>
    if r35.1 = 0 then
    f_X12_letters_J101 a1 x2_11 r16.1 (0 : Int32) r35.2
  else
    f_X12_letters_J96 a1 x2_11 r16.1 r35.2
else
  f_X12_letters_J96 a1 x2_11 r16.1 r16.2
def f_X12_letters_J49 (a1 : Int32) (x2_7 : Int32) (k8 : Int32) (w9 : ZW) : Option (Int32 × ZW) :=
  if z_bo k8 then
  z_let (z_upI w9 130 15 k8) fun w10 =>
  if (w10.1 130 15) = 0 then
  f_X12_letters_J69 a1 x2_7 (1 : Int32) (w10.1 130 14) w10
else
  f_X12_letters_J69 a1 x2_7 (0 : Int32) (w10.1 130 14) w10 else none
def f_X12_letters_J44 (a1 : Int32) (x2_5 : Int32) (w6 : ZW) : Option (Int32 × ZW) :=
  f_X12_letters_J49 a1 x2_5 (1 : Int32) w6
def f_X12_letters (w : ZW) (a1 : Int32) : Option (Int32 × ZW) :=
  (f_X12_isLock w a1).bind fun r1 : Int32 =>
  if r1 = 0 then
  some ((-1 : Int32), w)
else
  z_let (z_upI w 130 14 (0 : Int32)) fun w2 =>
    z_let (z_upI w2 130 15 (0 : Int32)) fun w3 =>
    (f_X12_name w3 (0 : Int32) (1 : Int32)).bind fun r4 : Int32 × ZW =>
    if (r4.2.1 130 15) = 0 then
    (f_X12_here r4.2).bind fun r36 : Int32 × ZW =>
      if r36.1 = (43 : Int32) then
      f_X12_letters_J49 a1 r4.1 (0 : Int32) r36.2
    else
      f_X12_letters_J44 a1 r4.1 r36.2
  else
    f_X12_letters_J44 a1 r4.1 r4.2
set_option maxHeartbeats 4000000 in
set_option maxRecDepth 100000 in
theorem c_X12_letters (G : ZG) (l : Launch) (d : Nat) (hd : 3 ≤ d) (w : ZW) (a1 : Int32) : ∀ o, f_X12_letters w a1 = some o → zM G l d yX12_letters cX12_letters 5 (some .int) [.ref (G.1 130), .int a1] w (some (.int o.1)) o.2 := by
  intro o ho
  refine zM.of [(0, .ref (G.1 130)), (1, .int a1)] (by decide) (Nat.le_of_ble_eq_true rfl) rfl ?_
  refine (?_ : zR G l d "LoveLocksModel" cX12_letters 5 (some .int) (some (.int o.1)) o.2 (fun x => x = o) 0 [(0, .ref (G.1 130)), (1, .int a1)] [] w (f_X12_letters w a1)) o ho rfl
  rw [f_X12_letters]
  have hJ146 : ∀ (x2_26 : Int32) (x3_27 : Int32) (w28 : ZW), zR G l d "LoveLocksModel" cX12_letters 5 (some .int) (some (.int o.1)) o.2 (fun x => x = o) 146 [(0, .ref (G.1 130)), (1, .int a1), (2, .int x2_26), (3, .int x3_27)] [] w28 (f_X12_letters_J146 a1 x2_26 x3_27 w28) := by
    intro x2_26 x3_27 w28
    rw [f_X12_letters_J146]
    refine r_iconst 147 dX12_letters_146 rfl zci_0 ?_
    refine r_istore 149 [(4, .int (0 : Int32)), (0, .ref (G.1 130)), (1, .int a1), (2, .int x2_26), (3, .int x3_27)] dX12_letters_147 rfl (by decide) rfl ?_
    refine r_loopE [1, 2, 3, 4, 0] (fun s29 => [(0, .ref (G.1 130)), (1, .int a1), (2, .int x2_26), (3, .int x3_27), (4, .int s29.1)]) (fun s29 => s29.2) 181 (fun q30 => [(0, .ref (G.1 130)), (1, .int a1), (2, .int x2_26), (3, .int x3_27)]) (fun q30 => q30) rfl rfl (fun s29 => ?_) (fun q30 => ?_)
    · rw [f_X12_letters_L149]
      refine r_iload 151 dX12_letters_149 rfl 4 rfl ?_
      refine r_bipush 153 dX12_letters_151 rfl zcb_12 ?_
      refine r_icmp_ge 181 156 dX12_letters_153 (by decide) rfl ?_ ?_
      · exact r_leaf [0, 1, 2, 3] (lv2 := [(0, .ref (G.1 130)), (1, .int a1), (2, .int x2_26), (3, .int x3_27)]) rfl (fun h => h)
      · refine r_aload_n 157 dX12_letters_156 rfl 0 rfl rfl ?_
        refine r_get 160 130 19 dX12_letters_157 rfl zl_130 (ce_130 G _) rfl inz12 (by decide) wf_X12_46 rfl ?_
        refine r_bipush 162 dX12_letters_160 rfl zcb_12 ?_
        refine r_iload_n 163 dX12_letters_162 rfl 1 rfl rfl ?_
        refine r_imul 164 dX12_letters_163 rfl ?_
        refine r_iload 166 dX12_letters_164 rfl 4 rfl ?_
        refine r_iadd 167 dX12_letters_166 rfl ?_
        refine r_aload_n 168 dX12_letters_167 rfl 0 rfl rfl ?_
        refine r_get 171 130 22 dX12_letters_168 rfl zl_130 (ce_130 G _) rfl inz12 (by decide) wf_X12_55 rfl ?_
        refine r_iload 173 dX12_letters_171 rfl 4 rfl ?_
        refine r_iald 174 146 12 dX12_letters_173 rfl zl_146 (ce_146 G _) ?_
        refine r_iast 175 143 168 dX12_letters_174 rfl zl_143 (ce_143 G) ?_
        refine r_topw (fun w31 => ?_)
        refine r_iinc 178 4 [(4, .int (s29.1 + (1 : Int32))), (0, .ref (G.1 130)), (1, .int a1), (2, .int x2_26), (3, .int x3_27)] dX12_letters_175 rfl rfl zci_1 (by decide) rfl ?_
        refine r_goto 149 dX12_letters_178 (by decide) ?_
        exact r_leaf [1, 2, 3, 4, 0] (lv2 := [(0, .ref (G.1 130)), (1, .int a1), (2, .int x2_26), (3, .int x3_27), (4, .int (s29.1 + (1 : Int32)))]) rfl (fun h => h)
    · refine r_aload_n 182 dX12_letters_181 rfl 0 rfl rfl ?_
      refine r_get 185 130 20 dX12_letters_182 rfl zl_130 (ce_130 G _) rfl inz12 (by decide) wf_X12_49 rfl ?_
      refine r_iload_n 186 dX12_letters_185 rfl 1 rfl rfl ?_
      refine r_iload_n 187 dX12_letters_186 rfl 2 rfl rfl ?_
      refine r_iast 188 144 14 dX12_letters_187 rfl zl_144 (ce_144 G) ?_
      refine r_topw (fun w32 => ?_)
      refine r_aload_n 189 dX12_letters_188 rfl 0 rfl rfl ?_
      refine r_get 192 130 21 dX12_letters_189 rfl zl_130 (ce_130 G _) rfl inz12 (by decide) wf_X12_52 rfl ?_
      refine r_iload_n 193 dX12_letters_192 rfl 1 rfl rfl ?_
      refine r_iload_n 194 dX12_letters_193 rfl 3 rfl rfl ?_
      refine r_iast 195 145 14 dX12_letters_194 rfl zl_145 (ce_145 G) ?_
      refine r_topw (fun w33 => ?_)
      refine r_iload_n 196 dX12_letters_195 rfl 2 rfl rfl ?_
      refine r_iload_n 197 dX12_letters_196 rfl 3 rfl rfl ?_
      refine r_iadd 198 dX12_letters_197 rfl ?_
      exact r_iret dX12_letters_198 rfl z_kiw
  have hJ101 : ∀ (x2_20 : Int32) (x3_21 : Int32) (k22 : Int32) (w23 : ZW), zR G l d "LoveLocksModel" cX12_letters 5 (some .int) (some (.int o.1)) o.2 (fun x => x = o) 101 [(0, .ref (G.1 130)), (1, .int a1), (2, .int x2_20), (3, .int x3_21)] [.int k22, .ref (G.1 130)] w23 (f_X12_letters_J101 a1 x2_20 x3_21 k22 w23) := by
    intro x2_20 x3_21 k22 w23
    rw [f_X12_letters_J101]
    refine r_gd (fun hz => ?_)
    refine r_putz 104 130 15 dX12_letters_101 rfl zl_130 (ce_130 G _) rfl inz12 tyX12_ok nmX12 (by decide) wf_X12_202 rfl rfl (z_bo_n hz) (z_bo_f hz) (Nat.le_of_ble_eq_true rfl) rfl ?_
    refine r_topw (fun w24 => ?_)
    refine r_aload_n 105 dX12_letters_104 rfl 0 rfl rfl ?_
    refine r_iconst 106 dX12_letters_105 rfl zci_0 ?_
    refine r_puti 109 130 13 dX12_letters_106 rfl zl_130 (ce_130 G _) rfl inz12 tyX12_ok nmX12 (by decide) wf_X12_196 rfl rfl (Nat.le_of_ble_eq_true rfl) rfl ?_
    refine r_topw (fun w25 => ?_)
    refine r_aload_n 110 dX12_letters_109 rfl 0 rfl rfl ?_
    refine r_get 113 130 15 dX12_letters_110 rfl zl_130 (ce_130 G _) rfl inz12 (by decide) wf_X12_202 rfl ?_
    refine r_if_eq 124 116 dX12_letters_113 (by decide) rfl ?_ ?_
    · refine r_aload_n 125 dX12_letters_124 rfl 0 rfl rfl ?_
      refine r_get 128 130 20 dX12_letters_125 rfl zl_130 (ce_130 G _) rfl inz12 (by decide) wf_X12_49 rfl ?_
      refine r_iload_n 129 dX12_letters_128 rfl 1 rfl rfl ?_
      refine r_iald 130 144 14 dX12_letters_129 rfl zl_144 (ce_144 G _) ?_
      refine r_if_ne 146 133 dX12_letters_130 (by decide) rfl ?_ ?_
      · exact r_sub [0, 1, 2, 3] (lv2 := [(0, .ref (G.1 130)), (1, .int a1), (2, .int x2_20), (3, .int x3_21)]) rfl (hJ146 x2_20 x3_21 w25)
      · refine r_aload_n 134 dX12_letters_133 rfl 0 rfl rfl ?_
        refine r_iconst 135 dX12_letters_134 rfl zci_5 ?_
        refine r_callVi 138 1 (ko := 130) [.int (5 : Int32)] (st := []) dX12_letters_135 rfl rfl (fun r h => c_X12_count G l (d - 1) (by omega) w25 (5 : Int32) r h) zl_130 (ce_130 G _) rfl rfl wc_X12_count wz_X12 wl_X12_217 wi_X12_count ws_X12_count zd_X12_count (by decide) (by omega) rfl (Nat.le_of_ble_eq_true rfl) (fun r34 => ?_)
        refine r_bipush 140 dX12_letters_138 rfl zcb_12 ?_
        refine r_icmp_ne 146 143 dX12_letters_140 (by decide) rfl ?_ ?_
        · exact r_sub [0, 1, 2, 3] (lv2 := [(0, .ref (G.1 130)), (1, .int a1), (2, .int x2_20), (3, .int x3_21)]) rfl (hJ146 x2_20 x3_21 w25)
        · refine r_bipush 145 dX12_letters_143 rfl zcb_m3 ?_
          exact r_iret dX12_letters_145 rfl z_kiw
    · refine r_bipush 118 dX12_letters_116 rfl zcb_m20 ?_
      refine r_aload_n 119 dX12_letters_118 rfl 0 rfl rfl ?_
      refine r_get 122 130 14 dX12_letters_119 rfl zl_130 (ce_130 G _) rfl inz12 (by decide) wf_X12_199 rfl ?_
      refine r_isub 123 dX12_letters_122 rfl ?_
      exact r_iret dX12_letters_123 rfl z_kiw
  have hJ96 : ∀ (x2_17 : Int32) (x3_18 : Int32) (w19 : ZW), zR G l d "LoveLocksModel" cX12_letters 5 (some .int) (some (.int o.1)) o.2 (fun x => x = o) 96 [(0, .ref (G.1 130)), (1, .int a1), (2, .int x2_17), (3, .int x3_18)] [.ref (G.1 130)] w19 (f_X12_letters_J96 a1 x2_17 x3_18 w19) := by
    intro x2_17 x3_18 w19
    rw [f_X12_letters_J96]
    refine r_iconst 97 dX12_letters_96 rfl zci_1 ?_
    refine r_goto 101 dX12_letters_97 (by decide) ?_
    exact r_sub [0, 1, 2, 3] (lv2 := [(0, .ref (G.1 130)), (1, .int a1), (2, .int x2_17), (3, .int x3_18)]) rfl (hJ101 x2_17 x3_18 (1 : Int32) w19)
  have hJ69 : ∀ (x2_11 : Int32) (k12 : Int32) (k13 : Int32) (w14 : ZW), zR G l d "LoveLocksModel" cX12_letters 5 (some .int) (some (.int o.1)) o.2 (fun x => x = o) 69 [(0, .ref (G.1 130)), (1, .int a1), (2, .int x2_11)] [.int k12, .int k13, .ref (G.1 130)] w14 (f_X12_letters_J69 a1 x2_11 k12 k13 w14) := by
    intro x2_11 k12 k13 w14
    rw [f_X12_letters_J69]
    refine r_iadd 70 dX12_letters_69 rfl ?_
    refine r_puti 73 130 14 dX12_letters_70 rfl zl_130 (ce_130 G _) rfl inz12 tyX12_ok nmX12 (by decide) wf_X12_199 rfl rfl (Nat.le_of_ble_eq_true rfl) rfl ?_
    refine r_topw (fun w15 => ?_)
    refine r_aload_n 74 dX12_letters_73 rfl 0 rfl rfl ?_
    refine r_bipush 76 dX12_letters_74 rfl zcb_6 ?_
    refine r_iconst 77 dX12_letters_76 rfl zci_1 ?_
    refine r_callViw 80 2 (ko := 130) [.int (6 : Int32), .int (1 : Int32)] (st := []) dX12_letters_77 rfl rfl (fun r h => c_X12_name G l (d - 1) (by omega) w15 (6 : Int32) (1 : Int32) r h) zl_130 (ce_130 G _) rfl rfl wc_X12_name wz_X12 wl_X12_213 wi_X12_name ws_X12_name zd_X12_name (by decide) (by omega) rfl (Nat.le_of_ble_eq_true rfl) (fun r16 => ?_)
    refine r_istore_n 81 [(3, .int r16.1), (0, .ref (G.1 130)), (1, .int a1), (2, .int x2_11)] dX12_letters_80 rfl rfl (by decide) rfl ?_
    refine r_aload_n 82 dX12_letters_81 rfl 1 rfl rfl ?_
    refine r_aload_n 83 dX12_letters_82 rfl 1 rfl rfl ?_
    refine r_get 86 130 15 dX12_letters_83 rfl zl_130 (ce_130 G _) rfl inz12 (by decide) wf_X12_202 rfl ?_
    refine r_if_ne 96 89 dX12_letters_86 (by decide) rfl ?_ ?_
    · exact r_sub [1, 2, 3, 0] (lv2 := [(0, .ref (G.1 130)), (1, .int a1), (2, .int x2_11), (3, .int r16.1)]) rfl (hJ96 x2_11 r16.1 r16.2)
    · refine r_aload_n 90 dX12_letters_89 rfl 1 rfl rfl ?_
      refine r_callViw 93 0 (ko := 130) [] (st := [.ref (G.1 130)]) dX12_letters_90 rfl rfl (fun r h => c_X12_here G l (d - 1) (by omega) r16.2 r h) zl_130 (ce_130 G _) rfl rfl wc_X12_here wz_X12 wl_X12_206 wi_X12_here ws_X12_here zd_X12_here (by decide) (by omega) rfl (Nat.le_of_ble_eq_true rfl) (fun r35 => ?_)
      refine r_if_eq 100 96 dX12_letters_93 (by decide) rfl ?_ ?_
      · refine r_iconst 101 dX12_letters_100 rfl zci_0 ?_
        exact r_sub [1, 2, 3, 0] (lv2 := [(0, .ref (G.1 130)), (1, .int a1), (2, .int x2_11), (3, .int r16.1)]) rfl (hJ101 x2_11 r16.1 (0 : Int32) r35.2)
      · exact r_sub [1, 2, 3, 0] (lv2 := [(0, .ref (G.1 130)), (1, .int a1), (2, .int x2_11), (3, .int r16.1)]) rfl (hJ96 x2_11 r16.1 r35.2)
  have hJ49 : ∀ (x2_7 : Int32) (k8 : Int32) (w9 : ZW), zR G l d "LoveLocksModel" cX12_letters 5 (some .int) (some (.int o.1)) o.2 (fun x => x = o) 49 [(0, .ref (G.1 130)), (1, .int a1), (2, .int x2_7)] [.int k8, .ref (G.1 130)] w9 (f_X12_letters_J49 a1 x2_7 k8 w9) := by
    intro x2_7 k8 w9
    rw [f_X12_letters_J49]
    refine r_gd (fun hz => ?_)
    refine r_putz 52 130 15 dX12_letters_49 rfl zl_130 (ce_130 G _) rfl inz12 tyX12_ok nmX12 (by decide) wf_X12_202 rfl rfl (z_bo_n hz) (z_bo_f hz) (Nat.le_of_ble_eq_true rfl) rfl ?_
    refine r_topw (fun w10 => ?_)
    refine r_aload_n 53 dX12_letters_52 rfl 0 rfl rfl ?_
    refine r_dup 54 dX12_letters_53 rfl rfl ?_
    refine r_get 57 130 14 dX12_letters_54 rfl zl_130 (ce_130 G _) rfl inz12 (by decide) wf_X12_199 rfl ?_
    refine r_aload_n 58 dX12_letters_57 rfl 0 rfl rfl ?_
    refine r_get 61 130 15 dX12_letters_58 rfl zl_130 (ce_130 G _) rfl inz12 (by decide) wf_X12_202 rfl ?_
    refine r_if_eq 68 64 dX12_letters_61 (by decide) rfl ?_ ?_
    · refine r_iconst 69 dX12_letters_68 rfl zci_1 ?_
      exact r_sub [0, 1, 2] (lv2 := [(0, .ref (G.1 130)), (1, .int a1), (2, .int x2_7)]) rfl (hJ69 x2_7 (1 : Int32) (w10.1 130 14) w10)
    · refine r_iconst 65 dX12_letters_64 rfl zci_0 ?_
      refine r_goto 69 dX12_letters_65 (by decide) ?_
      exact r_sub [0, 1, 2] (lv2 := [(0, .ref (G.1 130)), (1, .int a1), (2, .int x2_7)]) rfl (hJ69 x2_7 (0 : Int32) (w10.1 130 14) w10)
  have hJ44 : ∀ (x2_5 : Int32) (w6 : ZW), zR G l d "LoveLocksModel" cX12_letters 5 (some .int) (some (.int o.1)) o.2 (fun x => x = o) 44 [(0, .ref (G.1 130)), (1, .int a1), (2, .int x2_5)] [.ref (G.1 130)] w6 (f_X12_letters_J44 a1 x2_5 w6) := by
    intro x2_5 w6
    rw [f_X12_letters_J44]
    refine r_iconst 45 dX12_letters_44 rfl zci_1 ?_
    refine r_goto 49 dX12_letters_45 (by decide) ?_
    exact r_sub [0, 1, 2] (lv2 := [(0, .ref (G.1 130)), (1, .int a1), (2, .int x2_5)]) rfl (hJ49 x2_5 (1 : Int32) w6)
  refine r_aload_n 1 dX12_letters_0 rfl 0 rfl rfl ?_
  refine r_iload_n 2 dX12_letters_1 rfl 1 rfl rfl ?_
  refine r_callVi 5 1 (ko := 130) [.int a1] (st := []) dX12_letters_2 rfl rfl (fun r h => c_X12_isLock G l (d - 1) (by omega) w a1 r h) zl_130 (ce_130 G _) rfl rfl wc_X12_isLock wz_X12 wl_X12_138 wi_X12_isLock ws_X12_isLock zd_X12_isLock (by decide) (by omega) rfl (Nat.le_of_ble_eq_true rfl) (fun r1 => ?_)
  refine r_if_ne 10 8 dX12_letters_5 (by decide) rfl ?_ ?_
  · refine r_aload_n 11 dX12_letters_10 rfl 0 rfl rfl ?_
    refine r_iconst 12 dX12_letters_11 rfl zci_0 ?_
    refine r_puti 15 130 14 dX12_letters_12 rfl zl_130 (ce_130 G _) rfl inz12 tyX12_ok nmX12 (by decide) wf_X12_199 rfl rfl (Nat.le_of_ble_eq_true rfl) rfl ?_
    refine r_topw (fun w2 => ?_)
    refine r_aload_n 16 dX12_letters_15 rfl 0 rfl rfl ?_
    refine r_iconst 17 dX12_letters_16 rfl zci_0 ?_
    refine r_putz 20 130 15 dX12_letters_17 rfl zl_130 (ce_130 G _) rfl inz12 tyX12_ok nmX12 (by decide) wf_X12_202 rfl rfl rfl rfl (Nat.le_of_ble_eq_true rfl) rfl ?_
    refine r_topw (fun w3 => ?_)
    refine r_aload_n 21 dX12_letters_20 rfl 0 rfl rfl ?_
    refine r_iconst 22 dX12_letters_21 rfl zci_0 ?_
    refine r_iconst 23 dX12_letters_22 rfl zci_1 ?_
    refine r_callViw 26 2 (ko := 130) [.int (0 : Int32), .int (1 : Int32)] (st := []) dX12_letters_23 rfl rfl (fun r h => c_X12_name G l (d - 1) (by omega) w3 (0 : Int32) (1 : Int32) r h) zl_130 (ce_130 G _) rfl rfl wc_X12_name wz_X12 wl_X12_213 wi_X12_name ws_X12_name zd_X12_name (by decide) (by omega) rfl (Nat.le_of_ble_eq_true rfl) (fun r4 => ?_)
    refine r_istore_n 27 [(2, .int r4.1), (0, .ref (G.1 130)), (1, .int a1)] dX12_letters_26 rfl rfl (by decide) rfl ?_
    refine r_aload_n 28 dX12_letters_27 rfl 1 rfl rfl ?_
    refine r_aload_n 29 dX12_letters_28 rfl 1 rfl rfl ?_
    refine r_get 32 130 15 dX12_letters_29 rfl zl_130 (ce_130 G _) rfl inz12 (by decide) wf_X12_202 rfl ?_
    refine r_if_ne 44 35 dX12_letters_32 (by decide) rfl ?_ ?_
    · exact r_sub [1, 2, 0] (lv2 := [(0, .ref (G.1 130)), (1, .int a1), (2, .int r4.1)]) rfl (hJ44 r4.1 r4.2)
    · refine r_aload_n 36 dX12_letters_35 rfl 1 rfl rfl ?_
      refine r_callViw 39 0 (ko := 130) [] (st := [.ref (G.1 130)]) dX12_letters_36 rfl rfl (fun r h => c_X12_here G l (d - 1) (by omega) r4.2 r h) zl_130 (ce_130 G _) rfl rfl wc_X12_here wz_X12 wl_X12_206 wi_X12_here ws_X12_here zd_X12_here (by decide) (by omega) rfl (Nat.le_of_ble_eq_true rfl) (fun r36 => ?_)
      refine r_bipush 41 dX12_letters_39 rfl zcb_43 ?_
      refine r_icmp_eq 48 44 dX12_letters_41 (by decide) rfl ?_ ?_
      · refine r_iconst 49 dX12_letters_48 rfl zci_0 ?_
        exact r_sub [1, 2, 0] (lv2 := [(0, .ref (G.1 130)), (1, .int a1), (2, .int r4.1)]) rfl (hJ49 r4.1 (0 : Int32) r36.2)
      · exact r_sub [1, 2, 0] (lv2 := [(0, .ref (G.1 130)), (1, .int a1), (2, .int r4.1)]) rfl (hJ44 r4.1 r36.2)
  · refine r_iconst 9 dX12_letters_8 rfl zci_m1 ?_
    exact r_iret dX12_letters_9 rfl z_kiw
-- X12_fits
def f_X12_fits_L21 (a3 : Int32) (a1 : Int32) (a2 : Int32) (w : ZW) (a4 : Int32) (s2 : Int32 × Int32) : Option ((Int32 × Int32) ⊕ (Int32)) :=
  if a3 ≤ s2.2 then
  some (.inr s2.1)
else
  if s2.1 = 0 then
    some (.inr s2.1)
  else
    if z_in ((((12 : Int32) * a1) + a2) + s2.2) 168 then
      z_let (w.1 143 ((((12 : Int32) * a1) + a2) + s2.2).toNatClampNeg) fun y4 =>
      if y4 = (63 : Int32) then
      some (.inl ((1 : Int32), s2.2 + (1 : Int32)))
    else
      if z_in (((6 : Int32) * a4) + s2.2) 48 then
        if y4 = (w.1 141 (((6 : Int32) * a4) + s2.2).toNatClampNeg) then
        some (.inl ((1 : Int32), s2.2 + (1 : Int32)))
      else
        some (.inl ((0 : Int32), s2.2 + (1 : Int32)))
      else none
    else none
def f_X12_fits_J16 (a3 : Int32) (a1 : Int32) (a2 : Int32) (w : ZW) (a4 : Int32) (k1 : Int32) : Option (Int32) :=
  (z_iter (f_X12_fits_L21 a3 a1 a2 w a4) z_fuel (k1, (0 : Int32))).bind (fun q3 : Int32 =>
  if z_bo q3 then some q3 else none)
def f_X12_fits (w : ZW) (a1 : Int32) (a2 : Int32) (a3 : Int32) (a4 : Int32) : Option (Int32) :=
  if z_in a4 8 then
  if (w.1 142 a4.toNatClampNeg) = a3 then
  f_X12_fits_J16 a3 a1 a2 w a4 (1 : Int32)
else
  f_X12_fits_J16 a3 a1 a2 w a4 (0 : Int32)
else none
set_option maxHeartbeats 4000000 in
set_option maxRecDepth 100000 in
theorem c_X12_fits (G : ZG) (l : Launch) (d : Nat) (hd : 1 ≤ d) (w : ZW) (a1 : Int32) (a2 : Int32) (a3 : Int32) (a4 : Int32) : ∀ o, f_X12_fits w a1 a2 a3 a4 = some o → zM G l d yX12_fits cX12_fits 8 (some .boolean) [.ref (G.1 130), .int a1, .int a2, .int a3, .int a4] w (some (.int o)) w := by
  intro o ho
  refine zM.of [(0, .ref (G.1 130)), (1, .int a1), (2, .int a2), (3, .int a3), (4, .int a4)] (by decide) (Nat.le_of_ble_eq_true rfl) rfl ?_
  refine (?_ : zR G l d "LoveLocksModel" cX12_fits 8 (some .boolean) (some (.int o)) w (fun x => x = o) 0 [(0, .ref (G.1 130)), (1, .int a1), (2, .int a2), (3, .int a3), (4, .int a4)] [] w (f_X12_fits w a1 a2 a3 a4)) o ho rfl
  rw [f_X12_fits]
  have hJ16 : ∀ (k1 : Int32), zR G l d "LoveLocksModel" cX12_fits 8 (some .boolean) (some (.int o)) w (fun x => x = o) 16 [(0, .ref (G.1 130)), (1, .int a1), (2, .int a2), (3, .int a3), (4, .int a4)] [.int k1] w (f_X12_fits_J16 a3 a1 a2 w a4 k1) := by
    intro k1
    rw [f_X12_fits_J16]
    refine r_istore 18 [(5, .int k1), (0, .ref (G.1 130)), (1, .int a1), (2, .int a2), (3, .int a3), (4, .int a4)] dX12_fits_16 rfl (by decide) rfl ?_
    refine r_iconst 19 dX12_fits_18 rfl zci_0 ?_
    refine r_istore 21 [(6, .int (0 : Int32)), (5, .int k1), (0, .ref (G.1 130)), (1, .int a1), (2, .int a2), (3, .int a3), (4, .int a4)] dX12_fits_19 rfl (by decide) rfl ?_
    refine r_loopE [2, 3, 4, 5, 6, 1, 0] (fun s2 => [(0, .ref (G.1 130)), (1, .int a1), (2, .int a2), (3, .int a3), (4, .int a4), (5, .int s2.1), (6, .int s2.2)]) (fun s2 => w) 86 (fun q3 => [(5, .int q3)]) (fun q3 => w) rfl rfl (fun s2 => ?_) (fun q3 => ?_)
    · rw [f_X12_fits_L21]
      refine r_iload 23 dX12_fits_21 rfl 6 rfl ?_
      refine r_iload_n 24 dX12_fits_23 rfl 3 rfl rfl ?_
      refine r_icmp_ge 86 27 dX12_fits_24 (by decide) rfl ?_ ?_
      · exact r_leaf [5] (lv2 := [(5, .int s2.1)]) rfl (fun h => h)
      · refine r_iload 29 dX12_fits_27 rfl 5 rfl ?_
        refine r_if_eq 86 32 dX12_fits_29 (by decide) rfl ?_ ?_
        · exact r_leaf [5] (lv2 := [(5, .int s2.1)]) rfl (fun h => h)
        · refine r_aload_n 33 dX12_fits_32 rfl 0 rfl rfl ?_
          refine r_get 36 130 19 dX12_fits_33 rfl zl_130 (ce_130 G _) rfl inz12 (by decide) wf_X12_46 rfl ?_
          refine r_bipush 38 dX12_fits_36 rfl zcb_12 ?_
          refine r_iload_n 39 dX12_fits_38 rfl 1 rfl rfl ?_
          refine r_imul 40 dX12_fits_39 rfl ?_
          refine r_iload_n 41 dX12_fits_40 rfl 2 rfl rfl ?_
          refine r_iadd 42 dX12_fits_41 rfl ?_
          refine r_iload 44 dX12_fits_42 rfl 6 rfl ?_
          refine r_iadd 45 dX12_fits_44 rfl ?_
          refine r_iald 46 143 168 dX12_fits_45 rfl zl_143 (ce_143 G _) ?_
          refine r_topi (fun y4 => ?_)
          refine r_istore 48 [(7, .int y4), (0, .ref (G.1 130)), (1, .int a1), (2, .int a2), (3, .int a3), (4, .int a4), (5, .int s2.1), (6, .int s2.2)] dX12_fits_46 rfl (by decide) rfl ?_
          refine r_iload 50 dX12_fits_48 rfl 0 rfl ?_
          refine r_bipush 52 dX12_fits_50 rfl zcb_63 ?_
          refine r_icmp_eq 73 55 dX12_fits_52 (by decide) rfl ?_ ?_
          · refine r_iconst 74 dX12_fits_73 rfl zci_1 ?_
            refine r_goto 78 dX12_fits_74 (by decide) ?_
            refine r_istore 80 [(5, .int (1 : Int32)), (7, .int y4), (0, .ref (G.1 130)), (1, .int a1), (2, .int a2), (3, .int a3), (4, .int a4), (6, .int s2.2)] dX12_fits_78 rfl (by decide) rfl ?_
            refine r_iinc 83 7 [(6, .int (s2.2 + (1 : Int32))), (5, .int (1 : Int32)), (7, .int y4), (0, .ref (G.1 130)), (1, .int a1), (2, .int a2), (3, .int a3), (4, .int a4)] dX12_fits_80 rfl rfl zci_1 (by decide) rfl ?_
            refine r_goto 21 dX12_fits_83 (by decide) ?_
            exact r_leaf [3, 4, 5, 6, 7, 1, 0] (lv2 := [(0, .ref (G.1 130)), (1, .int a1), (2, .int a2), (3, .int a3), (4, .int a4), (5, .int (1 : Int32)), (6, .int (s2.2 + (1 : Int32)))]) rfl (fun h => h)
          · refine r_iload 57 dX12_fits_55 rfl 0 rfl ?_
            refine r_aload_n 58 dX12_fits_57 rfl 1 rfl rfl ?_
            refine r_get 61 130 17 dX12_fits_58 rfl zl_130 (ce_130 G _) rfl inz12 (by decide) wf_X12_40 rfl ?_
            refine r_bipush 63 dX12_fits_61 rfl zcb_6 ?_
            refine r_iload 65 dX12_fits_63 rfl 5 rfl ?_
            refine r_imul 66 dX12_fits_65 rfl ?_
            refine r_iload 68 dX12_fits_66 rfl 7 rfl ?_
            refine r_iadd 69 dX12_fits_68 rfl ?_
            refine r_iald 70 141 48 dX12_fits_69 rfl zl_141 (ce_141 G _) ?_
            refine r_icmp_ne 77 73 dX12_fits_70 (by decide) rfl ?_ ?_
            · refine r_iconst 78 dX12_fits_77 rfl zci_0 ?_
              refine r_istore 80 [(5, .int (0 : Int32)), (7, .int y4), (0, .ref (G.1 130)), (1, .int a1), (2, .int a2), (3, .int a3), (4, .int a4), (6, .int s2.2)] dX12_fits_78 rfl (by decide) rfl ?_
              refine r_iinc 83 7 [(6, .int (s2.2 + (1 : Int32))), (5, .int (0 : Int32)), (7, .int y4), (0, .ref (G.1 130)), (1, .int a1), (2, .int a2), (3, .int a3), (4, .int a4)] dX12_fits_80 rfl rfl zci_1 (by decide) rfl ?_
              refine r_goto 21 dX12_fits_83 (by decide) ?_
              exact r_leaf [3, 4, 5, 6, 7, 1, 0] (lv2 := [(0, .ref (G.1 130)), (1, .int a1), (2, .int a2), (3, .int a3), (4, .int a4), (5, .int (0 : Int32)), (6, .int (s2.2 + (1 : Int32)))]) rfl (fun h => h)
            · refine r_iconst 74 dX12_fits_73 rfl zci_1 ?_
              refine r_goto 78 dX12_fits_74 (by decide) ?_
              refine r_istore 80 [(5, .int (1 : Int32)), (7, .int y4), (0, .ref (G.1 130)), (1, .int a1), (2, .int a2), (3, .int a3), (4, .int a4), (6, .int s2.2)] dX12_fits_78 rfl (by decide) rfl ?_
              refine r_iinc 83 7 [(6, .int (s2.2 + (1 : Int32))), (5, .int (1 : Int32)), (7, .int y4), (0, .ref (G.1 130)), (1, .int a1), (2, .int a2), (3, .int a3), (4, .int a4)] dX12_fits_80 rfl rfl zci_1 (by decide) rfl ?_
              refine r_goto 21 dX12_fits_83 (by decide) ?_
              exact r_leaf [3, 4, 5, 6, 7, 1, 0] (lv2 := [(0, .ref (G.1 130)), (1, .int a1), (2, .int a2), (3, .int a3), (4, .int a4), (5, .int (1 : Int32)), (6, .int (s2.2 + (1 : Int32)))]) rfl (fun h => h)
    · refine r_iload 88 dX12_fits_86 rfl 0 rfl ?_
      refine r_gd (fun hz => ?_)
      exact r_zret dX12_fits_88 rfl (z_bo_n hz) z_ki
  refine r_aload_n 1 dX12_fits_0 rfl 0 rfl rfl ?_
  refine r_get 4 130 18 dX12_fits_1 rfl zl_130 (ce_130 G _) rfl inz12 (by decide) wf_X12_43 rfl ?_
  refine r_iload 6 dX12_fits_4 rfl 4 rfl ?_
  refine r_iald 7 142 8 dX12_fits_6 rfl zl_142 (ce_142 G _) ?_
  refine r_iload_n 8 dX12_fits_7 rfl 3 rfl rfl ?_
  refine r_icmp_ne 15 11 dX12_fits_8 (by decide) rfl ?_ ?_
  · refine r_iconst 16 dX12_fits_15 rfl zci_0 ?_
    exact r_sub [0, 1, 2, 3, 4] (lv2 := [(0, .ref (G.1 130)), (1, .int a1), (2, .int a2), (3, .int a3), (4, .int a4)]) rfl (hJ16 (0 : Int32))
  · refine r_iconst 12 dX12_fits_11 rfl zci_1 ?_
    refine r_goto 16 dX12_fits_12 (by decide) ?_
    exact r_sub [0, 1, 2, 3, 4] (lv2 := [(0, .ref (G.1 130)), (1, .int a1), (2, .int a2), (3, .int a3), (4, .int a4)]) rfl (hJ16 (1 : Int32))
-- X12_isRead
def f_X12_isRead_J38 (a1 : Int32) (w : ZW) (a3 : Int32) (a2 : Int32) (k2 : Int32) : Option (Int32) :=
  if k2 = 0 then
  if z_in a1 14 then
    (f_X12_fits w a1 (0 : Int32) (w.1 144 a1.toNatClampNeg) a3).bind fun r3 : Int32 =>
    if r3 = 0 then
    some (0 : Int32)
  else
    if z_in a1 14 then
      (f_X12_fits w a1 (6 : Int32) (w.1 145 a1.toNatClampNeg) a2).bind fun r4 : Int32 =>
      if r4 = 0 then
      some (0 : Int32)
    else
      some (1 : Int32)
    else none
  else none
else
  some (1 : Int32)
def f_X12_isRead_J37 (a1 : Int32) (w : ZW) (a3 : Int32) (a2 : Int32) : Option (Int32) :=
  f_X12_isRead_J38 a1 w a3 a2 (0 : Int32)
def f_X12_isRead (w : ZW) (a1 : Int32) (a2 : Int32) (a3 : Int32) : Option (Int32) :=
  if z_in a1 14 then
  (f_X12_fits w a1 (0 : Int32) (w.1 144 a1.toNatClampNeg) a2).bind fun r1 : Int32 =>
  if r1 = 0 then
  f_X12_isRead_J37 a1 w a3 a2
else
  if z_in a1 14 then
    (f_X12_fits w a1 (6 : Int32) (w.1 145 a1.toNatClampNeg) a3).bind fun r5 : Int32 =>
    if r5 = 0 then
    f_X12_isRead_J37 a1 w a3 a2
  else
    f_X12_isRead_J38 a1 w a3 a2 (1 : Int32)
  else none
else none
set_option maxHeartbeats 4000000 in
set_option maxRecDepth 100000 in
theorem c_X12_isRead (G : ZG) (l : Launch) (d : Nat) (hd : 2 ≤ d) (w : ZW) (a1 : Int32) (a2 : Int32) (a3 : Int32) : ∀ o, f_X12_isRead w a1 a2 a3 = some o → zM G l d yX12_isRead cX12_isRead 5 (some .boolean) [.ref (G.1 130), .int a1, .int a2, .int a3] w (some (.int o)) w := by
  intro o ho
  refine zM.of [(0, .ref (G.1 130)), (1, .int a1), (2, .int a2), (3, .int a3)] (by decide) (Nat.le_of_ble_eq_true rfl) rfl ?_
  refine (?_ : zR G l d "LoveLocksModel" cX12_isRead 5 (some .boolean) (some (.int o)) w (fun x => x = o) 0 [(0, .ref (G.1 130)), (1, .int a1), (2, .int a2), (3, .int a3)] [] w (f_X12_isRead w a1 a2 a3)) o ho rfl
  rw [f_X12_isRead]
  have hJ38 : ∀ (k2 : Int32), zR G l d "LoveLocksModel" cX12_isRead 5 (some .boolean) (some (.int o)) w (fun x => x = o) 38 [(0, .ref (G.1 130)), (1, .int a1), (2, .int a2), (3, .int a3)] [.int k2] w (f_X12_isRead_J38 a1 w a3 a2 k2) := by
    intro k2
    rw [f_X12_isRead_J38]
    refine r_istore 40 [(4, .int k2), (0, .ref (G.1 130)), (1, .int a1), (2, .int a2), (3, .int a3)] dX12_isRead_38 rfl (by decide) rfl ?_
    refine r_iload 42 dX12_isRead_40 rfl 0 rfl ?_
    refine r_if_ne 78 45 dX12_isRead_42 (by decide) rfl ?_ ?_
    · refine r_iconst 79 dX12_isRead_78 rfl zci_1 ?_
      refine r_goto 83 dX12_isRead_79 (by decide) ?_
      exact r_zret dX12_isRead_83 rfl rfl z_ki
    · refine r_aload_n 46 dX12_isRead_45 rfl 1 rfl rfl ?_
      refine r_iload_n 47 dX12_isRead_46 rfl 2 rfl rfl ?_
      refine r_iconst 48 dX12_isRead_47 rfl zci_0 ?_
      refine r_aload_n 49 dX12_isRead_48 rfl 1 rfl rfl ?_
      refine r_get 52 130 20 dX12_isRead_49 rfl zl_130 (ce_130 G _) rfl inz12 (by decide) wf_X12_49 rfl ?_
      refine r_iload_n 53 dX12_isRead_52 rfl 2 rfl rfl ?_
      refine r_iald 54 144 14 dX12_isRead_53 rfl zl_144 (ce_144 G _) ?_
      refine r_iload_n 55 dX12_isRead_54 rfl 4 rfl rfl ?_
      refine r_callVi 58 4 (ko := 130) [.int a1, .int (0 : Int32), .int (w.1 144 a1.toNatClampNeg), .int a3] (st := []) dX12_isRead_55 rfl rfl (fun r h => c_X12_fits G l (d - 1) (by omega) w a1 (0 : Int32) (w.1 144 a1.toNatClampNeg) a3 r h) zl_130 (ce_130 G _) rfl rfl wc_X12_fits wz_X12 wl_X12_220 wi_X12_fits ws_X12_fits zd_X12_fits (by decide) (by omega) rfl (Nat.le_of_ble_eq_true rfl) (fun r3 => ?_)
      refine r_if_eq 82 61 dX12_isRead_58 (by decide) rfl ?_ ?_
      · refine r_iconst 83 dX12_isRead_82 rfl zci_0 ?_
        exact r_zret dX12_isRead_83 rfl rfl z_ki
      · refine r_aload_n 62 dX12_isRead_61 rfl 1 rfl rfl ?_
        refine r_iload_n 63 dX12_isRead_62 rfl 2 rfl rfl ?_
        refine r_bipush 65 dX12_isRead_63 rfl zcb_6 ?_
        refine r_aload_n 66 dX12_isRead_65 rfl 1 rfl rfl ?_
        refine r_get 69 130 21 dX12_isRead_66 rfl zl_130 (ce_130 G _) rfl inz12 (by decide) wf_X12_52 rfl ?_
        refine r_iload_n 70 dX12_isRead_69 rfl 2 rfl rfl ?_
        refine r_iald 71 145 14 dX12_isRead_70 rfl zl_145 (ce_145 G _) ?_
        refine r_iload_n 72 dX12_isRead_71 rfl 3 rfl rfl ?_
        refine r_callVi 75 4 (ko := 130) [.int a1, .int (6 : Int32), .int (w.1 145 a1.toNatClampNeg), .int a2] (st := []) dX12_isRead_72 rfl rfl (fun r h => c_X12_fits G l (d - 1) (by omega) w a1 (6 : Int32) (w.1 145 a1.toNatClampNeg) a2 r h) zl_130 (ce_130 G _) rfl rfl wc_X12_fits wz_X12 wl_X12_220 wi_X12_fits ws_X12_fits zd_X12_fits (by decide) (by omega) rfl (Nat.le_of_ble_eq_true rfl) (fun r4 => ?_)
        refine r_if_eq 82 78 dX12_isRead_75 (by decide) rfl ?_ ?_
        · refine r_iconst 83 dX12_isRead_82 rfl zci_0 ?_
          exact r_zret dX12_isRead_83 rfl rfl z_ki
        · refine r_iconst 79 dX12_isRead_78 rfl zci_1 ?_
          refine r_goto 83 dX12_isRead_79 (by decide) ?_
          exact r_zret dX12_isRead_83 rfl rfl z_ki
  have hJ37 : zR G l d "LoveLocksModel" cX12_isRead 5 (some .boolean) (some (.int o)) w (fun x => x = o) 37 [(0, .ref (G.1 130)), (1, .int a1), (2, .int a2), (3, .int a3)] [] w (f_X12_isRead_J37 a1 w a3 a2) := by
    rw [f_X12_isRead_J37]
    refine r_iconst 38 dX12_isRead_37 rfl zci_0 ?_
    exact r_sub [0, 1, 2, 3] (lv2 := [(0, .ref (G.1 130)), (1, .int a1), (2, .int a2), (3, .int a3)]) rfl (hJ38 (0 : Int32))
  refine r_aload_n 1 dX12_isRead_0 rfl 0 rfl rfl ?_
  refine r_iload_n 2 dX12_isRead_1 rfl 1 rfl rfl ?_
  refine r_iconst 3 dX12_isRead_2 rfl zci_0 ?_
  refine r_aload_n 4 dX12_isRead_3 rfl 0 rfl rfl ?_
  refine r_get 7 130 20 dX12_isRead_4 rfl zl_130 (ce_130 G _) rfl inz12 (by decide) wf_X12_49 rfl ?_
  refine r_iload_n 8 dX12_isRead_7 rfl 1 rfl rfl ?_
  refine r_iald 9 144 14 dX12_isRead_8 rfl zl_144 (ce_144 G _) ?_
  refine r_iload_n 10 dX12_isRead_9 rfl 2 rfl rfl ?_
  refine r_callVi 13 4 (ko := 130) [.int a1, .int (0 : Int32), .int (w.1 144 a1.toNatClampNeg), .int a2] (st := []) dX12_isRead_10 rfl rfl (fun r h => c_X12_fits G l (d - 1) (by omega) w a1 (0 : Int32) (w.1 144 a1.toNatClampNeg) a2 r h) zl_130 (ce_130 G _) rfl rfl wc_X12_fits wz_X12 wl_X12_220 wi_X12_fits ws_X12_fits zd_X12_fits (by decide) (by omega) rfl (Nat.le_of_ble_eq_true rfl) (fun r1 => ?_)
  refine r_if_eq 37 16 dX12_isRead_13 (by decide) rfl ?_ ?_
  · exact r_sub [0, 1, 2, 3] (lv2 := [(0, .ref (G.1 130)), (1, .int a1), (2, .int a2), (3, .int a3)]) rfl (hJ37)
  · refine r_aload_n 17 dX12_isRead_16 rfl 0 rfl rfl ?_
    refine r_iload_n 18 dX12_isRead_17 rfl 1 rfl rfl ?_
    refine r_bipush 20 dX12_isRead_18 rfl zcb_6 ?_
    refine r_aload_n 21 dX12_isRead_20 rfl 0 rfl rfl ?_
    refine r_get 24 130 21 dX12_isRead_21 rfl zl_130 (ce_130 G _) rfl inz12 (by decide) wf_X12_52 rfl ?_
    refine r_iload_n 25 dX12_isRead_24 rfl 1 rfl rfl ?_
    refine r_iald 26 145 14 dX12_isRead_25 rfl zl_145 (ce_145 G _) ?_
    refine r_iload_n 27 dX12_isRead_26 rfl 3 rfl rfl ?_
    refine r_callVi 30 4 (ko := 130) [.int a1, .int (6 : Int32), .int (w.1 145 a1.toNatClampNeg), .int a3] (st := []) dX12_isRead_27 rfl rfl (fun r h => c_X12_fits G l (d - 1) (by omega) w a1 (6 : Int32) (w.1 145 a1.toNatClampNeg) a3 r h) zl_130 (ce_130 G _) rfl rfl wc_X12_fits wz_X12 wl_X12_220 wi_X12_fits ws_X12_fits zd_X12_fits (by decide) (by omega) rfl (Nat.le_of_ble_eq_true rfl) (fun r5 => ?_)
    refine r_if_eq 37 33 dX12_isRead_30 (by decide) rfl ?_ ?_
    · exact r_sub [0, 1, 2, 3] (lv2 := [(0, .ref (G.1 130)), (1, .int a1), (2, .int a2), (3, .int a3)]) rfl (hJ37)
    · refine r_iconst 34 dX12_isRead_33 rfl zci_1 ?_
      refine r_goto 38 dX12_isRead_34 (by decide) ?_
      exact r_sub [0, 1, 2, 3] (lv2 := [(0, .ref (G.1 130)), (1, .int a1), (2, .int a2), (3, .int a3)]) rfl (hJ38 (1 : Int32))
-- X12_readings
def f_X12_readings_L39 (w : ZW) (a1 : Int32) (s2 : Int32 × Int32) (s4 : Int32 × Int32) : Option ((Int32 × Int32) ⊕ (Int32)) :=
  if (w.1 130 16) ≤ s4.2 then
  some (.inr s4.1)
else
  (f_X12_isRead w a1 s2.2 s4.2).bind fun r6 : Int32 =>
    if r6 = 0 then
    some (.inl (s4.1 + (0 : Int32), s4.2 + (1 : Int32)))
  else
    some (.inl (s4.1 + (1 : Int32), s4.2 + (1 : Int32)))
def f_X12_readings_L26 (w : ZW) (a1 : Int32) (s2 : Int32 × Int32) : Option ((Int32 × Int32) ⊕ (Int32)) :=
  if (w.1 130 16) ≤ s2.2 then
  some (.inr s2.1)
else
  (z_iter (f_X12_readings_L39 w a1 s2) z_fuel (s2.1, s2.2 + (1 : Int32))).bind (fun q5 : Int32 =>
    some (.inl (q5, s2.2 + (1 : Int32))))
def f_X12_readings (w : ZW) (a1 : Int32) : Option (Int32) :=
  (f_X12_isLock w a1).bind fun r1 : Int32 =>
  if r1 = 0 then
  some (-1 : Int32)
else
  if z_in a1 14 then
    if (w.1 144 a1.toNatClampNeg) = 0 then
    some (-2 : Int32)
  else
    (z_iter (f_X12_readings_L26 w a1) z_fuel ((0 : Int32), (0 : Int32))).bind (fun q3 : Int32 =>
      some q3)
  else none
set_option maxHeartbeats 4000000 in
set_option maxRecDepth 100000 in
theorem c_X12_readings (G : ZG) (l : Launch) (d : Nat) (hd : 3 ≤ d) (w : ZW) (a1 : Int32) : ∀ o, f_X12_readings w a1 = some o → zM G l d yX12_readings cX12_readings 5 (some .int) [.ref (G.1 130), .int a1] w (some (.int o)) w := by
  intro o ho
  refine zM.of [(0, .ref (G.1 130)), (1, .int a1)] (by decide) (Nat.le_of_ble_eq_true rfl) rfl ?_
  refine (?_ : zR G l d "LoveLocksModel" cX12_readings 5 (some .int) (some (.int o)) w (fun x => x = o) 0 [(0, .ref (G.1 130)), (1, .int a1)] [] w (f_X12_readings w a1)) o ho rfl
  rw [f_X12_readings]
  refine r_aload_n 1 dX12_readings_0 rfl 0 rfl rfl ?_
  refine r_iload_n 2 dX12_readings_1 rfl 1 rfl rfl ?_
  refine r_callVi 5 1 (ko := 130) [.int a1] (st := []) dX12_readings_2 rfl rfl (fun r h => c_X12_isLock G l (d - 1) (by omega) w a1 r h) zl_130 (ce_130 G _) rfl rfl wc_X12_isLock wz_X12 wl_X12_138 wi_X12_isLock ws_X12_isLock zd_X12_isLock (by decide) (by omega) rfl (Nat.le_of_ble_eq_true rfl) (fun r1 => ?_)
  refine r_if_ne 10 8 dX12_readings_5 (by decide) rfl ?_ ?_
  · refine r_aload_n 11 dX12_readings_10 rfl 0 rfl rfl ?_
    refine r_get 14 130 20 dX12_readings_11 rfl zl_130 (ce_130 G _) rfl inz12 (by decide) wf_X12_49 rfl ?_
    refine r_iload_n 15 dX12_readings_14 rfl 1 rfl rfl ?_
    refine r_iald 16 144 14 dX12_readings_15 rfl zl_144 (ce_144 G _) ?_
    refine r_if_ne 22 19 dX12_readings_16 (by decide) rfl ?_ ?_
    · refine r_iconst 23 dX12_readings_22 rfl zci_0 ?_
      refine r_istore_n 24 [(2, .int (0 : Int32)), (0, .ref (G.1 130)), (1, .int a1)] dX12_readings_23 rfl rfl (by decide) rfl ?_
      refine r_iconst 25 dX12_readings_24 rfl zci_0 ?_
      refine r_istore_n 26 [(3, .int (0 : Int32)), (2, .int (0 : Int32)), (0, .ref (G.1 130)), (1, .int a1)] dX12_readings_25 rfl rfl (by decide) rfl ?_
      refine r_loopE [2, 3, 1, 0] (fun s2 => [(0, .ref (G.1 130)), (1, .int a1), (2, .int s2.1), (3, .int s2.2)]) (fun s2 => w) 79 (fun q3 => [(2, .int q3)]) (fun q3 => w) rfl rfl (fun s2 => ?_) (fun q3 => ?_)
      · rw [f_X12_readings_L26]
        refine r_iload_n 27 dX12_readings_26 rfl 3 rfl rfl ?_
        refine r_aload_n 28 dX12_readings_27 rfl 0 rfl rfl ?_
        refine r_get 31 130 16 dX12_readings_28 rfl zl_130 (ce_130 G _) rfl inz12 (by decide) wf_X12_175 rfl ?_
        refine r_icmp_ge 79 34 dX12_readings_31 (by decide) rfl ?_ ?_
        · exact r_leaf [2] (lv2 := [(2, .int s2.1)]) rfl (fun h => h)
        · refine r_iload_n 35 dX12_readings_34 rfl 3 rfl rfl ?_
          refine r_iconst 36 dX12_readings_35 rfl zci_1 ?_
          refine r_iadd 37 dX12_readings_36 rfl ?_
          refine r_istore 39 [(4, .int (s2.2 + (1 : Int32))), (0, .ref (G.1 130)), (1, .int a1), (2, .int s2.1), (3, .int s2.2)] dX12_readings_37 rfl (by decide) rfl ?_
          refine r_loopE [1, 2, 3, 4, 0] (fun s4 => [(0, .ref (G.1 130)), (1, .int a1), (2, .int s4.1), (3, .int s2.2), (4, .int s4.2)]) (fun s4 => w) 73 (fun q5 => [(0, .ref (G.1 130)), (1, .int a1), (2, .int q5), (3, .int s2.2)]) (fun q5 => w) rfl rfl (fun s4 => ?_) (fun q5 => ?_)
          · rw [f_X12_readings_L39]
            refine r_iload 41 dX12_readings_39 rfl 4 rfl ?_
            refine r_aload_n 42 dX12_readings_41 rfl 0 rfl rfl ?_
            refine r_get 45 130 16 dX12_readings_42 rfl zl_130 (ce_130 G _) rfl inz12 (by decide) wf_X12_175 rfl ?_
            refine r_icmp_ge 73 48 dX12_readings_45 (by decide) rfl ?_ ?_
            · exact r_leaf [0, 1, 2, 3] (lv2 := [(0, .ref (G.1 130)), (1, .int a1), (2, .int s4.1), (3, .int s2.2)]) rfl (fun h => h)
            · refine r_iload_n 49 dX12_readings_48 rfl 2 rfl rfl ?_
              refine r_aload_n 50 dX12_readings_49 rfl 0 rfl rfl ?_
              refine r_iload_n 51 dX12_readings_50 rfl 1 rfl rfl ?_
              refine r_iload_n 52 dX12_readings_51 rfl 3 rfl rfl ?_
              refine r_iload 54 dX12_readings_52 rfl 4 rfl ?_
              refine r_callVi 57 3 (ko := 130) [.int a1, .int s2.2, .int s4.2] (st := [.int s4.1]) dX12_readings_54 rfl rfl (fun r h => c_X12_isRead G l (d - 1) (by omega) w a1 s2.2 s4.2 r h) zl_130 (ce_130 G _) rfl rfl wc_X12_isRead wz_X12 wl_X12_224 wi_X12_isRead ws_X12_isRead zd_X12_isRead (by decide) (by omega) rfl (Nat.le_of_ble_eq_true rfl) (fun r6 => ?_)
              refine r_if_eq 64 60 dX12_readings_57 (by decide) rfl ?_ ?_
              · refine r_iconst 65 dX12_readings_64 rfl zci_0 ?_
                refine r_iadd 66 dX12_readings_65 rfl ?_
                refine r_istore_n 67 [(2, .int (s4.1 + (0 : Int32))), (0, .ref (G.1 130)), (1, .int a1), (3, .int s2.2), (4, .int s4.2)] dX12_readings_66 rfl rfl (by decide) rfl ?_
                refine r_iinc 70 4 [(4, .int (s4.2 + (1 : Int32))), (2, .int (s4.1 + (0 : Int32))), (0, .ref (G.1 130)), (1, .int a1), (3, .int s2.2)] dX12_readings_67 rfl rfl zci_1 (by decide) rfl ?_
                refine r_goto 39 dX12_readings_70 (by decide) ?_
                exact r_leaf [2, 3, 1, 4, 0] (lv2 := [(0, .ref (G.1 130)), (1, .int a1), (2, .int (s4.1 + (0 : Int32))), (3, .int s2.2), (4, .int (s4.2 + (1 : Int32)))]) rfl (fun h => h)
              · refine r_iconst 61 dX12_readings_60 rfl zci_1 ?_
                refine r_goto 65 dX12_readings_61 (by decide) ?_
                refine r_iadd 66 dX12_readings_65 rfl ?_
                refine r_istore_n 67 [(2, .int (s4.1 + (1 : Int32))), (0, .ref (G.1 130)), (1, .int a1), (3, .int s2.2), (4, .int s4.2)] dX12_readings_66 rfl rfl (by decide) rfl ?_
                refine r_iinc 70 4 [(4, .int (s4.2 + (1 : Int32))), (2, .int (s4.1 + (1 : Int32))), (0, .ref (G.1 130)), (1, .int a1), (3, .int s2.2)] dX12_readings_67 rfl rfl zci_1 (by decide) rfl ?_
                refine r_goto 39 dX12_readings_70 (by decide) ?_
                exact r_leaf [2, 3, 1, 4, 0] (lv2 := [(0, .ref (G.1 130)), (1, .int a1), (2, .int (s4.1 + (1 : Int32))), (3, .int s2.2), (4, .int (s4.2 + (1 : Int32)))]) rfl (fun h => h)
          · refine r_iinc 76 3 [(3, .int (s2.2 + (1 : Int32))), (0, .ref (G.1 130)), (1, .int a1), (2, .int q5)] dX12_readings_73 rfl rfl zci_1 (by decide) rfl ?_
            refine r_goto 26 dX12_readings_76 (by decide) ?_
            exact r_leaf [1, 2, 3, 0] (lv2 := [(0, .ref (G.1 130)), (1, .int a1), (2, .int q5), (3, .int (s2.2 + (1 : Int32)))]) rfl (fun h => h)
      · refine r_iload_n 80 dX12_readings_79 rfl 0 rfl rfl ?_
        exact r_iret dX12_readings_80 rfl z_ki
    · refine r_bipush 21 dX12_readings_19 rfl zcb_m2 ?_
      exact r_iret dX12_readings_21 rfl z_ki
  · refine r_iconst 9 dX12_readings_8 rfl zci_m1 ?_
    exact r_iret dX12_readings_9 rfl z_ki
