-- X11_within
def f_X11_within (a0 : Int32) (a1 : Int32) (a2 : Int32) : Option (Int32) :=
  if a0 < a1 then
  some (0 : Int32)
else
  if a2 < a0 then
    some (0 : Int32)
  else
    some (1 : Int32)
set_option maxHeartbeats 4000000 in
set_option maxRecDepth 100000 in
theorem c_X11_within (G : ZG) (l : Launch) (d : Nat) (hd : 1 ≤ d) (w0 : ZW) (a0 : Int32) (a1 : Int32) (a2 : Int32) : ∀ o, f_X11_within a0 a1 a2 = some o → zM G l d yX11_within cX11_within 3 (some .boolean) [.int a0, .int a1, .int a2] w0 (some (.int o)) w0 := by
  intro o ho
  refine zM.of [(0, .int a0), (1, .int a1), (2, .int a2)] (by decide) (Nat.le_of_ble_eq_true rfl) rfl ?_
  refine (?_ : zR G l d "LoveLocks" cX11_within 3 (some .boolean) (some (.int o)) w0 (fun x => x = o) 0 [(0, .int a0), (1, .int a1), (2, .int a2)] [] w0 (f_X11_within a0 a1 a2)) o ho rfl
  rw [f_X11_within]
  refine r_iload_n 1 dX11_within_0 rfl 0 rfl rfl ?_
  refine r_iload_n 2 dX11_within_1 rfl 1 rfl rfl ?_
  refine r_icmp_lt 14 5 dX11_within_2 (by decide) rfl ?_ ?_
  · refine r_iconst 15 dX11_within_14 rfl zci_0 ?_
    exact r_zret dX11_within_15 rfl rfl z_ki
  · refine r_iload_n 6 dX11_within_5 rfl 0 rfl rfl ?_
    refine r_iload_n 7 dX11_within_6 rfl 2 rfl rfl ?_
    refine r_icmp_gt 14 10 dX11_within_7 (by decide) rfl ?_ ?_
    · refine r_iconst 15 dX11_within_14 rfl zci_0 ?_
      exact r_zret dX11_within_15 rfl rfl z_ki
    · refine r_iconst 11 dX11_within_10 rfl zci_1 ?_
      refine r_goto 15 dX11_within_11 (by decide) ?_
      exact r_zret dX11_within_15 rfl rfl z_ki
-- X4_addPanel
def f_X4_addPanel (w : ZW) (a1 : Int32) (a2 : Int32) (a3 : Int32) : Option (Int32 × ZW) :=
  if (w.1 2 0) < (6 : Int32) then
  if z_in (w.1 2 0) 6 then
    z_let (z_upI w 3 (w.1 2 0).toNatClampNeg a1) fun w1 =>
    if z_in (w1.1 2 0) 6 then
    z_let (z_upI w1 4 (w1.1 2 0).toNatClampNeg a2) fun w2 =>
    if z_in (w2.1 2 0) 6 then
    z_let (z_upI w2 5 (w2.1 2 0).toNatClampNeg a3) fun w3 =>
    z_let (z_upI w3 2 0 ((w3.1 2 0) + (1 : Int32))) fun w4 =>
    some (w3.1 2 0, w4)
  else none
  else none
  else none
else
  some ((-3 : Int32), w)
set_option maxHeartbeats 4000000 in
set_option maxRecDepth 100000 in
theorem c_X4_addPanel (G : ZG) (l : Launch) (d : Nat) (hd : 1 ≤ d) (w : ZW) (a1 : Int32) (a2 : Int32) (a3 : Int32) : ∀ o, f_X4_addPanel w a1 a2 a3 = some o → zM G l d yX4_addPanel cX4_addPanel 4 (some .int) [.ref (G.1 2), .int a1, .int a2, .int a3] w (some (.int o.1)) o.2 := by
  intro o ho
  refine zM.of [(0, .ref (G.1 2)), (1, .int a1), (2, .int a2), (3, .int a3)] (by decide) (Nat.le_of_ble_eq_true rfl) rfl ?_
  refine (?_ : zR G l d "LoveLocks$Rail" cX4_addPanel 4 (some .int) (some (.int o.1)) o.2 (fun x => x = o) 0 [(0, .ref (G.1 2)), (1, .int a1), (2, .int a2), (3, .int a3)] [] w (f_X4_addPanel w a1 a2 a3)) o ho rfl
  rw [f_X4_addPanel]
  refine r_aload_n 1 dX4_addPanel_0 rfl 0 rfl rfl ?_
  refine r_get 4 2 0 dX4_addPanel_1 rfl zl_2 (ce_2 G _) rfl inz4 (by decide) wf_X4_39 rfl ?_
  refine r_bipush 6 dX4_addPanel_4 rfl zcb_6 ?_
  refine r_icmp_lt 12 9 dX4_addPanel_6 (by decide) rfl ?_ ?_
  · refine r_aload_n 13 dX4_addPanel_12 rfl 0 rfl rfl ?_
    refine r_get 16 2 1 dX4_addPanel_13 rfl zl_2 (ce_2 G _) rfl inz4 (by decide) wf_X4_9 rfl ?_
    refine r_aload_n 17 dX4_addPanel_16 rfl 0 rfl rfl ?_
    refine r_get 20 2 0 dX4_addPanel_17 rfl zl_2 (ce_2 G _) rfl inz4 (by decide) wf_X4_39 rfl ?_
    refine r_iload_n 21 dX4_addPanel_20 rfl 1 rfl rfl ?_
    refine r_iast 22 3 6 dX4_addPanel_21 rfl zl_3 (ce_3 G) ?_
    refine r_topw (fun w1 => ?_)
    refine r_aload_n 23 dX4_addPanel_22 rfl 0 rfl rfl ?_
    refine r_get 26 2 2 dX4_addPanel_23 rfl zl_2 (ce_2 G _) rfl inz4 (by decide) wf_X4_15 rfl ?_
    refine r_aload_n 27 dX4_addPanel_26 rfl 0 rfl rfl ?_
    refine r_get 30 2 0 dX4_addPanel_27 rfl zl_2 (ce_2 G _) rfl inz4 (by decide) wf_X4_39 rfl ?_
    refine r_iload_n 31 dX4_addPanel_30 rfl 2 rfl rfl ?_
    refine r_iast 32 4 6 dX4_addPanel_31 rfl zl_4 (ce_4 G) ?_
    refine r_topw (fun w2 => ?_)
    refine r_aload_n 33 dX4_addPanel_32 rfl 0 rfl rfl ?_
    refine r_get 36 2 3 dX4_addPanel_33 rfl zl_2 (ce_2 G _) rfl inz4 (by decide) wf_X4_18 rfl ?_
    refine r_aload_n 37 dX4_addPanel_36 rfl 0 rfl rfl ?_
    refine r_get 40 2 0 dX4_addPanel_37 rfl zl_2 (ce_2 G _) rfl inz4 (by decide) wf_X4_39 rfl ?_
    refine r_iload_n 41 dX4_addPanel_40 rfl 3 rfl rfl ?_
    refine r_iast 42 5 6 dX4_addPanel_41 rfl zl_5 (ce_5 G) ?_
    refine r_topw (fun w3 => ?_)
    refine r_aload_n 43 dX4_addPanel_42 rfl 0 rfl rfl ?_
    refine r_dup 44 dX4_addPanel_43 rfl rfl ?_
    refine r_get 47 2 0 dX4_addPanel_44 rfl zl_2 (ce_2 G _) rfl inz4 (by decide) wf_X4_39 rfl ?_
    refine r_dup_x1 48 dX4_addPanel_47 rfl rfl rfl ?_
    refine r_iconst 49 dX4_addPanel_48 rfl zci_1 ?_
    refine r_iadd 50 dX4_addPanel_49 rfl ?_
    refine r_puti 53 2 0 dX4_addPanel_50 rfl zl_2 (ce_2 G _) rfl inz4 tyX4_ok nmX4 (by decide) wf_X4_39 rfl rfl (Nat.le_of_ble_eq_true rfl) rfl ?_
    refine r_topw (fun w4 => ?_)
    exact r_iret dX4_addPanel_53 rfl z_kiw
  · refine r_bipush 11 dX4_addPanel_9 rfl zcb_m3 ?_
    exact r_iret dX4_addPanel_11 rfl z_kiw
-- X11_panel
def f_X11_panel (w : ZW) (a1 : Int32) (a2 : Int32) (a3 : Int32) : Option (Int32 × ZW) :=
  (f_X11_within a1 (1 : Int32) (99999 : Int32)).bind fun r1 : Int32 =>
  if r1 = 0 then
  some ((-1 : Int32), w)
else
  (f_X11_within a2 (1 : Int32) (99999 : Int32)).bind fun r2 : Int32 =>
    if r2 = 0 then
    some ((-1 : Int32), w)
  else
    (f_X11_within a3 (1 : Int32) (99999 : Int32)).bind fun r3 : Int32 =>
      if r3 = 0 then
      some ((-1 : Int32), w)
    else
      (f_X4_addPanel w a1 a2 a3).bind fun r4 : Int32 × ZW =>
        some (r4.1, r4.2)
set_option maxHeartbeats 4000000 in
set_option maxRecDepth 100000 in
theorem c_X11_panel (G : ZG) (l : Launch) (d : Nat) (hd : 2 ≤ d) (w : ZW) (a1 : Int32) (a2 : Int32) (a3 : Int32) : ∀ o, f_X11_panel w a1 a2 a3 = some o → zM G l d yX11_panel cX11_panel 4 (some .int) [.ref (G.1 0), .int a1, .int a2, .int a3] w (some (.int o.1)) o.2 := by
  intro o ho
  refine zM.of [(0, .ref (G.1 0)), (1, .int a1), (2, .int a2), (3, .int a3)] (by decide) (Nat.le_of_ble_eq_true rfl) rfl ?_
  refine (?_ : zR G l d "LoveLocks" cX11_panel 4 (some .int) (some (.int o.1)) o.2 (fun x => x = o) 0 [(0, .ref (G.1 0)), (1, .int a1), (2, .int a2), (3, .int a3)] [] w (f_X11_panel w a1 a2 a3)) o ho rfl
  rw [f_X11_panel]
  refine r_iload_n 1 dX11_panel_0 rfl 1 rfl rfl ?_
  refine r_iconst 2 dX11_panel_1 rfl zci_1 ?_
  refine r_ldc 4 dX11_panel_2 rfl wk_X11_54 ?_
  refine r_callSi 7 3 [.int a1, .int (1 : Int32), .int (99999 : Int32)] (st := []) dX11_panel_4 rfl rfl (fun r h => c_X11_within G l (d - 1) (by omega) w a1 (1 : Int32) (99999 : Int32) r h) wc_X11_within wz_X11 wl_X11_55 wst_X11_within zd_X11_within (by decide) (by omega) rfl (Nat.le_of_ble_eq_true rfl) (fun r1 => ?_)
  refine r_if_eq 30 10 dX11_panel_7 (by decide) rfl ?_ ?_
  · refine r_iconst 31 dX11_panel_30 rfl zci_m1 ?_
    exact r_iret dX11_panel_31 rfl z_kiw
  · refine r_iload_n 11 dX11_panel_10 rfl 2 rfl rfl ?_
    refine r_iconst 12 dX11_panel_11 rfl zci_1 ?_
    refine r_ldc 14 dX11_panel_12 rfl wk_X11_54 ?_
    refine r_callSi 17 3 [.int a2, .int (1 : Int32), .int (99999 : Int32)] (st := []) dX11_panel_14 rfl rfl (fun r h => c_X11_within G l (d - 1) (by omega) w a2 (1 : Int32) (99999 : Int32) r h) wc_X11_within wz_X11 wl_X11_55 wst_X11_within zd_X11_within (by decide) (by omega) rfl (Nat.le_of_ble_eq_true rfl) (fun r2 => ?_)
    refine r_if_eq 30 20 dX11_panel_17 (by decide) rfl ?_ ?_
    · refine r_iconst 31 dX11_panel_30 rfl zci_m1 ?_
      exact r_iret dX11_panel_31 rfl z_kiw
    · refine r_iload_n 21 dX11_panel_20 rfl 3 rfl rfl ?_
      refine r_iconst 22 dX11_panel_21 rfl zci_1 ?_
      refine r_ldc 24 dX11_panel_22 rfl wk_X11_54 ?_
      refine r_callSi 27 3 [.int a3, .int (1 : Int32), .int (99999 : Int32)] (st := []) dX11_panel_24 rfl rfl (fun r h => c_X11_within G l (d - 1) (by omega) w a3 (1 : Int32) (99999 : Int32) r h) wc_X11_within wz_X11 wl_X11_55 wst_X11_within zd_X11_within (by decide) (by omega) rfl (Nat.le_of_ble_eq_true rfl) (fun r3 => ?_)
      refine r_if_ne 32 30 dX11_panel_27 (by decide) rfl ?_ ?_
      · refine r_aload_n 33 dX11_panel_32 rfl 0 rfl rfl ?_
        refine r_get 36 0 0 dX11_panel_33 rfl zl_0 (ce_0 G _) rfl inz11 (by decide) wf_X11_10 rfl ?_
        refine r_get 39 1 0 dX11_panel_36 rfl zl_1 (ce_1 G _) rfl inz9 (by decide) wf_X11_59 rfl ?_
        refine r_iload_n 40 dX11_panel_39 rfl 1 rfl rfl ?_
        refine r_iload_n 41 dX11_panel_40 rfl 2 rfl rfl ?_
        refine r_iload_n 42 dX11_panel_41 rfl 3 rfl rfl ?_
        refine r_callViw 45 3 (ko := 2) [.int a1, .int a2, .int a3] (st := []) dX11_panel_42 rfl rfl (fun r h => c_X4_addPanel G l (d - 1) (by omega) w a1 a2 a3 r h) zl_2 (ce_2 G _) rfl rfl wc_X4_addPanel wz_X4 wl_X11_63 wi_X4_addPanel ws_X4_addPanel zd_X4_addPanel (by decide) (by omega) rfl (Nat.le_of_ble_eq_true rfl) (fun r4 => ?_)
        exact r_iret dX11_panel_45 rfl z_kiw
      · refine r_iconst 31 dX11_panel_30 rfl zci_m1 ?_
        exact r_iret dX11_panel_31 rfl z_kiw
-- X4_hasPanel
def f_X4_hasPanel (w : ZW) (a1 : Int32) : Option (Int32) :=
  if a1 < 0 then
  some (0 : Int32)
else
  if (w.1 2 0) ≤ a1 then
    some (0 : Int32)
  else
    some (1 : Int32)
set_option maxHeartbeats 4000000 in
set_option maxRecDepth 100000 in
theorem c_X4_hasPanel (G : ZG) (l : Launch) (d : Nat) (hd : 1 ≤ d) (w : ZW) (a1 : Int32) : ∀ o, f_X4_hasPanel w a1 = some o → zM G l d yX4_hasPanel cX4_hasPanel 2 (some .boolean) [.ref (G.1 2), .int a1] w (some (.int o)) w := by
  intro o ho
  refine zM.of [(0, .ref (G.1 2)), (1, .int a1)] (by decide) (Nat.le_of_ble_eq_true rfl) rfl ?_
  refine (?_ : zR G l d "LoveLocks$Rail" cX4_hasPanel 2 (some .boolean) (some (.int o)) w (fun x => x = o) 0 [(0, .ref (G.1 2)), (1, .int a1)] [] w (f_X4_hasPanel w a1)) o ho rfl
  rw [f_X4_hasPanel]
  refine r_iload_n 1 dX4_hasPanel_0 rfl 1 rfl rfl ?_
  refine r_if_lt 16 4 dX4_hasPanel_1 (by decide) rfl ?_ ?_
  · refine r_iconst 17 dX4_hasPanel_16 rfl zci_0 ?_
    exact r_zret dX4_hasPanel_17 rfl rfl z_ki
  · refine r_iload_n 5 dX4_hasPanel_4 rfl 1 rfl rfl ?_
    refine r_aload_n 6 dX4_hasPanel_5 rfl 0 rfl rfl ?_
    refine r_get 9 2 0 dX4_hasPanel_6 rfl zl_2 (ce_2 G _) rfl inz4 (by decide) wf_X4_39 rfl ?_
    refine r_icmp_ge 16 12 dX4_hasPanel_9 (by decide) rfl ?_ ?_
    · refine r_iconst 17 dX4_hasPanel_16 rfl zci_0 ?_
      exact r_zret dX4_hasPanel_17 rfl rfl z_ki
    · refine r_iconst 13 dX4_hasPanel_12 rfl zci_1 ?_
      refine r_goto 17 dX4_hasPanel_13 (by decide) ?_
      exact r_zret dX4_hasPanel_17 rfl rfl z_ki
-- X11_isBar
def f_X11_isBar (w : ZW) (a1 : Int32) (a2 : Int32) : Option (Int32) :=
  (f_X4_hasPanel w a1).bind fun r1 : Int32 =>
  if r1 = 0 then
  some (0 : Int32)
else
  (f_X11_within a2 (0 : Int32) (2 : Int32)).bind fun r2 : Int32 =>
    if r2 = 0 then
    some (0 : Int32)
  else
    some (1 : Int32)
set_option maxHeartbeats 4000000 in
set_option maxRecDepth 100000 in
theorem c_X11_isBar (G : ZG) (l : Launch) (d : Nat) (hd : 2 ≤ d) (w : ZW) (a1 : Int32) (a2 : Int32) : ∀ o, f_X11_isBar w a1 a2 = some o → zM G l d yX11_isBar cX11_isBar 3 (some .boolean) [.ref (G.1 0), .int a1, .int a2] w (some (.int o)) w := by
  intro o ho
  refine zM.of [(0, .ref (G.1 0)), (1, .int a1), (2, .int a2)] (by decide) (Nat.le_of_ble_eq_true rfl) rfl ?_
  refine (?_ : zR G l d "LoveLocks" cX11_isBar 3 (some .boolean) (some (.int o)) w (fun x => x = o) 0 [(0, .ref (G.1 0)), (1, .int a1), (2, .int a2)] [] w (f_X11_isBar w a1 a2)) o ho rfl
  rw [f_X11_isBar]
  refine r_aload_n 1 dX11_isBar_0 rfl 0 rfl rfl ?_
  refine r_get 4 0 0 dX11_isBar_1 rfl zl_0 (ce_0 G _) rfl inz11 (by decide) wf_X11_10 rfl ?_
  refine r_get 7 1 0 dX11_isBar_4 rfl zl_1 (ce_1 G _) rfl inz9 (by decide) wf_X11_59 rfl ?_
  refine r_iload_n 8 dX11_isBar_7 rfl 1 rfl rfl ?_
  refine r_callVi 11 1 (ko := 2) [.int a1] (st := []) dX11_isBar_8 rfl rfl (fun r h => c_X4_hasPanel G l (d - 1) (by omega) w a1 r h) zl_2 (ce_2 G _) rfl rfl wc_X4_hasPanel wz_X4 wl_X11_69 wi_X4_hasPanel ws_X4_hasPanel zd_X4_hasPanel (by decide) (by omega) rfl (Nat.le_of_ble_eq_true rfl) (fun r1 => ?_)
  refine r_if_eq 27 14 dX11_isBar_11 (by decide) rfl ?_ ?_
  · refine r_iconst 28 dX11_isBar_27 rfl zci_0 ?_
    exact r_zret dX11_isBar_28 rfl rfl z_ki
  · refine r_iload_n 15 dX11_isBar_14 rfl 2 rfl rfl ?_
    refine r_iconst 16 dX11_isBar_15 rfl zci_0 ?_
    refine r_iconst 17 dX11_isBar_16 rfl zci_2 ?_
    refine r_callSi 20 3 [.int a2, .int (0 : Int32), .int (2 : Int32)] (st := []) dX11_isBar_17 rfl rfl (fun r h => c_X11_within G l (d - 1) (by omega) w a2 (0 : Int32) (2 : Int32) r h) wc_X11_within wz_X11 wl_X11_55 wst_X11_within zd_X11_within (by decide) (by omega) rfl (Nat.le_of_ble_eq_true rfl) (fun r2 => ?_)
    refine r_if_eq 27 23 dX11_isBar_20 (by decide) rfl ?_ ?_
    · refine r_iconst 28 dX11_isBar_27 rfl zci_0 ?_
      exact r_zret dX11_isBar_28 rfl rfl z_ki
    · refine r_iconst 24 dX11_isBar_23 rfl zci_1 ?_
      refine r_goto 28 dX11_isBar_24 (by decide) ?_
      exact r_zret dX11_isBar_28 rfl rfl z_ki
-- X11_isLock
def f_X11_isLock (a0 : Int32) (a1 : Int32) (a2 : Int32) : Option (Int32) :=
  (f_X11_within a0 (1 : Int32) (999 : Int32)).bind fun r1 : Int32 =>
  if r1 = 0 then
  some (0 : Int32)
else
  (f_X11_within a1 (0 : Int32) (1 : Int32)).bind fun r2 : Int32 =>
    if r2 = 0 then
    some (0 : Int32)
  else
    (f_X11_within a2 (0 : Int32) (19 : Int32)).bind fun r3 : Int32 =>
      if r3 = 0 then
      some (0 : Int32)
    else
      some (1 : Int32)
set_option maxHeartbeats 4000000 in
set_option maxRecDepth 100000 in
theorem c_X11_isLock (G : ZG) (l : Launch) (d : Nat) (hd : 2 ≤ d) (w0 : ZW) (a0 : Int32) (a1 : Int32) (a2 : Int32) : ∀ o, f_X11_isLock a0 a1 a2 = some o → zM G l d yX11_isLock cX11_isLock 3 (some .boolean) [.int a0, .int a1, .int a2] w0 (some (.int o)) w0 := by
  intro o ho
  refine zM.of [(0, .int a0), (1, .int a1), (2, .int a2)] (by decide) (Nat.le_of_ble_eq_true rfl) rfl ?_
  refine (?_ : zR G l d "LoveLocks" cX11_isLock 3 (some .boolean) (some (.int o)) w0 (fun x => x = o) 0 [(0, .int a0), (1, .int a1), (2, .int a2)] [] w0 (f_X11_isLock a0 a1 a2)) o ho rfl
  rw [f_X11_isLock]
  refine r_iload_n 1 dX11_isLock_0 rfl 0 rfl rfl ?_
  refine r_iconst 2 dX11_isLock_1 rfl zci_1 ?_
  refine r_sipush 5 dX11_isLock_2 rfl zcs_999 ?_
  refine r_callSi 8 3 [.int a0, .int (1 : Int32), .int (999 : Int32)] (st := []) dX11_isLock_5 rfl rfl (fun r h => c_X11_within G l (d - 1) (by omega) w0 a0 (1 : Int32) (999 : Int32) r h) wc_X11_within wz_X11 wl_X11_55 wst_X11_within zd_X11_within (by decide) (by omega) rfl (Nat.le_of_ble_eq_true rfl) (fun r1 => ?_)
  refine r_if_eq 34 11 dX11_isLock_8 (by decide) rfl ?_ ?_
  · refine r_iconst 35 dX11_isLock_34 rfl zci_0 ?_
    exact r_zret dX11_isLock_35 rfl rfl z_ki
  · refine r_iload_n 12 dX11_isLock_11 rfl 1 rfl rfl ?_
    refine r_iconst 13 dX11_isLock_12 rfl zci_0 ?_
    refine r_iconst 14 dX11_isLock_13 rfl zci_1 ?_
    refine r_callSi 17 3 [.int a1, .int (0 : Int32), .int (1 : Int32)] (st := []) dX11_isLock_14 rfl rfl (fun r h => c_X11_within G l (d - 1) (by omega) w0 a1 (0 : Int32) (1 : Int32) r h) wc_X11_within wz_X11 wl_X11_55 wst_X11_within zd_X11_within (by decide) (by omega) rfl (Nat.le_of_ble_eq_true rfl) (fun r2 => ?_)
    refine r_if_eq 34 20 dX11_isLock_17 (by decide) rfl ?_ ?_
    · refine r_iconst 35 dX11_isLock_34 rfl zci_0 ?_
      exact r_zret dX11_isLock_35 rfl rfl z_ki
    · refine r_iload_n 21 dX11_isLock_20 rfl 2 rfl rfl ?_
      refine r_iconst 22 dX11_isLock_21 rfl zci_0 ?_
      refine r_bipush 24 dX11_isLock_22 rfl zcb_19 ?_
      refine r_callSi 27 3 [.int a2, .int (0 : Int32), .int (19 : Int32)] (st := []) dX11_isLock_24 rfl rfl (fun r h => c_X11_within G l (d - 1) (by omega) w0 a2 (0 : Int32) (19 : Int32) r h) wc_X11_within wz_X11 wl_X11_55 wst_X11_within zd_X11_within (by decide) (by omega) rfl (Nat.le_of_ble_eq_true rfl) (fun r3 => ?_)
      refine r_if_eq 34 30 dX11_isLock_27 (by decide) rfl ?_ ?_
      · refine r_iconst 35 dX11_isLock_34 rfl zci_0 ?_
        exact r_zret dX11_isLock_35 rfl rfl z_ki
      · refine r_iconst 31 dX11_isLock_30 rfl zci_1 ?_
        refine r_goto 35 dX11_isLock_31 (by decide) ?_
        exact r_zret dX11_isLock_35 rfl rfl z_ki
-- X4_addToBar
def f_X4_addToBar (w : ZW) (a1 : Int32) (a2 : Int32) (a3 : Int32) (a4 : Int32) (a5 : Int32) : Option (Int32 × ZW) :=
  if (w.1 2 4) < (14 : Int32) then
  if z_in (w.1 2 4) 14 then
    z_let (z_upI w 9 (w.1 2 4).toNatClampNeg a1) fun w1 =>
    if z_in (w1.1 2 4) 14 then
    z_let (z_upI w1 10 (w1.1 2 4).toNatClampNeg a2) fun w2 =>
    if z_in (w2.1 2 4) 14 then
    z_let (z_upI w2 11 (w2.1 2 4).toNatClampNeg (-4 : Int32)) fun w3 =>
    if z_in (w3.1 2 4) 14 then
    z_let (z_upI w3 6 (w3.1 2 4).toNatClampNeg a3) fun w4 =>
    if z_in (w4.1 2 4) 14 then
    z_let (z_upI w4 7 (w4.1 2 4).toNatClampNeg a4) fun w5 =>
    if z_in (w5.1 2 4) 14 then
    z_let (z_upI w5 8 (w5.1 2 4).toNatClampNeg a5) fun w6 =>
    z_let (z_upI w6 2 4 ((w6.1 2 4) + (1 : Int32))) fun w7 =>
    some (w6.1 2 4, w7)
  else none
  else none
  else none
  else none
  else none
  else none
else
  some ((-3 : Int32), w)
set_option maxHeartbeats 4000000 in
set_option maxRecDepth 100000 in
theorem c_X4_addToBar (G : ZG) (l : Launch) (d : Nat) (hd : 1 ≤ d) (w : ZW) (a1 : Int32) (a2 : Int32) (a3 : Int32) (a4 : Int32) (a5 : Int32) : ∀ o, f_X4_addToBar w a1 a2 a3 a4 a5 = some o → zM G l d yX4_addToBar cX4_addToBar 6 (some .int) [.ref (G.1 2), .int a1, .int a2, .int a3, .int a4, .int a5] w (some (.int o.1)) o.2 := by
  intro o ho
  refine zM.of [(0, .ref (G.1 2)), (1, .int a1), (2, .int a2), (3, .int a3), (4, .int a4), (5, .int a5)] (by decide) (Nat.le_of_ble_eq_true rfl) rfl ?_
  refine (?_ : zR G l d "LoveLocks$Rail" cX4_addToBar 6 (some .int) (some (.int o.1)) o.2 (fun x => x = o) 0 [(0, .ref (G.1 2)), (1, .int a1), (2, .int a2), (3, .int a3), (4, .int a4), (5, .int a5)] [] w (f_X4_addToBar w a1 a2 a3 a4 a5)) o ho rfl
  rw [f_X4_addToBar]
  refine r_aload_n 1 dX4_addToBar_0 rfl 0 rfl rfl ?_
  refine r_get 4 2 4 dX4_addToBar_1 rfl zl_2 (ce_2 G _) rfl inz4 (by decide) wf_X4_49 rfl ?_
  refine r_bipush 6 dX4_addToBar_4 rfl zcb_14 ?_
  refine r_icmp_lt 12 9 dX4_addToBar_6 (by decide) rfl ?_ ?_
  · refine r_aload_n 13 dX4_addToBar_12 rfl 0 rfl rfl ?_
    refine r_get 16 2 9 dX4_addToBar_13 rfl zl_2 (ce_2 G _) rfl inz4 (by decide) wf_X4_30 rfl ?_
    refine r_aload_n 17 dX4_addToBar_16 rfl 0 rfl rfl ?_
    refine r_get 20 2 4 dX4_addToBar_17 rfl zl_2 (ce_2 G _) rfl inz4 (by decide) wf_X4_49 rfl ?_
    refine r_iload_n 21 dX4_addToBar_20 rfl 1 rfl rfl ?_
    refine r_iast 22 9 14 dX4_addToBar_21 rfl zl_9 (ce_9 G) ?_
    refine r_topw (fun w1 => ?_)
    refine r_aload_n 23 dX4_addToBar_22 rfl 0 rfl rfl ?_
    refine r_get 26 2 10 dX4_addToBar_23 rfl zl_2 (ce_2 G _) rfl inz4 (by decide) wf_X4_33 rfl ?_
    refine r_aload_n 27 dX4_addToBar_26 rfl 0 rfl rfl ?_
    refine r_get 30 2 4 dX4_addToBar_27 rfl zl_2 (ce_2 G _) rfl inz4 (by decide) wf_X4_49 rfl ?_
    refine r_iload_n 31 dX4_addToBar_30 rfl 2 rfl rfl ?_
    refine r_iast 32 10 14 dX4_addToBar_31 rfl zl_10 (ce_10 G) ?_
    refine r_topw (fun w2 => ?_)
    refine r_aload_n 33 dX4_addToBar_32 rfl 0 rfl rfl ?_
    refine r_get 36 2 11 dX4_addToBar_33 rfl zl_2 (ce_2 G _) rfl inz4 (by decide) wf_X4_36 rfl ?_
    refine r_aload_n 37 dX4_addToBar_36 rfl 0 rfl rfl ?_
    refine r_get 40 2 4 dX4_addToBar_37 rfl zl_2 (ce_2 G _) rfl inz4 (by decide) wf_X4_49 rfl ?_
    refine r_bipush 42 dX4_addToBar_40 rfl zcb_m4 ?_
    refine r_iast 43 11 14 dX4_addToBar_42 rfl zl_11 (ce_11 G) ?_
    refine r_topw (fun w3 => ?_)
    refine r_aload_n 44 dX4_addToBar_43 rfl 0 rfl rfl ?_
    refine r_get 47 2 6 dX4_addToBar_44 rfl zl_2 (ce_2 G _) rfl inz4 (by decide) wf_X4_21 rfl ?_
    refine r_aload_n 48 dX4_addToBar_47 rfl 0 rfl rfl ?_
    refine r_get 51 2 4 dX4_addToBar_48 rfl zl_2 (ce_2 G _) rfl inz4 (by decide) wf_X4_49 rfl ?_
    refine r_iload_n 52 dX4_addToBar_51 rfl 3 rfl rfl ?_
    refine r_iast 53 6 14 dX4_addToBar_52 rfl zl_6 (ce_6 G) ?_
    refine r_topw (fun w4 => ?_)
    refine r_aload_n 54 dX4_addToBar_53 rfl 0 rfl rfl ?_
    refine r_get 57 2 7 dX4_addToBar_54 rfl zl_2 (ce_2 G _) rfl inz4 (by decide) wf_X4_24 rfl ?_
    refine r_aload_n 58 dX4_addToBar_57 rfl 0 rfl rfl ?_
    refine r_get 61 2 4 dX4_addToBar_58 rfl zl_2 (ce_2 G _) rfl inz4 (by decide) wf_X4_49 rfl ?_
    refine r_iload 63 dX4_addToBar_61 rfl 4 rfl ?_
    refine r_iast 64 7 14 dX4_addToBar_63 rfl zl_7 (ce_7 G) ?_
    refine r_topw (fun w5 => ?_)
    refine r_aload_n 65 dX4_addToBar_64 rfl 0 rfl rfl ?_
    refine r_get 68 2 8 dX4_addToBar_65 rfl zl_2 (ce_2 G _) rfl inz4 (by decide) wf_X4_27 rfl ?_
    refine r_aload_n 69 dX4_addToBar_68 rfl 0 rfl rfl ?_
    refine r_get 72 2 4 dX4_addToBar_69 rfl zl_2 (ce_2 G _) rfl inz4 (by decide) wf_X4_49 rfl ?_
    refine r_iload 74 dX4_addToBar_72 rfl 5 rfl ?_
    refine r_iast 75 8 14 dX4_addToBar_74 rfl zl_8 (ce_8 G) ?_
    refine r_topw (fun w6 => ?_)
    refine r_aload_n 76 dX4_addToBar_75 rfl 0 rfl rfl ?_
    refine r_dup 77 dX4_addToBar_76 rfl rfl ?_
    refine r_get 80 2 4 dX4_addToBar_77 rfl zl_2 (ce_2 G _) rfl inz4 (by decide) wf_X4_49 rfl ?_
    refine r_dup_x1 81 dX4_addToBar_80 rfl rfl rfl ?_
    refine r_iconst 82 dX4_addToBar_81 rfl zci_1 ?_
    refine r_iadd 83 dX4_addToBar_82 rfl ?_
    refine r_puti 86 2 4 dX4_addToBar_83 rfl zl_2 (ce_2 G _) rfl inz4 tyX4_ok nmX4 (by decide) wf_X4_49 rfl rfl (Nat.le_of_ble_eq_true rfl) rfl ?_
    refine r_topw (fun w7 => ?_)
    exact r_iret dX4_addToBar_86 rfl z_kiw
  · refine r_bipush 11 dX4_addToBar_9 rfl zcb_m3 ?_
    exact r_iret dX4_addToBar_11 rfl z_kiw
-- X11_hang
def f_X11_hang (w : ZW) (a1 : Int32) (a2 : Int32) (a3 : Int32) (a4 : Int32) (a5 : Int32) : Option (Int32 × ZW) :=
  (f_X11_isBar w a1 a2).bind fun r1 : Int32 =>
  if r1 = 0 then
  some ((-1 : Int32), w)
else
  (f_X11_isLock a3 a4 a5).bind fun r2 : Int32 =>
    if r2 = 0 then
    some ((-1 : Int32), w)
  else
    (f_X4_addToBar w a1 a2 a3 a4 a5).bind fun r3 : Int32 × ZW =>
      some (r3.1, r3.2)
set_option maxHeartbeats 4000000 in
set_option maxRecDepth 100000 in
theorem c_X11_hang (G : ZG) (l : Launch) (d : Nat) (hd : 3 ≤ d) (w : ZW) (a1 : Int32) (a2 : Int32) (a3 : Int32) (a4 : Int32) (a5 : Int32) : ∀ o, f_X11_hang w a1 a2 a3 a4 a5 = some o → zM G l d yX11_hang cX11_hang 6 (some .int) [.ref (G.1 0), .int a1, .int a2, .int a3, .int a4, .int a5] w (some (.int o.1)) o.2 := by
  intro o ho
  refine zM.of [(0, .ref (G.1 0)), (1, .int a1), (2, .int a2), (3, .int a3), (4, .int a4), (5, .int a5)] (by decide) (Nat.le_of_ble_eq_true rfl) rfl ?_
  refine (?_ : zR G l d "LoveLocks" cX11_hang 6 (some .int) (some (.int o.1)) o.2 (fun x => x = o) 0 [(0, .ref (G.1 0)), (1, .int a1), (2, .int a2), (3, .int a3), (4, .int a4), (5, .int a5)] [] w (f_X11_hang w a1 a2 a3 a4 a5)) o ho rfl
  rw [f_X11_hang]
  refine r_aload_n 1 dX11_hang_0 rfl 0 rfl rfl ?_
  refine r_iload_n 2 dX11_hang_1 rfl 1 rfl rfl ?_
  refine r_iload_n 3 dX11_hang_2 rfl 2 rfl rfl ?_
  refine r_callVi 6 2 (ko := 0) [.int a1, .int a2] (st := []) dX11_hang_3 rfl rfl (fun r h => c_X11_isBar G l (d - 1) (by omega) w a1 a2 r h) zl_0 (ce_0 G _) rfl rfl wc_X11_isBar wz_X11 wl_X11_73 wi_X11_isBar ws_X11_isBar zd_X11_isBar (by decide) (by omega) rfl (Nat.le_of_ble_eq_true rfl) (fun r1 => ?_)
  refine r_if_eq 20 9 dX11_hang_6 (by decide) rfl ?_ ?_
  · refine r_iconst 21 dX11_hang_20 rfl zci_m1 ?_
    exact r_iret dX11_hang_21 rfl z_kiw
  · refine r_iload_n 10 dX11_hang_9 rfl 3 rfl rfl ?_
    refine r_iload 12 dX11_hang_10 rfl 4 rfl ?_
    refine r_iload 14 dX11_hang_12 rfl 5 rfl ?_
    refine r_callSi 17 3 [.int a3, .int a4, .int a5] (st := []) dX11_hang_14 rfl rfl (fun r h => c_X11_isLock G l (d - 1) (by omega) w a3 a4 a5 r h) wc_X11_isLock wz_X11 wl_X11_77 wst_X11_isLock zd_X11_isLock (by decide) (by omega) rfl (Nat.le_of_ble_eq_true rfl) (fun r2 => ?_)
    refine r_if_ne 22 20 dX11_hang_17 (by decide) rfl ?_ ?_
    · refine r_aload_n 23 dX11_hang_22 rfl 0 rfl rfl ?_
      refine r_get 26 0 0 dX11_hang_23 rfl zl_0 (ce_0 G _) rfl inz11 (by decide) wf_X11_10 rfl ?_
      refine r_get 29 1 0 dX11_hang_26 rfl zl_1 (ce_1 G _) rfl inz9 (by decide) wf_X11_59 rfl ?_
      refine r_iload_n 30 dX11_hang_29 rfl 1 rfl rfl ?_
      refine r_iload_n 31 dX11_hang_30 rfl 2 rfl rfl ?_
      refine r_iload_n 32 dX11_hang_31 rfl 3 rfl rfl ?_
      refine r_iload 34 dX11_hang_32 rfl 4 rfl ?_
      refine r_iload 36 dX11_hang_34 rfl 5 rfl ?_
      refine r_callViw 39 5 (ko := 2) [.int a1, .int a2, .int a3, .int a4, .int a5] (st := []) dX11_hang_36 rfl rfl (fun r h => c_X4_addToBar G l (d - 1) (by omega) w a1 a2 a3 a4 a5 r h) zl_2 (ce_2 G _) rfl rfl wc_X4_addToBar wz_X4 wl_X11_80 wi_X4_addToBar ws_X4_addToBar zd_X4_addToBar (by decide) (by omega) rfl (Nat.le_of_ble_eq_true rfl) (fun r3 => ?_)
      exact r_iret dX11_hang_39 rfl z_kiw
    · refine r_iconst 21 dX11_hang_20 rfl zci_m1 ?_
      exact r_iret dX11_hang_21 rfl z_kiw
-- X4_hasLock
def f_X4_hasLock (w : ZW) (a1 : Int32) : Option (Int32) :=
  if a1 < 0 then
  some (0 : Int32)
else
  if (w.1 2 4) ≤ a1 then
    some (0 : Int32)
  else
    some (1 : Int32)
set_option maxHeartbeats 4000000 in
set_option maxRecDepth 100000 in
theorem c_X4_hasLock (G : ZG) (l : Launch) (d : Nat) (hd : 1 ≤ d) (w : ZW) (a1 : Int32) : ∀ o, f_X4_hasLock w a1 = some o → zM G l d yX4_hasLock cX4_hasLock 2 (some .boolean) [.ref (G.1 2), .int a1] w (some (.int o)) w := by
  intro o ho
  refine zM.of [(0, .ref (G.1 2)), (1, .int a1)] (by decide) (Nat.le_of_ble_eq_true rfl) rfl ?_
  refine (?_ : zR G l d "LoveLocks$Rail" cX4_hasLock 2 (some .boolean) (some (.int o)) w (fun x => x = o) 0 [(0, .ref (G.1 2)), (1, .int a1)] [] w (f_X4_hasLock w a1)) o ho rfl
  rw [f_X4_hasLock]
  refine r_iload_n 1 dX4_hasLock_0 rfl 1 rfl rfl ?_
  refine r_if_lt 16 4 dX4_hasLock_1 (by decide) rfl ?_ ?_
  · refine r_iconst 17 dX4_hasLock_16 rfl zci_0 ?_
    exact r_zret dX4_hasLock_17 rfl rfl z_ki
  · refine r_iload_n 5 dX4_hasLock_4 rfl 1 rfl rfl ?_
    refine r_aload_n 6 dX4_hasLock_5 rfl 0 rfl rfl ?_
    refine r_get 9 2 4 dX4_hasLock_6 rfl zl_2 (ce_2 G _) rfl inz4 (by decide) wf_X4_49 rfl ?_
    refine r_icmp_ge 16 12 dX4_hasLock_9 (by decide) rfl ?_ ?_
    · refine r_iconst 17 dX4_hasLock_16 rfl zci_0 ?_
      exact r_zret dX4_hasLock_17 rfl rfl z_ki
    · refine r_iconst 13 dX4_hasLock_12 rfl zci_1 ?_
      refine r_goto 17 dX4_hasLock_13 (by decide) ?_
      exact r_zret dX4_hasLock_17 rfl rfl z_ki
-- X4_isGone
def f_X4_isGone (w : ZW) (a1 : Int32) : Option (Int32) :=
  if (((w.1 2 5) >>> (a1 &&& 31)) &&& (1 : Int32)) = 0 then
  some (0 : Int32)
else
  some (1 : Int32)
set_option maxHeartbeats 4000000 in
set_option maxRecDepth 100000 in
theorem c_X4_isGone (G : ZG) (l : Launch) (d : Nat) (hd : 1 ≤ d) (w : ZW) (a1 : Int32) : ∀ o, f_X4_isGone w a1 = some o → zM G l d yX4_isGone cX4_isGone 2 (some .boolean) [.ref (G.1 2), .int a1] w (some (.int o)) w := by
  intro o ho
  refine zM.of [(0, .ref (G.1 2)), (1, .int a1)] (by decide) (Nat.le_of_ble_eq_true rfl) rfl ?_
  refine (?_ : zR G l d "LoveLocks$Rail" cX4_isGone 2 (some .boolean) (some (.int o)) w (fun x => x = o) 0 [(0, .ref (G.1 2)), (1, .int a1)] [] w (f_X4_isGone w a1)) o ho rfl
  rw [f_X4_isGone]
  refine r_aload_n 1 dX4_isGone_0 rfl 0 rfl rfl ?_
  refine r_get 4 2 5 dX4_isGone_1 rfl zl_2 (ce_2 G _) rfl inz4 (by decide) wf_X4_52 rfl ?_
  refine r_iload_n 5 dX4_isGone_4 rfl 1 rfl rfl ?_
  refine r_ishr 6 dX4_isGone_5 rfl ?_
  refine r_iconst 7 dX4_isGone_6 rfl zci_1 ?_
  refine r_iand 8 dX4_isGone_7 rfl ?_
  refine r_if_eq 15 11 dX4_isGone_8 (by decide) rfl ?_ ?_
  · refine r_iconst 16 dX4_isGone_15 rfl zci_0 ?_
    exact r_zret dX4_isGone_16 rfl rfl z_ki
  · refine r_iconst 12 dX4_isGone_11 rfl zci_1 ?_
    refine r_goto 16 dX4_isGone_12 (by decide) ?_
    exact r_zret dX4_isGone_16 rfl rfl z_ki
-- X4_addToLock
def f_X4_addToLock (w : ZW) (a1 : Int32) (a2 : Int32) (a3 : Int32) (a4 : Int32) : Option (Int32 × ZW) :=
  if z_in a1 14 then
  if z_in a1 14 then
  (f_X4_addToBar w (w.1 9 a1.toNatClampNeg) (w.1 10 a1.toNatClampNeg) a2 a3 a4).bind fun r1 : Int32 × ZW =>
  if r1.1 < 0 then
  some (r1.1, r1.2)
else
  if z_in r1.1 14 then
    z_let (z_upI r1.2 11 r1.1.toNatClampNeg a1) fun w2 =>
    some (r1.1, w2)
  else none
else none
else none
set_option maxHeartbeats 4000000 in
set_option maxRecDepth 100000 in
theorem c_X4_addToLock (G : ZG) (l : Launch) (d : Nat) (hd : 2 ≤ d) (w : ZW) (a1 : Int32) (a2 : Int32) (a3 : Int32) (a4 : Int32) : ∀ o, f_X4_addToLock w a1 a2 a3 a4 = some o → zM G l d yX4_addToLock cX4_addToLock 6 (some .int) [.ref (G.1 2), .int a1, .int a2, .int a3, .int a4] w (some (.int o.1)) o.2 := by
  intro o ho
  refine zM.of [(0, .ref (G.1 2)), (1, .int a1), (2, .int a2), (3, .int a3), (4, .int a4)] (by decide) (Nat.le_of_ble_eq_true rfl) rfl ?_
  refine (?_ : zR G l d "LoveLocks$Rail" cX4_addToLock 6 (some .int) (some (.int o.1)) o.2 (fun x => x = o) 0 [(0, .ref (G.1 2)), (1, .int a1), (2, .int a2), (3, .int a3), (4, .int a4)] [] w (f_X4_addToLock w a1 a2 a3 a4)) o ho rfl
  rw [f_X4_addToLock]
  refine r_aload_n 1 dX4_addToLock_0 rfl 0 rfl rfl ?_
  refine r_aload_n 2 dX4_addToLock_1 rfl 0 rfl rfl ?_
  refine r_get 5 2 9 dX4_addToLock_2 rfl zl_2 (ce_2 G _) rfl inz4 (by decide) wf_X4_30 rfl ?_
  refine r_iload_n 6 dX4_addToLock_5 rfl 1 rfl rfl ?_
  refine r_iald 7 9 14 dX4_addToLock_6 rfl zl_9 (ce_9 G _) ?_
  refine r_aload_n 8 dX4_addToLock_7 rfl 0 rfl rfl ?_
  refine r_get 11 2 10 dX4_addToLock_8 rfl zl_2 (ce_2 G _) rfl inz4 (by decide) wf_X4_33 rfl ?_
  refine r_iload_n 12 dX4_addToLock_11 rfl 1 rfl rfl ?_
  refine r_iald 13 10 14 dX4_addToLock_12 rfl zl_10 (ce_10 G _) ?_
  refine r_iload_n 14 dX4_addToLock_13 rfl 2 rfl rfl ?_
  refine r_iload_n 15 dX4_addToLock_14 rfl 3 rfl rfl ?_
  refine r_iload 17 dX4_addToLock_15 rfl 4 rfl ?_
  refine r_callViw 20 5 (ko := 2) [.int (w.1 9 a1.toNatClampNeg), .int (w.1 10 a1.toNatClampNeg), .int a2, .int a3, .int a4] (st := []) dX4_addToLock_17 rfl rfl (fun r h => c_X4_addToBar G l (d - 1) (by omega) w (w.1 9 a1.toNatClampNeg) (w.1 10 a1.toNatClampNeg) a2 a3 a4 r h) zl_2 (ce_2 G _) rfl rfl wc_X4_addToBar wz_X4 wl_X4_55 wi_X4_addToBar ws_X4_addToBar zd_X4_addToBar (by decide) (by omega) rfl (Nat.le_of_ble_eq_true rfl) (fun r1 => ?_)
  refine r_istore 22 [(5, .int r1.1), (0, .ref (G.1 2)), (1, .int a1), (2, .int a2), (3, .int a3), (4, .int a4)] dX4_addToLock_20 rfl (by decide) rfl ?_
  refine r_iload 24 dX4_addToLock_22 rfl 0 rfl ?_
  refine r_if_lt 35 27 dX4_addToLock_24 (by decide) rfl ?_ ?_
  · refine r_iload 37 dX4_addToLock_35 rfl 0 rfl ?_
    exact r_iret dX4_addToLock_37 rfl z_kiw
  · refine r_aload_n 28 dX4_addToLock_27 rfl 1 rfl rfl ?_
    refine r_get 31 2 11 dX4_addToLock_28 rfl zl_2 (ce_2 G _) rfl inz4 (by decide) wf_X4_36 rfl ?_
    refine r_iload 33 dX4_addToLock_31 rfl 0 rfl ?_
    refine r_iload_n 34 dX4_addToLock_33 rfl 2 rfl rfl ?_
    refine r_iast 35 11 14 dX4_addToLock_34 rfl zl_11 (ce_11 G) ?_
    refine r_topw (fun w2 => ?_)
    refine r_iload 37 dX4_addToLock_35 rfl 0 rfl ?_
    exact r_iret dX4_addToLock_37 rfl z_kiw
-- X11_hangOn
def f_X11_hangOn (w : ZW) (a1 : Int32) (a2 : Int32) (a3 : Int32) (a4 : Int32) : Option (Int32 × ZW) :=
  (f_X4_hasLock w a1).bind fun r1 : Int32 =>
  if r1 = 0 then
  some ((-1 : Int32), w)
else
  (f_X11_isLock a2 a3 a4).bind fun r2 : Int32 =>
    if r2 = 0 then
    some ((-1 : Int32), w)
  else
    (f_X4_isGone w a1).bind fun r3 : Int32 =>
      if r3 = 0 then
      (f_X4_addToLock w a1 a2 a3 a4).bind fun r4 : Int32 × ZW =>
        some (r4.1, r4.2)
    else
      some ((-2 : Int32), w)
set_option maxHeartbeats 4000000 in
set_option maxRecDepth 100000 in
theorem c_X11_hangOn (G : ZG) (l : Launch) (d : Nat) (hd : 3 ≤ d) (w : ZW) (a1 : Int32) (a2 : Int32) (a3 : Int32) (a4 : Int32) : ∀ o, f_X11_hangOn w a1 a2 a3 a4 = some o → zM G l d yX11_hangOn cX11_hangOn 5 (some .int) [.ref (G.1 0), .int a1, .int a2, .int a3, .int a4] w (some (.int o.1)) o.2 := by
  intro o ho
  refine zM.of [(0, .ref (G.1 0)), (1, .int a1), (2, .int a2), (3, .int a3), (4, .int a4)] (by decide) (Nat.le_of_ble_eq_true rfl) rfl ?_
  refine (?_ : zR G l d "LoveLocks" cX11_hangOn 5 (some .int) (some (.int o.1)) o.2 (fun x => x = o) 0 [(0, .ref (G.1 0)), (1, .int a1), (2, .int a2), (3, .int a3), (4, .int a4)] [] w (f_X11_hangOn w a1 a2 a3 a4)) o ho rfl
  rw [f_X11_hangOn]
  refine r_aload_n 1 dX11_hangOn_0 rfl 0 rfl rfl ?_
  refine r_get 4 0 0 dX11_hangOn_1 rfl zl_0 (ce_0 G _) rfl inz11 (by decide) wf_X11_10 rfl ?_
  refine r_get 7 1 0 dX11_hangOn_4 rfl zl_1 (ce_1 G _) rfl inz9 (by decide) wf_X11_59 rfl ?_
  refine r_iload_n 8 dX11_hangOn_7 rfl 1 rfl rfl ?_
  refine r_callVi 11 1 (ko := 2) [.int a1] (st := []) dX11_hangOn_8 rfl rfl (fun r h => c_X4_hasLock G l (d - 1) (by omega) w a1 r h) zl_2 (ce_2 G _) rfl rfl wc_X4_hasLock wz_X4 wl_X11_84 wi_X4_hasLock ws_X4_hasLock zd_X4_hasLock (by decide) (by omega) rfl (Nat.le_of_ble_eq_true rfl) (fun r1 => ?_)
  refine r_if_eq 24 14 dX11_hangOn_11 (by decide) rfl ?_ ?_
  · refine r_iconst 25 dX11_hangOn_24 rfl zci_m1 ?_
    exact r_iret dX11_hangOn_25 rfl z_kiw
  · refine r_iload_n 15 dX11_hangOn_14 rfl 2 rfl rfl ?_
    refine r_iload_n 16 dX11_hangOn_15 rfl 3 rfl rfl ?_
    refine r_iload 18 dX11_hangOn_16 rfl 4 rfl ?_
    refine r_callSi 21 3 [.int a2, .int a3, .int a4] (st := []) dX11_hangOn_18 rfl rfl (fun r h => c_X11_isLock G l (d - 1) (by omega) w a2 a3 a4 r h) wc_X11_isLock wz_X11 wl_X11_77 wst_X11_isLock zd_X11_isLock (by decide) (by omega) rfl (Nat.le_of_ble_eq_true rfl) (fun r2 => ?_)
    refine r_if_ne 26 24 dX11_hangOn_21 (by decide) rfl ?_ ?_
    · refine r_aload_n 27 dX11_hangOn_26 rfl 0 rfl rfl ?_
      refine r_get 30 0 0 dX11_hangOn_27 rfl zl_0 (ce_0 G _) rfl inz11 (by decide) wf_X11_10 rfl ?_
      refine r_get 33 1 0 dX11_hangOn_30 rfl zl_1 (ce_1 G _) rfl inz9 (by decide) wf_X11_59 rfl ?_
      refine r_iload_n 34 dX11_hangOn_33 rfl 1 rfl rfl ?_
      refine r_callVi 37 1 (ko := 2) [.int a1] (st := []) dX11_hangOn_34 rfl rfl (fun r h => c_X4_isGone G l (d - 1) (by omega) w a1 r h) zl_2 (ce_2 G _) rfl rfl wc_X4_isGone wz_X4 wl_X11_87 wi_X4_isGone ws_X4_isGone zd_X4_isGone (by decide) (by omega) rfl (Nat.le_of_ble_eq_true rfl) (fun r3 => ?_)
      refine r_if_eq 43 40 dX11_hangOn_37 (by decide) rfl ?_ ?_
      · refine r_aload_n 44 dX11_hangOn_43 rfl 0 rfl rfl ?_
        refine r_get 47 0 0 dX11_hangOn_44 rfl zl_0 (ce_0 G _) rfl inz11 (by decide) wf_X11_10 rfl ?_
        refine r_get 50 1 0 dX11_hangOn_47 rfl zl_1 (ce_1 G _) rfl inz9 (by decide) wf_X11_59 rfl ?_
        refine r_iload_n 51 dX11_hangOn_50 rfl 1 rfl rfl ?_
        refine r_iload_n 52 dX11_hangOn_51 rfl 2 rfl rfl ?_
        refine r_iload_n 53 dX11_hangOn_52 rfl 3 rfl rfl ?_
        refine r_iload 55 dX11_hangOn_53 rfl 4 rfl ?_
        refine r_callViw 58 4 (ko := 2) [.int a1, .int a2, .int a3, .int a4] (st := []) dX11_hangOn_55 rfl rfl (fun r h => c_X4_addToLock G l (d - 1) (by omega) w a1 a2 a3 a4 r h) zl_2 (ce_2 G _) rfl rfl wc_X4_addToLock wz_X4 wl_X11_90 wi_X4_addToLock ws_X4_addToLock zd_X4_addToLock (by decide) (by omega) rfl (Nat.le_of_ble_eq_true rfl) (fun r4 => ?_)
        exact r_iret dX11_hangOn_58 rfl z_kiw
      · refine r_bipush 42 dX11_hangOn_40 rfl zcb_m2 ?_
        exact r_iret dX11_hangOn_42 rfl z_kiw
    · refine r_iconst 25 dX11_hangOn_24 rfl zci_m1 ?_
      exact r_iret dX11_hangOn_25 rfl z_kiw
-- X4_withAllOn
def f_X4_withAllOn_L8 (w : ZW) (s2 : Int32 × Int32) : Option ((Int32 × Int32) ⊕ (Int32)) :=
  if (w.1 2 4) ≤ s2.2 then
  some (.inr s2.1)
else
  (f_X4_isGone w s2.2).bind fun r4 : Int32 =>
    if r4 = 0 then
    if z_in s2.2 14 then
      if (w.1 11 s2.2.toNatClampNeg) < 0 then
      some (.inl (s2.1, s2.2 + (1 : Int32)))
    else
      if z_in s2.2 14 then
        if ((s2.1 >>> ((w.1 11 s2.2.toNatClampNeg) &&& 31)) &&& (1 : Int32)) = 0 then
        some (.inl (s2.1, s2.2 + (1 : Int32)))
      else
        z_let (s2.1 ||| ((1 : Int32) <<< (s2.2 &&& 31))) fun y5 =>
          some (.inl (y5, s2.2 + (1 : Int32)))
      else none
    else none
  else
    some (.inl (s2.1, s2.2 + (1 : Int32)))
def f_X4_withAllOn (w : ZW) (a1 : Int32) : Option (Int32) :=
  z_let ((1 : Int32) <<< (a1 &&& 31)) fun y1 =>
  (z_iter (f_X4_withAllOn_L8 w) z_fuel (y1, a1 + (1 : Int32))).bind (fun q3 : Int32 =>
  some q3)
set_option maxHeartbeats 4000000 in
set_option maxRecDepth 100000 in
theorem c_X4_withAllOn (G : ZG) (l : Launch) (d : Nat) (hd : 2 ≤ d) (w : ZW) (a1 : Int32) : ∀ o, f_X4_withAllOn w a1 = some o → zM G l d yX4_withAllOn cX4_withAllOn 4 (some .int) [.ref (G.1 2), .int a1] w (some (.int o)) w := by
  intro o ho
  refine zM.of [(0, .ref (G.1 2)), (1, .int a1)] (by decide) (Nat.le_of_ble_eq_true rfl) rfl ?_
  refine (?_ : zR G l d "LoveLocks$Rail" cX4_withAllOn 4 (some .int) (some (.int o)) w (fun x => x = o) 0 [(0, .ref (G.1 2)), (1, .int a1)] [] w (f_X4_withAllOn w a1)) o ho rfl
  rw [f_X4_withAllOn]
  refine r_iconst 1 dX4_withAllOn_0 rfl zci_1 ?_
  refine r_iload_n 2 dX4_withAllOn_1 rfl 1 rfl rfl ?_
  refine r_ishl 3 dX4_withAllOn_2 rfl ?_
  refine r_topi (fun y1 => ?_)
  refine r_istore_n 4 [(2, .int y1), (0, .ref (G.1 2)), (1, .int a1)] dX4_withAllOn_3 rfl rfl (by decide) rfl ?_
  refine r_iload_n 5 dX4_withAllOn_4 rfl 2 rfl rfl ?_
  refine r_iconst 6 dX4_withAllOn_5 rfl zci_1 ?_
  refine r_iadd 7 dX4_withAllOn_6 rfl ?_
  refine r_istore_n 8 [(3, .int (a1 + (1 : Int32))), (2, .int y1), (0, .ref (G.1 2)), (1, .int a1)] dX4_withAllOn_7 rfl rfl (by decide) rfl ?_
  refine r_loopE [2, 1, 0] (fun s2 => [(0, .ref (G.1 2)), (2, .int s2.1), (3, .int s2.2)]) (fun s2 => w) 58 (fun q3 => [(2, .int q3)]) (fun q3 => w) rfl rfl (fun s2 => ?_) (fun q3 => ?_)
  · rw [f_X4_withAllOn_L8]
    refine r_iload_n 9 dX4_withAllOn_8 rfl 2 rfl rfl ?_
    refine r_aload_n 10 dX4_withAllOn_9 rfl 0 rfl rfl ?_
    refine r_get 13 2 4 dX4_withAllOn_10 rfl zl_2 (ce_2 G _) rfl inz4 (by decide) wf_X4_49 rfl ?_
    refine r_icmp_ge 58 16 dX4_withAllOn_13 (by decide) rfl ?_ ?_
    · exact r_leaf [1] (lv2 := [(2, .int s2.1)]) rfl (fun h => h)
    · refine r_aload_n 17 dX4_withAllOn_16 rfl 0 rfl rfl ?_
      refine r_iload_n 18 dX4_withAllOn_17 rfl 2 rfl rfl ?_
      refine r_callVi 21 1 (ko := 2) [.int s2.2] (st := []) dX4_withAllOn_18 rfl rfl (fun r h => c_X4_isGone G l (d - 1) (by omega) w s2.2 r h) zl_2 (ce_2 G _) rfl rfl wc_X4_isGone wz_X4 wl_X4_63 wi_X4_isGone ws_X4_isGone zd_X4_isGone (by decide) (by omega) rfl (Nat.le_of_ble_eq_true rfl) (fun r4 => ?_)
      refine r_if_ne 52 24 dX4_withAllOn_21 (by decide) rfl ?_ ?_
      · refine r_iinc 55 2 [(3, .int (s2.2 + (1 : Int32))), (0, .ref (G.1 2)), (2, .int s2.1)] dX4_withAllOn_52 rfl rfl zci_1 (by decide) rfl ?_
        refine r_goto 8 dX4_withAllOn_55 (by decide) ?_
        exact r_leaf [1, 2, 0] (lv2 := [(0, .ref (G.1 2)), (2, .int s2.1), (3, .int (s2.2 + (1 : Int32)))]) rfl (fun h => h)
      · refine r_aload_n 25 dX4_withAllOn_24 rfl 0 rfl rfl ?_
        refine r_get 28 2 11 dX4_withAllOn_25 rfl zl_2 (ce_2 G _) rfl inz4 (by decide) wf_X4_36 rfl ?_
        refine r_iload_n 29 dX4_withAllOn_28 rfl 2 rfl rfl ?_
        refine r_iald 30 11 14 dX4_withAllOn_29 rfl zl_11 (ce_11 G _) ?_
        refine r_if_lt 52 33 dX4_withAllOn_30 (by decide) rfl ?_ ?_
        · refine r_iinc 55 2 [(3, .int (s2.2 + (1 : Int32))), (0, .ref (G.1 2)), (2, .int s2.1)] dX4_withAllOn_52 rfl rfl zci_1 (by decide) rfl ?_
          refine r_goto 8 dX4_withAllOn_55 (by decide) ?_
          exact r_leaf [1, 2, 0] (lv2 := [(0, .ref (G.1 2)), (2, .int s2.1), (3, .int (s2.2 + (1 : Int32)))]) rfl (fun h => h)
        · refine r_iload_n 34 dX4_withAllOn_33 rfl 1 rfl rfl ?_
          refine r_aload_n 35 dX4_withAllOn_34 rfl 0 rfl rfl ?_
          refine r_get 38 2 11 dX4_withAllOn_35 rfl zl_2 (ce_2 G _) rfl inz4 (by decide) wf_X4_36 rfl ?_
          refine r_iload_n 39 dX4_withAllOn_38 rfl 2 rfl rfl ?_
          refine r_iald 40 11 14 dX4_withAllOn_39 rfl zl_11 (ce_11 G _) ?_
          refine r_ishr 41 dX4_withAllOn_40 rfl ?_
          refine r_iconst 42 dX4_withAllOn_41 rfl zci_1 ?_
          refine r_iand 43 dX4_withAllOn_42 rfl ?_
          refine r_if_eq 52 46 dX4_withAllOn_43 (by decide) rfl ?_ ?_
          · refine r_iinc 55 2 [(3, .int (s2.2 + (1 : Int32))), (0, .ref (G.1 2)), (2, .int s2.1)] dX4_withAllOn_52 rfl rfl zci_1 (by decide) rfl ?_
            refine r_goto 8 dX4_withAllOn_55 (by decide) ?_
            exact r_leaf [1, 2, 0] (lv2 := [(0, .ref (G.1 2)), (2, .int s2.1), (3, .int (s2.2 + (1 : Int32)))]) rfl (fun h => h)
          · refine r_iload_n 47 dX4_withAllOn_46 rfl 1 rfl rfl ?_
            refine r_iconst 48 dX4_withAllOn_47 rfl zci_1 ?_
            refine r_iload_n 49 dX4_withAllOn_48 rfl 2 rfl rfl ?_
            refine r_ishl 50 dX4_withAllOn_49 rfl ?_
            refine r_ior 51 dX4_withAllOn_50 rfl ?_
            refine r_topi (fun y5 => ?_)
            refine r_istore_n 52 [(2, .int y5), (0, .ref (G.1 2)), (3, .int s2.2)] dX4_withAllOn_51 rfl rfl (by decide) rfl ?_
            refine r_iinc 55 2 [(3, .int (s2.2 + (1 : Int32))), (2, .int y5), (0, .ref (G.1 2))] dX4_withAllOn_52 rfl rfl zci_1 (by decide) rfl ?_
            refine r_goto 8 dX4_withAllOn_55 (by decide) ?_
            exact r_leaf [2, 1, 0] (lv2 := [(0, .ref (G.1 2)), (2, .int y5), (3, .int (s2.2 + (1 : Int32)))]) rfl (fun h => h)
  · refine r_iload_n 59 dX4_withAllOn_58 rfl 0 rfl rfl ?_
    exact r_iret dX4_withAllOn_59 rfl z_ki
-- X4_weightOf
def f_X4_weightOf_L4 (w : ZW) (a1 : Int32) (s1 : Int32 × Int32) : Option ((Int32 × Int32) ⊕ (Int32)) :=
  if (w.1 2 4) ≤ s1.2 then
  some (.inr s1.1)
else
  if ((a1 >>> (s1.2 &&& 31)) &&& (1 : Int32)) = 0 then
    some (.inl (s1.1, s1.2 + (1 : Int32)))
  else
    if z_in s1.2 14 then
      z_let (s1.1 + (w.1 6 s1.2.toNatClampNeg)) fun y3 =>
      some (.inl (y3, s1.2 + (1 : Int32)))
    else none
def f_X4_weightOf (w : ZW) (a1 : Int32) : Option (Int32) :=
  (z_iter (f_X4_weightOf_L4 w a1) z_fuel ((0 : Int32), (0 : Int32))).bind (fun q2 : Int32 =>
  some q2)
set_option maxHeartbeats 4000000 in
set_option maxRecDepth 100000 in
theorem c_X4_weightOf (G : ZG) (l : Launch) (d : Nat) (hd : 1 ≤ d) (w : ZW) (a1 : Int32) : ∀ o, f_X4_weightOf w a1 = some o → zM G l d yX4_weightOf cX4_weightOf 4 (some .int) [.ref (G.1 2), .int a1] w (some (.int o)) w := by
  intro o ho
  refine zM.of [(0, .ref (G.1 2)), (1, .int a1)] (by decide) (Nat.le_of_ble_eq_true rfl) rfl ?_
  refine (?_ : zR G l d "LoveLocks$Rail" cX4_weightOf 4 (some .int) (some (.int o)) w (fun x => x = o) 0 [(0, .ref (G.1 2)), (1, .int a1)] [] w (f_X4_weightOf w a1)) o ho rfl
  rw [f_X4_weightOf]
  refine r_iconst 1 dX4_weightOf_0 rfl zci_0 ?_
  refine r_istore_n 2 [(2, .int (0 : Int32)), (0, .ref (G.1 2)), (1, .int a1)] dX4_weightOf_1 rfl rfl (by decide) rfl ?_
  refine r_iconst 3 dX4_weightOf_2 rfl zci_0 ?_
  refine r_istore_n 4 [(3, .int (0 : Int32)), (2, .int (0 : Int32)), (0, .ref (G.1 2)), (1, .int a1)] dX4_weightOf_3 rfl rfl (by decide) rfl ?_
  refine r_loopE [2, 3, 1, 0] (fun s1 => [(0, .ref (G.1 2)), (1, .int a1), (2, .int s1.1), (3, .int s1.2)]) (fun s1 => w) 35 (fun q2 => [(2, .int q2)]) (fun q2 => w) rfl rfl (fun s1 => ?_) (fun q2 => ?_)
  · rw [f_X4_weightOf_L4]
    refine r_iload_n 5 dX4_weightOf_4 rfl 3 rfl rfl ?_
    refine r_aload_n 6 dX4_weightOf_5 rfl 0 rfl rfl ?_
    refine r_get 9 2 4 dX4_weightOf_6 rfl zl_2 (ce_2 G _) rfl inz4 (by decide) wf_X4_49 rfl ?_
    refine r_icmp_ge 35 12 dX4_weightOf_9 (by decide) rfl ?_ ?_
    · exact r_leaf [2] (lv2 := [(2, .int s1.1)]) rfl (fun h => h)
    · refine r_iload_n 13 dX4_weightOf_12 rfl 1 rfl rfl ?_
      refine r_iload_n 14 dX4_weightOf_13 rfl 3 rfl rfl ?_
      refine r_ishr 15 dX4_weightOf_14 rfl ?_
      refine r_iconst 16 dX4_weightOf_15 rfl zci_1 ?_
      refine r_iand 17 dX4_weightOf_16 rfl ?_
      refine r_if_eq 29 20 dX4_weightOf_17 (by decide) rfl ?_ ?_
      · refine r_iinc 32 3 [(3, .int (s1.2 + (1 : Int32))), (0, .ref (G.1 2)), (1, .int a1), (2, .int s1.1)] dX4_weightOf_29 rfl rfl zci_1 (by decide) rfl ?_
        refine r_goto 4 dX4_weightOf_32 (by decide) ?_
        exact r_leaf [1, 2, 3, 0] (lv2 := [(0, .ref (G.1 2)), (1, .int a1), (2, .int s1.1), (3, .int (s1.2 + (1 : Int32)))]) rfl (fun h => h)
      · refine r_iload_n 21 dX4_weightOf_20 rfl 2 rfl rfl ?_
        refine r_aload_n 22 dX4_weightOf_21 rfl 0 rfl rfl ?_
        refine r_get 25 2 6 dX4_weightOf_22 rfl zl_2 (ce_2 G _) rfl inz4 (by decide) wf_X4_21 rfl ?_
        refine r_iload_n 26 dX4_weightOf_25 rfl 3 rfl rfl ?_
        refine r_iald 27 6 14 dX4_weightOf_26 rfl zl_6 (ce_6 G _) ?_
        refine r_iadd 28 dX4_weightOf_27 rfl ?_
        refine r_topi (fun y3 => ?_)
        refine r_istore_n 29 [(2, .int y3), (0, .ref (G.1 2)), (1, .int a1), (3, .int s1.2)] dX4_weightOf_28 rfl rfl (by decide) rfl ?_
        refine r_iinc 32 3 [(3, .int (s1.2 + (1 : Int32))), (2, .int y3), (0, .ref (G.1 2)), (1, .int a1)] dX4_weightOf_29 rfl rfl zci_1 (by decide) rfl ?_
        refine r_goto 4 dX4_weightOf_32 (by decide) ?_
        exact r_leaf [2, 3, 1, 0] (lv2 := [(0, .ref (G.1 2)), (1, .int a1), (2, .int y3), (3, .int (s1.2 + (1 : Int32)))]) rfl (fun h => h)
  · refine r_iload_n 36 dX4_weightOf_35 rfl 0 rfl rfl ?_
    exact r_iret dX4_weightOf_36 rfl z_ki
-- X4_borneBy
def f_X4_borneBy (w : ZW) (a1 : Int32) : Option (Int32) :=
  (f_X4_withAllOn w a1).bind fun r1 : Int32 =>
  (f_X4_weightOf w r1).bind fun r2 : Int32 =>
  if z_in a1 14 then
  some (r2 - (w.1 6 a1.toNatClampNeg))
else none
set_option maxHeartbeats 4000000 in
set_option maxRecDepth 100000 in
theorem c_X4_borneBy (G : ZG) (l : Launch) (d : Nat) (hd : 3 ≤ d) (w : ZW) (a1 : Int32) : ∀ o, f_X4_borneBy w a1 = some o → zM G l d yX4_borneBy cX4_borneBy 2 (some .int) [.ref (G.1 2), .int a1] w (some (.int o)) w := by
  intro o ho
  refine zM.of [(0, .ref (G.1 2)), (1, .int a1)] (by decide) (Nat.le_of_ble_eq_true rfl) rfl ?_
  refine (?_ : zR G l d "LoveLocks$Rail" cX4_borneBy 2 (some .int) (some (.int o)) w (fun x => x = o) 0 [(0, .ref (G.1 2)), (1, .int a1)] [] w (f_X4_borneBy w a1)) o ho rfl
  rw [f_X4_borneBy]
  refine r_aload_n 1 dX4_borneBy_0 rfl 0 rfl rfl ?_
  refine r_aload_n 2 dX4_borneBy_1 rfl 0 rfl rfl ?_
  refine r_iload_n 3 dX4_borneBy_2 rfl 1 rfl rfl ?_
  refine r_callVi 6 1 (ko := 2) [.int a1] (st := [.ref (G.1 2)]) dX4_borneBy_3 rfl rfl (fun r h => c_X4_withAllOn G l (d - 1) (by omega) w a1 r h) zl_2 (ce_2 G _) rfl rfl wc_X4_withAllOn wz_X4 wl_X4_67 wi_X4_withAllOn ws_X4_withAllOn zd_X4_withAllOn (by decide) (by omega) rfl (Nat.le_of_ble_eq_true rfl) (fun r1 => ?_)
  refine r_callVi 9 1 (ko := 2) [.int r1] (st := []) dX4_borneBy_6 rfl rfl (fun r h => c_X4_weightOf G l (d - 1) (by omega) w r1 r h) zl_2 (ce_2 G _) rfl rfl wc_X4_weightOf wz_X4 wl_X4_70 wi_X4_weightOf ws_X4_weightOf zd_X4_weightOf (by decide) (by omega) rfl (Nat.le_of_ble_eq_true rfl) (fun r2 => ?_)
  refine r_aload_n 10 dX4_borneBy_9 rfl 0 rfl rfl ?_
  refine r_get 13 2 6 dX4_borneBy_10 rfl zl_2 (ce_2 G _) rfl inz4 (by decide) wf_X4_21 rfl ?_
  refine r_iload_n 14 dX4_borneBy_13 rfl 1 rfl rfl ?_
  refine r_iald 15 6 14 dX4_borneBy_14 rfl zl_6 (ce_6 G _) ?_
  refine r_isub 16 dX4_borneBy_15 rfl ?_
  exact r_iret dX4_borneBy_16 rfl z_ki
-- X4_tell
def f_X4_tell (w : ZW) (a1 : Int32) (a2 : Int32) : Option (Int32) :=
  if a2 = (0 : Int32) then
  if z_in a1 14 then
    some (w.1 6 a1.toNatClampNeg)
  else none
else
  if a2 = (1 : Int32) then
  if z_in a1 14 then
    some (w.1 7 a1.toNatClampNeg)
  else none
else
  if a2 = (2 : Int32) then
  if z_in a1 14 then
    some (w.1 8 a1.toNatClampNeg)
  else none
else
  if a2 = (3 : Int32) then
  if z_in a1 14 then
    some (w.1 9 a1.toNatClampNeg)
  else none
else
  if a2 = (4 : Int32) then
  if z_in a1 14 then
    some (w.1 10 a1.toNatClampNeg)
  else none
else
  if a2 = (5 : Int32) then
  if z_in a1 14 then
    some (w.1 11 a1.toNatClampNeg)
  else none
else
  if a2 = (6 : Int32) then
  (f_X4_borneBy w a1).bind fun r1 : Int32 =>
    some r1
else
  if a2 = (7 : Int32) then
  (f_X4_isGone w a1).bind fun r2 : Int32 =>
    if r2 = 0 then
    some (0 : Int32)
  else
    some (1 : Int32)
else
  some (-1 : Int32)
set_option maxHeartbeats 4000000 in
set_option maxRecDepth 100000 in
theorem c_X4_tell (G : ZG) (l : Launch) (d : Nat) (hd : 4 ≤ d) (w : ZW) (a1 : Int32) (a2 : Int32) : ∀ o, f_X4_tell w a1 a2 = some o → zM G l d yX4_tell cX4_tell 3 (some .int) [.ref (G.1 2), .int a1, .int a2] w (some (.int o)) w := by
  intro o ho
  refine zM.of [(0, .ref (G.1 2)), (1, .int a1), (2, .int a2)] (by decide) (Nat.le_of_ble_eq_true rfl) rfl ?_
  refine (?_ : zR G l d "LoveLocks$Rail" cX4_tell 3 (some .int) (some (.int o)) w (fun x => x = o) 0 [(0, .ref (G.1 2)), (1, .int a1), (2, .int a2)] [] w (f_X4_tell w a1 a2)) o ho rfl
  rw [f_X4_tell]
  refine r_iload_n 1 dX4_tell_0 rfl 2 rfl rfl ?_
  refine r_case (0 : Int32) (fun hx => ?_) (fun hn0 => ?_)
  · refine r_tin 48 (0 : Int32) hx dX4_tell_1 (by decide) (by decide) rfl (by decide) ?_
    refine r_aload_n 49 dX4_tell_48 rfl 0 rfl rfl ?_
    refine r_get 52 2 6 dX4_tell_49 rfl zl_2 (ce_2 G _) rfl inz4 (by decide) wf_X4_21 rfl ?_
    refine r_iload_n 53 dX4_tell_52 rfl 1 rfl rfl ?_
    refine r_iald 54 6 14 dX4_tell_53 rfl zl_6 (ce_6 G _) ?_
    exact r_iret dX4_tell_54 rfl z_ki
  refine r_case (1 : Int32) (fun hx => ?_) (fun hn1 => ?_)
  · refine r_tin 55 (1 : Int32) hx dX4_tell_1 (by decide) (by decide) rfl (by decide) ?_
    refine r_aload_n 56 dX4_tell_55 rfl 0 rfl rfl ?_
    refine r_get 59 2 7 dX4_tell_56 rfl zl_2 (ce_2 G _) rfl inz4 (by decide) wf_X4_24 rfl ?_
    refine r_iload_n 60 dX4_tell_59 rfl 1 rfl rfl ?_
    refine r_iald 61 7 14 dX4_tell_60 rfl zl_7 (ce_7 G _) ?_
    exact r_iret dX4_tell_61 rfl z_ki
  refine r_case (2 : Int32) (fun hx => ?_) (fun hn2 => ?_)
  · refine r_tin 62 (2 : Int32) hx dX4_tell_1 (by decide) (by decide) rfl (by decide) ?_
    refine r_aload_n 63 dX4_tell_62 rfl 0 rfl rfl ?_
    refine r_get 66 2 8 dX4_tell_63 rfl zl_2 (ce_2 G _) rfl inz4 (by decide) wf_X4_27 rfl ?_
    refine r_iload_n 67 dX4_tell_66 rfl 1 rfl rfl ?_
    refine r_iald 68 8 14 dX4_tell_67 rfl zl_8 (ce_8 G _) ?_
    exact r_iret dX4_tell_68 rfl z_ki
  refine r_case (3 : Int32) (fun hx => ?_) (fun hn3 => ?_)
  · refine r_tin 69 (3 : Int32) hx dX4_tell_1 (by decide) (by decide) rfl (by decide) ?_
    refine r_aload_n 70 dX4_tell_69 rfl 0 rfl rfl ?_
    refine r_get 73 2 9 dX4_tell_70 rfl zl_2 (ce_2 G _) rfl inz4 (by decide) wf_X4_30 rfl ?_
    refine r_iload_n 74 dX4_tell_73 rfl 1 rfl rfl ?_
    refine r_iald 75 9 14 dX4_tell_74 rfl zl_9 (ce_9 G _) ?_
    exact r_iret dX4_tell_75 rfl z_ki
  refine r_case (4 : Int32) (fun hx => ?_) (fun hn4 => ?_)
  · refine r_tin 76 (4 : Int32) hx dX4_tell_1 (by decide) (by decide) rfl (by decide) ?_
    refine r_aload_n 77 dX4_tell_76 rfl 0 rfl rfl ?_
    refine r_get 80 2 10 dX4_tell_77 rfl zl_2 (ce_2 G _) rfl inz4 (by decide) wf_X4_33 rfl ?_
    refine r_iload_n 81 dX4_tell_80 rfl 1 rfl rfl ?_
    refine r_iald 82 10 14 dX4_tell_81 rfl zl_10 (ce_10 G _) ?_
    exact r_iret dX4_tell_82 rfl z_ki
  refine r_case (5 : Int32) (fun hx => ?_) (fun hn5 => ?_)
  · refine r_tin 83 (5 : Int32) hx dX4_tell_1 (by decide) (by decide) rfl (by decide) ?_
    refine r_aload_n 84 dX4_tell_83 rfl 0 rfl rfl ?_
    refine r_get 87 2 11 dX4_tell_84 rfl zl_2 (ce_2 G _) rfl inz4 (by decide) wf_X4_36 rfl ?_
    refine r_iload_n 88 dX4_tell_87 rfl 1 rfl rfl ?_
    refine r_iald 89 11 14 dX4_tell_88 rfl zl_11 (ce_11 G _) ?_
    exact r_iret dX4_tell_89 rfl z_ki
  refine r_case (6 : Int32) (fun hx => ?_) (fun hn6 => ?_)
  · refine r_tin 90 (6 : Int32) hx dX4_tell_1 (by decide) (by decide) rfl (by decide) ?_
    refine r_aload_n 91 dX4_tell_90 rfl 0 rfl rfl ?_
    refine r_iload_n 92 dX4_tell_91 rfl 1 rfl rfl ?_
    refine r_callVi 95 1 (ko := 2) [.int a1] (st := []) dX4_tell_92 rfl rfl (fun r h => c_X4_borneBy G l (d - 1) (by omega) w a1 r h) zl_2 (ce_2 G _) rfl rfl wc_X4_borneBy wz_X4 wl_X4_59 wi_X4_borneBy ws_X4_borneBy zd_X4_borneBy (by decide) (by omega) rfl (Nat.le_of_ble_eq_true rfl) (fun r1 => ?_)
    exact r_iret dX4_tell_95 rfl z_ki
  refine r_case (7 : Int32) (fun hx => ?_) (fun hn7 => ?_)
  · refine r_tin 96 (7 : Int32) hx dX4_tell_1 (by decide) (by decide) rfl (by decide) ?_
    refine r_aload_n 97 dX4_tell_96 rfl 0 rfl rfl ?_
    refine r_iload_n 98 dX4_tell_97 rfl 1 rfl rfl ?_
    refine r_callVi 101 1 (ko := 2) [.int a1] (st := []) dX4_tell_98 rfl rfl (fun r h => c_X4_isGone G l (d - 1) (by omega) w a1 r h) zl_2 (ce_2 G _) rfl rfl wc_X4_isGone wz_X4 wl_X4_63 wi_X4_isGone ws_X4_isGone zd_X4_isGone (by decide) (by omega) rfl (Nat.le_of_ble_eq_true rfl) (fun r2 => ?_)
    refine r_if_eq 108 104 dX4_tell_101 (by decide) rfl ?_ ?_
    · refine r_iconst 109 dX4_tell_108 rfl zci_0 ?_
      exact r_iret dX4_tell_109 rfl z_ki
    · refine r_iconst 105 dX4_tell_104 rfl zci_1 ?_
      refine r_goto 109 dX4_tell_105 (by decide) ?_
      exact r_iret dX4_tell_109 rfl z_ki
  refine r_tout 110 dX4_tell_1 (z_tout7 hn0 hn1 hn2 hn3 hn4 hn5 hn6 hn7) (by decide) ?_
  refine r_iconst 111 dX4_tell_110 rfl zci_m1 ?_
  exact r_iret dX4_tell_111 rfl z_ki
-- X11_told
def f_X11_told (w : ZW) (a1 : Int32) (a2 : Int32) : Option (Int32) :=
  (f_X4_hasLock w a1).bind fun r1 : Int32 =>
  if r1 = 0 then
  some (-1 : Int32)
else
  (f_X4_tell w a1 a2).bind fun r2 : Int32 =>
    some r2
set_option maxHeartbeats 4000000 in
set_option maxRecDepth 100000 in
theorem c_X11_told (G : ZG) (l : Launch) (d : Nat) (hd : 5 ≤ d) (w : ZW) (a1 : Int32) (a2 : Int32) : ∀ o, f_X11_told w a1 a2 = some o → zM G l d yX11_told cX11_told 3 (some .int) [.ref (G.1 0), .int a1, .int a2] w (some (.int o)) w := by
  intro o ho
  refine zM.of [(0, .ref (G.1 0)), (1, .int a1), (2, .int a2)] (by decide) (Nat.le_of_ble_eq_true rfl) rfl ?_
  refine (?_ : zR G l d "LoveLocks" cX11_told 3 (some .int) (some (.int o)) w (fun x => x = o) 0 [(0, .ref (G.1 0)), (1, .int a1), (2, .int a2)] [] w (f_X11_told w a1 a2)) o ho rfl
  rw [f_X11_told]
  refine r_aload_n 1 dX11_told_0 rfl 0 rfl rfl ?_
  refine r_get 4 0 0 dX11_told_1 rfl zl_0 (ce_0 G _) rfl inz11 (by decide) wf_X11_10 rfl ?_
  refine r_get 7 1 0 dX11_told_4 rfl zl_1 (ce_1 G _) rfl inz9 (by decide) wf_X11_59 rfl ?_
  refine r_iload_n 8 dX11_told_7 rfl 1 rfl rfl ?_
  refine r_callVi 11 1 (ko := 2) [.int a1] (st := []) dX11_told_8 rfl rfl (fun r h => c_X4_hasLock G l (d - 1) (by omega) w a1 r h) zl_2 (ce_2 G _) rfl rfl wc_X4_hasLock wz_X4 wl_X11_84 wi_X4_hasLock ws_X4_hasLock zd_X4_hasLock (by decide) (by omega) rfl (Nat.le_of_ble_eq_true rfl) (fun r1 => ?_)
  refine r_if_eq 29 14 dX11_told_11 (by decide) rfl ?_ ?_
  · refine r_iconst 30 dX11_told_29 rfl zci_m1 ?_
    exact r_iret dX11_told_30 rfl z_ki
  · refine r_aload_n 15 dX11_told_14 rfl 0 rfl rfl ?_
    refine r_get 18 0 0 dX11_told_15 rfl zl_0 (ce_0 G _) rfl inz11 (by decide) wf_X11_10 rfl ?_
    refine r_get 21 1 0 dX11_told_18 rfl zl_1 (ce_1 G _) rfl inz9 (by decide) wf_X11_59 rfl ?_
    refine r_iload_n 22 dX11_told_21 rfl 1 rfl rfl ?_
    refine r_iload_n 23 dX11_told_22 rfl 2 rfl rfl ?_
    refine r_callVi 26 2 (ko := 2) [.int a1, .int a2] (st := []) dX11_told_23 rfl rfl (fun r h => c_X4_tell G l (d - 1) (by omega) w a1 a2 r h) zl_2 (ce_2 G _) rfl rfl wc_X4_tell wz_X4 wl_X11_94 wi_X4_tell ws_X4_tell zd_X4_tell (by decide) (by omega) rfl (Nat.le_of_ble_eq_true rfl) (fun r2 => ?_)
    refine r_goto 30 dX11_told_26 (by decide) ?_
    exact r_iret dX11_told_30 rfl z_ki
-- X4_hangingAt
def f_X4_hangingAt_L5 (w : ZW) (a1 : Int32) (a2 : Int32) (s1 : Int32 × Int32) : Option ((Int32 × Int32) ⊕ (Int32)) :=
  if (w.1 2 4) ≤ s1.2 then
  some (.inr s1.1)
else
  (f_X4_isGone w s1.2).bind fun r3 : Int32 =>
    if r3 = 0 then
    if z_in s1.2 14 then
      if (w.1 9 s1.2.toNatClampNeg) = a1 then
      if z_in s1.2 14 then
        if (w.1 10 s1.2.toNatClampNeg) = a2 then
        z_let (s1.1 ||| ((1 : Int32) <<< (s1.2 &&& 31))) fun y4 =>
          some (.inl (y4, s1.2 + (1 : Int32)))
      else
        some (.inl (s1.1, s1.2 + (1 : Int32)))
      else none
    else
      some (.inl (s1.1, s1.2 + (1 : Int32)))
    else none
  else
    some (.inl (s1.1, s1.2 + (1 : Int32)))
def f_X4_hangingAt (w : ZW) (a1 : Int32) (a2 : Int32) : Option (Int32) :=
  (z_iter (f_X4_hangingAt_L5 w a1 a2) z_fuel ((0 : Int32), (0 : Int32))).bind (fun q2 : Int32 =>
  some q2)
set_option maxHeartbeats 4000000 in
set_option maxRecDepth 100000 in
theorem c_X4_hangingAt (G : ZG) (l : Launch) (d : Nat) (hd : 2 ≤ d) (w : ZW) (a1 : Int32) (a2 : Int32) : ∀ o, f_X4_hangingAt w a1 a2 = some o → zM G l d yX4_hangingAt cX4_hangingAt 5 (some .int) [.ref (G.1 2), .int a1, .int a2] w (some (.int o)) w := by
  intro o ho
  refine zM.of [(0, .ref (G.1 2)), (1, .int a1), (2, .int a2)] (by decide) (Nat.le_of_ble_eq_true rfl) rfl ?_
  refine (?_ : zR G l d "LoveLocks$Rail" cX4_hangingAt 5 (some .int) (some (.int o)) w (fun x => x = o) 0 [(0, .ref (G.1 2)), (1, .int a1), (2, .int a2)] [] w (f_X4_hangingAt w a1 a2)) o ho rfl
  rw [f_X4_hangingAt]
  refine r_iconst 1 dX4_hangingAt_0 rfl zci_0 ?_
  refine r_istore_n 2 [(3, .int (0 : Int32)), (0, .ref (G.1 2)), (1, .int a1), (2, .int a2)] dX4_hangingAt_1 rfl rfl (by decide) rfl ?_
  refine r_iconst 3 dX4_hangingAt_2 rfl zci_0 ?_
  refine r_istore 5 [(4, .int (0 : Int32)), (3, .int (0 : Int32)), (0, .ref (G.1 2)), (1, .int a1), (2, .int a2)] dX4_hangingAt_3 rfl (by decide) rfl ?_
  refine r_loopE [2, 3, 4, 1, 0] (fun s1 => [(0, .ref (G.1 2)), (1, .int a1), (2, .int a2), (3, .int s1.1), (4, .int s1.2)]) (fun s1 => w) 58 (fun q2 => [(3, .int q2)]) (fun q2 => w) rfl rfl (fun s1 => ?_) (fun q2 => ?_)
  · rw [f_X4_hangingAt_L5]
    refine r_iload 7 dX4_hangingAt_5 rfl 4 rfl ?_
    refine r_aload_n 8 dX4_hangingAt_7 rfl 0 rfl rfl ?_
    refine r_get 11 2 4 dX4_hangingAt_8 rfl zl_2 (ce_2 G _) rfl inz4 (by decide) wf_X4_49 rfl ?_
    refine r_icmp_ge 58 14 dX4_hangingAt_11 (by decide) rfl ?_ ?_
    · exact r_leaf [3] (lv2 := [(3, .int s1.1)]) rfl (fun h => h)
    · refine r_aload_n 15 dX4_hangingAt_14 rfl 0 rfl rfl ?_
      refine r_iload 17 dX4_hangingAt_15 rfl 4 rfl ?_
      refine r_callVi 20 1 (ko := 2) [.int s1.2] (st := []) dX4_hangingAt_17 rfl rfl (fun r h => c_X4_isGone G l (d - 1) (by omega) w s1.2 r h) zl_2 (ce_2 G _) rfl rfl wc_X4_isGone wz_X4 wl_X4_63 wi_X4_isGone ws_X4_isGone zd_X4_isGone (by decide) (by omega) rfl (Nat.le_of_ble_eq_true rfl) (fun r3 => ?_)
      refine r_if_ne 52 23 dX4_hangingAt_20 (by decide) rfl ?_ ?_
      · refine r_iinc 55 4 [(4, .int (s1.2 + (1 : Int32))), (0, .ref (G.1 2)), (1, .int a1), (2, .int a2), (3, .int s1.1)] dX4_hangingAt_52 rfl rfl zci_1 (by decide) rfl ?_
        refine r_goto 5 dX4_hangingAt_55 (by decide) ?_
        exact r_leaf [1, 2, 3, 4, 0] (lv2 := [(0, .ref (G.1 2)), (1, .int a1), (2, .int a2), (3, .int s1.1), (4, .int (s1.2 + (1 : Int32)))]) rfl (fun h => h)
      · refine r_aload_n 24 dX4_hangingAt_23 rfl 0 rfl rfl ?_
        refine r_get 27 2 9 dX4_hangingAt_24 rfl zl_2 (ce_2 G _) rfl inz4 (by decide) wf_X4_30 rfl ?_
        refine r_iload 29 dX4_hangingAt_27 rfl 4 rfl ?_
        refine r_iald 30 9 14 dX4_hangingAt_29 rfl zl_9 (ce_9 G _) ?_
        refine r_iload_n 31 dX4_hangingAt_30 rfl 1 rfl rfl ?_
        refine r_icmp_ne 52 34 dX4_hangingAt_31 (by decide) rfl ?_ ?_
        · refine r_iinc 55 4 [(4, .int (s1.2 + (1 : Int32))), (0, .ref (G.1 2)), (1, .int a1), (2, .int a2), (3, .int s1.1)] dX4_hangingAt_52 rfl rfl zci_1 (by decide) rfl ?_
          refine r_goto 5 dX4_hangingAt_55 (by decide) ?_
          exact r_leaf [1, 2, 3, 4, 0] (lv2 := [(0, .ref (G.1 2)), (1, .int a1), (2, .int a2), (3, .int s1.1), (4, .int (s1.2 + (1 : Int32)))]) rfl (fun h => h)
        · refine r_aload_n 35 dX4_hangingAt_34 rfl 0 rfl rfl ?_
          refine r_get 38 2 10 dX4_hangingAt_35 rfl zl_2 (ce_2 G _) rfl inz4 (by decide) wf_X4_33 rfl ?_
          refine r_iload 40 dX4_hangingAt_38 rfl 4 rfl ?_
          refine r_iald 41 10 14 dX4_hangingAt_40 rfl zl_10 (ce_10 G _) ?_
          refine r_iload_n 42 dX4_hangingAt_41 rfl 2 rfl rfl ?_
          refine r_icmp_ne 52 45 dX4_hangingAt_42 (by decide) rfl ?_ ?_
          · refine r_iinc 55 4 [(4, .int (s1.2 + (1 : Int32))), (0, .ref (G.1 2)), (1, .int a1), (2, .int a2), (3, .int s1.1)] dX4_hangingAt_52 rfl rfl zci_1 (by decide) rfl ?_
            refine r_goto 5 dX4_hangingAt_55 (by decide) ?_
            exact r_leaf [1, 2, 3, 4, 0] (lv2 := [(0, .ref (G.1 2)), (1, .int a1), (2, .int a2), (3, .int s1.1), (4, .int (s1.2 + (1 : Int32)))]) rfl (fun h => h)
          · refine r_iload_n 46 dX4_hangingAt_45 rfl 3 rfl rfl ?_
            refine r_iconst 47 dX4_hangingAt_46 rfl zci_1 ?_
            refine r_iload 49 dX4_hangingAt_47 rfl 4 rfl ?_
            refine r_ishl 50 dX4_hangingAt_49 rfl ?_
            refine r_ior 51 dX4_hangingAt_50 rfl ?_
            refine r_topi (fun y4 => ?_)
            refine r_istore_n 52 [(3, .int y4), (0, .ref (G.1 2)), (1, .int a1), (2, .int a2), (4, .int s1.2)] dX4_hangingAt_51 rfl rfl (by decide) rfl ?_
            refine r_iinc 55 4 [(4, .int (s1.2 + (1 : Int32))), (3, .int y4), (0, .ref (G.1 2)), (1, .int a1), (2, .int a2)] dX4_hangingAt_52 rfl rfl zci_1 (by decide) rfl ?_
            refine r_goto 5 dX4_hangingAt_55 (by decide) ?_
            exact r_leaf [2, 3, 4, 1, 0] (lv2 := [(0, .ref (G.1 2)), (1, .int a1), (2, .int a2), (3, .int y4), (4, .int (s1.2 + (1 : Int32)))]) rfl (fun h => h)
  · refine r_iload_n 59 dX4_hangingAt_58 rfl 0 rfl rfl ?_
    exact r_iret dX4_hangingAt_59 rfl z_ki
-- X4_barLoad
def f_X4_barLoad (w : ZW) (a1 : Int32) (a2 : Int32) : Option (Int32) :=
  (f_X4_hangingAt w a1 a2).bind fun r1 : Int32 =>
  (f_X4_weightOf w r1).bind fun r2 : Int32 =>
  some r2
set_option maxHeartbeats 4000000 in
set_option maxRecDepth 100000 in
theorem c_X4_barLoad (G : ZG) (l : Launch) (d : Nat) (hd : 3 ≤ d) (w : ZW) (a1 : Int32) (a2 : Int32) : ∀ o, f_X4_barLoad w a1 a2 = some o → zM G l d yX4_barLoad cX4_barLoad 3 (some .int) [.ref (G.1 2), .int a1, .int a2] w (some (.int o)) w := by
  intro o ho
  refine zM.of [(0, .ref (G.1 2)), (1, .int a1), (2, .int a2)] (by decide) (Nat.le_of_ble_eq_true rfl) rfl ?_
  refine (?_ : zR G l d "LoveLocks$Rail" cX4_barLoad 3 (some .int) (some (.int o)) w (fun x => x = o) 0 [(0, .ref (G.1 2)), (1, .int a1), (2, .int a2)] [] w (f_X4_barLoad w a1 a2)) o ho rfl
  rw [f_X4_barLoad]
  refine r_aload_n 1 dX4_barLoad_0 rfl 0 rfl rfl ?_
  refine r_aload_n 2 dX4_barLoad_1 rfl 0 rfl rfl ?_
  refine r_iload_n 3 dX4_barLoad_2 rfl 1 rfl rfl ?_
  refine r_iload_n 4 dX4_barLoad_3 rfl 2 rfl rfl ?_
  refine r_callVi 7 2 (ko := 2) [.int a1, .int a2] (st := [.ref (G.1 2)]) dX4_barLoad_4 rfl rfl (fun r h => c_X4_hangingAt G l (d - 1) (by omega) w a1 a2 r h) zl_2 (ce_2 G _) rfl rfl wc_X4_hangingAt wz_X4 wl_X4_73 wi_X4_hangingAt ws_X4_hangingAt zd_X4_hangingAt (by decide) (by omega) rfl (Nat.le_of_ble_eq_true rfl) (fun r1 => ?_)
  refine r_callVi 10 1 (ko := 2) [.int r1] (st := []) dX4_barLoad_7 rfl rfl (fun r h => c_X4_weightOf G l (d - 1) (by omega) w r1 r h) zl_2 (ce_2 G _) rfl rfl wc_X4_weightOf wz_X4 wl_X4_70 wi_X4_weightOf ws_X4_weightOf zd_X4_weightOf (by decide) (by omega) rfl (Nat.le_of_ble_eq_true rfl) (fun r2 => ?_)
  exact r_iret dX4_barLoad_10 rfl z_ki
-- X4_panelLoad
def f_X4_panelLoad (w : ZW) (a1 : Int32) : Option (Int32) :=
  (f_X4_barLoad w a1 (0 : Int32)).bind fun r1 : Int32 =>
  (f_X4_barLoad w a1 (1 : Int32)).bind fun r2 : Int32 =>
  (f_X4_barLoad w a1 (2 : Int32)).bind fun r3 : Int32 =>
  some ((r1 + r2) + r3)
set_option maxHeartbeats 4000000 in
set_option maxRecDepth 100000 in
theorem c_X4_panelLoad (G : ZG) (l : Launch) (d : Nat) (hd : 4 ≤ d) (w : ZW) (a1 : Int32) : ∀ o, f_X4_panelLoad w a1 = some o → zM G l d yX4_panelLoad cX4_panelLoad 2 (some .int) [.ref (G.1 2), .int a1] w (some (.int o)) w := by
  intro o ho
  refine zM.of [(0, .ref (G.1 2)), (1, .int a1)] (by decide) (Nat.le_of_ble_eq_true rfl) rfl ?_
  refine (?_ : zR G l d "LoveLocks$Rail" cX4_panelLoad 2 (some .int) (some (.int o)) w (fun x => x = o) 0 [(0, .ref (G.1 2)), (1, .int a1)] [] w (f_X4_panelLoad w a1)) o ho rfl
  rw [f_X4_panelLoad]
  refine r_aload_n 1 dX4_panelLoad_0 rfl 0 rfl rfl ?_
  refine r_iload_n 2 dX4_panelLoad_1 rfl 1 rfl rfl ?_
  refine r_iconst 3 dX4_panelLoad_2 rfl zci_0 ?_
  refine r_callVi 6 2 (ko := 2) [.int a1, .int (0 : Int32)] (st := []) dX4_panelLoad_3 rfl rfl (fun r h => c_X4_barLoad G l (d - 1) (by omega) w a1 (0 : Int32) r h) zl_2 (ce_2 G _) rfl rfl wc_X4_barLoad wz_X4 wl_X4_77 wi_X4_barLoad ws_X4_barLoad zd_X4_barLoad (by decide) (by omega) rfl (Nat.le_of_ble_eq_true rfl) (fun r1 => ?_)
  refine r_aload_n 7 dX4_panelLoad_6 rfl 0 rfl rfl ?_
  refine r_iload_n 8 dX4_panelLoad_7 rfl 1 rfl rfl ?_
  refine r_iconst 9 dX4_panelLoad_8 rfl zci_1 ?_
  refine r_callVi 12 2 (ko := 2) [.int a1, .int (1 : Int32)] (st := [.int r1]) dX4_panelLoad_9 rfl rfl (fun r h => c_X4_barLoad G l (d - 1) (by omega) w a1 (1 : Int32) r h) zl_2 (ce_2 G _) rfl rfl wc_X4_barLoad wz_X4 wl_X4_77 wi_X4_barLoad ws_X4_barLoad zd_X4_barLoad (by decide) (by omega) rfl (Nat.le_of_ble_eq_true rfl) (fun r2 => ?_)
  refine r_iadd 13 dX4_panelLoad_12 rfl ?_
  refine r_aload_n 14 dX4_panelLoad_13 rfl 0 rfl rfl ?_
  refine r_iload_n 15 dX4_panelLoad_14 rfl 1 rfl rfl ?_
  refine r_iconst 16 dX4_panelLoad_15 rfl zci_2 ?_
  refine r_callVi 19 2 (ko := 2) [.int a1, .int (2 : Int32)] (st := [.int (r1 + r2)]) dX4_panelLoad_16 rfl rfl (fun r h => c_X4_barLoad G l (d - 1) (by omega) w a1 (2 : Int32) r h) zl_2 (ce_2 G _) rfl rfl wc_X4_barLoad wz_X4 wl_X4_77 wi_X4_barLoad ws_X4_barLoad zd_X4_barLoad (by decide) (by omega) rfl (Nat.le_of_ble_eq_true rfl) (fun r3 => ?_)
  refine r_iadd 20 dX4_panelLoad_19 rfl ?_
  exact r_iret dX4_panelLoad_20 rfl z_ki
-- X4_sagOf
def f_X4_sagOf (w : ZW) (a1 : Int32) : Option (Int32) :=
  (f_X4_barLoad w a1 (0 : Int32)).bind fun r1 : Int32 =>
  (f_X4_barLoad w a1 (1 : Int32)).bind fun r2 : Int32 =>
  (f_X4_barLoad w a1 (2 : Int32)).bind fun r3 : Int32 =>
  some ((r1 + ((2 : Int32) * r2)) + r3)
set_option maxHeartbeats 4000000 in
set_option maxRecDepth 100000 in
theorem c_X4_sagOf (G : ZG) (l : Launch) (d : Nat) (hd : 4 ≤ d) (w : ZW) (a1 : Int32) : ∀ o, f_X4_sagOf w a1 = some o → zM G l d yX4_sagOf cX4_sagOf 2 (some .int) [.ref (G.1 2), .int a1] w (some (.int o)) w := by
  intro o ho
  refine zM.of [(0, .ref (G.1 2)), (1, .int a1)] (by decide) (Nat.le_of_ble_eq_true rfl) rfl ?_
  refine (?_ : zR G l d "LoveLocks$Rail" cX4_sagOf 2 (some .int) (some (.int o)) w (fun x => x = o) 0 [(0, .ref (G.1 2)), (1, .int a1)] [] w (f_X4_sagOf w a1)) o ho rfl
  rw [f_X4_sagOf]
  refine r_aload_n 1 dX4_sagOf_0 rfl 0 rfl rfl ?_
  refine r_iload_n 2 dX4_sagOf_1 rfl 1 rfl rfl ?_
  refine r_iconst 3 dX4_sagOf_2 rfl zci_0 ?_
  refine r_callVi 6 2 (ko := 2) [.int a1, .int (0 : Int32)] (st := []) dX4_sagOf_3 rfl rfl (fun r h => c_X4_barLoad G l (d - 1) (by omega) w a1 (0 : Int32) r h) zl_2 (ce_2 G _) rfl rfl wc_X4_barLoad wz_X4 wl_X4_77 wi_X4_barLoad ws_X4_barLoad zd_X4_barLoad (by decide) (by omega) rfl (Nat.le_of_ble_eq_true rfl) (fun r1 => ?_)
  refine r_iconst 7 dX4_sagOf_6 rfl zci_2 ?_
  refine r_aload_n 8 dX4_sagOf_7 rfl 0 rfl rfl ?_
  refine r_iload_n 9 dX4_sagOf_8 rfl 1 rfl rfl ?_
  refine r_iconst 10 dX4_sagOf_9 rfl zci_1 ?_
  refine r_callVi 13 2 (ko := 2) [.int a1, .int (1 : Int32)] (st := [.int (2 : Int32), .int r1]) dX4_sagOf_10 rfl rfl (fun r h => c_X4_barLoad G l (d - 1) (by omega) w a1 (1 : Int32) r h) zl_2 (ce_2 G _) rfl rfl wc_X4_barLoad wz_X4 wl_X4_77 wi_X4_barLoad ws_X4_barLoad zd_X4_barLoad (by decide) (by omega) rfl (Nat.le_of_ble_eq_true rfl) (fun r2 => ?_)
  refine r_imul 14 dX4_sagOf_13 rfl ?_
  refine r_iadd 15 dX4_sagOf_14 rfl ?_
  refine r_aload_n 16 dX4_sagOf_15 rfl 0 rfl rfl ?_
  refine r_iload_n 17 dX4_sagOf_16 rfl 1 rfl rfl ?_
  refine r_iconst 18 dX4_sagOf_17 rfl zci_2 ?_
  refine r_callVi 21 2 (ko := 2) [.int a1, .int (2 : Int32)] (st := [.int (r1 + ((2 : Int32) * r2))]) dX4_sagOf_18 rfl rfl (fun r h => c_X4_barLoad G l (d - 1) (by omega) w a1 (2 : Int32) r h) zl_2 (ce_2 G _) rfl rfl wc_X4_barLoad wz_X4 wl_X4_77 wi_X4_barLoad ws_X4_barLoad zd_X4_barLoad (by decide) (by omega) rfl (Nat.le_of_ble_eq_true rfl) (fun r3 => ?_)
  refine r_iadd 22 dX4_sagOf_21 rfl ?_
  exact r_iret dX4_sagOf_22 rfl z_ki
-- X4_loadOf
def f_X4_loadOf (w : ZW) (a1 : Int32) (a2 : Int32) : Option (Int32) :=
  if a2 = (0 : Int32) then
  (f_X4_barLoad w a1 a2).bind fun r1 : Int32 =>
    some r1
else
  if a2 = (1 : Int32) then
  (f_X4_barLoad w a1 a2).bind fun r2 : Int32 =>
    some r2
else
  if a2 = (2 : Int32) then
  (f_X4_barLoad w a1 a2).bind fun r3 : Int32 =>
    some r3
else
  if a2 = (3 : Int32) then
  (f_X4_panelLoad w a1).bind fun r4 : Int32 =>
    some r4
else
  if a2 = (4 : Int32) then
  (f_X4_sagOf w a1).bind fun r5 : Int32 =>
    some r5
else
  some (-1 : Int32)
set_option maxHeartbeats 4000000 in
set_option maxRecDepth 100000 in
theorem c_X4_loadOf (G : ZG) (l : Launch) (d : Nat) (hd : 5 ≤ d) (w : ZW) (a1 : Int32) (a2 : Int32) : ∀ o, f_X4_loadOf w a1 a2 = some o → zM G l d yX4_loadOf cX4_loadOf 3 (some .int) [.ref (G.1 2), .int a1, .int a2] w (some (.int o)) w := by
  intro o ho
  refine zM.of [(0, .ref (G.1 2)), (1, .int a1), (2, .int a2)] (by decide) (Nat.le_of_ble_eq_true rfl) rfl ?_
  refine (?_ : zR G l d "LoveLocks$Rail" cX4_loadOf 3 (some .int) (some (.int o)) w (fun x => x = o) 0 [(0, .ref (G.1 2)), (1, .int a1), (2, .int a2)] [] w (f_X4_loadOf w a1 a2)) o ho rfl
  rw [f_X4_loadOf]
  refine r_iload_n 1 dX4_loadOf_0 rfl 2 rfl rfl ?_
  refine r_case (0 : Int32) (fun hx => ?_) (fun hn0 => ?_)
  · refine r_tin 36 (0 : Int32) hx dX4_loadOf_1 (by decide) (by decide) rfl (by decide) ?_
    refine r_aload_n 37 dX4_loadOf_36 rfl 0 rfl rfl ?_
    refine r_iload_n 38 dX4_loadOf_37 rfl 1 rfl rfl ?_
    refine r_iload_n 39 dX4_loadOf_38 rfl 2 rfl rfl ?_
    refine r_callVi 42 2 (ko := 2) [.int a1, .int a2] (st := []) dX4_loadOf_39 rfl rfl (fun r h => c_X4_barLoad G l (d - 1) (by omega) w a1 a2 r h) zl_2 (ce_2 G _) rfl rfl wc_X4_barLoad wz_X4 wl_X4_77 wi_X4_barLoad ws_X4_barLoad zd_X4_barLoad (by decide) (by omega) rfl (Nat.le_of_ble_eq_true rfl) (fun r1 => ?_)
    exact r_iret dX4_loadOf_42 rfl z_ki
  refine r_case (1 : Int32) (fun hx => ?_) (fun hn1 => ?_)
  · refine r_tin 36 (1 : Int32) hx dX4_loadOf_1 (by decide) (by decide) rfl (by decide) ?_
    refine r_aload_n 37 dX4_loadOf_36 rfl 0 rfl rfl ?_
    refine r_iload_n 38 dX4_loadOf_37 rfl 1 rfl rfl ?_
    refine r_iload_n 39 dX4_loadOf_38 rfl 2 rfl rfl ?_
    refine r_callVi 42 2 (ko := 2) [.int a1, .int a2] (st := []) dX4_loadOf_39 rfl rfl (fun r h => c_X4_barLoad G l (d - 1) (by omega) w a1 a2 r h) zl_2 (ce_2 G _) rfl rfl wc_X4_barLoad wz_X4 wl_X4_77 wi_X4_barLoad ws_X4_barLoad zd_X4_barLoad (by decide) (by omega) rfl (Nat.le_of_ble_eq_true rfl) (fun r2 => ?_)
    exact r_iret dX4_loadOf_42 rfl z_ki
  refine r_case (2 : Int32) (fun hx => ?_) (fun hn2 => ?_)
  · refine r_tin 36 (2 : Int32) hx dX4_loadOf_1 (by decide) (by decide) rfl (by decide) ?_
    refine r_aload_n 37 dX4_loadOf_36 rfl 0 rfl rfl ?_
    refine r_iload_n 38 dX4_loadOf_37 rfl 1 rfl rfl ?_
    refine r_iload_n 39 dX4_loadOf_38 rfl 2 rfl rfl ?_
    refine r_callVi 42 2 (ko := 2) [.int a1, .int a2] (st := []) dX4_loadOf_39 rfl rfl (fun r h => c_X4_barLoad G l (d - 1) (by omega) w a1 a2 r h) zl_2 (ce_2 G _) rfl rfl wc_X4_barLoad wz_X4 wl_X4_77 wi_X4_barLoad ws_X4_barLoad zd_X4_barLoad (by decide) (by omega) rfl (Nat.le_of_ble_eq_true rfl) (fun r3 => ?_)
    exact r_iret dX4_loadOf_42 rfl z_ki
  refine r_case (3 : Int32) (fun hx => ?_) (fun hn3 => ?_)
  · refine r_tin 43 (3 : Int32) hx dX4_loadOf_1 (by decide) (by decide) rfl (by decide) ?_
    refine r_aload_n 44 dX4_loadOf_43 rfl 0 rfl rfl ?_
    refine r_iload_n 45 dX4_loadOf_44 rfl 1 rfl rfl ?_
    refine r_callVi 48 1 (ko := 2) [.int a1] (st := []) dX4_loadOf_45 rfl rfl (fun r h => c_X4_panelLoad G l (d - 1) (by omega) w a1 r h) zl_2 (ce_2 G _) rfl rfl wc_X4_panelLoad wz_X4 wl_X4_80 wi_X4_panelLoad ws_X4_panelLoad zd_X4_panelLoad (by decide) (by omega) rfl (Nat.le_of_ble_eq_true rfl) (fun r4 => ?_)
    exact r_iret dX4_loadOf_48 rfl z_ki
  refine r_case (4 : Int32) (fun hx => ?_) (fun hn4 => ?_)
  · refine r_tin 49 (4 : Int32) hx dX4_loadOf_1 (by decide) (by decide) rfl (by decide) ?_
    refine r_aload_n 50 dX4_loadOf_49 rfl 0 rfl rfl ?_
    refine r_iload_n 51 dX4_loadOf_50 rfl 1 rfl rfl ?_
    refine r_callVi 54 1 (ko := 2) [.int a1] (st := []) dX4_loadOf_51 rfl rfl (fun r h => c_X4_sagOf G l (d - 1) (by omega) w a1 r h) zl_2 (ce_2 G _) rfl rfl wc_X4_sagOf wz_X4 wl_X4_83 wi_X4_sagOf ws_X4_sagOf zd_X4_sagOf (by decide) (by omega) rfl (Nat.le_of_ble_eq_true rfl) (fun r5 => ?_)
    exact r_iret dX4_loadOf_54 rfl z_ki
  refine r_tout 55 dX4_loadOf_1 (z_tout4 hn0 hn1 hn2 hn3 hn4) (by decide) ?_
  refine r_iconst 56 dX4_loadOf_55 rfl zci_m1 ?_
  exact r_iret dX4_loadOf_56 rfl z_ki
-- X11_load
def f_X11_load (w : ZW) (a1 : Int32) (a2 : Int32) : Option (Int32) :=
  (f_X4_hasPanel w a1).bind fun r1 : Int32 =>
  if r1 = 0 then
  some (-1 : Int32)
else
  (f_X4_loadOf w a1 a2).bind fun r2 : Int32 =>
    some r2
set_option maxHeartbeats 4000000 in
set_option maxRecDepth 100000 in
theorem c_X11_load (G : ZG) (l : Launch) (d : Nat) (hd : 6 ≤ d) (w : ZW) (a1 : Int32) (a2 : Int32) : ∀ o, f_X11_load w a1 a2 = some o → zM G l d yX11_load cX11_load 3 (some .int) [.ref (G.1 0), .int a1, .int a2] w (some (.int o)) w := by
  intro o ho
  refine zM.of [(0, .ref (G.1 0)), (1, .int a1), (2, .int a2)] (by decide) (Nat.le_of_ble_eq_true rfl) rfl ?_
  refine (?_ : zR G l d "LoveLocks" cX11_load 3 (some .int) (some (.int o)) w (fun x => x = o) 0 [(0, .ref (G.1 0)), (1, .int a1), (2, .int a2)] [] w (f_X11_load w a1 a2)) o ho rfl
  rw [f_X11_load]
  refine r_aload_n 1 dX11_load_0 rfl 0 rfl rfl ?_
  refine r_get 4 0 0 dX11_load_1 rfl zl_0 (ce_0 G _) rfl inz11 (by decide) wf_X11_10 rfl ?_
  refine r_get 7 1 0 dX11_load_4 rfl zl_1 (ce_1 G _) rfl inz9 (by decide) wf_X11_59 rfl ?_
  refine r_iload_n 8 dX11_load_7 rfl 1 rfl rfl ?_
  refine r_callVi 11 1 (ko := 2) [.int a1] (st := []) dX11_load_8 rfl rfl (fun r h => c_X4_hasPanel G l (d - 1) (by omega) w a1 r h) zl_2 (ce_2 G _) rfl rfl wc_X4_hasPanel wz_X4 wl_X11_69 wi_X4_hasPanel ws_X4_hasPanel zd_X4_hasPanel (by decide) (by omega) rfl (Nat.le_of_ble_eq_true rfl) (fun r1 => ?_)
  refine r_if_eq 29 14 dX11_load_11 (by decide) rfl ?_ ?_
  · refine r_iconst 30 dX11_load_29 rfl zci_m1 ?_
    exact r_iret dX11_load_30 rfl z_ki
  · refine r_aload_n 15 dX11_load_14 rfl 0 rfl rfl ?_
    refine r_get 18 0 0 dX11_load_15 rfl zl_0 (ce_0 G _) rfl inz11 (by decide) wf_X11_10 rfl ?_
    refine r_get 21 1 0 dX11_load_18 rfl zl_1 (ce_1 G _) rfl inz9 (by decide) wf_X11_59 rfl ?_
    refine r_iload_n 22 dX11_load_21 rfl 1 rfl rfl ?_
    refine r_iload_n 23 dX11_load_22 rfl 2 rfl rfl ?_
    refine r_callVi 26 2 (ko := 2) [.int a1, .int a2] (st := []) dX11_load_23 rfl rfl (fun r h => c_X4_loadOf G l (d - 1) (by omega) w a1 a2 r h) zl_2 (ce_2 G _) rfl rfl wc_X4_loadOf wz_X4 wl_X11_98 wi_X4_loadOf ws_X4_loadOf zd_X4_loadOf (by decide) (by omega) rfl (Nat.le_of_ble_eq_true rfl) (fun r2 => ?_)
    refine r_goto 30 dX11_load_26 (by decide) ?_
    exact r_iret dX11_load_30 rfl z_ki
-- X4_isOver
def f_X4_isOver (w : ZW) (a1 : Int32) : Option (Int32) :=
  (f_X4_isGone w a1).bind fun r1 : Int32 =>
  if r1 = 0 then
  (f_X4_borneBy w a1).bind fun r2 : Int32 =>
    if z_in a1 14 then
    if z_in a1 14 then
    if (w.1 7 a1.toNatClampNeg) = 0 then
    if r2 ≤ ((w.1 6 a1.toNatClampNeg) * (5 : Int32)) then
      some (0 : Int32)
    else
      some (1 : Int32)
  else
    if r2 ≤ ((w.1 6 a1.toNatClampNeg) * (9 : Int32)) then
      some (0 : Int32)
    else
      some (1 : Int32)
  else none
  else none
else
  some (0 : Int32)
set_option maxHeartbeats 4000000 in
set_option maxRecDepth 100000 in
theorem c_X4_isOver (G : ZG) (l : Launch) (d : Nat) (hd : 4 ≤ d) (w : ZW) (a1 : Int32) : ∀ o, f_X4_isOver w a1 = some o → zM G l d yX4_isOver cX4_isOver 2 (some .boolean) [.ref (G.1 2), .int a1] w (some (.int o)) w := by
  intro o ho
  refine zM.of [(0, .ref (G.1 2)), (1, .int a1)] (by decide) (Nat.le_of_ble_eq_true rfl) rfl ?_
  refine (?_ : zR G l d "LoveLocks$Rail" cX4_isOver 2 (some .boolean) (some (.int o)) w (fun x => x = o) 0 [(0, .ref (G.1 2)), (1, .int a1)] [] w (f_X4_isOver w a1)) o ho rfl
  rw [f_X4_isOver]
  refine r_aload_n 1 dX4_isOver_0 rfl 0 rfl rfl ?_
  refine r_iload_n 2 dX4_isOver_1 rfl 1 rfl rfl ?_
  refine r_callVi 5 1 (ko := 2) [.int a1] (st := []) dX4_isOver_2 rfl rfl (fun r h => c_X4_isGone G l (d - 1) (by omega) w a1 r h) zl_2 (ce_2 G _) rfl rfl wc_X4_isGone wz_X4 wl_X4_63 wi_X4_isGone ws_X4_isGone zd_X4_isGone (by decide) (by omega) rfl (Nat.le_of_ble_eq_true rfl) (fun r1 => ?_)
  refine r_if_ne 42 8 dX4_isOver_5 (by decide) rfl ?_ ?_
  · refine r_iconst 43 dX4_isOver_42 rfl zci_0 ?_
    exact r_zret dX4_isOver_43 rfl rfl z_ki
  · refine r_aload_n 9 dX4_isOver_8 rfl 0 rfl rfl ?_
    refine r_iload_n 10 dX4_isOver_9 rfl 1 rfl rfl ?_
    refine r_callVi 13 1 (ko := 2) [.int a1] (st := []) dX4_isOver_10 rfl rfl (fun r h => c_X4_borneBy G l (d - 1) (by omega) w a1 r h) zl_2 (ce_2 G _) rfl rfl wc_X4_borneBy wz_X4 wl_X4_59 wi_X4_borneBy ws_X4_borneBy zd_X4_borneBy (by decide) (by omega) rfl (Nat.le_of_ble_eq_true rfl) (fun r2 => ?_)
    refine r_aload_n 14 dX4_isOver_13 rfl 0 rfl rfl ?_
    refine r_get 17 2 6 dX4_isOver_14 rfl zl_2 (ce_2 G _) rfl inz4 (by decide) wf_X4_21 rfl ?_
    refine r_iload_n 18 dX4_isOver_17 rfl 1 rfl rfl ?_
    refine r_iald 19 6 14 dX4_isOver_18 rfl zl_6 (ce_6 G _) ?_
    refine r_aload_n 20 dX4_isOver_19 rfl 0 rfl rfl ?_
    refine r_get 23 2 7 dX4_isOver_20 rfl zl_2 (ce_2 G _) rfl inz4 (by decide) wf_X4_24 rfl ?_
    refine r_iload_n 24 dX4_isOver_23 rfl 1 rfl rfl ?_
    refine r_iald 25 7 14 dX4_isOver_24 rfl zl_7 (ce_7 G _) ?_
    refine r_if_ne 32 28 dX4_isOver_25 (by decide) rfl ?_ ?_
    · refine r_bipush 34 dX4_isOver_32 rfl zcb_9 ?_
      refine r_imul 35 dX4_isOver_34 rfl ?_
      refine r_icmp_le 42 38 dX4_isOver_35 (by decide) rfl ?_ ?_
      · refine r_iconst 43 dX4_isOver_42 rfl zci_0 ?_
        exact r_zret dX4_isOver_43 rfl rfl z_ki
      · refine r_iconst 39 dX4_isOver_38 rfl zci_1 ?_
        refine r_goto 43 dX4_isOver_39 (by decide) ?_
        exact r_zret dX4_isOver_43 rfl rfl z_ki
    · refine r_iconst 29 dX4_isOver_28 rfl zci_5 ?_
      refine r_goto 34 dX4_isOver_29 (by decide) ?_
      refine r_imul 35 dX4_isOver_34 rfl ?_
      refine r_icmp_le 42 38 dX4_isOver_35 (by decide) rfl ?_ ?_
      · refine r_iconst 43 dX4_isOver_42 rfl zci_0 ?_
        exact r_zret dX4_isOver_43 rfl rfl z_ki
      · refine r_iconst 39 dX4_isOver_38 rfl zci_1 ?_
        refine r_goto 43 dX4_isOver_39 (by decide) ?_
        exact r_zret dX4_isOver_43 rfl rfl z_ki
-- X4_firstOver
def f_X4_firstOver_L2 (w : ZW) (s1 : Int32) : Option ((Int32) ⊕ ((Int32) ⊕ (Unit))) :=
  if (w.1 2 4) ≤ s1 then
  some (.inr (.inr ()))
else
  (f_X4_isOver w s1).bind fun r3 : Int32 =>
    if r3 = 0 then
    some (.inl (s1 + (1 : Int32)))
  else
    some (.inr (.inl s1))
def f_X4_firstOver_L38 (w : ZW) (s4 : Int32) (s6 : Int32) : Option ((Int32) ⊕ ((Int32) ⊕ (Unit))) :=
  if (3 : Int32) ≤ s6 then
  some (.inr (.inr ()))
else
  (f_X4_barLoad w s4 s6).bind fun r8 : Int32 =>
    if z_in s4 6 then
    if r8 ≤ (w.1 3 s4.toNatClampNeg) then
    some (.inl (s6 + (1 : Int32)))
  else
    some (.inr (.inl (((100 : Int32) + ((10 : Int32) * s4)) + s6)))
  else none
def f_X4_firstOver_L28 (w : ZW) (s4 : Int32) : Option ((Int32) ⊕ ((Int32) ⊕ (Unit))) :=
  if (w.1 2 0) ≤ s4 then
  some (.inr (.inr ()))
else
  (z_iter (f_X4_firstOver_L38 w s4) z_fuel (0 : Int32)).bind (Sum.elim (fun x : Int32 => some (.inr (.inl x))) (fun q7 : Unit =>
    some (.inl (s4 + (1 : Int32)))))
def f_X4_firstOver_L82 (w : ZW) (s9 : Int32) : Option ((Int32) ⊕ ((Int32) ⊕ (Unit))) :=
  if (w.1 2 0) ≤ s9 then
  some (.inr (.inr ()))
else
  (f_X4_panelLoad w s9).bind fun r11 : Int32 =>
    if z_in s9 6 then
    if (w.1 4 s9.toNatClampNeg) < r11 then
    some (.inr (.inl ((200 : Int32) + s9)))
  else
    (f_X4_sagOf w s9).bind fun r12 : Int32 =>
      if z_in s9 6 then
      if r12 ≤ (w.1 5 s9.toNatClampNeg) then
      some (.inl (s9 + (1 : Int32)))
    else
      some (.inr (.inl ((200 : Int32) + s9)))
    else none
  else none
def f_X4_firstOver (w : ZW) : Option (Int32) :=
  (z_iter (f_X4_firstOver_L2 w) z_fuel (0 : Int32)).bind (Sum.elim (fun x : Int32 => some x) (fun q2 : Unit =>
  (z_iter (f_X4_firstOver_L28 w) z_fuel (0 : Int32)).bind (Sum.elim (fun x : Int32 => some x) (fun q5 : Unit =>
  (z_iter (f_X4_firstOver_L82 w) z_fuel (0 : Int32)).bind (Sum.elim (fun x : Int32 => some x) (fun q10 : Unit =>
  some (-4 : Int32)))))))
set_option maxHeartbeats 4000000 in
set_option maxRecDepth 100000 in
theorem c_X4_firstOver (G : ZG) (l : Launch) (d : Nat) (hd : 5 ≤ d) (w : ZW) : ∀ o, f_X4_firstOver w = some o → zM G l d yX4_firstOver cX4_firstOver 3 (some .int) [.ref (G.1 2)] w (some (.int o)) w := by
  intro o ho
  refine zM.of [(0, .ref (G.1 2))] (by decide) (Nat.le_of_ble_eq_true rfl) rfl ?_
  refine (?_ : zR G l d "LoveLocks$Rail" cX4_firstOver 3 (some .int) (some (.int o)) w (fun x => x = o) 0 [(0, .ref (G.1 2))] [] w (f_X4_firstOver w)) o ho rfl
  rw [f_X4_firstOver]
  refine r_iconst 1 dX4_firstOver_0 rfl zci_0 ?_
  refine r_istore_n 2 [(1, .int (0 : Int32)), (0, .ref (G.1 2))] dX4_firstOver_1 rfl rfl (by decide) rfl ?_
  refine r_loopR [1, 0] (fun s1 => [(0, .ref (G.1 2)), (1, .int s1)]) (fun s1 => w) (fun x => x = o) 26 (fun q2 => [(0, .ref (G.1 2))]) (fun q2 => w) rfl rfl (fun s1 => ?_) (fun x y h1 h2 => by cases h1; exact h2) (fun q2 => ?_)
  · rw [f_X4_firstOver_L2]
    refine r_iload_n 3 dX4_firstOver_2 rfl 1 rfl rfl ?_
    refine r_aload_n 4 dX4_firstOver_3 rfl 0 rfl rfl ?_
    refine r_get 7 2 4 dX4_firstOver_4 rfl zl_2 (ce_2 G _) rfl inz4 (by decide) wf_X4_49 rfl ?_
    refine r_icmp_ge 26 10 dX4_firstOver_7 (by decide) rfl ?_ ?_
    · exact r_leaf [0] (lv2 := [(0, .ref (G.1 2))]) rfl (fun h => h)
    · refine r_aload_n 11 dX4_firstOver_10 rfl 0 rfl rfl ?_
      refine r_iload_n 12 dX4_firstOver_11 rfl 1 rfl rfl ?_
      refine r_callVi 15 1 (ko := 2) [.int s1] (st := []) dX4_firstOver_12 rfl rfl (fun r h => c_X4_isOver G l (d - 1) (by omega) w s1 r h) zl_2 (ce_2 G _) rfl rfl wc_X4_isOver wz_X4 wl_X4_86 wi_X4_isOver ws_X4_isOver zd_X4_isOver (by decide) (by omega) rfl (Nat.le_of_ble_eq_true rfl) (fun r3 => ?_)
      refine r_if_eq 20 18 dX4_firstOver_15 (by decide) rfl ?_ ?_
      · refine r_iinc 23 1 [(1, .int (s1 + (1 : Int32))), (0, .ref (G.1 2))] dX4_firstOver_20 rfl rfl zci_1 (by decide) rfl ?_
        refine r_goto 2 dX4_firstOver_23 (by decide) ?_
        exact r_leaf [1, 0] (lv2 := [(0, .ref (G.1 2)), (1, .int (s1 + (1 : Int32)))]) rfl (fun h => h)
      · refine r_iload_n 19 dX4_firstOver_18 rfl 1 rfl rfl ?_
        exact r_iret dX4_firstOver_19 rfl z_ki
  · refine r_iconst 27 dX4_firstOver_26 rfl zci_0 ?_
    refine r_istore_n 28 [(1, .int (0 : Int32)), (0, .ref (G.1 2))] dX4_firstOver_27 rfl rfl (by decide) rfl ?_
    refine r_loopR [1, 0] (fun s4 => [(0, .ref (G.1 2)), (1, .int s4)]) (fun s4 => w) (fun x => x = o) 80 (fun q5 => [(0, .ref (G.1 2))]) (fun q5 => w) rfl rfl (fun s4 => ?_) (fun x y h1 h2 => by cases h1; exact h2) (fun q5 => ?_)
    · rw [f_X4_firstOver_L28]
      refine r_iload_n 29 dX4_firstOver_28 rfl 1 rfl rfl ?_
      refine r_aload_n 30 dX4_firstOver_29 rfl 0 rfl rfl ?_
      refine r_get 33 2 0 dX4_firstOver_30 rfl zl_2 (ce_2 G _) rfl inz4 (by decide) wf_X4_39 rfl ?_
      refine r_icmp_ge 80 36 dX4_firstOver_33 (by decide) rfl ?_ ?_
      · exact r_leaf [0] (lv2 := [(0, .ref (G.1 2))]) rfl (fun h => h)
      · refine r_iconst 37 dX4_firstOver_36 rfl zci_0 ?_
        refine r_istore_n 38 [(2, .int (0 : Int32)), (0, .ref (G.1 2)), (1, .int s4)] dX4_firstOver_37 rfl rfl (by decide) rfl ?_
        refine r_loopR [1, 2, 0] (fun s6 => [(0, .ref (G.1 2)), (1, .int s4), (2, .int s6)]) (fun s6 => w) (fun x => x = o) 74 (fun q7 => [(0, .ref (G.1 2)), (1, .int s4)]) (fun q7 => w) rfl rfl (fun s6 => ?_) (fun x y h1 h2 => by cases h1; exact h2) (fun q7 => ?_)
        · rw [f_X4_firstOver_L38]
          refine r_iload_n 39 dX4_firstOver_38 rfl 2 rfl rfl ?_
          refine r_iconst 40 dX4_firstOver_39 rfl zci_3 ?_
          refine r_icmp_ge 74 43 dX4_firstOver_40 (by decide) rfl ?_ ?_
          · exact r_leaf [0, 1] (lv2 := [(0, .ref (G.1 2)), (1, .int s4)]) rfl (fun h => h)
          · refine r_aload_n 44 dX4_firstOver_43 rfl 0 rfl rfl ?_
            refine r_iload_n 45 dX4_firstOver_44 rfl 1 rfl rfl ?_
            refine r_iload_n 46 dX4_firstOver_45 rfl 2 rfl rfl ?_
            refine r_callVi 49 2 (ko := 2) [.int s4, .int s6] (st := []) dX4_firstOver_46 rfl rfl (fun r h => c_X4_barLoad G l (d - 1) (by omega) w s4 s6 r h) zl_2 (ce_2 G _) rfl rfl wc_X4_barLoad wz_X4 wl_X4_77 wi_X4_barLoad ws_X4_barLoad zd_X4_barLoad (by decide) (by omega) rfl (Nat.le_of_ble_eq_true rfl) (fun r8 => ?_)
            refine r_aload_n 50 dX4_firstOver_49 rfl 0 rfl rfl ?_
            refine r_get 53 2 1 dX4_firstOver_50 rfl zl_2 (ce_2 G _) rfl inz4 (by decide) wf_X4_9 rfl ?_
            refine r_iload_n 54 dX4_firstOver_53 rfl 1 rfl rfl ?_
            refine r_iald 55 3 6 dX4_firstOver_54 rfl zl_3 (ce_3 G _) ?_
            refine r_icmp_le 68 58 dX4_firstOver_55 (by decide) rfl ?_ ?_
            · refine r_iinc 71 2 [(2, .int (s6 + (1 : Int32))), (0, .ref (G.1 2)), (1, .int s4)] dX4_firstOver_68 rfl rfl zci_1 (by decide) rfl ?_
              refine r_goto 38 dX4_firstOver_71 (by decide) ?_
              exact r_leaf [1, 2, 0] (lv2 := [(0, .ref (G.1 2)), (1, .int s4), (2, .int (s6 + (1 : Int32)))]) rfl (fun h => h)
            · refine r_bipush 60 dX4_firstOver_58 rfl zcb_100 ?_
              refine r_bipush 62 dX4_firstOver_60 rfl zcb_10 ?_
              refine r_iload_n 63 dX4_firstOver_62 rfl 1 rfl rfl ?_
              refine r_imul 64 dX4_firstOver_63 rfl ?_
              refine r_iadd 65 dX4_firstOver_64 rfl ?_
              refine r_iload_n 66 dX4_firstOver_65 rfl 2 rfl rfl ?_
              refine r_iadd 67 dX4_firstOver_66 rfl ?_
              exact r_iret dX4_firstOver_67 rfl z_ki
        · refine r_iinc 77 1 [(1, .int (s4 + (1 : Int32))), (0, .ref (G.1 2))] dX4_firstOver_74 rfl rfl zci_1 (by decide) rfl ?_
          refine r_goto 28 dX4_firstOver_77 (by decide) ?_
          exact r_leaf [1, 0] (lv2 := [(0, .ref (G.1 2)), (1, .int (s4 + (1 : Int32)))]) rfl (fun h => h)
    · refine r_iconst 81 dX4_firstOver_80 rfl zci_0 ?_
      refine r_istore_n 82 [(1, .int (0 : Int32)), (0, .ref (G.1 2))] dX4_firstOver_81 rfl rfl (by decide) rfl ?_
      refine r_loopR [1, 0] (fun s9 => [(0, .ref (G.1 2)), (1, .int s9)]) (fun s9 => w) (fun x => x = o) 130 (fun q10 => []) (fun q10 => w) rfl rfl (fun s9 => ?_) (fun x y h1 h2 => by cases h1; exact h2) (fun q10 => ?_)
      · rw [f_X4_firstOver_L82]
        refine r_iload_n 83 dX4_firstOver_82 rfl 1 rfl rfl ?_
        refine r_aload_n 84 dX4_firstOver_83 rfl 0 rfl rfl ?_
        refine r_get 87 2 0 dX4_firstOver_84 rfl zl_2 (ce_2 G _) rfl inz4 (by decide) wf_X4_39 rfl ?_
        refine r_icmp_ge 130 90 dX4_firstOver_87 (by decide) rfl ?_ ?_
        · exact r_leaf [] (lv2 := []) rfl (fun h => h)
        · refine r_aload_n 91 dX4_firstOver_90 rfl 0 rfl rfl ?_
          refine r_iload_n 92 dX4_firstOver_91 rfl 1 rfl rfl ?_
          refine r_callVi 95 1 (ko := 2) [.int s9] (st := []) dX4_firstOver_92 rfl rfl (fun r h => c_X4_panelLoad G l (d - 1) (by omega) w s9 r h) zl_2 (ce_2 G _) rfl rfl wc_X4_panelLoad wz_X4 wl_X4_80 wi_X4_panelLoad ws_X4_panelLoad zd_X4_panelLoad (by decide) (by omega) rfl (Nat.le_of_ble_eq_true rfl) (fun r11 => ?_)
          refine r_aload_n 96 dX4_firstOver_95 rfl 0 rfl rfl ?_
          refine r_get 99 2 2 dX4_firstOver_96 rfl zl_2 (ce_2 G _) rfl inz4 (by decide) wf_X4_15 rfl ?_
          refine r_iload_n 100 dX4_firstOver_99 rfl 1 rfl rfl ?_
          refine r_iald 101 4 6 dX4_firstOver_100 rfl zl_4 (ce_4 G _) ?_
          refine r_icmp_gt 118 104 dX4_firstOver_101 (by decide) rfl ?_ ?_
          · refine r_sipush 121 dX4_firstOver_118 rfl zcs_200 ?_
            refine r_iload_n 122 dX4_firstOver_121 rfl 1 rfl rfl ?_
            refine r_iadd 123 dX4_firstOver_122 rfl ?_
            exact r_iret dX4_firstOver_123 rfl z_ki
          · refine r_aload_n 105 dX4_firstOver_104 rfl 0 rfl rfl ?_
            refine r_iload_n 106 dX4_firstOver_105 rfl 1 rfl rfl ?_
            refine r_callVi 109 1 (ko := 2) [.int s9] (st := []) dX4_firstOver_106 rfl rfl (fun r h => c_X4_sagOf G l (d - 1) (by omega) w s9 r h) zl_2 (ce_2 G _) rfl rfl wc_X4_sagOf wz_X4 wl_X4_83 wi_X4_sagOf ws_X4_sagOf zd_X4_sagOf (by decide) (by omega) rfl (Nat.le_of_ble_eq_true rfl) (fun r12 => ?_)
            refine r_aload_n 110 dX4_firstOver_109 rfl 0 rfl rfl ?_
            refine r_get 113 2 3 dX4_firstOver_110 rfl zl_2 (ce_2 G _) rfl inz4 (by decide) wf_X4_18 rfl ?_
            refine r_iload_n 114 dX4_firstOver_113 rfl 1 rfl rfl ?_
            refine r_iald 115 5 6 dX4_firstOver_114 rfl zl_5 (ce_5 G _) ?_
            refine r_icmp_le 124 118 dX4_firstOver_115 (by decide) rfl ?_ ?_
            · refine r_iinc 127 1 [(1, .int (s9 + (1 : Int32))), (0, .ref (G.1 2))] dX4_firstOver_124 rfl rfl zci_1 (by decide) rfl ?_
              refine r_goto 82 dX4_firstOver_127 (by decide) ?_
              exact r_leaf [1, 0] (lv2 := [(0, .ref (G.1 2)), (1, .int (s9 + (1 : Int32)))]) rfl (fun h => h)
            · refine r_sipush 121 dX4_firstOver_118 rfl zcs_200 ?_
              refine r_iload_n 122 dX4_firstOver_121 rfl 1 rfl rfl ?_
              refine r_iadd 123 dX4_firstOver_122 rfl ?_
              exact r_iret dX4_firstOver_123 rfl z_ki
      · refine r_bipush 132 dX4_firstOver_130 rfl zcb_m4 ?_
        exact r_iret dX4_firstOver_132 rfl z_ki
-- X11_over
def f_X11_over (w : ZW) : Option (Int32) :=
  (f_X4_firstOver w).bind fun r1 : Int32 =>
  some r1
set_option maxHeartbeats 4000000 in
set_option maxRecDepth 100000 in
theorem c_X11_over (G : ZG) (l : Launch) (d : Nat) (hd : 6 ≤ d) (w : ZW) : ∀ o, f_X11_over w = some o → zM G l d yX11_over cX11_over 1 (some .int) [.ref (G.1 0)] w (some (.int o)) w := by
  intro o ho
  refine zM.of [(0, .ref (G.1 0))] (by decide) (Nat.le_of_ble_eq_true rfl) rfl ?_
  refine (?_ : zR G l d "LoveLocks" cX11_over 1 (some .int) (some (.int o)) w (fun x => x = o) 0 [(0, .ref (G.1 0))] [] w (f_X11_over w)) o ho rfl
  rw [f_X11_over]
  refine r_aload_n 1 dX11_over_0 rfl 0 rfl rfl ?_
  refine r_get 4 0 0 dX11_over_1 rfl zl_0 (ce_0 G _) rfl inz11 (by decide) wf_X11_10 rfl ?_
  refine r_get 7 1 0 dX11_over_4 rfl zl_1 (ce_1 G _) rfl inz9 (by decide) wf_X11_59 rfl ?_
  refine r_callVi 10 0 (ko := 2) [] (st := []) dX11_over_7 rfl rfl (fun r h => c_X4_firstOver G l (d - 1) (by omega) w r h) zl_2 (ce_2 G _) rfl rfl wc_X4_firstOver wz_X4 wl_X11_111 wi_X4_firstOver ws_X4_firstOver zd_X4_firstOver (by decide) (by omega) rfl (Nat.le_of_ble_eq_true rfl) (fun r1 => ?_)
  exact r_iret dX11_over_10 rfl z_ki
-- X4_hangingFrom
def f_X4_hangingFrom (w : ZW) (a1 : Int32) : Option (Int32) :=
  if (100 : Int32) ≤ a1 then
  if (200 : Int32) ≤ a1 then
    (f_X4_hangingAt w (a1 - (200 : Int32)) (0 : Int32)).bind fun r1 : Int32 =>
      (f_X4_hangingAt w (a1 - (200 : Int32)) (1 : Int32)).bind fun r2 : Int32 =>
      (f_X4_hangingAt w (a1 - (200 : Int32)) (2 : Int32)).bind fun r3 : Int32 =>
      some ((r1 ||| r2) ||| r3)
  else
    (f_X4_hangingAt w ((a1 - (100 : Int32)) / (10 : Int32)) ((a1 - (100 : Int32)) - (a1 - (100 : Int32)) / (10 : Int32) * (10 : Int32))).bind fun r4 : Int32 =>
      some r4
else
  (f_X4_withAllOn w a1).bind fun r5 : Int32 =>
    some r5
set_option maxHeartbeats 4000000 in
set_option maxRecDepth 100000 in
theorem c_X4_hangingFrom (G : ZG) (l : Launch) (d : Nat) (hd : 3 ≤ d) (w : ZW) (a1 : Int32) : ∀ o, f_X4_hangingFrom w a1 = some o → zM G l d yX4_hangingFrom cX4_hangingFrom 2 (some .int) [.ref (G.1 2), .int a1] w (some (.int o)) w := by
  intro o ho
  refine zM.of [(0, .ref (G.1 2)), (1, .int a1)] (by decide) (Nat.le_of_ble_eq_true rfl) rfl ?_
  refine (?_ : zR G l d "LoveLocks$Rail" cX4_hangingFrom 2 (some .int) (some (.int o)) w (fun x => x = o) 0 [(0, .ref (G.1 2)), (1, .int a1)] [] w (f_X4_hangingFrom w a1)) o ho rfl
  rw [f_X4_hangingFrom]
  refine r_iload_n 1 dX4_hangingFrom_0 rfl 1 rfl rfl ?_
  refine r_bipush 3 dX4_hangingFrom_1 rfl zcb_100 ?_
  refine r_icmp_ge 12 6 dX4_hangingFrom_3 (by decide) rfl ?_ ?_
  · refine r_iload_n 13 dX4_hangingFrom_12 rfl 1 rfl rfl ?_
    refine r_sipush 16 dX4_hangingFrom_13 rfl zcs_200 ?_
    refine r_icmp_ge 38 19 dX4_hangingFrom_16 (by decide) rfl ?_ ?_
    · refine r_aload_n 39 dX4_hangingFrom_38 rfl 0 rfl rfl ?_
      refine r_iload_n 40 dX4_hangingFrom_39 rfl 1 rfl rfl ?_
      refine r_sipush 43 dX4_hangingFrom_40 rfl zcs_200 ?_
      refine r_isub 44 dX4_hangingFrom_43 rfl ?_
      refine r_iconst 45 dX4_hangingFrom_44 rfl zci_0 ?_
      refine r_callVi 48 2 (ko := 2) [.int (a1 - (200 : Int32)), .int (0 : Int32)] (st := []) dX4_hangingFrom_45 rfl rfl (fun r h => c_X4_hangingAt G l (d - 1) (by omega) w (a1 - (200 : Int32)) (0 : Int32) r h) zl_2 (ce_2 G _) rfl rfl wc_X4_hangingAt wz_X4 wl_X4_73 wi_X4_hangingAt ws_X4_hangingAt zd_X4_hangingAt (by decide) (by omega) rfl (Nat.le_of_ble_eq_true rfl) (fun r1 => ?_)
      refine r_aload_n 49 dX4_hangingFrom_48 rfl 0 rfl rfl ?_
      refine r_iload_n 50 dX4_hangingFrom_49 rfl 1 rfl rfl ?_
      refine r_sipush 53 dX4_hangingFrom_50 rfl zcs_200 ?_
      refine r_isub 54 dX4_hangingFrom_53 rfl ?_
      refine r_iconst 55 dX4_hangingFrom_54 rfl zci_1 ?_
      refine r_callVi 58 2 (ko := 2) [.int (a1 - (200 : Int32)), .int (1 : Int32)] (st := [.int r1]) dX4_hangingFrom_55 rfl rfl (fun r h => c_X4_hangingAt G l (d - 1) (by omega) w (a1 - (200 : Int32)) (1 : Int32) r h) zl_2 (ce_2 G _) rfl rfl wc_X4_hangingAt wz_X4 wl_X4_73 wi_X4_hangingAt ws_X4_hangingAt zd_X4_hangingAt (by decide) (by omega) rfl (Nat.le_of_ble_eq_true rfl) (fun r2 => ?_)
      refine r_ior 59 dX4_hangingFrom_58 rfl ?_
      refine r_aload_n 60 dX4_hangingFrom_59 rfl 0 rfl rfl ?_
      refine r_iload_n 61 dX4_hangingFrom_60 rfl 1 rfl rfl ?_
      refine r_sipush 64 dX4_hangingFrom_61 rfl zcs_200 ?_
      refine r_isub 65 dX4_hangingFrom_64 rfl ?_
      refine r_iconst 66 dX4_hangingFrom_65 rfl zci_2 ?_
      refine r_callVi 69 2 (ko := 2) [.int (a1 - (200 : Int32)), .int (2 : Int32)] (st := [.int (r1 ||| r2)]) dX4_hangingFrom_66 rfl rfl (fun r h => c_X4_hangingAt G l (d - 1) (by omega) w (a1 - (200 : Int32)) (2 : Int32) r h) zl_2 (ce_2 G _) rfl rfl wc_X4_hangingAt wz_X4 wl_X4_73 wi_X4_hangingAt ws_X4_hangingAt zd_X4_hangingAt (by decide) (by omega) rfl (Nat.le_of_ble_eq_true rfl) (fun r3 => ?_)
      refine r_ior 70 dX4_hangingFrom_69 rfl ?_
      exact r_iret dX4_hangingFrom_70 rfl z_ki
    · refine r_aload_n 20 dX4_hangingFrom_19 rfl 0 rfl rfl ?_
      refine r_iload_n 21 dX4_hangingFrom_20 rfl 1 rfl rfl ?_
      refine r_bipush 23 dX4_hangingFrom_21 rfl zcb_100 ?_
      refine r_isub 24 dX4_hangingFrom_23 rfl ?_
      refine r_bipush 26 dX4_hangingFrom_24 rfl zcb_10 ?_
      refine r_idiv 27 dX4_hangingFrom_26 rfl (by decide) ?_
      refine r_iload_n 28 dX4_hangingFrom_27 rfl 1 rfl rfl ?_
      refine r_bipush 30 dX4_hangingFrom_28 rfl zcb_100 ?_
      refine r_isub 31 dX4_hangingFrom_30 rfl ?_
      refine r_bipush 33 dX4_hangingFrom_31 rfl zcb_10 ?_
      refine r_irem 34 dX4_hangingFrom_33 rfl (by decide) ?_
      refine r_callVi 37 2 (ko := 2) [.int ((a1 - (100 : Int32)) / (10 : Int32)), .int ((a1 - (100 : Int32)) - (a1 - (100 : Int32)) / (10 : Int32) * (10 : Int32))] (st := []) dX4_hangingFrom_34 rfl rfl (fun r h => c_X4_hangingAt G l (d - 1) (by omega) w ((a1 - (100 : Int32)) / (10 : Int32)) ((a1 - (100 : Int32)) - (a1 - (100 : Int32)) / (10 : Int32) * (10 : Int32)) r h) zl_2 (ce_2 G _) rfl rfl wc_X4_hangingAt wz_X4 wl_X4_73 wi_X4_hangingAt ws_X4_hangingAt zd_X4_hangingAt (by decide) (by omega) rfl (Nat.le_of_ble_eq_true rfl) (fun r4 => ?_)
      exact r_iret dX4_hangingFrom_37 rfl z_ki
  · refine r_aload_n 7 dX4_hangingFrom_6 rfl 0 rfl rfl ?_
    refine r_iload_n 8 dX4_hangingFrom_7 rfl 1 rfl rfl ?_
    refine r_callVi 11 1 (ko := 2) [.int a1] (st := []) dX4_hangingFrom_8 rfl rfl (fun r h => c_X4_withAllOn G l (d - 1) (by omega) w a1 r h) zl_2 (ce_2 G _) rfl rfl wc_X4_withAllOn wz_X4 wl_X4_67 wi_X4_withAllOn ws_X4_withAllOn zd_X4_withAllOn (by decide) (by omega) rfl (Nat.le_of_ble_eq_true rfl) (fun r5 => ?_)
    exact r_iret dX4_hangingFrom_11 rfl z_ki
-- J6_bitCount_0f7a4
def f_J6_bitCount_0f7a4 (a0 : Int32) : Option (Int32) :=
  z_let (a0 - (((a0.toUInt32 >>> ((1 : Int32).toUInt32 &&& Int32.toUInt32 31)).toInt32) &&& (1431655765 : Int32))) fun y1 =>
  z_let ((y1 &&& (858993459 : Int32)) + (((y1.toUInt32 >>> ((2 : Int32).toUInt32 &&& Int32.toUInt32 31)).toInt32) &&& (858993459 : Int32))) fun y2 =>
  z_let ((y2 + ((y2.toUInt32 >>> ((4 : Int32).toUInt32 &&& Int32.toUInt32 31)).toInt32)) &&& (252645135 : Int32)) fun y3 =>
  z_let (y3 + ((y3.toUInt32 >>> ((8 : Int32).toUInt32 &&& Int32.toUInt32 31)).toInt32)) fun y4 =>
  z_let (y4 + ((y4.toUInt32 >>> ((16 : Int32).toUInt32 &&& Int32.toUInt32 31)).toInt32)) fun y5 =>
  some (y5 &&& (63 : Int32))
set_option maxHeartbeats 4000000 in
set_option maxRecDepth 100000 in
theorem c_J6_bitCount_0f7a4 (G : ZG) (l : Launch) (d : Nat) (hd : 1 ≤ d) (w0 : ZW) (a0 : Int32) : ∀ o, f_J6_bitCount_0f7a4 a0 = some o → zM G l d yJ6_bitCount_0f7a4 cJ6_bitCount_0f7a4 1 (some .int) [.int a0] w0 (some (.int o)) w0 := by
  intro o ho
  refine zM.of [(0, .int a0)] (by decide) (Nat.le_of_ble_eq_true rfl) rfl ?_
  refine (?_ : zR G l d "java/lang/Integer" cJ6_bitCount_0f7a4 1 (some .int) (some (.int o)) w0 (fun x => x = o) 0 [(0, .int a0)] [] w0 (f_J6_bitCount_0f7a4 a0)) o ho rfl
  rw [f_J6_bitCount_0f7a4]
  refine r_iload_n 1 dJ6_bitCount_0f7a4_0 rfl 0 rfl rfl ?_
  refine r_iload_n 2 dJ6_bitCount_0f7a4_1 rfl 0 rfl rfl ?_
  refine r_iconst 3 dJ6_bitCount_0f7a4_2 rfl zci_1 ?_
  refine r_iushr 4 dJ6_bitCount_0f7a4_3 rfl ?_
  refine r_ldcw 7 dJ6_bitCount_0f7a4_4 rfl wk_J6_265 ?_
  refine r_iand 8 dJ6_bitCount_0f7a4_7 rfl ?_
  refine r_isub 9 dJ6_bitCount_0f7a4_8 rfl ?_
  refine r_topi (fun y1 => ?_)
  refine r_istore_n 10 [(0, .int y1)] dJ6_bitCount_0f7a4_9 rfl rfl (by decide) rfl ?_
  refine r_iload_n 11 dJ6_bitCount_0f7a4_10 rfl 0 rfl rfl ?_
  refine r_ldcw 14 dJ6_bitCount_0f7a4_11 rfl wk_J6_266 ?_
  refine r_iand 15 dJ6_bitCount_0f7a4_14 rfl ?_
  refine r_iload_n 16 dJ6_bitCount_0f7a4_15 rfl 0 rfl rfl ?_
  refine r_iconst 17 dJ6_bitCount_0f7a4_16 rfl zci_2 ?_
  refine r_iushr 18 dJ6_bitCount_0f7a4_17 rfl ?_
  refine r_ldcw 21 dJ6_bitCount_0f7a4_18 rfl wk_J6_266 ?_
  refine r_iand 22 dJ6_bitCount_0f7a4_21 rfl ?_
  refine r_iadd 23 dJ6_bitCount_0f7a4_22 rfl ?_
  refine r_topi (fun y2 => ?_)
  refine r_istore_n 24 [(0, .int y2)] dJ6_bitCount_0f7a4_23 rfl rfl (by decide) rfl ?_
  refine r_iload_n 25 dJ6_bitCount_0f7a4_24 rfl 0 rfl rfl ?_
  refine r_iload_n 26 dJ6_bitCount_0f7a4_25 rfl 0 rfl rfl ?_
  refine r_iconst 27 dJ6_bitCount_0f7a4_26 rfl zci_4 ?_
  refine r_iushr 28 dJ6_bitCount_0f7a4_27 rfl ?_
  refine r_iadd 29 dJ6_bitCount_0f7a4_28 rfl ?_
  refine r_ldcw 32 dJ6_bitCount_0f7a4_29 rfl wk_J6_267 ?_
  refine r_iand 33 dJ6_bitCount_0f7a4_32 rfl ?_
  refine r_topi (fun y3 => ?_)
  refine r_istore_n 34 [(0, .int y3)] dJ6_bitCount_0f7a4_33 rfl rfl (by decide) rfl ?_
  refine r_iload_n 35 dJ6_bitCount_0f7a4_34 rfl 0 rfl rfl ?_
  refine r_iload_n 36 dJ6_bitCount_0f7a4_35 rfl 0 rfl rfl ?_
  refine r_bipush 38 dJ6_bitCount_0f7a4_36 rfl zcb_8 ?_
  refine r_iushr 39 dJ6_bitCount_0f7a4_38 rfl ?_
  refine r_iadd 40 dJ6_bitCount_0f7a4_39 rfl ?_
  refine r_topi (fun y4 => ?_)
  refine r_istore_n 41 [(0, .int y4)] dJ6_bitCount_0f7a4_40 rfl rfl (by decide) rfl ?_
  refine r_iload_n 42 dJ6_bitCount_0f7a4_41 rfl 0 rfl rfl ?_
  refine r_iload_n 43 dJ6_bitCount_0f7a4_42 rfl 0 rfl rfl ?_
  refine r_bipush 45 dJ6_bitCount_0f7a4_43 rfl zcb_16 ?_
  refine r_iushr 46 dJ6_bitCount_0f7a4_45 rfl ?_
  refine r_iadd 47 dJ6_bitCount_0f7a4_46 rfl ?_
  refine r_topi (fun y5 => ?_)
  refine r_istore_n 48 [(0, .int y5)] dJ6_bitCount_0f7a4_47 rfl rfl (by decide) rfl ?_
  refine r_iload_n 49 dJ6_bitCount_0f7a4_48 rfl 0 rfl rfl ?_
  refine r_bipush 51 dJ6_bitCount_0f7a4_49 rfl zcb_63 ?_
  refine r_iand 52 dJ6_bitCount_0f7a4_51 rfl ?_
  exact r_iret dJ6_bitCount_0f7a4_52 rfl z_ki
-- X4_fall
def f_X4_fall (w : ZW) (a1 : Int32) : Option (Int32 × ZW) :=
  (f_J6_bitCount_0f7a4 (w.1 2 5)).bind fun r1 : Int32 =>
  z_let (z_upI w 2 5 ((w.1 2 5) ||| a1)) fun w2 =>
  (f_J6_bitCount_0f7a4 (w2.1 2 5)).bind fun r3 : Int32 =>
  some (r3 - r1, w2)
set_option maxHeartbeats 4000000 in
set_option maxRecDepth 100000 in
theorem c_X4_fall (G : ZG) (l : Launch) (d : Nat) (hd : 2 ≤ d) (w : ZW) (a1 : Int32) : ∀ o, f_X4_fall w a1 = some o → zM G l d yX4_fall cX4_fall 3 (some .int) [.ref (G.1 2), .int a1] w (some (.int o.1)) o.2 := by
  intro o ho
  refine zM.of [(0, .ref (G.1 2)), (1, .int a1)] (by decide) (Nat.le_of_ble_eq_true rfl) rfl ?_
  refine (?_ : zR G l d "LoveLocks$Rail" cX4_fall 3 (some .int) (some (.int o.1)) o.2 (fun x => x = o) 0 [(0, .ref (G.1 2)), (1, .int a1)] [] w (f_X4_fall w a1)) o ho rfl
  rw [f_X4_fall]
  refine r_aload_n 1 dX4_fall_0 rfl 0 rfl rfl ?_
  refine r_get 4 2 5 dX4_fall_1 rfl zl_2 (ce_2 G _) rfl inz4 (by decide) wf_X4_52 rfl ?_
  refine r_callSi 7 1 [.int (w.1 2 5)] (st := []) dX4_fall_4 rfl rfl (fun r h => c_J6_bitCount_0f7a4 G l (d - 1) (by omega) w (w.1 2 5) r h) wc_J6_bitCount_0f7a4 wz_J6 wl_X4_89 wst_J6_bitCount_0f7a4 zd_J6_bitCount_0f7a4 (by decide) (by omega) rfl (Nat.le_of_ble_eq_true rfl) (fun r1 => ?_)
  refine r_istore_n 8 [(2, .int r1), (0, .ref (G.1 2)), (1, .int a1)] dX4_fall_7 rfl rfl (by decide) rfl ?_
  refine r_aload_n 9 dX4_fall_8 rfl 1 rfl rfl ?_
  refine r_dup 10 dX4_fall_9 rfl rfl ?_
  refine r_get 13 2 5 dX4_fall_10 rfl zl_2 (ce_2 G _) rfl inz4 (by decide) wf_X4_52 rfl ?_
  refine r_iload_n 14 dX4_fall_13 rfl 2 rfl rfl ?_
  refine r_ior 15 dX4_fall_14 rfl ?_
  refine r_puti 18 2 5 dX4_fall_15 rfl zl_2 (ce_2 G _) rfl inz4 tyX4_ok nmX4 (by decide) wf_X4_52 rfl rfl (Nat.le_of_ble_eq_true rfl) rfl ?_
  refine r_topw (fun w2 => ?_)
  refine r_aload_n 19 dX4_fall_18 rfl 1 rfl rfl ?_
  refine r_get 22 2 5 dX4_fall_19 rfl zl_2 (ce_2 G _) rfl inz4 (by decide) wf_X4_52 rfl ?_
  refine r_callSi 25 1 [.int (w2.1 2 5)] (st := []) dX4_fall_22 rfl rfl (fun r h => c_J6_bitCount_0f7a4 G l (d - 1) (by omega) w2 (w2.1 2 5) r h) wc_J6_bitCount_0f7a4 wz_J6 wl_X4_89 wst_J6_bitCount_0f7a4 zd_J6_bitCount_0f7a4 (by decide) (by omega) rfl (Nat.le_of_ble_eq_true rfl) (fun r3 => ?_)
  refine r_iload_n 26 dX4_fall_25 rfl 0 rfl rfl ?_
  refine r_isub 27 dX4_fall_26 rfl ?_
  exact r_iret dX4_fall_27 rfl z_kiw
-- X4_fallWhileOver
def f_X4_fallWhileOver_L9 (s2 : Int32 × Int32 × Int32 × ZW) : Option ((Int32 × Int32 × Int32 × ZW) ⊕ (Int32 × ZW)) :=
  if (14 : Int32) ≤ s2.2.2.1 then
  some (.inr (s2.1, s2.2.2.2))
else
  if s2.2.1 = (-4 : Int32) then
    some (.inr (s2.1, s2.2.2.2))
  else
    (f_X4_hangingFrom s2.2.2.2 s2.2.1).bind fun r4 : Int32 =>
      (f_X4_fall s2.2.2.2 r4).bind fun r5 : Int32 × ZW =>
      (f_X4_firstOver r5.2).bind fun r6 : Int32 =>
      some (.inl (s2.1 + r5.1, r6, s2.2.2.1 + (1 : Int32), r5.2))
def f_X4_fallWhileOver (w : ZW) : Option (Int32 × ZW) :=
  (f_X4_firstOver w).bind fun r1 : Int32 =>
  (z_iter (f_X4_fallWhileOver_L9) z_fuel ((0 : Int32), r1, (0 : Int32), w)).bind (fun q3 : Int32 × ZW =>
  some (q3.1, q3.2))
set_option maxHeartbeats 4000000 in
set_option maxRecDepth 100000 in
theorem c_X4_fallWhileOver (G : ZG) (l : Launch) (d : Nat) (hd : 6 ≤ d) (w : ZW) : ∀ o, f_X4_fallWhileOver w = some o → zM G l d yX4_fallWhileOver cX4_fallWhileOver 4 (some .int) [.ref (G.1 2)] w (some (.int o.1)) o.2 := by
  intro o ho
  refine zM.of [(0, .ref (G.1 2))] (by decide) (Nat.le_of_ble_eq_true rfl) rfl ?_
  refine (?_ : zR G l d "LoveLocks$Rail" cX4_fallWhileOver 4 (some .int) (some (.int o.1)) o.2 (fun x => x = o) 0 [(0, .ref (G.1 2))] [] w (f_X4_fallWhileOver w)) o ho rfl
  rw [f_X4_fallWhileOver]
  refine r_iconst 1 dX4_fallWhileOver_0 rfl zci_0 ?_
  refine r_istore_n 2 [(1, .int (0 : Int32)), (0, .ref (G.1 2))] dX4_fallWhileOver_1 rfl rfl (by decide) rfl ?_
  refine r_aload_n 3 dX4_fallWhileOver_2 rfl 1 rfl rfl ?_
  refine r_callVi 6 0 (ko := 2) [] (st := []) dX4_fallWhileOver_3 rfl rfl (fun r h => c_X4_firstOver G l (d - 1) (by omega) w r h) zl_2 (ce_2 G _) rfl rfl wc_X4_firstOver wz_X4 wl_X4_94 wi_X4_firstOver ws_X4_firstOver zd_X4_firstOver (by decide) (by omega) rfl (Nat.le_of_ble_eq_true rfl) (fun r1 => ?_)
  refine r_istore_n 7 [(2, .int r1), (1, .int (0 : Int32)), (0, .ref (G.1 2))] dX4_fallWhileOver_6 rfl rfl (by decide) rfl ?_
  refine r_iconst 8 dX4_fallWhileOver_7 rfl zci_0 ?_
  refine r_istore_n 9 [(3, .int (0 : Int32)), (2, .int r1), (1, .int (0 : Int32)), (0, .ref (G.1 2))] dX4_fallWhileOver_8 rfl rfl (by decide) rfl ?_
  refine r_loopE [3, 2, 1, 0] (fun s2 => [(0, .ref (G.1 2)), (1, .int s2.1), (2, .int s2.2.1), (3, .int s2.2.2.1)]) (fun s2 => s2.2.2.2) 44 (fun q3 => [(1, .int q3.1)]) (fun q3 => q3.2) rfl rfl (fun s2 => ?_) (fun q3 => ?_)
  · rw [f_X4_fallWhileOver_L9]
    refine r_iload_n 10 dX4_fallWhileOver_9 rfl 3 rfl rfl ?_
    refine r_bipush 12 dX4_fallWhileOver_10 rfl zcb_14 ?_
    refine r_icmp_ge 44 15 dX4_fallWhileOver_12 (by decide) rfl ?_ ?_
    · exact r_leaf [1] (lv2 := [(1, .int s2.1)]) rfl (fun h => h)
    · refine r_iload_n 16 dX4_fallWhileOver_15 rfl 2 rfl rfl ?_
      refine r_bipush 18 dX4_fallWhileOver_16 rfl zcb_m4 ?_
      refine r_icmp_eq 44 21 dX4_fallWhileOver_18 (by decide) rfl ?_ ?_
      · exact r_leaf [1] (lv2 := [(1, .int s2.1)]) rfl (fun h => h)
      · refine r_iload_n 22 dX4_fallWhileOver_21 rfl 1 rfl rfl ?_
        refine r_aload_n 23 dX4_fallWhileOver_22 rfl 0 rfl rfl ?_
        refine r_aload_n 24 dX4_fallWhileOver_23 rfl 0 rfl rfl ?_
        refine r_iload_n 25 dX4_fallWhileOver_24 rfl 2 rfl rfl ?_
        refine r_callVi 28 1 (ko := 2) [.int s2.2.1] (st := [.ref (G.1 2), .int s2.1]) dX4_fallWhileOver_25 rfl rfl (fun r h => c_X4_hangingFrom G l (d - 1) (by omega) s2.2.2.2 s2.2.1 r h) zl_2 (ce_2 G _) rfl rfl wc_X4_hangingFrom wz_X4 wl_X4_98 wi_X4_hangingFrom ws_X4_hangingFrom zd_X4_hangingFrom (by decide) (by omega) rfl (Nat.le_of_ble_eq_true rfl) (fun r4 => ?_)
        refine r_callViw 31 1 (ko := 2) [.int r4] (st := [.int s2.1]) dX4_fallWhileOver_28 rfl rfl (fun r h => c_X4_fall G l (d - 1) (by omega) s2.2.2.2 r4 r h) zl_2 (ce_2 G _) rfl rfl wc_X4_fall wz_X4 wl_X4_101 wi_X4_fall ws_X4_fall zd_X4_fall (by decide) (by omega) rfl (Nat.le_of_ble_eq_true rfl) (fun r5 => ?_)
        refine r_iadd 32 dX4_fallWhileOver_31 rfl ?_
        refine r_istore_n 33 [(1, .int (s2.1 + r5.1)), (0, .ref (G.1 2)), (2, .int s2.2.1), (3, .int s2.2.2.1)] dX4_fallWhileOver_32 rfl rfl (by decide) rfl ?_
        refine r_aload_n 34 dX4_fallWhileOver_33 rfl 1 rfl rfl ?_
        refine r_callVi 37 0 (ko := 2) [] (st := []) dX4_fallWhileOver_34 rfl rfl (fun r h => c_X4_firstOver G l (d - 1) (by omega) r5.2 r h) zl_2 (ce_2 G _) rfl rfl wc_X4_firstOver wz_X4 wl_X4_94 wi_X4_firstOver ws_X4_firstOver zd_X4_firstOver (by decide) (by omega) rfl (Nat.le_of_ble_eq_true rfl) (fun r6 => ?_)
        refine r_istore_n 38 [(2, .int r6), (1, .int (s2.1 + r5.1)), (0, .ref (G.1 2)), (3, .int s2.2.2.1)] dX4_fallWhileOver_37 rfl rfl (by decide) rfl ?_
        refine r_iinc 41 3 [(3, .int (s2.2.2.1 + (1 : Int32))), (2, .int r6), (1, .int (s2.1 + r5.1)), (0, .ref (G.1 2))] dX4_fallWhileOver_38 rfl rfl zci_1 (by decide) rfl ?_
        refine r_goto 9 dX4_fallWhileOver_41 (by decide) ?_
        exact r_leaf [3, 2, 1, 0] (lv2 := [(0, .ref (G.1 2)), (1, .int (s2.1 + r5.1)), (2, .int r6), (3, .int (s2.2.2.1 + (1 : Int32)))]) rfl (fun h => h)
  · refine r_iload_n 45 dX4_fallWhileOver_44 rfl 0 rfl rfl ?_
    exact r_iret dX4_fallWhileOver_45 rfl z_kiw
-- X11_giveWay
def f_X11_giveWay (w : ZW) : Option (Int32 × ZW) :=
  (f_X4_fallWhileOver w).bind fun r1 : Int32 × ZW =>
  some (r1.1, r1.2)
set_option maxHeartbeats 4000000 in
set_option maxRecDepth 100000 in
theorem c_X11_giveWay (G : ZG) (l : Launch) (d : Nat) (hd : 7 ≤ d) (w : ZW) : ∀ o, f_X11_giveWay w = some o → zM G l d yX11_giveWay cX11_giveWay 1 (some .int) [.ref (G.1 0)] w (some (.int o.1)) o.2 := by
  intro o ho
  refine zM.of [(0, .ref (G.1 0))] (by decide) (Nat.le_of_ble_eq_true rfl) rfl ?_
  refine (?_ : zR G l d "LoveLocks" cX11_giveWay 1 (some .int) (some (.int o.1)) o.2 (fun x => x = o) 0 [(0, .ref (G.1 0))] [] w (f_X11_giveWay w)) o ho rfl
  rw [f_X11_giveWay]
  refine r_aload_n 1 dX11_giveWay_0 rfl 0 rfl rfl ?_
  refine r_get 4 0 0 dX11_giveWay_1 rfl zl_0 (ce_0 G _) rfl inz11 (by decide) wf_X11_10 rfl ?_
  refine r_get 7 1 0 dX11_giveWay_4 rfl zl_1 (ce_1 G _) rfl inz9 (by decide) wf_X11_59 rfl ?_
  refine r_callViw 10 0 (ko := 2) [] (st := []) dX11_giveWay_7 rfl rfl (fun r h => c_X4_fallWhileOver G l (d - 1) (by omega) w r h) zl_2 (ce_2 G _) rfl rfl wc_X4_fallWhileOver wz_X4 wl_X11_115 wi_X4_fallWhileOver ws_X4_fallWhileOver zd_X4_fallWhileOver (by decide) (by omega) rfl (Nat.le_of_ble_eq_true rfl) (fun r1 => ?_)
  exact r_iret dX11_giveWay_10 rfl z_kiw
-- X11_count
def f_X11_count (w : ZW) (a1 : Int32) : Option (Int32) :=
  if a1 = (0 : Int32) then
  some (w.1 2 0)
else
  if a1 = (1 : Int32) then
  some (w.1 2 4)
else
  if a1 = (2 : Int32) then
  (f_J6_bitCount_0f7a4 (w.1 2 5)).bind fun r1 : Int32 =>
    some r1
else
  if a1 = (3 : Int32) then
  some (w.1 12 0)
else
  if a1 = (4 : Int32) then
  some (w.1 16 0)
else
  if a1 = (5 : Int32) then
  (f_J6_bitCount_0f7a4 (w.1 16 1)).bind fun r2 : Int32 =>
    some r2
else
  some (-1 : Int32)
set_option maxHeartbeats 4000000 in
set_option maxRecDepth 100000 in
theorem c_X11_count (G : ZG) (l : Launch) (d : Nat) (hd : 2 ≤ d) (w : ZW) (a1 : Int32) : ∀ o, f_X11_count w a1 = some o → zM G l d yX11_count cX11_count 2 (some .int) [.ref (G.1 0), .int a1] w (some (.int o)) w := by
  intro o ho
  refine zM.of [(0, .ref (G.1 0)), (1, .int a1)] (by decide) (Nat.le_of_ble_eq_true rfl) rfl ?_
  refine (?_ : zR G l d "LoveLocks" cX11_count 2 (some .int) (some (.int o)) w (fun x => x = o) 0 [(0, .ref (G.1 0)), (1, .int a1)] [] w (f_X11_count w a1)) o ho rfl
  rw [f_X11_count]
  refine r_iload_n 1 dX11_count_0 rfl 1 rfl rfl ?_
  refine r_case (0 : Int32) (fun hx => ?_) (fun hn0 => ?_)
  · refine r_tin 40 (0 : Int32) hx dX11_count_1 (by decide) (by decide) rfl (by decide) ?_
    refine r_aload_n 41 dX11_count_40 rfl 0 rfl rfl ?_
    refine r_get 44 0 0 dX11_count_41 rfl zl_0 (ce_0 G _) rfl inz11 (by decide) wf_X11_10 rfl ?_
    refine r_get 47 1 0 dX11_count_44 rfl zl_1 (ce_1 G _) rfl inz9 (by decide) wf_X11_59 rfl ?_
    refine r_get 50 2 0 dX11_count_47 rfl zl_2 (ce_2 G _) rfl inz4 (by decide) wf_X11_118 rfl ?_
    exact r_iret dX11_count_50 rfl z_ki
  refine r_case (1 : Int32) (fun hx => ?_) (fun hn1 => ?_)
  · refine r_tin 51 (1 : Int32) hx dX11_count_1 (by decide) (by decide) rfl (by decide) ?_
    refine r_aload_n 52 dX11_count_51 rfl 0 rfl rfl ?_
    refine r_get 55 0 0 dX11_count_52 rfl zl_0 (ce_0 G _) rfl inz11 (by decide) wf_X11_10 rfl ?_
    refine r_get 58 1 0 dX11_count_55 rfl zl_1 (ce_1 G _) rfl inz9 (by decide) wf_X11_59 rfl ?_
    refine r_get 61 2 4 dX11_count_58 rfl zl_2 (ce_2 G _) rfl inz4 (by decide) wf_X11_122 rfl ?_
    exact r_iret dX11_count_61 rfl z_ki
  refine r_case (2 : Int32) (fun hx => ?_) (fun hn2 => ?_)
  · refine r_tin 62 (2 : Int32) hx dX11_count_1 (by decide) (by decide) rfl (by decide) ?_
    refine r_aload_n 63 dX11_count_62 rfl 0 rfl rfl ?_
    refine r_get 66 0 0 dX11_count_63 rfl zl_0 (ce_0 G _) rfl inz11 (by decide) wf_X11_10 rfl ?_
    refine r_get 69 1 0 dX11_count_66 rfl zl_1 (ce_1 G _) rfl inz9 (by decide) wf_X11_59 rfl ?_
    refine r_get 72 2 5 dX11_count_69 rfl zl_2 (ce_2 G _) rfl inz4 (by decide) wf_X11_125 rfl ?_
    refine r_callSi 75 1 [.int (w.1 2 5)] (st := []) dX11_count_72 rfl rfl (fun r h => c_J6_bitCount_0f7a4 G l (d - 1) (by omega) w (w.1 2 5) r h) wc_J6_bitCount_0f7a4 wz_J6 wl_X11_128 wst_J6_bitCount_0f7a4 zd_J6_bitCount_0f7a4 (by decide) (by omega) rfl (Nat.le_of_ble_eq_true rfl) (fun r1 => ?_)
    exact r_iret dX11_count_75 rfl z_ki
  refine r_case (3 : Int32) (fun hx => ?_) (fun hn3 => ?_)
  · refine r_tin 76 (3 : Int32) hx dX11_count_1 (by decide) (by decide) rfl (by decide) ?_
    refine r_aload_n 77 dX11_count_76 rfl 0 rfl rfl ?_
    refine r_get 80 0 0 dX11_count_77 rfl zl_0 (ce_0 G _) rfl inz11 (by decide) wf_X11_10 rfl ?_
    refine r_get 83 1 1 dX11_count_80 rfl zl_1 (ce_1 G _) rfl inz9 (by decide) wf_X11_133 rfl ?_
    refine r_get 86 12 0 dX11_count_83 rfl zl_12 (ce_12 G _) rfl inz8 (by decide) wf_X11_137 rfl ?_
    exact r_iret dX11_count_86 rfl z_ki
  refine r_case (4 : Int32) (fun hx => ?_) (fun hn4 => ?_)
  · refine r_tin 87 (4 : Int32) hx dX11_count_1 (by decide) (by decide) rfl (by decide) ?_
    refine r_aload_n 88 dX11_count_87 rfl 0 rfl rfl ?_
    refine r_get 91 0 0 dX11_count_88 rfl zl_0 (ce_0 G _) rfl inz11 (by decide) wf_X11_10 rfl ?_
    refine r_get 94 1 2 dX11_count_91 rfl zl_1 (ce_1 G _) rfl inz9 (by decide) wf_X11_141 rfl ?_
    refine r_get 97 16 0 dX11_count_94 rfl zl_16 (ce_16 G _) rfl inz2 (by decide) wf_X11_145 rfl ?_
    exact r_iret dX11_count_97 rfl z_ki
  refine r_case (5 : Int32) (fun hx => ?_) (fun hn5 => ?_)
  · refine r_tin 98 (5 : Int32) hx dX11_count_1 (by decide) (by decide) rfl (by decide) ?_
    refine r_aload_n 99 dX11_count_98 rfl 0 rfl rfl ?_
    refine r_get 102 0 0 dX11_count_99 rfl zl_0 (ce_0 G _) rfl inz11 (by decide) wf_X11_10 rfl ?_
    refine r_get 105 1 2 dX11_count_102 rfl zl_1 (ce_1 G _) rfl inz9 (by decide) wf_X11_141 rfl ?_
    refine r_get 108 16 1 dX11_count_105 rfl zl_16 (ce_16 G _) rfl inz2 (by decide) wf_X11_150 rfl ?_
    refine r_callSi 111 1 [.int (w.1 16 1)] (st := []) dX11_count_108 rfl rfl (fun r h => c_J6_bitCount_0f7a4 G l (d - 1) (by omega) w (w.1 16 1) r h) wc_J6_bitCount_0f7a4 wz_J6 wl_X11_128 wst_J6_bitCount_0f7a4 zd_J6_bitCount_0f7a4 (by decide) (by omega) rfl (Nat.le_of_ble_eq_true rfl) (fun r2 => ?_)
    exact r_iret dX11_count_111 rfl z_ki
  refine r_tout 112 dX11_count_1 (z_tout5 hn0 hn1 hn2 hn3 hn4 hn5) (by decide) ?_
  refine r_iconst 113 dX11_count_112 rfl zci_m1 ?_
  exact r_iret dX11_count_113 rfl z_ki
-- X10_isSign
def f_X10_isSign (a0 : Int64) : Option (Int32) :=
  if (lg_cmp a0 (32 : Int64)) < 0 then
  some (0 : Int32)
else
  if 0 < (lg_cmp a0 (126 : Int64)) then
    some (0 : Int32)
  else
    some (1 : Int32)
set_option maxHeartbeats 4000000 in
set_option maxRecDepth 100000 in
theorem c_X10_isSign (G : ZG) (l : Launch) (d : Nat) (hd : 1 ≤ d) (w0 : ZW) (a0 : Int64) : ∀ o, f_X10_isSign a0 = some o → zM G l d yX10_isSign cX10_isSign 2 (some .boolean) [.long a0] w0 (some (.int o)) w0 := by
  intro o ho
  refine zM.of [(0, .long a0)] (by decide) (Nat.le_of_ble_eq_true rfl) rfl ?_
  refine (?_ : zR G l d "LoveLocks$Tape" cX10_isSign 2 (some .boolean) (some (.int o)) w0 (fun x => x = o) 0 [(0, .long a0)] [] w0 (f_X10_isSign a0)) o ho rfl
  rw [f_X10_isSign]
  refine r_lload_n 1 dX10_isSign_0 rfl 0 rfl rfl ?_
  refine r_ldc2 4 dX10_isSign_1 rfl wk_X10_25 ?_
  refine r_lcmp 5 dX10_isSign_4 rfl ?_
  refine r_if_lt 20 8 dX10_isSign_5 (by decide) rfl ?_ ?_
  · refine r_iconst 21 dX10_isSign_20 rfl zci_0 ?_
    exact r_zret dX10_isSign_21 rfl rfl z_ki
  · refine r_lload_n 9 dX10_isSign_8 rfl 0 rfl rfl ?_
    refine r_ldc2 12 dX10_isSign_9 rfl wk_X10_27 ?_
    refine r_lcmp 13 dX10_isSign_12 rfl ?_
    refine r_if_gt 20 16 dX10_isSign_13 (by decide) rfl ?_ ?_
    · refine r_iconst 21 dX10_isSign_20 rfl zci_0 ?_
      exact r_zret dX10_isSign_21 rfl rfl z_ki
    · refine r_iconst 17 dX10_isSign_16 rfl zci_1 ?_
      refine r_goto 21 dX10_isSign_17 (by decide) ?_
      exact r_zret dX10_isSign_21 rfl rfl z_ki
-- X10_add
def f_X10_add_L16 (a3 : Int32) (a1 : Int64) (w : ZW) (s1 : Int32) : Option ((Int32) ⊕ ((Int32 × ZW) ⊕ (Unit))) :=
  if a3 ≤ s1 then
  some (.inr (.inr ()))
else
  (f_X10_isSign ((a1 >>> (((8 : Int32) * s1).toInt64 &&& 63)) &&& (255 : Int64))).bind fun r3 : Int32 =>
    if r3 = 0 then
    some (.inr (.inl ((-1 : Int32), w)))
  else
    some (.inl (s1 + (1 : Int32)))
def f_X10_add_L66 (a1 : Int64) (s4 : Int32 × ZW) : Option ((Int32 × ZW) ⊕ (ZW)) :=
  if s4.1 < 0 then
  some (.inr s4.2)
else
  z_let (z_upI s4.2 120 0 ((s4.2.1 120 0) + (1 : Int32))) fun w6 =>
    if z_in (s4.2.1 120 0) 40 then
    z_let (z_upI w6 121 (s4.2.1 120 0).toNatClampNeg (vp_nar .byte ((((a1 >>> (((8 : Int32) * s4.1).toInt64 &&& 63)) &&& (255 : Int64)).toInt32).toInt8.toInt32))) fun w7 =>
    some (.inl (s4.1 + (-1 : Int32), w7))
  else none
def f_X10_add (w : ZW) (a1 : Int64) (a3 : Int32) : Option (Int32 × ZW) :=
  if a3 < (1 : Int32) then
  some ((-1 : Int32), w)
else
  if a3 ≤ (8 : Int32) then
    (z_iter (f_X10_add_L16 a3 a1 w) z_fuel (0 : Int32)).bind (Sum.elim (fun x : Int32 × ZW => some x) (fun q2 : Unit =>
      if a3 ≤ ((40 : Int32) - (w.1 120 0)) then
      (z_iter (f_X10_add_L66 a1) z_fuel (a3 - (1 : Int32), w)).bind (fun q5 : ZW =>
        some (q5.1 120 0, q5))
    else
      some ((-3 : Int32), w)))
  else
    some ((-1 : Int32), w)
set_option maxHeartbeats 4000000 in
set_option maxRecDepth 100000 in
theorem c_X10_add (G : ZG) (l : Launch) (d : Nat) (hd : 2 ≤ d) (w : ZW) (a1 : Int64) (a3 : Int32) : ∀ o, f_X10_add w a1 a3 = some o → zM G l d yX10_add cX10_add 5 (some .int) [.ref (G.1 120), .long a1, .int a3] w (some (.int o.1)) o.2 := by
  intro o ho
  refine zM.of [(0, .ref (G.1 120)), (1, .long a1), (3, .int a3)] (by decide) (Nat.le_of_ble_eq_true rfl) rfl ?_
  refine (?_ : zR G l d "LoveLocks$Tape" cX10_add 5 (some .int) (some (.int o.1)) o.2 (fun x => x = o) 0 [(0, .ref (G.1 120)), (1, .long a1), (3, .int a3)] [] w (f_X10_add w a1 a3)) o ho rfl
  rw [f_X10_add]
  refine r_iload_n 1 dX10_add_0 rfl 2 rfl rfl ?_
  refine r_iconst 2 dX10_add_1 rfl zci_1 ?_
  refine r_icmp_lt 11 5 dX10_add_2 (by decide) rfl ?_ ?_
  · refine r_iconst 12 dX10_add_11 rfl zci_m1 ?_
    exact r_iret dX10_add_12 rfl z_kiw
  · refine r_iload_n 6 dX10_add_5 rfl 2 rfl rfl ?_
    refine r_bipush 8 dX10_add_6 rfl zcb_8 ?_
    refine r_icmp_le 13 11 dX10_add_8 (by decide) rfl ?_ ?_
    · refine r_iconst 14 dX10_add_13 rfl zci_0 ?_
      refine r_istore 16 [(4, .int (0 : Int32)), (0, .ref (G.1 120)), (1, .long a1), (3, .int a3)] dX10_add_14 rfl (by decide) rfl ?_
      refine r_loopR [1, 2, 3, 0] (fun s1 => [(0, .ref (G.1 120)), (1, .long a1), (3, .int a3), (4, .int s1)]) (fun s1 => w) (fun x => x = o) 47 (fun q2 => [(0, .ref (G.1 120)), (1, .long a1), (3, .int a3)]) (fun q2 => w) rfl rfl (fun s1 => ?_) (fun x y h1 h2 => by cases h1; exact h2) (fun q2 => ?_)
      · rw [f_X10_add_L16]
        refine r_iload 18 dX10_add_16 rfl 3 rfl ?_
        refine r_iload_n 19 dX10_add_18 rfl 2 rfl rfl ?_
        refine r_icmp_ge 47 22 dX10_add_19 (by decide) rfl ?_ ?_
        · exact r_leaf [0, 1, 2] (lv2 := [(0, .ref (G.1 120)), (1, .long a1), (3, .int a3)]) rfl (fun h => h)
        · refine r_lload_n 23 dX10_add_22 rfl 1 rfl rfl ?_
          refine r_bipush 25 dX10_add_23 rfl zcb_8 ?_
          refine r_iload 27 dX10_add_25 rfl 3 rfl ?_
          refine r_imul 28 dX10_add_27 rfl ?_
          refine r_lshr 29 dX10_add_28 rfl ?_
          refine r_ldc2 32 dX10_add_29 rfl wk_X10_15 ?_
          refine r_land 33 dX10_add_32 rfl ?_
          refine r_callSi 36 1 [.long ((a1 >>> (((8 : Int32) * s1).toInt64 &&& 63)) &&& (255 : Int64))] (st := []) dX10_add_33 rfl rfl (fun r h => c_X10_isSign G l (d - 1) (by omega) w ((a1 >>> (((8 : Int32) * s1).toInt64 &&& 63)) &&& (255 : Int64)) r h) wc_X10_isSign wz_X10 wl_X10_17 wst_X10_isSign zd_X10_isSign (by decide) (by omega) rfl (Nat.le_of_ble_eq_true rfl) (fun r3 => ?_)
          refine r_if_ne 41 39 dX10_add_36 (by decide) rfl ?_ ?_
          · refine r_iinc 44 3 [(4, .int (s1 + (1 : Int32))), (0, .ref (G.1 120)), (1, .long a1), (3, .int a3)] dX10_add_41 rfl rfl zci_1 (by decide) rfl ?_
            refine r_goto 16 dX10_add_44 (by decide) ?_
            exact r_leaf [1, 2, 3, 0] (lv2 := [(0, .ref (G.1 120)), (1, .long a1), (3, .int a3), (4, .int (s1 + (1 : Int32)))]) rfl (fun h => h)
          · refine r_iconst 40 dX10_add_39 rfl zci_m1 ?_
            exact r_iret dX10_add_40 rfl z_kiw
      · refine r_iload_n 48 dX10_add_47 rfl 2 rfl rfl ?_
        refine r_bipush 50 dX10_add_48 rfl zcb_40 ?_
        refine r_aload_n 51 dX10_add_50 rfl 0 rfl rfl ?_
        refine r_get 54 120 0 dX10_add_51 rfl zl_120 (ce_120 G _) rfl inz10 (by decide) wf_X10_21 rfl ?_
        refine r_isub 55 dX10_add_54 rfl ?_
        refine r_icmp_le 61 58 dX10_add_55 (by decide) rfl ?_ ?_
        · refine r_iload_n 62 dX10_add_61 rfl 2 rfl rfl ?_
          refine r_iconst 63 dX10_add_62 rfl zci_1 ?_
          refine r_isub 64 dX10_add_63 rfl ?_
          refine r_istore 66 [(4, .int (a3 - (1 : Int32))), (0, .ref (G.1 120)), (1, .long a1), (3, .int a3)] dX10_add_64 rfl (by decide) rfl ?_
          refine r_loopE [1, 2, 0] (fun s4 => [(0, .ref (G.1 120)), (1, .long a1), (4, .int s4.1)]) (fun s4 => s4.2) 106 (fun q5 => [(0, .ref (G.1 120))]) (fun q5 => q5) rfl rfl (fun s4 => ?_) (fun q5 => ?_)
          · rw [f_X10_add_L66]
            refine r_iload 68 dX10_add_66 rfl 2 rfl ?_
            refine r_if_lt 106 71 dX10_add_68 (by decide) rfl ?_ ?_
            · exact r_leaf [0] (lv2 := [(0, .ref (G.1 120))]) rfl (fun h => h)
            · refine r_aload_n 72 dX10_add_71 rfl 0 rfl rfl ?_
              refine r_get 75 120 3 dX10_add_72 rfl zl_120 (ce_120 G _) rfl inz10 (by decide) wf_X10_9 rfl ?_
              refine r_aload_n 76 dX10_add_75 rfl 0 rfl rfl ?_
              refine r_dup 77 dX10_add_76 rfl rfl ?_
              refine r_get 80 120 0 dX10_add_77 rfl zl_120 (ce_120 G _) rfl inz10 (by decide) wf_X10_21 rfl ?_
              refine r_dup_x1 81 dX10_add_80 rfl rfl rfl ?_
              refine r_iconst 82 dX10_add_81 rfl zci_1 ?_
              refine r_iadd 83 dX10_add_82 rfl ?_
              refine r_puti 86 120 0 dX10_add_83 rfl zl_120 (ce_120 G _) rfl inz10 tyX10_ok nmX10 (by decide) wf_X10_21 rfl rfl (Nat.le_of_ble_eq_true rfl) rfl ?_
              refine r_topw (fun w6 => ?_)
              refine r_lload_n 87 dX10_add_86 rfl 1 rfl rfl ?_
              refine r_bipush 89 dX10_add_87 rfl zcb_8 ?_
              refine r_iload 91 dX10_add_89 rfl 2 rfl ?_
              refine r_imul 92 dX10_add_91 rfl ?_
              refine r_lshr 93 dX10_add_92 rfl ?_
              refine r_ldc2 96 dX10_add_93 rfl wk_X10_15 ?_
              refine r_land 97 dX10_add_96 rfl ?_
              refine r_l2i 98 dX10_add_97 rfl ?_
              refine r_i2b 99 dX10_add_98 rfl ?_
              refine r_bast 100 121 40 dX10_add_99 rfl zl_121 (ce_121 G) ?_
              refine r_topw (fun w7 => ?_)
              refine r_iinc 103 2 [(4, .int (s4.1 + (-1 : Int32))), (0, .ref (G.1 120)), (1, .long a1)] dX10_add_100 rfl rfl zci_m1 (by decide) rfl ?_
              refine r_goto 66 dX10_add_103 (by decide) ?_
              exact r_leaf [1, 2, 0] (lv2 := [(0, .ref (G.1 120)), (1, .long a1), (4, .int (s4.1 + (-1 : Int32)))]) rfl (fun h => h)
          · refine r_aload_n 107 dX10_add_106 rfl 0 rfl rfl ?_
            refine r_get 110 120 0 dX10_add_107 rfl zl_120 (ce_120 G _) rfl inz10 (by decide) wf_X10_21 rfl ?_
            exact r_iret dX10_add_110 rfl z_kiw
        · refine r_bipush 60 dX10_add_58 rfl zcb_m3 ?_
          exact r_iret dX10_add_60 rfl z_kiw
    · refine r_iconst 12 dX10_add_11 rfl zci_m1 ?_
      exact r_iret dX10_add_12 rfl z_kiw
-- X11_type
def f_X11_type (w : ZW) (a1 : Int64) (a3 : Int32) : Option (Int32 × ZW) :=
  (f_X10_add w a1 a3).bind fun r1 : Int32 × ZW =>
  some (r1.1, r1.2)
set_option maxHeartbeats 4000000 in
set_option maxRecDepth 100000 in
theorem c_X11_type (G : ZG) (l : Launch) (d : Nat) (hd : 3 ≤ d) (w : ZW) (a1 : Int64) (a3 : Int32) : ∀ o, f_X11_type w a1 a3 = some o → zM G l d yX11_type cX11_type 4 (some .int) [.ref (G.1 0), .long a1, .int a3] w (some (.int o.1)) o.2 := by
  intro o ho
  refine zM.of [(0, .ref (G.1 0)), (1, .long a1), (3, .int a3)] (by decide) (Nat.le_of_ble_eq_true rfl) rfl ?_
  refine (?_ : zR G l d "LoveLocks" cX11_type 4 (some .int) (some (.int o.1)) o.2 (fun x => x = o) 0 [(0, .ref (G.1 0)), (1, .long a1), (3, .int a3)] [] w (f_X11_type w a1 a3)) o ho rfl
  rw [f_X11_type]
  refine r_aload_n 1 dX11_type_0 rfl 0 rfl rfl ?_
  refine r_get 4 0 6 dX11_type_1 rfl zl_0 (ce_0 G _) rfl inz11 (by decide) wf_X11_43 rfl ?_
  refine r_lload_n 5 dX11_type_4 rfl 1 rfl rfl ?_
  refine r_iload_n 6 dX11_type_5 rfl 2 rfl rfl ?_
  refine r_callViw 9 2 (ko := 120) [.long a1, .int a3] (st := []) dX11_type_6 rfl rfl (fun r h => c_X10_add G l (d - 1) (by omega) w a1 a3 r h) zl_120 (ce_120 G _) rfl rfl wc_X10_add wz_X10 wl_X11_174 wi_X10_add ws_X10_add zd_X10_add (by decide) (by omega) rfl (Nat.le_of_ble_eq_true rfl) (fun r1 => ?_)
  exact r_iret dX11_type_9 rfl z_kiw
-- X10_isLetter
def f_X10_isLetter_J12 (a1 : Int32) (a0 : Int32) : Option (Int32) :=
  if a1 = 0 then
  some (0 : Int32)
else
  if a0 = (63 : Int32) then
    some (1 : Int32)
  else
    some (0 : Int32)
def f_X10_isLetter (a0 : Int32) (a1 : Int32) : Option (Int32) :=
  if a0 < (65 : Int32) then
  f_X10_isLetter_J12 a1 a0
else
  if a0 ≤ (90 : Int32) then
    some (1 : Int32)
  else
    f_X10_isLetter_J12 a1 a0
set_option maxHeartbeats 4000000 in
set_option maxRecDepth 100000 in
theorem c_X10_isLetter (G : ZG) (l : Launch) (d : Nat) (hd : 1 ≤ d) (w0 : ZW) (a0 : Int32) (a1 : Int32) : ∀ o, f_X10_isLetter a0 a1 = some o → zM G l d yX10_isLetter cX10_isLetter 2 (some .boolean) [.int a0, .int a1] w0 (some (.int o)) w0 := by
  intro o ho
  refine zM.of [(0, .int a0), (1, .int a1)] (by decide) (Nat.le_of_ble_eq_true rfl) rfl ?_
  refine (?_ : zR G l d "LoveLocks$Tape" cX10_isLetter 2 (some .boolean) (some (.int o)) w0 (fun x => x = o) 0 [(0, .int a0), (1, .int a1)] [] w0 (f_X10_isLetter a0 a1)) o ho rfl
  rw [f_X10_isLetter]
  have hJ12 : zR G l d "LoveLocks$Tape" cX10_isLetter 2 (some .boolean) (some (.int o)) w0 (fun x => x = o) 12 [(0, .int a0), (1, .int a1)] [] w0 (f_X10_isLetter_J12 a1 a0) := by
    rw [f_X10_isLetter_J12]
    refine r_iload_n 13 dX10_isLetter_12 rfl 1 rfl rfl ?_
    refine r_if_eq 26 16 dX10_isLetter_13 (by decide) rfl ?_ ?_
    · refine r_iconst 27 dX10_isLetter_26 rfl zci_0 ?_
      exact r_zret dX10_isLetter_27 rfl rfl z_ki
    · refine r_iload_n 17 dX10_isLetter_16 rfl 0 rfl rfl ?_
      refine r_bipush 19 dX10_isLetter_17 rfl zcb_63 ?_
      refine r_icmp_ne 26 22 dX10_isLetter_19 (by decide) rfl ?_ ?_
      · refine r_iconst 27 dX10_isLetter_26 rfl zci_0 ?_
        exact r_zret dX10_isLetter_27 rfl rfl z_ki
      · refine r_iconst 23 dX10_isLetter_22 rfl zci_1 ?_
        refine r_goto 27 dX10_isLetter_23 (by decide) ?_
        exact r_zret dX10_isLetter_27 rfl rfl z_ki
  refine r_iload_n 1 dX10_isLetter_0 rfl 0 rfl rfl ?_
  refine r_bipush 3 dX10_isLetter_1 rfl zcb_65 ?_
  refine r_icmp_lt 12 6 dX10_isLetter_3 (by decide) rfl ?_ ?_
  · exact r_sub [0, 1] (lv2 := [(0, .int a0), (1, .int a1)]) rfl (hJ12)
  · refine r_iload_n 7 dX10_isLetter_6 rfl 0 rfl rfl ?_
    refine r_bipush 9 dX10_isLetter_7 rfl zcb_90 ?_
    refine r_icmp_le 22 12 dX10_isLetter_9 (by decide) rfl ?_ ?_
    · refine r_iconst 23 dX10_isLetter_22 rfl zci_1 ?_
      refine r_goto 27 dX10_isLetter_23 (by decide) ?_
      exact r_zret dX10_isLetter_27 rfl rfl z_ki
    · exact r_sub [0, 1] (lv2 := [(0, .int a0), (1, .int a1)]) rfl (hJ12)
-- X10_read
def f_X10_read_J125 (x2_13 : Int32) (x3_14 : Int32) (x4_15 : Int32) (x5_16 : Int32) (x6_17 : Int32) (w18 : ZW) : Option ((Int32 × Int32 × Int32 × Int32 × ZW) ⊕ ((Int32 × ZW) ⊕ (Int32 × Int32 × Int32 × ZW))) :=
  if x6_17 = (32 : Int32) then
  some (.inl (x2_13, x3_14, x4_15, x5_16 + (1 : Int32), w18))
else
  some (.inr (.inl ((-20 : Int32) - x5_16, w18)))
def f_X10_read_J84 (a1 : Int32) (x2_7 : Int32) (x3_8 : Int32) (x4_9 : Int32) (x5_10 : Int32) (x6_11 : Int32) (w12 : ZW) : Option ((Int32 × Int32 × Int32 × Int32 × ZW) ⊕ ((Int32 × ZW) ⊕ (Int32 × Int32 × Int32 × ZW))) :=
  if a1 = 0 then
  f_X10_read_J125 x2_7 x3_8 x4_9 x5_10 x6_11 w12
else
  if x4_9 = 0 then
    if x3_8 ≤ 0 then
      f_X10_read_J125 x2_7 x3_8 x4_9 x5_10 x6_11 w12
    else
      if x6_11 = (43 : Int32) then
        z_let (z_upJ w12 120 1 (w12.2 120 2)) fun w19 =>
          z_let (z_upJ w19 120 2 (0 : Int64)) fun w20 =>
          some (.inl (x2_7, (0 : Int32), (1 : Int32), x5_10 + (1 : Int32), w20))
      else
        f_X10_read_J125 x2_7 x3_8 x4_9 x5_10 x6_11 w12
  else
    f_X10_read_J125 x2_7 x3_8 x4_9 x5_10 x6_11 w12
def f_X10_read_L20 (a1 : Int32) (s3 : Int32 × Int32 × Int32 × Int32 × ZW) : Option ((Int32 × Int32 × Int32 × Int32 × ZW) ⊕ ((Int32 × ZW) ⊕ (Int32 × Int32 × Int32 × ZW))) :=
  if (s3.2.2.2.2.1 120 0) ≤ s3.2.2.2.1 then
  some (.inr (.inr (s3.1, s3.2.1, s3.2.2.1, s3.2.2.2.2)))
else
  if (40 : Int32) ≤ s3.2.2.2.1 then
    some (.inr (.inr (s3.1, s3.2.1, s3.2.2.1, s3.2.2.2.2)))
  else
    if z_in s3.2.2.2.1 40 then
      z_let (s3.2.2.2.2.1 121 s3.2.2.2.1.toNatClampNeg) fun y5 =>
      (f_X10_isLetter y5 a1).bind fun r6 : Int32 =>
      if r6 = 0 then
      f_X10_read_J84 a1 s3.1 s3.2.1 s3.2.2.1 s3.2.2.2.1 y5 s3.2.2.2.2
    else
      if (6 : Int32) ≤ s3.2.1 then
        f_X10_read_J84 a1 s3.1 s3.2.1 s3.2.2.1 s3.2.2.2.1 y5 s3.2.2.2.2
      else
        z_let (z_upJ s3.2.2.2.2 120 2 (((s3.2.2.2.2.2 120 2) <<< ((8 : Int32).toInt64 &&& 63)) ||| y5.toInt64)) fun w21 =>
          some (.inl (s3.1 + (1 : Int32), s3.2.1 + (1 : Int32), s3.2.2.1, s3.2.2.2.1 + (1 : Int32), w21))
    else none
def f_X10_read_J144 (a1 : Int32) (x2_22 : Int32) (x3_23 : Int32) (x4_24 : Int32) (w25 : ZW) : Option (Int32 × ZW) :=
  if x3_23 = 0 then
  some ((-20 : Int32) - (w25.1 120 0), w25)
else
  if a1 = x4_24 then
    if a1 = 0 then
      z_let (z_upJ w25 120 1 (w25.2 120 2)) fun w26 =>
        some (x2_22, w26)
    else
      some (x2_22, w25)
  else
    some ((-20 : Int32) - (w25.1 120 0), w25)
def f_X10_read (w : ZW) (a1 : Int32) : Option (Int32 × ZW) :=
  z_let (z_upJ w 120 1 (0 : Int64)) fun w1 =>
  z_let (z_upJ w1 120 2 (0 : Int64)) fun w2 =>
  (z_iter (f_X10_read_L20 a1) z_fuel ((0 : Int32), (0 : Int32), (0 : Int32), (0 : Int32), w2)).bind (Sum.elim (fun x : Int32 × ZW => some x) (fun q4 : Int32 × Int32 × Int32 × ZW =>
  f_X10_read_J144 a1 q4.1 q4.2.1 q4.2.2.1 q4.2.2.2))
set_option maxHeartbeats 4000000 in
set_option maxRecDepth 100000 in
theorem c_X10_read (G : ZG) (l : Launch) (d : Nat) (hd : 2 ≤ d) (w : ZW) (a1 : Int32) : ∀ o, f_X10_read w a1 = some o → zM G l d yX10_read cX10_read 7 (some .int) [.ref (G.1 120), .int a1] w (some (.int o.1)) o.2 := by
  intro o ho
  refine zM.of [(0, .ref (G.1 120)), (1, .int a1)] (by decide) (Nat.le_of_ble_eq_true rfl) rfl ?_
  refine (?_ : zR G l d "LoveLocks$Tape" cX10_read 7 (some .int) (some (.int o.1)) o.2 (fun x => x = o) 0 [(0, .ref (G.1 120)), (1, .int a1)] [] w (f_X10_read w a1)) o ho rfl
  rw [f_X10_read]
  have hJ144 : ∀ (x2_22 : Int32) (x3_23 : Int32) (x4_24 : Int32) (w25 : ZW), zR G l d "LoveLocks$Tape" cX10_read 7 (some .int) (some (.int o.1)) o.2 (fun x => x = o) 144 [(0, .ref (G.1 120)), (1, .int a1), (2, .int x2_22), (3, .int x3_23), (4, .int x4_24)] [] w25 (f_X10_read_J144 a1 x2_22 x3_23 x4_24 w25) := by
    intro x2_22 x3_23 x4_24 w25
    rw [f_X10_read_J144]
    refine r_iload_n 145 dX10_read_144 rfl 3 rfl rfl ?_
    refine r_if_eq 154 148 dX10_read_145 (by decide) rfl ?_ ?_
    · refine r_bipush 156 dX10_read_154 rfl zcb_m20 ?_
      refine r_aload_n 157 dX10_read_156 rfl 0 rfl rfl ?_
      refine r_get 160 120 0 dX10_read_157 rfl zl_120 (ce_120 G _) rfl inz10 (by decide) wf_X10_21 rfl ?_
      refine r_isub 161 dX10_read_160 rfl ?_
      exact r_iret dX10_read_161 rfl z_kiw
    · refine r_iload_n 149 dX10_read_148 rfl 1 rfl rfl ?_
      refine r_iload 151 dX10_read_149 rfl 4 rfl ?_
      refine r_icmp_eq 162 154 dX10_read_151 (by decide) rfl ?_ ?_
      · refine r_iload_n 163 dX10_read_162 rfl 1 rfl rfl ?_
        refine r_if_ne 174 166 dX10_read_163 (by decide) rfl ?_ ?_
        · refine r_iload_n 175 dX10_read_174 rfl 2 rfl rfl ?_
          exact r_iret dX10_read_175 rfl z_kiw
        · refine r_aload_n 167 dX10_read_166 rfl 0 rfl rfl ?_
          refine r_aload_n 168 dX10_read_167 rfl 0 rfl rfl ?_
          refine r_get 171 120 2 dX10_read_168 rfl zl_120 (ce_120 G _) rfl inz10 (by decide) wf_X10_37 rfl ?_
          refine r_putj 174 120 1 dX10_read_171 rfl zl_120 (ce_120 G _) rfl inz10 tyX10_ok nmX10 (by decide) wf_X10_33 rfl rfl (Nat.le_of_ble_eq_true rfl) rfl ?_
          refine r_topw (fun w26 => ?_)
          refine r_iload_n 175 dX10_read_174 rfl 2 rfl rfl ?_
          exact r_iret dX10_read_175 rfl z_kiw
      · refine r_bipush 156 dX10_read_154 rfl zcb_m20 ?_
        refine r_aload_n 157 dX10_read_156 rfl 0 rfl rfl ?_
        refine r_get 160 120 0 dX10_read_157 rfl zl_120 (ce_120 G _) rfl inz10 (by decide) wf_X10_21 rfl ?_
        refine r_isub 161 dX10_read_160 rfl ?_
        exact r_iret dX10_read_161 rfl z_kiw
  refine r_iconst 1 dX10_read_0 rfl zci_0 ?_
  refine r_istore_n 2 [(2, .int (0 : Int32)), (0, .ref (G.1 120)), (1, .int a1)] dX10_read_1 rfl rfl (by decide) rfl ?_
  refine r_iconst 3 dX10_read_2 rfl zci_0 ?_
  refine r_istore_n 4 [(3, .int (0 : Int32)), (2, .int (0 : Int32)), (0, .ref (G.1 120)), (1, .int a1)] dX10_read_3 rfl rfl (by decide) rfl ?_
  refine r_iconst 5 dX10_read_4 rfl zci_0 ?_
  refine r_istore 7 [(4, .int (0 : Int32)), (3, .int (0 : Int32)), (2, .int (0 : Int32)), (0, .ref (G.1 120)), (1, .int a1)] dX10_read_5 rfl (by decide) rfl ?_
  refine r_aload_n 8 dX10_read_7 rfl 3 rfl rfl ?_
  refine r_lconst 9 dX10_read_8 rfl zcl_0 ?_
  refine r_putj 12 120 1 dX10_read_9 rfl zl_120 (ce_120 G _) rfl inz10 tyX10_ok nmX10 (by decide) wf_X10_33 rfl rfl (Nat.le_of_ble_eq_true rfl) rfl ?_
  refine r_topw (fun w1 => ?_)
  refine r_aload_n 13 dX10_read_12 rfl 3 rfl rfl ?_
  refine r_lconst 14 dX10_read_13 rfl zcl_0 ?_
  refine r_putj 17 120 2 dX10_read_14 rfl zl_120 (ce_120 G _) rfl inz10 tyX10_ok nmX10 (by decide) wf_X10_37 rfl rfl (Nat.le_of_ble_eq_true rfl) rfl ?_
  refine r_topw (fun w2 => ?_)
  refine r_iconst 18 dX10_read_17 rfl zci_0 ?_
  refine r_istore 20 [(5, .int (0 : Int32)), (4, .int (0 : Int32)), (3, .int (0 : Int32)), (2, .int (0 : Int32)), (0, .ref (G.1 120)), (1, .int a1)] dX10_read_18 rfl (by decide) rfl ?_
  refine r_loopR [4, 5, 3, 2, 1, 0] (fun s3 => [(0, .ref (G.1 120)), (1, .int a1), (2, .int s3.1), (3, .int s3.2.1), (4, .int s3.2.2.1), (5, .int s3.2.2.2.1)]) (fun s3 => s3.2.2.2.2) (fun x => x = o) 144 (fun q4 => [(0, .ref (G.1 120)), (1, .int a1), (2, .int q4.1), (3, .int q4.2.1), (4, .int q4.2.2.1)]) (fun q4 => q4.2.2.2) rfl rfl (fun s3 => ?_) (fun x y h1 h2 => by cases h1; exact h2) (fun q4 => ?_)
  · rw [f_X10_read_L20]
    have hJ125 : ∀ (x2_13 : Int32) (x3_14 : Int32) (x4_15 : Int32) (x5_16 : Int32) (x6_17 : Int32) (w18 : ZW), zR G l d "LoveLocks$Tape" cX10_read 7 (some .int) (some (.int o.1)) o.2 (Sum.elim (fun s3 => zA G l d "LoveLocks$Tape" cX10_read 7 (some .int) (some (.int o.1)) o.2 20 [(0, .ref (G.1 120)), (1, .int a1), (2, .int s3.1), (3, .int s3.2.1), (4, .int s3.2.2.1), (5, .int s3.2.2.2.1)] [] s3.2.2.2.2) (Sum.elim (fun x => x = o) (fun q4 => zA G l d "LoveLocks$Tape" cX10_read 7 (some .int) (some (.int o.1)) o.2 144 [(0, .ref (G.1 120)), (1, .int a1), (2, .int q4.1), (3, .int q4.2.1), (4, .int q4.2.2.1)] [] q4.2.2.2))) 125 [(0, .ref (G.1 120)), (1, .int a1), (2, .int x2_13), (3, .int x3_14), (4, .int x4_15), (5, .int x5_16), (6, .int x6_17)] [] w18 (f_X10_read_J125 x2_13 x3_14 x4_15 x5_16 x6_17 w18) := by
      intro x2_13 x3_14 x4_15 x5_16 x6_17 w18
      rw [f_X10_read_J125]
      refine r_iload 127 dX10_read_125 rfl 6 rfl ?_
      refine r_bipush 129 dX10_read_127 rfl zcb_32 ?_
      refine r_icmp_eq 138 132 dX10_read_129 (by decide) rfl ?_ ?_
      · refine r_iinc 141 5 [(5, .int (x5_16 + (1 : Int32))), (0, .ref (G.1 120)), (1, .int a1), (2, .int x2_13), (3, .int x3_14), (4, .int x4_15), (6, .int x6_17)] dX10_read_138 rfl rfl zci_1 (by decide) rfl ?_
        refine r_goto 20 dX10_read_141 (by decide) ?_
        exact r_leaf [1, 2, 3, 4, 5, 0] (lv2 := [(0, .ref (G.1 120)), (1, .int a1), (2, .int x2_13), (3, .int x3_14), (4, .int x4_15), (5, .int (x5_16 + (1 : Int32)))]) rfl (fun h => h)
      · refine r_bipush 134 dX10_read_132 rfl zcb_m20 ?_
        refine r_iload 136 dX10_read_134 rfl 5 rfl ?_
        refine r_isub 137 dX10_read_136 rfl ?_
        exact r_iret dX10_read_137 rfl z_kiw
    have hJ84 : ∀ (x2_7 : Int32) (x3_8 : Int32) (x4_9 : Int32) (x5_10 : Int32) (x6_11 : Int32) (w12 : ZW), zR G l d "LoveLocks$Tape" cX10_read 7 (some .int) (some (.int o.1)) o.2 (Sum.elim (fun s3 => zA G l d "LoveLocks$Tape" cX10_read 7 (some .int) (some (.int o.1)) o.2 20 [(0, .ref (G.1 120)), (1, .int a1), (2, .int s3.1), (3, .int s3.2.1), (4, .int s3.2.2.1), (5, .int s3.2.2.2.1)] [] s3.2.2.2.2) (Sum.elim (fun x => x = o) (fun q4 => zA G l d "LoveLocks$Tape" cX10_read 7 (some .int) (some (.int o.1)) o.2 144 [(0, .ref (G.1 120)), (1, .int a1), (2, .int q4.1), (3, .int q4.2.1), (4, .int q4.2.2.1)] [] q4.2.2.2))) 84 [(0, .ref (G.1 120)), (1, .int a1), (2, .int x2_7), (3, .int x3_8), (4, .int x4_9), (5, .int x5_10), (6, .int x6_11)] [] w12 (f_X10_read_J84 a1 x2_7 x3_8 x4_9 x5_10 x6_11 w12) := by
      intro x2_7 x3_8 x4_9 x5_10 x6_11 w12
      rw [f_X10_read_J84]
      refine r_iload_n 85 dX10_read_84 rfl 1 rfl rfl ?_
      refine r_if_eq 125 88 dX10_read_85 (by decide) rfl ?_ ?_
      · exact r_sub [0, 1, 2, 3, 4, 5, 6] (lv2 := [(0, .ref (G.1 120)), (1, .int a1), (2, .int x2_7), (3, .int x3_8), (4, .int x4_9), (5, .int x5_10), (6, .int x6_11)]) rfl (hJ125 x2_7 x3_8 x4_9 x5_10 x6_11 w12)
      · refine r_iload 90 dX10_read_88 rfl 4 rfl ?_
        refine r_if_ne 125 93 dX10_read_90 (by decide) rfl ?_ ?_
        · exact r_sub [0, 1, 2, 3, 4, 5, 6] (lv2 := [(0, .ref (G.1 120)), (1, .int a1), (2, .int x2_7), (3, .int x3_8), (4, .int x4_9), (5, .int x5_10), (6, .int x6_11)]) rfl (hJ125 x2_7 x3_8 x4_9 x5_10 x6_11 w12)
        · refine r_iload_n 94 dX10_read_93 rfl 3 rfl rfl ?_
          refine r_if_le 125 97 dX10_read_94 (by decide) rfl ?_ ?_
          · exact r_sub [0, 1, 2, 3, 4, 5, 6] (lv2 := [(0, .ref (G.1 120)), (1, .int a1), (2, .int x2_7), (3, .int x3_8), (4, .int x4_9), (5, .int x5_10), (6, .int x6_11)]) rfl (hJ125 x2_7 x3_8 x4_9 x5_10 x6_11 w12)
          · refine r_iload 99 dX10_read_97 rfl 6 rfl ?_
            refine r_bipush 101 dX10_read_99 rfl zcb_43 ?_
            refine r_icmp_ne 125 104 dX10_read_101 (by decide) rfl ?_ ?_
            · exact r_sub [0, 1, 2, 3, 4, 5, 6] (lv2 := [(0, .ref (G.1 120)), (1, .int a1), (2, .int x2_7), (3, .int x3_8), (4, .int x4_9), (5, .int x5_10), (6, .int x6_11)]) rfl (hJ125 x2_7 x3_8 x4_9 x5_10 x6_11 w12)
            · refine r_iconst 105 dX10_read_104 rfl zci_1 ?_
              refine r_istore 107 [(4, .int (1 : Int32)), (0, .ref (G.1 120)), (1, .int a1), (2, .int x2_7), (3, .int x3_8), (5, .int x5_10), (6, .int x6_11)] dX10_read_105 rfl (by decide) rfl ?_
              refine r_aload_n 108 dX10_read_107 rfl 1 rfl rfl ?_
              refine r_aload_n 109 dX10_read_108 rfl 1 rfl rfl ?_
              refine r_get 112 120 2 dX10_read_109 rfl zl_120 (ce_120 G _) rfl inz10 (by decide) wf_X10_37 rfl ?_
              refine r_putj 115 120 1 dX10_read_112 rfl zl_120 (ce_120 G _) rfl inz10 tyX10_ok nmX10 (by decide) wf_X10_33 rfl rfl (Nat.le_of_ble_eq_true rfl) rfl ?_
              refine r_topw (fun w19 => ?_)
              refine r_aload_n 116 dX10_read_115 rfl 1 rfl rfl ?_
              refine r_lconst 117 dX10_read_116 rfl zcl_0 ?_
              refine r_putj 120 120 2 dX10_read_117 rfl zl_120 (ce_120 G _) rfl inz10 tyX10_ok nmX10 (by decide) wf_X10_37 rfl rfl (Nat.le_of_ble_eq_true rfl) rfl ?_
              refine r_topw (fun w20 => ?_)
              refine r_iconst 121 dX10_read_120 rfl zci_0 ?_
              refine r_istore_n 122 [(3, .int (0 : Int32)), (4, .int (1 : Int32)), (0, .ref (G.1 120)), (1, .int a1), (2, .int x2_7), (5, .int x5_10), (6, .int x6_11)] dX10_read_121 rfl rfl (by decide) rfl ?_
              refine r_goto 138 dX10_read_122 (by decide) ?_
              refine r_iinc 141 5 [(5, .int (x5_10 + (1 : Int32))), (3, .int (0 : Int32)), (4, .int (1 : Int32)), (0, .ref (G.1 120)), (1, .int a1), (2, .int x2_7), (6, .int x6_11)] dX10_read_138 rfl rfl zci_1 (by decide) rfl ?_
              refine r_goto 20 dX10_read_141 (by decide) ?_
              exact r_leaf [3, 4, 5, 1, 2, 0] (lv2 := [(0, .ref (G.1 120)), (1, .int a1), (2, .int x2_7), (3, .int (0 : Int32)), (4, .int (1 : Int32)), (5, .int (x5_10 + (1 : Int32)))]) rfl (fun h => h)
    refine r_iload 22 dX10_read_20 rfl 5 rfl ?_
    refine r_aload_n 23 dX10_read_22 rfl 0 rfl rfl ?_
    refine r_get 26 120 0 dX10_read_23 rfl zl_120 (ce_120 G _) rfl inz10 (by decide) wf_X10_21 rfl ?_
    refine r_icmp_ge 144 29 dX10_read_26 (by decide) rfl ?_ ?_
    · exact r_leaf [0, 1, 2, 3, 4] (lv2 := [(0, .ref (G.1 120)), (1, .int a1), (2, .int s3.1), (3, .int s3.2.1), (4, .int s3.2.2.1)]) rfl (fun h => h)
    · refine r_iload 31 dX10_read_29 rfl 5 rfl ?_
      refine r_bipush 33 dX10_read_31 rfl zcb_40 ?_
      refine r_icmp_ge 144 36 dX10_read_33 (by decide) rfl ?_ ?_
      · exact r_leaf [0, 1, 2, 3, 4] (lv2 := [(0, .ref (G.1 120)), (1, .int a1), (2, .int s3.1), (3, .int s3.2.1), (4, .int s3.2.2.1)]) rfl (fun h => h)
      · refine r_aload_n 37 dX10_read_36 rfl 0 rfl rfl ?_
        refine r_get 40 120 3 dX10_read_37 rfl zl_120 (ce_120 G _) rfl inz10 (by decide) wf_X10_9 rfl ?_
        refine r_iload 42 dX10_read_40 rfl 5 rfl ?_
        refine r_bald 43 121 40 dX10_read_42 rfl zl_121 (ce_121 G _) ?_
        refine r_topi (fun y5 => ?_)
        refine r_istore 45 [(6, .int y5), (0, .ref (G.1 120)), (1, .int a1), (2, .int s3.1), (3, .int s3.2.1), (4, .int s3.2.2.1), (5, .int s3.2.2.2.1)] dX10_read_43 rfl (by decide) rfl ?_
        refine r_iload 47 dX10_read_45 rfl 0 rfl ?_
        refine r_iload_n 48 dX10_read_47 rfl 2 rfl rfl ?_
        refine r_callSi 51 2 [.int y5, .int a1] (st := []) dX10_read_48 rfl rfl (fun r h => c_X10_isLetter G l (d - 1) (by omega) s3.2.2.2.2 y5 a1 r h) wc_X10_isLetter wz_X10 wl_X10_40 wst_X10_isLetter zd_X10_isLetter (by decide) (by omega) rfl (Nat.le_of_ble_eq_true rfl) (fun r6 => ?_)
        refine r_if_eq 84 54 dX10_read_51 (by decide) rfl ?_ ?_
        · exact r_sub [1, 2, 3, 4, 5, 6, 0] (lv2 := [(0, .ref (G.1 120)), (1, .int a1), (2, .int s3.1), (3, .int s3.2.1), (4, .int s3.2.2.1), (5, .int s3.2.2.2.1), (6, .int y5)]) rfl (hJ84 s3.1 s3.2.1 s3.2.2.1 s3.2.2.2.1 y5 s3.2.2.2.2)
        · refine r_iload_n 55 dX10_read_54 rfl 4 rfl rfl ?_
          refine r_bipush 57 dX10_read_55 rfl zcb_6 ?_
          refine r_icmp_ge 84 60 dX10_read_57 (by decide) rfl ?_ ?_
          · exact r_sub [1, 2, 3, 4, 5, 6, 0] (lv2 := [(0, .ref (G.1 120)), (1, .int a1), (2, .int s3.1), (3, .int s3.2.1), (4, .int s3.2.2.1), (5, .int s3.2.2.2.1), (6, .int y5)]) rfl (hJ84 s3.1 s3.2.1 s3.2.2.1 s3.2.2.2.1 y5 s3.2.2.2.2)
          · refine r_aload_n 61 dX10_read_60 rfl 1 rfl rfl ?_
            refine r_aload_n 62 dX10_read_61 rfl 1 rfl rfl ?_
            refine r_get 65 120 2 dX10_read_62 rfl zl_120 (ce_120 G _) rfl inz10 (by decide) wf_X10_37 rfl ?_
            refine r_bipush 67 dX10_read_65 rfl zcb_8 ?_
            refine r_lshl 68 dX10_read_67 rfl ?_
            refine r_iload 70 dX10_read_68 rfl 0 rfl ?_
            refine r_i2l 71 dX10_read_70 rfl ?_
            refine r_lor 72 dX10_read_71 rfl ?_
            refine r_putj 75 120 2 dX10_read_72 rfl zl_120 (ce_120 G _) rfl inz10 tyX10_ok nmX10 (by decide) wf_X10_37 rfl rfl (Nat.le_of_ble_eq_true rfl) rfl ?_
            refine r_topw (fun w21 => ?_)
            refine r_iinc 78 4 [(3, .int (s3.2.1 + (1 : Int32))), (6, .int y5), (0, .ref (G.1 120)), (1, .int a1), (2, .int s3.1), (4, .int s3.2.2.1), (5, .int s3.2.2.2.1)] dX10_read_75 rfl rfl zci_1 (by decide) rfl ?_
            refine r_iinc 81 4 [(2, .int (s3.1 + (1 : Int32))), (3, .int (s3.2.1 + (1 : Int32))), (6, .int y5), (0, .ref (G.1 120)), (1, .int a1), (4, .int s3.2.2.1), (5, .int s3.2.2.2.1)] dX10_read_78 rfl rfl zci_1 (by decide) rfl ?_
            refine r_goto 138 dX10_read_81 (by decide) ?_
            refine r_iinc 141 6 [(5, .int (s3.2.2.2.1 + (1 : Int32))), (2, .int (s3.1 + (1 : Int32))), (3, .int (s3.2.1 + (1 : Int32))), (6, .int y5), (0, .ref (G.1 120)), (1, .int a1), (4, .int s3.2.2.1)] dX10_read_138 rfl rfl zci_1 (by decide) rfl ?_
            refine r_goto 20 dX10_read_141 (by decide) ?_
            exact r_leaf [4, 5, 1, 2, 6, 0] (lv2 := [(0, .ref (G.1 120)), (1, .int a1), (2, .int (s3.1 + (1 : Int32))), (3, .int (s3.2.1 + (1 : Int32))), (4, .int s3.2.2.1), (5, .int (s3.2.2.2.1 + (1 : Int32)))]) rfl (fun h => h)
  · exact r_sub [0, 1, 2, 3, 4] (lv2 := [(0, .ref (G.1 120)), (1, .int a1), (2, .int q4.1), (3, .int q4.2.1), (4, .int q4.2.2.1)]) rfl (hJ144 q4.1 q4.2.1 q4.2.2.1 q4.2.2.2)
-- X10_readName
def f_X10_readName (w : ZW) : Option (Int32 × ZW) :=
  (f_X10_read w (0 : Int32)).bind fun r1 : Int32 × ZW =>
  some (r1.1, r1.2)
set_option maxHeartbeats 4000000 in
set_option maxRecDepth 100000 in
theorem c_X10_readName (G : ZG) (l : Launch) (d : Nat) (hd : 3 ≤ d) (w : ZW) : ∀ o, f_X10_readName w = some o → zM G l d yX10_readName cX10_readName 1 (some .int) [.ref (G.1 120)] w (some (.int o.1)) o.2 := by
  intro o ho
  refine zM.of [(0, .ref (G.1 120))] (by decide) (Nat.le_of_ble_eq_true rfl) rfl ?_
  refine (?_ : zR G l d "LoveLocks$Tape" cX10_readName 1 (some .int) (some (.int o.1)) o.2 (fun x => x = o) 0 [(0, .ref (G.1 120))] [] w (f_X10_readName w)) o ho rfl
  rw [f_X10_readName]
  refine r_aload_n 1 dX10_readName_0 rfl 0 rfl rfl ?_
  refine r_iconst 2 dX10_readName_1 rfl zci_0 ?_
  refine r_callViw 5 1 (ko := 120) [.int (0 : Int32)] (st := []) dX10_readName_2 rfl rfl (fun r h => c_X10_read G l (d - 1) (by omega) w (0 : Int32) r h) zl_120 (ce_120 G _) rfl rfl wc_X10_read wz_X10 wl_X10_29 wi_X10_read ws_X10_read zd_X10_read (by decide) (by omega) rfl (Nat.le_of_ble_eq_true rfl) (fun r1 => ?_)
  exact r_iret dX10_readName_5 rfl z_kiw
-- X2_addPerson
def f_X2_addPerson (w : ZW) (a1 : Int64) : Option (Int32 × ZW) :=
  if (w.1 16 0) < (8 : Int32) then
  if z_in (w.1 16 0) 8 then
    z_let (z_upJ w 17 (w.1 16 0).toNatClampNeg a1) fun w1 =>
    z_let (z_upI w1 16 0 ((w1.1 16 0) + (1 : Int32))) fun w2 =>
    some (w1.1 16 0, w2)
  else none
else
  some ((-3 : Int32), w)
set_option maxHeartbeats 4000000 in
set_option maxRecDepth 100000 in
theorem c_X2_addPerson (G : ZG) (l : Launch) (d : Nat) (hd : 1 ≤ d) (w : ZW) (a1 : Int64) : ∀ o, f_X2_addPerson w a1 = some o → zM G l d yX2_addPerson cX2_addPerson 3 (some .int) [.ref (G.1 16), .long a1] w (some (.int o.1)) o.2 := by
  intro o ho
  refine zM.of [(0, .ref (G.1 16)), (1, .long a1)] (by decide) (Nat.le_of_ble_eq_true rfl) rfl ?_
  refine (?_ : zR G l d "LoveLocks$Names" cX2_addPerson 3 (some .int) (some (.int o.1)) o.2 (fun x => x = o) 0 [(0, .ref (G.1 16)), (1, .long a1)] [] w (f_X2_addPerson w a1)) o ho rfl
  rw [f_X2_addPerson]
  refine r_aload_n 1 dX2_addPerson_0 rfl 0 rfl rfl ?_
  refine r_get 4 16 0 dX2_addPerson_1 rfl zl_16 (ce_16 G _) rfl inz2 (by decide) wf_X2_21 rfl ?_
  refine r_bipush 6 dX2_addPerson_4 rfl zcb_8 ?_
  refine r_icmp_lt 12 9 dX2_addPerson_6 (by decide) rfl ?_ ?_
  · refine r_aload_n 13 dX2_addPerson_12 rfl 0 rfl rfl ?_
    refine r_get 16 16 2 dX2_addPerson_13 rfl zl_16 (ce_16 G _) rfl inz2 (by decide) wf_X2_9 rfl ?_
    refine r_aload_n 17 dX2_addPerson_16 rfl 0 rfl rfl ?_
    refine r_get 20 16 0 dX2_addPerson_17 rfl zl_16 (ce_16 G _) rfl inz2 (by decide) wf_X2_21 rfl ?_
    refine r_lload_n 21 dX2_addPerson_20 rfl 1 rfl rfl ?_
    refine r_last 22 17 8 dX2_addPerson_21 rfl zl_17 (ce_17 G) ?_
    refine r_topw (fun w1 => ?_)
    refine r_aload_n 23 dX2_addPerson_22 rfl 0 rfl rfl ?_
    refine r_dup 24 dX2_addPerson_23 rfl rfl ?_
    refine r_get 27 16 0 dX2_addPerson_24 rfl zl_16 (ce_16 G _) rfl inz2 (by decide) wf_X2_21 rfl ?_
    refine r_dup_x1 28 dX2_addPerson_27 rfl rfl rfl ?_
    refine r_iconst 29 dX2_addPerson_28 rfl zci_1 ?_
    refine r_iadd 30 dX2_addPerson_29 rfl ?_
    refine r_puti 33 16 0 dX2_addPerson_30 rfl zl_16 (ce_16 G _) rfl inz2 tyX2_ok nmX2 (by decide) wf_X2_21 rfl rfl (Nat.le_of_ble_eq_true rfl) rfl ?_
    refine r_topw (fun w2 => ?_)
    exact r_iret dX2_addPerson_33 rfl z_kiw
  · refine r_bipush 11 dX2_addPerson_9 rfl zcb_m3 ?_
    exact r_iret dX2_addPerson_11 rfl z_kiw
-- X11_person
def f_X11_person (w : ZW) : Option (Int32 × ZW) :=
  (f_X10_readName w).bind fun r1 : Int32 × ZW =>
  z_let (z_upI r1.2 120 0 (0 : Int32)) fun w2 =>
  if 0 ≤ r1.1 then
  (f_X2_addPerson w2 (w2.2 120 1)).bind fun r3 : Int32 × ZW =>
    some (r3.1, r3.2)
else
  some (r1.1, w2)
set_option maxHeartbeats 4000000 in
set_option maxRecDepth 100000 in
theorem c_X11_person (G : ZG) (l : Launch) (d : Nat) (hd : 4 ≤ d) (w : ZW) : ∀ o, f_X11_person w = some o → zM G l d yX11_person cX11_person 2 (some .int) [.ref (G.1 0)] w (some (.int o.1)) o.2 := by
  intro o ho
  refine zM.of [(0, .ref (G.1 0))] (by decide) (Nat.le_of_ble_eq_true rfl) rfl ?_
  refine (?_ : zR G l d "LoveLocks" cX11_person 2 (some .int) (some (.int o.1)) o.2 (fun x => x = o) 0 [(0, .ref (G.1 0))] [] w (f_X11_person w)) o ho rfl
  rw [f_X11_person]
  refine r_aload_n 1 dX11_person_0 rfl 0 rfl rfl ?_
  refine r_get 4 0 6 dX11_person_1 rfl zl_0 (ce_0 G _) rfl inz11 (by decide) wf_X11_43 rfl ?_
  refine r_callViw 7 0 (ko := 120) [] (st := []) dX11_person_4 rfl rfl (fun r h => c_X10_readName G l (d - 1) (by omega) w r h) zl_120 (ce_120 G _) rfl rfl wc_X10_readName wz_X10 wl_X11_177 wi_X10_readName ws_X10_readName zd_X10_readName (by decide) (by omega) rfl (Nat.le_of_ble_eq_true rfl) (fun r1 => ?_)
  refine r_istore_n 8 [(1, .int r1.1), (0, .ref (G.1 0))] dX11_person_7 rfl rfl (by decide) rfl ?_
  refine r_aload_n 9 dX11_person_8 rfl 1 rfl rfl ?_
  refine r_get 12 0 6 dX11_person_9 rfl zl_0 (ce_0 G _) rfl inz11 (by decide) wf_X11_43 rfl ?_
  refine r_iconst 13 dX11_person_12 rfl zci_0 ?_
  refine r_puti 16 120 0 dX11_person_13 rfl zl_120 (ce_120 G _) rfl inz10 tyX10_ok nmX10 (by decide) wf_X11_180 rfl rfl (Nat.le_of_ble_eq_true rfl) rfl ?_
  refine r_topw (fun w2 => ?_)
  refine r_iload_n 17 dX11_person_16 rfl 0 rfl rfl ?_
  refine r_if_ge 24 20 dX11_person_17 (by decide) rfl ?_ ?_
  · refine r_aload_n 25 dX11_person_24 rfl 1 rfl rfl ?_
    refine r_get 28 0 0 dX11_person_25 rfl zl_0 (ce_0 G _) rfl inz11 (by decide) wf_X11_10 rfl ?_
    refine r_get 31 1 2 dX11_person_28 rfl zl_1 (ce_1 G _) rfl inz9 (by decide) wf_X11_141 rfl ?_
    refine r_aload_n 32 dX11_person_31 rfl 1 rfl rfl ?_
    refine r_get 35 0 6 dX11_person_32 rfl zl_0 (ce_0 G _) rfl inz11 (by decide) wf_X11_43 rfl ?_
    refine r_get 38 120 1 dX11_person_35 rfl zl_120 (ce_120 G _) rfl inz10 (by decide) wf_X11_183 rfl ?_
    refine r_callViw 41 1 (ko := 16) [.long (w2.2 120 1)] (st := []) dX11_person_38 rfl rfl (fun r h => c_X2_addPerson G l (d - 1) (by omega) w2 (w2.2 120 1) r h) zl_16 (ce_16 G _) rfl rfl wc_X2_addPerson wz_X2 wl_X11_187 wi_X2_addPerson ws_X2_addPerson zd_X2_addPerson (by decide) (by omega) rfl (Nat.le_of_ble_eq_true rfl) (fun r3 => ?_)
    exact r_iret dX11_person_41 rfl z_kiw
  · refine r_iload_n 21 dX11_person_20 rfl 0 rfl rfl ?_
    refine r_goto 41 dX11_person_21 (by decide) ?_
    exact r_iret dX11_person_41 rfl z_kiw
-- X10_readPair
def f_X10_readPair (w : ZW) : Option (Int32 × ZW) :=
  (f_X10_read w (1 : Int32)).bind fun r1 : Int32 × ZW =>
  some (r1.1, r1.2)
set_option maxHeartbeats 4000000 in
set_option maxRecDepth 100000 in
theorem c_X10_readPair (G : ZG) (l : Launch) (d : Nat) (hd : 3 ≤ d) (w : ZW) : ∀ o, f_X10_readPair w = some o → zM G l d yX10_readPair cX10_readPair 1 (some .int) [.ref (G.1 120)] w (some (.int o.1)) o.2 := by
  intro o ho
  refine zM.of [(0, .ref (G.1 120))] (by decide) (Nat.le_of_ble_eq_true rfl) rfl ?_
  refine (?_ : zR G l d "LoveLocks$Tape" cX10_readPair 1 (some .int) (some (.int o.1)) o.2 (fun x => x = o) 0 [(0, .ref (G.1 120))] [] w (f_X10_readPair w)) o ho rfl
  rw [f_X10_readPair]
  refine r_aload_n 1 dX10_readPair_0 rfl 0 rfl rfl ?_
  refine r_iconst 2 dX10_readPair_1 rfl zci_1 ?_
  refine r_callViw 5 1 (ko := 120) [.int (1 : Int32)] (st := []) dX10_readPair_2 rfl rfl (fun r h => c_X10_read G l (d - 1) (by omega) w (1 : Int32) r h) zl_120 (ce_120 G _) rfl rfl wc_X10_read wz_X10 wl_X10_29 wi_X10_read ws_X10_read zd_X10_read (by decide) (by omega) rfl (Nat.le_of_ble_eq_true rfl) (fun r1 => ?_)
  exact r_iret dX10_readPair_5 rfl z_kiw
-- X2_putLetters
def f_X2_putLetters (w : ZW) (a1 : Int32) (a2 : Int64) (a4 : Int64) : Option (Int32 × ZW) :=
  (f_J6_bitCount_0f7a4 ((w.1 16 1) &&& (((1 : Int32) <<< (a1 &&& 31)) ^^^ (-1 : Int32)))).bind fun r1 : Int32 =>
  if r1 < (12 : Int32) then
  z_let (z_upI w 16 1 ((w.1 16 1) ||| ((1 : Int32) <<< (a1 &&& 31)))) fun w2 =>
    if z_in a1 14 then
    z_let (z_upJ w2 18 a1.toNatClampNeg a2) fun w3 =>
    if z_in a1 14 then
    z_let (z_upJ w3 19 a1.toNatClampNeg a4) fun w4 =>
    some ((1 : Int32), w4)
  else none
  else none
else
  some ((0 : Int32), w)
set_option maxHeartbeats 4000000 in
set_option maxRecDepth 100000 in
theorem c_X2_putLetters (G : ZG) (l : Launch) (d : Nat) (hd : 2 ≤ d) (w : ZW) (a1 : Int32) (a2 : Int64) (a4 : Int64) : ∀ o, f_X2_putLetters w a1 a2 a4 = some o → zM G l d yX2_putLetters cX2_putLetters 6 (some .boolean) [.ref (G.1 16), .int a1, .long a2, .long a4] w (some (.int o.1)) o.2 := by
  intro o ho
  refine zM.of [(0, .ref (G.1 16)), (1, .int a1), (2, .long a2), (4, .long a4)] (by decide) (Nat.le_of_ble_eq_true rfl) rfl ?_
  refine (?_ : zR G l d "LoveLocks$Names" cX2_putLetters 6 (some .boolean) (some (.int o.1)) o.2 (fun x => x = o) 0 [(0, .ref (G.1 16)), (1, .int a1), (2, .long a2), (4, .long a4)] [] w (f_X2_putLetters w a1 a2 a4)) o ho rfl
  rw [f_X2_putLetters]
  refine r_aload_n 1 dX2_putLetters_0 rfl 0 rfl rfl ?_
  refine r_get 4 16 1 dX2_putLetters_1 rfl zl_16 (ce_16 G _) rfl inz2 (by decide) wf_X2_25 rfl ?_
  refine r_iconst 5 dX2_putLetters_4 rfl zci_1 ?_
  refine r_iload_n 6 dX2_putLetters_5 rfl 1 rfl rfl ?_
  refine r_ishl 7 dX2_putLetters_6 rfl ?_
  refine r_iconst 8 dX2_putLetters_7 rfl zci_m1 ?_
  refine r_ixor 9 dX2_putLetters_8 rfl ?_
  refine r_iand 10 dX2_putLetters_9 rfl ?_
  refine r_callSi 13 1 [.int ((w.1 16 1) &&& (((1 : Int32) <<< (a1 &&& 31)) ^^^ (-1 : Int32)))] (st := []) dX2_putLetters_10 rfl rfl (fun r h => c_J6_bitCount_0f7a4 G l (d - 1) (by omega) w ((w.1 16 1) &&& (((1 : Int32) <<< (a1 &&& 31)) ^^^ (-1 : Int32))) r h) wc_J6_bitCount_0f7a4 wz_J6 wl_X2_34 wst_J6_bitCount_0f7a4 zd_J6_bitCount_0f7a4 (by decide) (by omega) rfl (Nat.le_of_ble_eq_true rfl) (fun r1 => ?_)
  refine r_bipush 15 dX2_putLetters_13 rfl zcb_12 ?_
  refine r_icmp_lt 20 18 dX2_putLetters_15 (by decide) rfl ?_ ?_
  · refine r_aload_n 21 dX2_putLetters_20 rfl 0 rfl rfl ?_
    refine r_dup 22 dX2_putLetters_21 rfl rfl ?_
    refine r_get 25 16 1 dX2_putLetters_22 rfl zl_16 (ce_16 G _) rfl inz2 (by decide) wf_X2_25 rfl ?_
    refine r_iconst 26 dX2_putLetters_25 rfl zci_1 ?_
    refine r_iload_n 27 dX2_putLetters_26 rfl 1 rfl rfl ?_
    refine r_ishl 28 dX2_putLetters_27 rfl ?_
    refine r_ior 29 dX2_putLetters_28 rfl ?_
    refine r_puti 32 16 1 dX2_putLetters_29 rfl zl_16 (ce_16 G _) rfl inz2 tyX2_ok nmX2 (by decide) wf_X2_25 rfl rfl (Nat.le_of_ble_eq_true rfl) rfl ?_
    refine r_topw (fun w2 => ?_)
    refine r_aload_n 33 dX2_putLetters_32 rfl 0 rfl rfl ?_
    refine r_get 36 16 3 dX2_putLetters_33 rfl zl_16 (ce_16 G _) rfl inz2 (by decide) wf_X2_15 rfl ?_
    refine r_iload_n 37 dX2_putLetters_36 rfl 1 rfl rfl ?_
    refine r_lload_n 38 dX2_putLetters_37 rfl 2 rfl rfl ?_
    refine r_last 39 18 14 dX2_putLetters_38 rfl zl_18 (ce_18 G) ?_
    refine r_topw (fun w3 => ?_)
    refine r_aload_n 40 dX2_putLetters_39 rfl 0 rfl rfl ?_
    refine r_get 43 16 4 dX2_putLetters_40 rfl zl_16 (ce_16 G _) rfl inz2 (by decide) wf_X2_18 rfl ?_
    refine r_iload_n 44 dX2_putLetters_43 rfl 1 rfl rfl ?_
    refine r_lload 46 dX2_putLetters_44 rfl 3 rfl ?_
    refine r_last 47 19 14 dX2_putLetters_46 rfl zl_19 (ce_19 G) ?_
    refine r_topw (fun w4 => ?_)
    refine r_iconst 48 dX2_putLetters_47 rfl zci_1 ?_
    exact r_zret dX2_putLetters_48 rfl rfl z_kiw
  · refine r_iconst 19 dX2_putLetters_18 rfl zci_0 ?_
    exact r_zret dX2_putLetters_19 rfl rfl z_kiw
-- X11_letters
def f_X11_letters (w : ZW) (a1 : Int32) : Option (Int32 × ZW) :=
  (f_X4_hasLock w a1).bind fun r1 : Int32 =>
  if r1 = 0 then
  some ((-1 : Int32), w)
else
  (f_X10_readPair w).bind fun r2 : Int32 × ZW =>
    z_let (z_upI r2.2 120 0 (0 : Int32)) fun w3 =>
    if 0 ≤ r2.1 then
    (f_X2_putLetters w3 a1 (w3.2 120 1) (w3.2 120 2)).bind fun r4 : Int32 × ZW =>
      if r4.1 = 0 then
      some ((-3 : Int32), r4.2)
    else
      some (r2.1, r4.2)
  else
    some (r2.1, w3)
set_option maxHeartbeats 4000000 in
set_option maxRecDepth 100000 in
theorem c_X11_letters (G : ZG) (l : Launch) (d : Nat) (hd : 4 ≤ d) (w : ZW) (a1 : Int32) : ∀ o, f_X11_letters w a1 = some o → zM G l d yX11_letters cX11_letters 3 (some .int) [.ref (G.1 0), .int a1] w (some (.int o.1)) o.2 := by
  intro o ho
  refine zM.of [(0, .ref (G.1 0)), (1, .int a1)] (by decide) (Nat.le_of_ble_eq_true rfl) rfl ?_
  refine (?_ : zR G l d "LoveLocks" cX11_letters 3 (some .int) (some (.int o.1)) o.2 (fun x => x = o) 0 [(0, .ref (G.1 0)), (1, .int a1)] [] w (f_X11_letters w a1)) o ho rfl
  rw [f_X11_letters]
  refine r_aload_n 1 dX11_letters_0 rfl 0 rfl rfl ?_
  refine r_get 4 0 0 dX11_letters_1 rfl zl_0 (ce_0 G _) rfl inz11 (by decide) wf_X11_10 rfl ?_
  refine r_get 7 1 0 dX11_letters_4 rfl zl_1 (ce_1 G _) rfl inz9 (by decide) wf_X11_59 rfl ?_
  refine r_iload_n 8 dX11_letters_7 rfl 1 rfl rfl ?_
  refine r_callVi 11 1 (ko := 2) [.int a1] (st := []) dX11_letters_8 rfl rfl (fun r h => c_X4_hasLock G l (d - 1) (by omega) w a1 r h) zl_2 (ce_2 G _) rfl rfl wc_X4_hasLock wz_X4 wl_X11_84 wi_X4_hasLock ws_X4_hasLock zd_X4_hasLock (by decide) (by omega) rfl (Nat.le_of_ble_eq_true rfl) (fun r1 => ?_)
  refine r_if_ne 16 14 dX11_letters_11 (by decide) rfl ?_ ?_
  · refine r_aload_n 17 dX11_letters_16 rfl 0 rfl rfl ?_
    refine r_get 20 0 6 dX11_letters_17 rfl zl_0 (ce_0 G _) rfl inz11 (by decide) wf_X11_43 rfl ?_
    refine r_callViw 23 0 (ko := 120) [] (st := []) dX11_letters_20 rfl rfl (fun r h => c_X10_readPair G l (d - 1) (by omega) w r h) zl_120 (ce_120 G _) rfl rfl wc_X10_readPair wz_X10 wl_X11_191 wi_X10_readPair ws_X10_readPair zd_X10_readPair (by decide) (by omega) rfl (Nat.le_of_ble_eq_true rfl) (fun r2 => ?_)
    refine r_istore_n 24 [(2, .int r2.1), (0, .ref (G.1 0)), (1, .int a1)] dX11_letters_23 rfl rfl (by decide) rfl ?_
    refine r_aload_n 25 dX11_letters_24 rfl 1 rfl rfl ?_
    refine r_get 28 0 6 dX11_letters_25 rfl zl_0 (ce_0 G _) rfl inz11 (by decide) wf_X11_43 rfl ?_
    refine r_iconst 29 dX11_letters_28 rfl zci_0 ?_
    refine r_puti 32 120 0 dX11_letters_29 rfl zl_120 (ce_120 G _) rfl inz10 tyX10_ok nmX10 (by decide) wf_X11_180 rfl rfl (Nat.le_of_ble_eq_true rfl) rfl ?_
    refine r_topw (fun w3 => ?_)
    refine r_iload_n 33 dX11_letters_32 rfl 0 rfl rfl ?_
    refine r_if_ge 38 36 dX11_letters_33 (by decide) rfl ?_ ?_
    · refine r_aload_n 39 dX11_letters_38 rfl 1 rfl rfl ?_
      refine r_get 42 0 0 dX11_letters_39 rfl zl_0 (ce_0 G _) rfl inz11 (by decide) wf_X11_10 rfl ?_
      refine r_get 45 1 2 dX11_letters_42 rfl zl_1 (ce_1 G _) rfl inz9 (by decide) wf_X11_141 rfl ?_
      refine r_iload_n 46 dX11_letters_45 rfl 2 rfl rfl ?_
      refine r_aload_n 47 dX11_letters_46 rfl 1 rfl rfl ?_
      refine r_get 50 0 6 dX11_letters_47 rfl zl_0 (ce_0 G _) rfl inz11 (by decide) wf_X11_43 rfl ?_
      refine r_get 53 120 1 dX11_letters_50 rfl zl_120 (ce_120 G _) rfl inz10 (by decide) wf_X11_183 rfl ?_
      refine r_aload_n 54 dX11_letters_53 rfl 1 rfl rfl ?_
      refine r_get 57 0 6 dX11_letters_54 rfl zl_0 (ce_0 G _) rfl inz11 (by decide) wf_X11_43 rfl ?_
      refine r_get 60 120 2 dX11_letters_57 rfl zl_120 (ce_120 G _) rfl inz10 (by decide) wf_X11_194 rfl ?_
      refine r_callViw 63 3 (ko := 16) [.int a1, .long (w3.2 120 1), .long (w3.2 120 2)] (st := []) dX11_letters_60 rfl rfl (fun r h => c_X2_putLetters G l (d - 1) (by omega) w3 a1 (w3.2 120 1) (w3.2 120 2) r h) zl_16 (ce_16 G _) rfl rfl wc_X2_putLetters wz_X2 wl_X11_197 wi_X2_putLetters ws_X2_putLetters zd_X2_putLetters (by decide) (by omega) rfl (Nat.le_of_ble_eq_true rfl) (fun r4 => ?_)
      refine r_if_eq 70 66 dX11_letters_63 (by decide) rfl ?_ ?_
      · refine r_bipush 72 dX11_letters_70 rfl zcb_m3 ?_
        exact r_iret dX11_letters_72 rfl z_kiw
      · refine r_iload_n 67 dX11_letters_66 rfl 0 rfl rfl ?_
        refine r_goto 72 dX11_letters_67 (by decide) ?_
        exact r_iret dX11_letters_72 rfl z_kiw
    · refine r_iload_n 37 dX11_letters_36 rfl 0 rfl rfl ?_
      exact r_iret dX11_letters_37 rfl z_kiw
  · refine r_iconst 15 dX11_letters_14 rfl zci_m1 ?_
    exact r_iret dX11_letters_15 rfl z_kiw
-- X2_hasLetters
def f_X2_hasLetters (w : ZW) (a1 : Int32) : Option (Int32) :=
  if (((w.1 16 1) >>> (a1 &&& 31)) &&& (1 : Int32)) = 0 then
  some (0 : Int32)
else
  some (1 : Int32)
set_option maxHeartbeats 4000000 in
set_option maxRecDepth 100000 in
theorem c_X2_hasLetters (G : ZG) (l : Launch) (d : Nat) (hd : 1 ≤ d) (w : ZW) (a1 : Int32) : ∀ o, f_X2_hasLetters w a1 = some o → zM G l d yX2_hasLetters cX2_hasLetters 2 (some .boolean) [.ref (G.1 16), .int a1] w (some (.int o)) w := by
  intro o ho
  refine zM.of [(0, .ref (G.1 16)), (1, .int a1)] (by decide) (Nat.le_of_ble_eq_true rfl) rfl ?_
  refine (?_ : zR G l d "LoveLocks$Names" cX2_hasLetters 2 (some .boolean) (some (.int o)) w (fun x => x = o) 0 [(0, .ref (G.1 16)), (1, .int a1)] [] w (f_X2_hasLetters w a1)) o ho rfl
  rw [f_X2_hasLetters]
  refine r_aload_n 1 dX2_hasLetters_0 rfl 0 rfl rfl ?_
  refine r_get 4 16 1 dX2_hasLetters_1 rfl zl_16 (ce_16 G _) rfl inz2 (by decide) wf_X2_25 rfl ?_
  refine r_iload_n 5 dX2_hasLetters_4 rfl 1 rfl rfl ?_
  refine r_ishr 6 dX2_hasLetters_5 rfl ?_
  refine r_iconst 7 dX2_hasLetters_6 rfl zci_1 ?_
  refine r_iand 8 dX2_hasLetters_7 rfl ?_
  refine r_if_eq 15 11 dX2_hasLetters_8 (by decide) rfl ?_ ?_
  · refine r_iconst 16 dX2_hasLetters_15 rfl zci_0 ?_
    exact r_zret dX2_hasLetters_16 rfl rfl z_ki
  · refine r_iconst 12 dX2_hasLetters_11 rfl zci_1 ?_
    refine r_goto 16 dX2_hasLetters_12 (by decide) ?_
    exact r_zret dX2_hasLetters_16 rfl rfl z_ki
-- X2_agree
def f_X2_agree_L3 (a0 : Int64) (a2 : Int64) (s1 : Int32) : Option ((Int32) ⊕ ((Int32) ⊕ (Unit))) :=
  if (48 : Int32) ≤ s1 then
  some (.inr (.inr ()))
else
  z_let ((a0 >>> (s1.toInt64 &&& 63)) &&& (255 : Int64)) fun y3 =>
    z_let ((a2 >>> (s1.toInt64 &&& 63)) &&& (255 : Int64)) fun y4 =>
    if (lg_cmp y3 y4) = 0 then
    some (.inl (s1 + (8 : Int32)))
  else
    if (lg_cmp y3 (63 : Int64)) = 0 then
      if (lg_cmp y4 (0 : Int64)) = 0 then
        some (.inr (.inl (0 : Int32)))
      else
        some (.inl (s1 + (8 : Int32)))
    else
      some (.inr (.inl (0 : Int32)))
def f_X2_agree (a0 : Int64) (a2 : Int64) : Option (Int32) :=
  (z_iter (f_X2_agree_L3 a0 a2) z_fuel (0 : Int32)).bind (Sum.elim (fun x : Int32 => some x) (fun q2 : Unit =>
  some (1 : Int32)))
set_option maxHeartbeats 4000000 in
set_option maxRecDepth 100000 in
theorem c_X2_agree (G : ZG) (l : Launch) (d : Nat) (hd : 1 ≤ d) (w0 : ZW) (a0 : Int64) (a2 : Int64) : ∀ o, f_X2_agree a0 a2 = some o → zM G l d yX2_agree cX2_agree 9 (some .boolean) [.long a0, .long a2] w0 (some (.int o)) w0 := by
  intro o ho
  refine zM.of [(0, .long a0), (2, .long a2)] (by decide) (Nat.le_of_ble_eq_true rfl) rfl ?_
  refine (?_ : zR G l d "LoveLocks$Names" cX2_agree 9 (some .boolean) (some (.int o)) w0 (fun x => x = o) 0 [(0, .long a0), (2, .long a2)] [] w0 (f_X2_agree a0 a2)) o ho rfl
  rw [f_X2_agree]
  refine r_iconst 1 dX2_agree_0 rfl zci_0 ?_
  refine r_istore 3 [(4, .int (0 : Int32)), (0, .long a0), (2, .long a2)] dX2_agree_1 rfl (by decide) rfl ?_
  refine r_loopR [1, 2, 0] (fun s1 => [(0, .long a0), (2, .long a2), (4, .int s1)]) (fun s1 => w0) (fun x => x = o) 62 (fun q2 => []) (fun q2 => w0) rfl rfl (fun s1 => ?_) (fun x y h1 h2 => by cases h1; exact h2) (fun q2 => ?_)
  · rw [f_X2_agree_L3]
    refine r_iload 5 dX2_agree_3 rfl 2 rfl ?_
    refine r_bipush 7 dX2_agree_5 rfl zcb_48 ?_
    refine r_icmp_ge 62 10 dX2_agree_7 (by decide) rfl ?_ ?_
    · exact r_leaf [] (lv2 := []) rfl (fun h => h)
    · refine r_lload_n 11 dX2_agree_10 rfl 0 rfl rfl ?_
      refine r_iload 13 dX2_agree_11 rfl 2 rfl ?_
      refine r_lshr 14 dX2_agree_13 rfl ?_
      refine r_ldc2 17 dX2_agree_14 rfl wk_X2_40 ?_
      refine r_land 18 dX2_agree_17 rfl ?_
      refine r_topl (fun y3 => ?_)
      refine r_lstore 20 [(5, .long y3), (0, .long a0), (2, .long a2), (4, .int s1)] dX2_agree_18 rfl (by decide) rfl ?_
      refine r_lload_n 21 dX2_agree_20 rfl 2 rfl rfl ?_
      refine r_iload 23 dX2_agree_21 rfl 3 rfl ?_
      refine r_lshr 24 dX2_agree_23 rfl ?_
      refine r_ldc2 27 dX2_agree_24 rfl wk_X2_40 ?_
      refine r_land 28 dX2_agree_27 rfl ?_
      refine r_topl (fun y4 => ?_)
      refine r_lstore 30 [(7, .long y4), (5, .long y3), (0, .long a0), (2, .long a2), (4, .int s1)] dX2_agree_28 rfl (by decide) rfl ?_
      refine r_lload 32 dX2_agree_30 rfl 1 rfl ?_
      refine r_lload 34 dX2_agree_32 rfl 0 rfl ?_
      refine r_lcmp 35 dX2_agree_34 rfl ?_
      refine r_if_eq 56 38 dX2_agree_35 (by decide) rfl ?_ ?_
      · refine r_iinc 59 4 [(4, .int (s1 + (8 : Int32))), (7, .long y4), (5, .long y3), (0, .long a0), (2, .long a2)] dX2_agree_56 rfl rfl zci_8 (by decide) rfl ?_
        refine r_goto 3 dX2_agree_59 (by decide) ?_
        exact r_leaf [3, 4, 0] (lv2 := [(0, .long a0), (2, .long a2), (4, .int (s1 + (8 : Int32)))]) rfl (fun h => h)
      · refine r_lload 40 dX2_agree_38 rfl 1 rfl ?_
        refine r_ldc2 43 dX2_agree_40 rfl wk_X2_42 ?_
        refine r_lcmp 44 dX2_agree_43 rfl ?_
        refine r_if_ne 54 47 dX2_agree_44 (by decide) rfl ?_ ?_
        · refine r_iconst 55 dX2_agree_54 rfl zci_0 ?_
          exact r_zret dX2_agree_55 rfl rfl z_ki
        · refine r_lload 49 dX2_agree_47 rfl 0 rfl ?_
          refine r_lconst 50 dX2_agree_49 rfl zcl_0 ?_
          refine r_lcmp 51 dX2_agree_50 rfl ?_
          refine r_if_ne 56 54 dX2_agree_51 (by decide) rfl ?_ ?_
          · refine r_iinc 59 4 [(4, .int (s1 + (8 : Int32))), (7, .long y4), (5, .long y3), (0, .long a0), (2, .long a2)] dX2_agree_56 rfl rfl zci_8 (by decide) rfl ?_
            refine r_goto 3 dX2_agree_59 (by decide) ?_
            exact r_leaf [3, 4, 0] (lv2 := [(0, .long a0), (2, .long a2), (4, .int (s1 + (8 : Int32)))]) rfl (fun h => h)
          · refine r_iconst 55 dX2_agree_54 rfl zci_0 ?_
            exact r_zret dX2_agree_55 rfl rfl z_ki
  · refine r_iconst 63 dX2_agree_62 rfl zci_1 ?_
    exact r_zret dX2_agree_63 rfl rfl z_ki
-- X2_allWhoAgree
def f_X2_allWhoAgree_L5 (w : ZW) (a1 : Int64) (s1 : Int32 × Int32) : Option ((Int32 × Int32) ⊕ (Int32)) :=
  if (w.1 16 0) ≤ s1.2 then
  some (.inr s1.1)
else
  if z_in s1.2 8 then
    (f_X2_agree a1 (w.2 17 s1.2.toNatClampNeg)).bind fun r3 : Int32 =>
    if r3 = 0 then
    some (.inl (s1.1, s1.2 + (1 : Int32)))
  else
    z_let (s1.1 ||| ((1 : Int32) <<< (s1.2 &&& 31))) fun y4 =>
      some (.inl (y4, s1.2 + (1 : Int32)))
  else none
def f_X2_allWhoAgree (w : ZW) (a1 : Int64) : Option (Int32) :=
  (z_iter (f_X2_allWhoAgree_L5 w a1) z_fuel ((0 : Int32), (0 : Int32))).bind (fun q2 : Int32 =>
  some q2)
set_option maxHeartbeats 4000000 in
set_option maxRecDepth 100000 in
theorem c_X2_allWhoAgree (G : ZG) (l : Launch) (d : Nat) (hd : 2 ≤ d) (w : ZW) (a1 : Int64) : ∀ o, f_X2_allWhoAgree w a1 = some o → zM G l d yX2_allWhoAgree cX2_allWhoAgree 5 (some .int) [.ref (G.1 16), .long a1] w (some (.int o)) w := by
  intro o ho
  refine zM.of [(0, .ref (G.1 16)), (1, .long a1)] (by decide) (Nat.le_of_ble_eq_true rfl) rfl ?_
  refine (?_ : zR G l d "LoveLocks$Names" cX2_allWhoAgree 5 (some .int) (some (.int o)) w (fun x => x = o) 0 [(0, .ref (G.1 16)), (1, .long a1)] [] w (f_X2_allWhoAgree w a1)) o ho rfl
  rw [f_X2_allWhoAgree]
  refine r_iconst 1 dX2_allWhoAgree_0 rfl zci_0 ?_
  refine r_istore_n 2 [(3, .int (0 : Int32)), (0, .ref (G.1 16)), (1, .long a1)] dX2_allWhoAgree_1 rfl rfl (by decide) rfl ?_
  refine r_iconst 3 dX2_allWhoAgree_2 rfl zci_0 ?_
  refine r_istore 5 [(4, .int (0 : Int32)), (3, .int (0 : Int32)), (0, .ref (G.1 16)), (1, .long a1)] dX2_allWhoAgree_3 rfl (by decide) rfl ?_
  refine r_loopE [2, 3, 1, 0] (fun s1 => [(0, .ref (G.1 16)), (1, .long a1), (3, .int s1.1), (4, .int s1.2)]) (fun s1 => w) 41 (fun q2 => [(3, .int q2)]) (fun q2 => w) rfl rfl (fun s1 => ?_) (fun q2 => ?_)
  · rw [f_X2_allWhoAgree_L5]
    refine r_iload 7 dX2_allWhoAgree_5 rfl 3 rfl ?_
    refine r_aload_n 8 dX2_allWhoAgree_7 rfl 0 rfl rfl ?_
    refine r_get 11 16 0 dX2_allWhoAgree_8 rfl zl_16 (ce_16 G _) rfl inz2 (by decide) wf_X2_21 rfl ?_
    refine r_icmp_ge 41 14 dX2_allWhoAgree_11 (by decide) rfl ?_ ?_
    · exact r_leaf [2] (lv2 := [(3, .int s1.1)]) rfl (fun h => h)
    · refine r_lload_n 15 dX2_allWhoAgree_14 rfl 1 rfl rfl ?_
      refine r_aload_n 16 dX2_allWhoAgree_15 rfl 0 rfl rfl ?_
      refine r_get 19 16 2 dX2_allWhoAgree_16 rfl zl_16 (ce_16 G _) rfl inz2 (by decide) wf_X2_9 rfl ?_
      refine r_iload 21 dX2_allWhoAgree_19 rfl 3 rfl ?_
      refine r_lald 22 17 8 dX2_allWhoAgree_21 rfl zl_17 (ce_17 G _) ?_
      refine r_callSi 25 2 [.long a1, .long (w.2 17 s1.2.toNatClampNeg)] (st := []) dX2_allWhoAgree_22 rfl rfl (fun r h => c_X2_agree G l (d - 1) (by omega) w a1 (w.2 17 s1.2.toNatClampNeg) r h) wc_X2_agree wz_X2 wl_X2_44 wst_X2_agree zd_X2_agree (by decide) (by omega) rfl (Nat.le_of_ble_eq_true rfl) (fun r3 => ?_)
      refine r_if_eq 35 28 dX2_allWhoAgree_25 (by decide) rfl ?_ ?_
      · refine r_iinc 38 3 [(4, .int (s1.2 + (1 : Int32))), (0, .ref (G.1 16)), (1, .long a1), (3, .int s1.1)] dX2_allWhoAgree_35 rfl rfl zci_1 (by decide) rfl ?_
        refine r_goto 5 dX2_allWhoAgree_38 (by decide) ?_
        exact r_leaf [1, 2, 3, 0] (lv2 := [(0, .ref (G.1 16)), (1, .long a1), (3, .int s1.1), (4, .int (s1.2 + (1 : Int32)))]) rfl (fun h => h)
      · refine r_iload_n 29 dX2_allWhoAgree_28 rfl 2 rfl rfl ?_
        refine r_iconst 30 dX2_allWhoAgree_29 rfl zci_1 ?_
        refine r_iload 32 dX2_allWhoAgree_30 rfl 3 rfl ?_
        refine r_ishl 33 dX2_allWhoAgree_32 rfl ?_
        refine r_ior 34 dX2_allWhoAgree_33 rfl ?_
        refine r_topi (fun y4 => ?_)
        refine r_istore_n 35 [(3, .int y4), (0, .ref (G.1 16)), (1, .long a1), (4, .int s1.2)] dX2_allWhoAgree_34 rfl rfl (by decide) rfl ?_
        refine r_iinc 38 3 [(4, .int (s1.2 + (1 : Int32))), (3, .int y4), (0, .ref (G.1 16)), (1, .long a1)] dX2_allWhoAgree_35 rfl rfl zci_1 (by decide) rfl ?_
        refine r_goto 5 dX2_allWhoAgree_38 (by decide) ?_
        exact r_leaf [2, 3, 1, 0] (lv2 := [(0, .ref (G.1 16)), (1, .long a1), (3, .int y4), (4, .int (s1.2 + (1 : Int32)))]) rfl (fun h => h)
  · refine r_iload_n 42 dX2_allWhoAgree_41 rfl 0 rfl rfl ?_
    exact r_iret dX2_allWhoAgree_42 rfl z_ki
-- X2_peopleOfFirst
def f_X2_peopleOfFirst (w : ZW) (a1 : Int32) : Option (Int32) :=
  if z_in a1 14 then
  (f_X2_allWhoAgree w (w.2 18 a1.toNatClampNeg)).bind fun r1 : Int32 =>
  some r1
else none
set_option maxHeartbeats 4000000 in
set_option maxRecDepth 100000 in
theorem c_X2_peopleOfFirst (G : ZG) (l : Launch) (d : Nat) (hd : 3 ≤ d) (w : ZW) (a1 : Int32) : ∀ o, f_X2_peopleOfFirst w a1 = some o → zM G l d yX2_peopleOfFirst cX2_peopleOfFirst 2 (some .int) [.ref (G.1 16), .int a1] w (some (.int o)) w := by
  intro o ho
  refine zM.of [(0, .ref (G.1 16)), (1, .int a1)] (by decide) (Nat.le_of_ble_eq_true rfl) rfl ?_
  refine (?_ : zR G l d "LoveLocks$Names" cX2_peopleOfFirst 2 (some .int) (some (.int o)) w (fun x => x = o) 0 [(0, .ref (G.1 16)), (1, .int a1)] [] w (f_X2_peopleOfFirst w a1)) o ho rfl
  rw [f_X2_peopleOfFirst]
  refine r_aload_n 1 dX2_peopleOfFirst_0 rfl 0 rfl rfl ?_
  refine r_aload_n 2 dX2_peopleOfFirst_1 rfl 0 rfl rfl ?_
  refine r_get 5 16 3 dX2_peopleOfFirst_2 rfl zl_16 (ce_16 G _) rfl inz2 (by decide) wf_X2_15 rfl ?_
  refine r_iload_n 6 dX2_peopleOfFirst_5 rfl 1 rfl rfl ?_
  refine r_lald 7 18 14 dX2_peopleOfFirst_6 rfl zl_18 (ce_18 G _) ?_
  refine r_callVi 10 1 (ko := 16) [.long (w.2 18 a1.toNatClampNeg)] (st := []) dX2_peopleOfFirst_7 rfl rfl (fun r h => c_X2_allWhoAgree G l (d - 1) (by omega) w (w.2 18 a1.toNatClampNeg) r h) zl_16 (ce_16 G _) rfl rfl wc_X2_allWhoAgree wz_X2 wl_X2_48 wi_X2_allWhoAgree ws_X2_allWhoAgree zd_X2_allWhoAgree (by decide) (by omega) rfl (Nat.le_of_ble_eq_true rfl) (fun r1 => ?_)
  exact r_iret dX2_peopleOfFirst_10 rfl z_ki
-- X2_peopleOfSecond
def f_X2_peopleOfSecond (w : ZW) (a1 : Int32) : Option (Int32) :=
  if z_in a1 14 then
  (f_X2_allWhoAgree w (w.2 19 a1.toNatClampNeg)).bind fun r1 : Int32 =>
  some r1
else none
set_option maxHeartbeats 4000000 in
set_option maxRecDepth 100000 in
theorem c_X2_peopleOfSecond (G : ZG) (l : Launch) (d : Nat) (hd : 3 ≤ d) (w : ZW) (a1 : Int32) : ∀ o, f_X2_peopleOfSecond w a1 = some o → zM G l d yX2_peopleOfSecond cX2_peopleOfSecond 2 (some .int) [.ref (G.1 16), .int a1] w (some (.int o)) w := by
  intro o ho
  refine zM.of [(0, .ref (G.1 16)), (1, .int a1)] (by decide) (Nat.le_of_ble_eq_true rfl) rfl ?_
  refine (?_ : zR G l d "LoveLocks$Names" cX2_peopleOfSecond 2 (some .int) (some (.int o)) w (fun x => x = o) 0 [(0, .ref (G.1 16)), (1, .int a1)] [] w (f_X2_peopleOfSecond w a1)) o ho rfl
  rw [f_X2_peopleOfSecond]
  refine r_aload_n 1 dX2_peopleOfSecond_0 rfl 0 rfl rfl ?_
  refine r_aload_n 2 dX2_peopleOfSecond_1 rfl 0 rfl rfl ?_
  refine r_get 5 16 4 dX2_peopleOfSecond_2 rfl zl_16 (ce_16 G _) rfl inz2 (by decide) wf_X2_18 rfl ?_
  refine r_iload_n 6 dX2_peopleOfSecond_5 rfl 1 rfl rfl ?_
  refine r_lald 7 19 14 dX2_peopleOfSecond_6 rfl zl_19 (ce_19 G _) ?_
  refine r_callVi 10 1 (ko := 16) [.long (w.2 19 a1.toNatClampNeg)] (st := []) dX2_peopleOfSecond_7 rfl rfl (fun r h => c_X2_allWhoAgree G l (d - 1) (by omega) w (w.2 19 a1.toNatClampNeg) r h) zl_16 (ce_16 G _) rfl rfl wc_X2_allWhoAgree wz_X2 wl_X2_48 wi_X2_allWhoAgree ws_X2_allWhoAgree zd_X2_allWhoAgree (by decide) (by omega) rfl (Nat.le_of_ble_eq_true rfl) (fun r1 => ?_)
  exact r_iret dX2_peopleOfSecond_10 rfl z_ki
-- X2_canBe
def f_X2_canBe (a0 : Int32) (a1 : Int32) (a2 : Int32) (a3 : Int32) : Option (Int32) :=
  if (((a0 >>> (a2 &&& 31)) &&& (a1 >>> (a3 &&& 31))) &&& (1 : Int32)) = 0 then
  if (((a0 >>> (a3 &&& 31)) &&& (a1 >>> (a2 &&& 31))) &&& (1 : Int32)) = 0 then
    some (0 : Int32)
  else
    some (1 : Int32)
else
  some (1 : Int32)
set_option maxHeartbeats 4000000 in
set_option maxRecDepth 100000 in
theorem c_X2_canBe (G : ZG) (l : Launch) (d : Nat) (hd : 1 ≤ d) (w0 : ZW) (a0 : Int32) (a1 : Int32) (a2 : Int32) (a3 : Int32) : ∀ o, f_X2_canBe a0 a1 a2 a3 = some o → zM G l d yX2_canBe cX2_canBe 4 (some .boolean) [.int a0, .int a1, .int a2, .int a3] w0 (some (.int o)) w0 := by
  intro o ho
  refine zM.of [(0, .int a0), (1, .int a1), (2, .int a2), (3, .int a3)] (by decide) (Nat.le_of_ble_eq_true rfl) rfl ?_
  refine (?_ : zR G l d "LoveLocks$Names" cX2_canBe 4 (some .boolean) (some (.int o)) w0 (fun x => x = o) 0 [(0, .int a0), (1, .int a1), (2, .int a2), (3, .int a3)] [] w0 (f_X2_canBe a0 a1 a2 a3)) o ho rfl
  rw [f_X2_canBe]
  refine r_iload_n 1 dX2_canBe_0 rfl 0 rfl rfl ?_
  refine r_iload_n 2 dX2_canBe_1 rfl 2 rfl rfl ?_
  refine r_ishr 3 dX2_canBe_2 rfl ?_
  refine r_iload_n 4 dX2_canBe_3 rfl 1 rfl rfl ?_
  refine r_iload_n 5 dX2_canBe_4 rfl 3 rfl rfl ?_
  refine r_ishr 6 dX2_canBe_5 rfl ?_
  refine r_iand 7 dX2_canBe_6 rfl ?_
  refine r_iconst 8 dX2_canBe_7 rfl zci_1 ?_
  refine r_iand 9 dX2_canBe_8 rfl ?_
  refine r_if_ne 24 12 dX2_canBe_9 (by decide) rfl ?_ ?_
  · refine r_iconst 25 dX2_canBe_24 rfl zci_1 ?_
    refine r_goto 29 dX2_canBe_25 (by decide) ?_
    exact r_zret dX2_canBe_29 rfl rfl z_ki
  · refine r_iload_n 13 dX2_canBe_12 rfl 0 rfl rfl ?_
    refine r_iload_n 14 dX2_canBe_13 rfl 3 rfl rfl ?_
    refine r_ishr 15 dX2_canBe_14 rfl ?_
    refine r_iload_n 16 dX2_canBe_15 rfl 1 rfl rfl ?_
    refine r_iload_n 17 dX2_canBe_16 rfl 2 rfl rfl ?_
    refine r_ishr 18 dX2_canBe_17 rfl ?_
    refine r_iand 19 dX2_canBe_18 rfl ?_
    refine r_iconst 20 dX2_canBe_19 rfl zci_1 ?_
    refine r_iand 21 dX2_canBe_20 rfl ?_
    refine r_if_eq 28 24 dX2_canBe_21 (by decide) rfl ?_ ?_
    · refine r_iconst 29 dX2_canBe_28 rfl zci_0 ?_
      exact r_zret dX2_canBe_29 rfl rfl z_ki
    · refine r_iconst 25 dX2_canBe_24 rfl zci_1 ?_
      refine r_goto 29 dX2_canBe_25 (by decide) ?_
      exact r_zret dX2_canBe_29 rfl rfl z_ki
