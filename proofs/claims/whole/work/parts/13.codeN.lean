-- X12_uses
def f_X12_uses_L3 (s1 : Int32 × ZW) : Option ((Int32 × ZW) ⊕ (ZW)) :=
  if (256 : Int32) ≤ s1.1 then
  some (.inr s1.2)
else
  if z_in s1.1 256 then
    z_let (z_upJ s1.2 148 s1.1.toNatClampNeg (0 : Int64)) fun w3 =>
    some (.inl (s1.1 + (1 : Int32), w3))
  else none
def f_X12_uses_L136 (k23 : Int32) (y25 : Int32) (s26 : Int32 × ZW) : Option ((Int32 × ZW) ⊕ (ZW)) :=
  if (256 : Int32) ≤ s26.1 then
  some (.inr s26.2)
else
  if k23 = 0 then
    some (.inr s26.2)
  else
    if z_in (s26.1 ||| y25) 256 then
      if (s26.1 &&& y25) = 0 then
      if z_in s26.1 256 then
        if z_in (s26.1 ||| y25) 256 then
        z_let (z_upJ s26.2 148 (s26.1 ||| y25).toNatClampNeg ((s26.2.2 148 (s26.1 ||| y25).toNatClampNeg) + (s26.2.2 147 s26.1.toNatClampNeg))) fun w29 =>
        some (.inl (s26.1 + (1 : Int32), w29))
      else none
      else none
    else
      if z_in (s26.1 ||| y25) 256 then
        z_let (z_upJ s26.2 148 (s26.1 ||| y25).toNatClampNeg ((s26.2.2 148 (s26.1 ||| y25).toNatClampNeg) + (0 : Int64))) fun w28 =>
        some (.inl (s26.1 + (1 : Int32), w28))
      else none
    else none
def f_X12_uses_J120 (x4_20 : Int32) (x5_21 : Int32) (x6_22 : Int32) (k23 : Int32) (w24 : ZW) : Option ((Int32 × ZW) ⊕ (ZW)) :=
  z_let (((1 : Int32) <<< (x5_21 &&& 31)) ||| ((1 : Int32) <<< (x6_22 &&& 31))) fun y25 =>
  (z_iter (f_X12_uses_L136 k23 y25) z_fuel ((0 : Int32), w24)).bind (fun q27 : ZW =>
  some (.inl (x4_20 + (1 : Int32), q27)))
def f_X12_uses_J119 (x4_16 : Int32) (x5_17 : Int32) (x6_18 : Int32) (w19 : ZW) : Option ((Int32 × ZW) ⊕ (ZW)) :=
  f_X12_uses_J120 x4_16 x5_17 x6_18 (0 : Int32) w19
def f_X12_uses_J103 (a1 : Int32) (x4_30 : Int32) (x5_31 : Int32) (x6_32 : Int32) (w33 : ZW) : Option ((Int32 × ZW) ⊕ (ZW)) :=
  (f_X12_isRead w33 a1 x5_31 x6_32).bind fun r34 : Int32 =>
  if r34 = 0 then
  f_X12_uses_J119 x4_30 x5_31 x6_32 w33
else
  f_X12_uses_J120 x4_30 x5_31 x6_32 (1 : Int32) w33
def f_X12_uses_J100 (a1 : Int32) (x4_35 : Int32) (x5_36 : Int32) (x6_37 : Int32) (k38 : Int32) (k39 : Int32) (w40 : ZW) : Option ((Int32 × ZW) ⊕ (ZW)) :=
  if k39 = k38 then
  f_X12_uses_J103 a1 x4_35 x5_36 x6_37 w40
else
  f_X12_uses_J119 x4_35 x5_36 x6_37 w40
def f_X12_uses_J66 (a2 : Int32) (a1 : Int32) (a3 : Int32) (x4_11 : Int32) (x5_12 : Int32) (x6_13 : Int32) (k14 : Int32) (w15 : ZW) : Option ((Int32 × ZW) ⊕ (ZW)) :=
  if x6_13 ≤ x5_12 then
  f_X12_uses_J119 x4_11 x5_12 x6_13 w15
else
  if (w15.1 130 16) ≤ x6_13 then
    f_X12_uses_J119 x4_11 x5_12 x6_13 w15
  else
    if a2 < 0 then
      f_X12_uses_J103 a1 x4_11 x5_12 x6_13 w15
    else
      if a3 = (1 : Int32) then
        f_X12_uses_J100 a1 x4_11 x5_12 x6_13 (1 : Int32) k14 w15
      else
        f_X12_uses_J100 a1 x4_11 x5_12 x6_13 (0 : Int32) k14 w15
def f_X12_uses_J61 (a2 : Int32) (a1 : Int32) (a3 : Int32) (x4_7 : Int32) (x5_8 : Int32) (x6_9 : Int32) (w10 : ZW) : Option ((Int32 × ZW) ⊕ (ZW)) :=
  f_X12_uses_J66 a2 a1 a3 x4_7 x5_8 x6_9 (1 : Int32) w10
def f_X12_uses_L28 (a2 : Int32) (a1 : Int32) (a3 : Int32) (s4 : Int32 × ZW) : Option ((Int32 × ZW) ⊕ (ZW)) :=
  if (64 : Int32) ≤ s4.1 then
  some (.inr s4.2)
else
  z_let (s4.1 - s4.1 / (8 : Int32) * (8 : Int32)) fun y6 =>
    if (s4.1 / (8 : Int32)) = a2 then
    f_X12_uses_J61 a2 a1 a3 s4.1 (s4.1 / (8 : Int32)) y6 s4.2
  else
    if y6 = a2 then
      f_X12_uses_J61 a2 a1 a3 s4.1 (s4.1 / (8 : Int32)) y6 s4.2
    else
      f_X12_uses_J66 a2 a1 a3 s4.1 (s4.1 / (8 : Int32)) y6 (0 : Int32) s4.2
def f_X12_uses_L196 (s41 : Int32 × ZW) : Option ((Int32 × ZW) ⊕ (ZW)) :=
  if (256 : Int32) ≤ s41.1 then
  some (.inr s41.2)
else
  if z_in s41.1 256 then
    if z_in s41.1 256 then
    z_let (z_upJ s41.2 147 s41.1.toNatClampNeg (s41.2.2 148 s41.1.toNatClampNeg)) fun w43 =>
    some (.inl (s41.1 + (1 : Int32), w43))
  else none
  else none
def f_X12_uses (w : ZW) (a1 : Int32) (a2 : Int32) (a3 : Int32) : Option (ZW) :=
  (z_iter (f_X12_uses_L3) z_fuel ((0 : Int32), w)).bind (fun q2 : ZW =>
  (z_iter (f_X12_uses_L28 a2 a1 a3) z_fuel ((0 : Int32), q2)).bind (fun q5 : ZW =>
  (z_iter (f_X12_uses_L196) z_fuel ((0 : Int32), q5)).bind (fun q42 : ZW =>
  some q42)))
set_option maxHeartbeats 4000000 in
set_option maxRecDepth 100000 in
theorem c_X12_uses (G : ZG) (l : Launch) (d : Nat) (hd : 3 ≤ d) (w : ZW) (a1 : Int32) (a2 : Int32) (a3 : Int32) : ∀ o, f_X12_uses w a1 a2 a3 = some o → zM G l d yX12_uses cX12_uses 11 none [.ref (G.1 130), .int a1, .int a2, .int a3] w none o := by
  intro o ho
  refine zM.of [(0, .ref (G.1 130)), (1, .int a1), (2, .int a2), (3, .int a3)] (by decide) (Nat.le_of_ble_eq_true rfl) rfl ?_
  refine (?_ : zR G l d "LoveLocksModel" cX12_uses 11 none none o (fun x => x = o) 0 [(0, .ref (G.1 130)), (1, .int a1), (2, .int a2), (3, .int a3)] [] w (f_X12_uses w a1 a2 a3)) o ho rfl
  rw [f_X12_uses]
  refine r_iconst 1 dX12_uses_0 rfl zci_0 ?_
  refine r_istore 3 [(4, .int (0 : Int32)), (0, .ref (G.1 130)), (1, .int a1), (2, .int a2), (3, .int a3)] dX12_uses_1 rfl (by decide) rfl ?_
  refine r_loopE [1, 2, 3, 4, 0] (fun s1 => [(0, .ref (G.1 130)), (1, .int a1), (2, .int a2), (3, .int a3), (4, .int s1.1)]) (fun s1 => s1.2) 25 (fun q2 => [(0, .ref (G.1 130)), (1, .int a1), (2, .int a2), (3, .int a3)]) (fun q2 => q2) rfl rfl (fun s1 => ?_) (fun q2 => ?_)
  · rw [f_X12_uses_L3]
    refine r_iload 5 dX12_uses_3 rfl 4 rfl ?_
    refine r_sipush 8 dX12_uses_5 rfl zcs_256 ?_
    refine r_icmp_ge 25 11 dX12_uses_8 (by decide) rfl ?_ ?_
    · exact r_leaf [0, 1, 2, 3] (lv2 := [(0, .ref (G.1 130)), (1, .int a1), (2, .int a2), (3, .int a3)]) rfl (fun h => h)
    · refine r_aload_n 12 dX12_uses_11 rfl 0 rfl rfl ?_
      refine r_get 15 130 24 dX12_uses_12 rfl zl_130 (ce_130 G _) rfl inz12 (by decide) wf_X12_62 rfl ?_
      refine r_iload 17 dX12_uses_15 rfl 4 rfl ?_
      refine r_lconst 18 dX12_uses_17 rfl zcl_0 ?_
      refine r_last 19 148 256 dX12_uses_18 rfl zl_148 (ce_148 G) ?_
      refine r_topw (fun w3 => ?_)
      refine r_iinc 22 4 [(4, .int (s1.1 + (1 : Int32))), (0, .ref (G.1 130)), (1, .int a1), (2, .int a2), (3, .int a3)] dX12_uses_19 rfl rfl zci_1 (by decide) rfl ?_
      refine r_goto 3 dX12_uses_22 (by decide) ?_
      exact r_leaf [1, 2, 3, 4, 0] (lv2 := [(0, .ref (G.1 130)), (1, .int a1), (2, .int a2), (3, .int a3), (4, .int (s1.1 + (1 : Int32)))]) rfl (fun h => h)
  · refine r_iconst 26 dX12_uses_25 rfl zci_0 ?_
    refine r_istore 28 [(4, .int (0 : Int32)), (0, .ref (G.1 130)), (1, .int a1), (2, .int a2), (3, .int a3)] dX12_uses_26 rfl (by decide) rfl ?_
    refine r_loopE [1, 2, 3, 4, 0] (fun s4 => [(0, .ref (G.1 130)), (1, .int a1), (2, .int a2), (3, .int a3), (4, .int s4.1)]) (fun s4 => s4.2) 193 (fun q5 => [(0, .ref (G.1 130))]) (fun q5 => q5) rfl rfl (fun s4 => ?_) (fun q5 => ?_)
    · rw [f_X12_uses_L28]
      have hJ120 : ∀ (x4_20 : Int32) (x5_21 : Int32) (x6_22 : Int32) (k23 : Int32) (w24 : ZW), zR G l d "LoveLocksModel" cX12_uses 11 none none o (Sum.elim (fun s4 => zA G l d "LoveLocksModel" cX12_uses 11 none none o 28 [(0, .ref (G.1 130)), (1, .int a1), (2, .int a2), (3, .int a3), (4, .int s4.1)] [] s4.2) (fun q5 => zA G l d "LoveLocksModel" cX12_uses 11 none none o 193 [(0, .ref (G.1 130))] [] q5)) 120 [(0, .ref (G.1 130)), (1, .int a1), (2, .int a2), (3, .int a3), (4, .int x4_20), (5, .int x5_21), (6, .int x6_22)] [.int k23] w24 (f_X12_uses_J120 x4_20 x5_21 x6_22 k23 w24) := by
        intro x4_20 x5_21 x6_22 k23 w24
        rw [f_X12_uses_J120]
        refine r_istore 122 [(8, .int k23), (0, .ref (G.1 130)), (1, .int a1), (2, .int a2), (3, .int a3), (4, .int x4_20), (5, .int x5_21), (6, .int x6_22)] dX12_uses_120 rfl (by decide) rfl ?_
        refine r_iconst 123 dX12_uses_122 rfl zci_1 ?_
        refine r_iload 125 dX12_uses_123 rfl 6 rfl ?_
        refine r_ishl 126 dX12_uses_125 rfl ?_
        refine r_iconst 127 dX12_uses_126 rfl zci_1 ?_
        refine r_iload 129 dX12_uses_127 rfl 7 rfl ?_
        refine r_ishl 130 dX12_uses_129 rfl ?_
        refine r_ior 131 dX12_uses_130 rfl ?_
        refine r_topi (fun y25 => ?_)
        refine r_istore 133 [(9, .int y25), (8, .int k23), (0, .ref (G.1 130)), (1, .int a1), (2, .int a2), (3, .int a3), (4, .int x4_20), (5, .int x5_21), (6, .int x6_22)] dX12_uses_131 rfl (by decide) rfl ?_
        refine r_iconst 134 dX12_uses_133 rfl zci_0 ?_
        refine r_istore 136 [(10, .int (0 : Int32)), (9, .int y25), (8, .int k23), (0, .ref (G.1 130)), (1, .int a1), (2, .int a2), (3, .int a3), (4, .int x4_20), (5, .int x5_21), (6, .int x6_22)] dX12_uses_134 rfl (by decide) rfl ?_
        refine r_loopE [3, 4, 5, 6, 7, 2, 1, 0] (fun s26 => [(0, .ref (G.1 130)), (1, .int a1), (2, .int a2), (3, .int a3), (4, .int x4_20), (8, .int k23), (9, .int y25), (10, .int s26.1)]) (fun s26 => s26.2) 187 (fun q27 => [(0, .ref (G.1 130)), (1, .int a1), (2, .int a2), (3, .int a3), (4, .int x4_20)]) (fun q27 => q27) rfl rfl (fun s26 => ?_) (fun q27 => ?_)
        · rw [f_X12_uses_L136]
          refine r_iload 138 dX12_uses_136 rfl 7 rfl ?_
          refine r_sipush 141 dX12_uses_138 rfl zcs_256 ?_
          refine r_icmp_ge 187 144 dX12_uses_141 (by decide) rfl ?_ ?_
          · exact r_leaf [0, 1, 2, 3, 4] (lv2 := [(0, .ref (G.1 130)), (1, .int a1), (2, .int a2), (3, .int a3), (4, .int x4_20)]) rfl (fun h => h)
          · refine r_iload 146 dX12_uses_144 rfl 5 rfl ?_
            refine r_if_eq 187 149 dX12_uses_146 (by decide) rfl ?_ ?_
            · exact r_leaf [0, 1, 2, 3, 4] (lv2 := [(0, .ref (G.1 130)), (1, .int a1), (2, .int a2), (3, .int a3), (4, .int x4_20)]) rfl (fun h => h)
            · refine r_aload_n 150 dX12_uses_149 rfl 0 rfl rfl ?_
              refine r_get 153 130 24 dX12_uses_150 rfl zl_130 (ce_130 G _) rfl inz12 (by decide) wf_X12_62 rfl ?_
              refine r_iload 155 dX12_uses_153 rfl 7 rfl ?_
              refine r_iload 157 dX12_uses_155 rfl 6 rfl ?_
              refine r_ior 158 dX12_uses_157 rfl ?_
              refine r_dup2 159 dX12_uses_158 rfl rfl rfl ?_
              refine r_lald 160 148 256 dX12_uses_159 rfl zl_148 (ce_148 G _) ?_
              refine r_iload 162 dX12_uses_160 rfl 7 rfl ?_
              refine r_iload 164 dX12_uses_162 rfl 6 rfl ?_
              refine r_iand 165 dX12_uses_164 rfl ?_
              refine r_if_ne 178 168 dX12_uses_165 (by decide) rfl ?_ ?_
              · refine r_lconst 179 dX12_uses_178 rfl zcl_0 ?_
                refine r_ladd 180 dX12_uses_179 rfl ?_
                refine r_last 181 148 256 dX12_uses_180 rfl zl_148 (ce_148 G) ?_
                refine r_topw (fun w28 => ?_)
                refine r_iinc 184 7 [(10, .int (s26.1 + (1 : Int32))), (0, .ref (G.1 130)), (1, .int a1), (2, .int a2), (3, .int a3), (4, .int x4_20), (8, .int k23), (9, .int y25)] dX12_uses_181 rfl rfl zci_1 (by decide) rfl ?_
                refine r_goto 136 dX12_uses_184 (by decide) ?_
                exact r_leaf [1, 2, 3, 4, 5, 6, 7, 0] (lv2 := [(0, .ref (G.1 130)), (1, .int a1), (2, .int a2), (3, .int a3), (4, .int x4_20), (8, .int k23), (9, .int y25), (10, .int (s26.1 + (1 : Int32)))]) rfl (fun h => h)
              · refine r_aload_n 169 dX12_uses_168 rfl 0 rfl rfl ?_
                refine r_get 172 130 23 dX12_uses_169 rfl zl_130 (ce_130 G _) rfl inz12 (by decide) wf_X12_58 rfl ?_
                refine r_iload 174 dX12_uses_172 rfl 7 rfl ?_
                refine r_lald 175 147 256 dX12_uses_174 rfl zl_147 (ce_147 G _) ?_
                refine r_goto 179 dX12_uses_175 (by decide) ?_
                refine r_ladd 180 dX12_uses_179 rfl ?_
                refine r_last 181 148 256 dX12_uses_180 rfl zl_148 (ce_148 G) ?_
                refine r_topw (fun w29 => ?_)
                refine r_iinc 184 7 [(10, .int (s26.1 + (1 : Int32))), (0, .ref (G.1 130)), (1, .int a1), (2, .int a2), (3, .int a3), (4, .int x4_20), (8, .int k23), (9, .int y25)] dX12_uses_181 rfl rfl zci_1 (by decide) rfl ?_
                refine r_goto 136 dX12_uses_184 (by decide) ?_
                exact r_leaf [1, 2, 3, 4, 5, 6, 7, 0] (lv2 := [(0, .ref (G.1 130)), (1, .int a1), (2, .int a2), (3, .int a3), (4, .int x4_20), (8, .int k23), (9, .int y25), (10, .int (s26.1 + (1 : Int32)))]) rfl (fun h => h)
        · refine r_iinc 190 4 [(4, .int (x4_20 + (1 : Int32))), (0, .ref (G.1 130)), (1, .int a1), (2, .int a2), (3, .int a3)] dX12_uses_187 rfl rfl zci_1 (by decide) rfl ?_
          refine r_goto 28 dX12_uses_190 (by decide) ?_
          exact r_leaf [1, 2, 3, 4, 0] (lv2 := [(0, .ref (G.1 130)), (1, .int a1), (2, .int a2), (3, .int a3), (4, .int (x4_20 + (1 : Int32)))]) rfl (fun h => h)
      have hJ119 : ∀ (x4_16 : Int32) (x5_17 : Int32) (x6_18 : Int32) (w19 : ZW), zR G l d "LoveLocksModel" cX12_uses 11 none none o (Sum.elim (fun s4 => zA G l d "LoveLocksModel" cX12_uses 11 none none o 28 [(0, .ref (G.1 130)), (1, .int a1), (2, .int a2), (3, .int a3), (4, .int s4.1)] [] s4.2) (fun q5 => zA G l d "LoveLocksModel" cX12_uses 11 none none o 193 [(0, .ref (G.1 130))] [] q5)) 119 [(0, .ref (G.1 130)), (1, .int a1), (2, .int a2), (3, .int a3), (4, .int x4_16), (5, .int x5_17), (6, .int x6_18)] [] w19 (f_X12_uses_J119 x4_16 x5_17 x6_18 w19) := by
        intro x4_16 x5_17 x6_18 w19
        rw [f_X12_uses_J119]
        refine r_iconst 120 dX12_uses_119 rfl zci_0 ?_
        exact r_sub [0, 1, 2, 3, 4, 5, 6] (lv2 := [(0, .ref (G.1 130)), (1, .int a1), (2, .int a2), (3, .int a3), (4, .int x4_16), (5, .int x5_17), (6, .int x6_18)]) rfl (hJ120 x4_16 x5_17 x6_18 (0 : Int32) w19)
      have hJ103 : ∀ (x4_30 : Int32) (x5_31 : Int32) (x6_32 : Int32) (w33 : ZW), zR G l d "LoveLocksModel" cX12_uses 11 none none o (Sum.elim (fun s4 => zA G l d "LoveLocksModel" cX12_uses 11 none none o 28 [(0, .ref (G.1 130)), (1, .int a1), (2, .int a2), (3, .int a3), (4, .int s4.1)] [] s4.2) (fun q5 => zA G l d "LoveLocksModel" cX12_uses 11 none none o 193 [(0, .ref (G.1 130))] [] q5)) 103 [(0, .ref (G.1 130)), (1, .int a1), (2, .int a2), (3, .int a3), (4, .int x4_30), (5, .int x5_31), (6, .int x6_32)] [] w33 (f_X12_uses_J103 a1 x4_30 x5_31 x6_32 w33) := by
        intro x4_30 x5_31 x6_32 w33
        rw [f_X12_uses_J103]
        refine r_aload_n 104 dX12_uses_103 rfl 0 rfl rfl ?_
        refine r_iload_n 105 dX12_uses_104 rfl 1 rfl rfl ?_
        refine r_iload 107 dX12_uses_105 rfl 5 rfl ?_
        refine r_iload 109 dX12_uses_107 rfl 6 rfl ?_
        refine r_callVi 112 3 (ko := 130) [.int a1, .int x5_31, .int x6_32] (st := []) dX12_uses_109 rfl rfl (fun r h => c_X12_isRead G l (d - 1) (by omega) w33 a1 x5_31 x6_32 r h) zl_130 (ce_130 G _) rfl rfl wc_X12_isRead wz_X12 wl_X12_224 wi_X12_isRead ws_X12_isRead zd_X12_isRead (by decide) (by omega) rfl (Nat.le_of_ble_eq_true rfl) (fun r34 => ?_)
        refine r_if_eq 119 115 dX12_uses_112 (by decide) rfl ?_ ?_
        · exact r_sub [0, 1, 2, 3, 4, 5, 6] (lv2 := [(0, .ref (G.1 130)), (1, .int a1), (2, .int a2), (3, .int a3), (4, .int x4_30), (5, .int x5_31), (6, .int x6_32)]) rfl (hJ119 x4_30 x5_31 x6_32 w33)
        · refine r_iconst 116 dX12_uses_115 rfl zci_1 ?_
          refine r_goto 120 dX12_uses_116 (by decide) ?_
          exact r_sub [0, 1, 2, 3, 4, 5, 6] (lv2 := [(0, .ref (G.1 130)), (1, .int a1), (2, .int a2), (3, .int a3), (4, .int x4_30), (5, .int x5_31), (6, .int x6_32)]) rfl (hJ120 x4_30 x5_31 x6_32 (1 : Int32) w33)
      have hJ100 : ∀ (x4_35 : Int32) (x5_36 : Int32) (x6_37 : Int32) (k38 : Int32) (k39 : Int32) (w40 : ZW), zR G l d "LoveLocksModel" cX12_uses 11 none none o (Sum.elim (fun s4 => zA G l d "LoveLocksModel" cX12_uses 11 none none o 28 [(0, .ref (G.1 130)), (1, .int a1), (2, .int a2), (3, .int a3), (4, .int s4.1)] [] s4.2) (fun q5 => zA G l d "LoveLocksModel" cX12_uses 11 none none o 193 [(0, .ref (G.1 130))] [] q5)) 100 [(0, .ref (G.1 130)), (1, .int a1), (2, .int a2), (3, .int a3), (4, .int x4_35), (5, .int x5_36), (6, .int x6_37)] [.int k38, .int k39] w40 (f_X12_uses_J100 a1 x4_35 x5_36 x6_37 k38 k39 w40) := by
        intro x4_35 x5_36 x6_37 k38 k39 w40
        rw [f_X12_uses_J100]
        refine r_icmp_ne 119 103 dX12_uses_100 (by decide) rfl ?_ ?_
        · exact r_sub [0, 1, 2, 3, 4, 5, 6] (lv2 := [(0, .ref (G.1 130)), (1, .int a1), (2, .int a2), (3, .int a3), (4, .int x4_35), (5, .int x5_36), (6, .int x6_37)]) rfl (hJ119 x4_35 x5_36 x6_37 w40)
        · exact r_sub [0, 1, 2, 3, 4, 5, 6] (lv2 := [(0, .ref (G.1 130)), (1, .int a1), (2, .int a2), (3, .int a3), (4, .int x4_35), (5, .int x5_36), (6, .int x6_37)]) rfl (hJ103 x4_35 x5_36 x6_37 w40)
      have hJ66 : ∀ (x4_11 : Int32) (x5_12 : Int32) (x6_13 : Int32) (k14 : Int32) (w15 : ZW), zR G l d "LoveLocksModel" cX12_uses 11 none none o (Sum.elim (fun s4 => zA G l d "LoveLocksModel" cX12_uses 11 none none o 28 [(0, .ref (G.1 130)), (1, .int a1), (2, .int a2), (3, .int a3), (4, .int s4.1)] [] s4.2) (fun q5 => zA G l d "LoveLocksModel" cX12_uses 11 none none o 193 [(0, .ref (G.1 130))] [] q5)) 66 [(0, .ref (G.1 130)), (1, .int a1), (2, .int a2), (3, .int a3), (4, .int x4_11), (5, .int x5_12), (6, .int x6_13)] [.int k14] w15 (f_X12_uses_J66 a2 a1 a3 x4_11 x5_12 x6_13 k14 w15) := by
        intro x4_11 x5_12 x6_13 k14 w15
        rw [f_X12_uses_J66]
        refine r_istore 68 [(7, .int k14), (0, .ref (G.1 130)), (1, .int a1), (2, .int a2), (3, .int a3), (4, .int x4_11), (5, .int x5_12), (6, .int x6_13)] dX12_uses_66 rfl (by decide) rfl ?_
        refine r_iload 70 dX12_uses_68 rfl 6 rfl ?_
        refine r_iload 72 dX12_uses_70 rfl 7 rfl ?_
        refine r_icmp_ge 119 75 dX12_uses_72 (by decide) rfl ?_ ?_
        · exact r_sub [1, 2, 3, 4, 5, 6, 7] (lv2 := [(0, .ref (G.1 130)), (1, .int a1), (2, .int a2), (3, .int a3), (4, .int x4_11), (5, .int x5_12), (6, .int x6_13)]) rfl (hJ119 x4_11 x5_12 x6_13 w15)
        · refine r_iload 77 dX12_uses_75 rfl 7 rfl ?_
          refine r_aload_n 78 dX12_uses_77 rfl 1 rfl rfl ?_
          refine r_get 81 130 16 dX12_uses_78 rfl zl_130 (ce_130 G _) rfl inz12 (by decide) wf_X12_175 rfl ?_
          refine r_icmp_ge 119 84 dX12_uses_81 (by decide) rfl ?_ ?_
          · exact r_sub [1, 2, 3, 4, 5, 6, 7] (lv2 := [(0, .ref (G.1 130)), (1, .int a1), (2, .int a2), (3, .int a3), (4, .int x4_11), (5, .int x5_12), (6, .int x6_13)]) rfl (hJ119 x4_11 x5_12 x6_13 w15)
          · refine r_iload_n 85 dX12_uses_84 rfl 3 rfl rfl ?_
            refine r_if_lt 103 88 dX12_uses_85 (by decide) rfl ?_ ?_
            · exact r_sub [1, 2, 3, 4, 5, 6, 7] (lv2 := [(0, .ref (G.1 130)), (1, .int a1), (2, .int a2), (3, .int a3), (4, .int x4_11), (5, .int x5_12), (6, .int x6_13)]) rfl (hJ103 x4_11 x5_12 x6_13 w15)
            · refine r_iload 90 dX12_uses_88 rfl 0 rfl ?_
              refine r_iload_n 91 dX12_uses_90 rfl 4 rfl rfl ?_
              refine r_iconst 92 dX12_uses_91 rfl zci_1 ?_
              refine r_icmp_ne 99 95 dX12_uses_92 (by decide) rfl ?_ ?_
              · refine r_iconst 100 dX12_uses_99 rfl zci_0 ?_
                exact r_sub [1, 2, 3, 4, 5, 6, 7] (lv2 := [(0, .ref (G.1 130)), (1, .int a1), (2, .int a2), (3, .int a3), (4, .int x4_11), (5, .int x5_12), (6, .int x6_13)]) rfl (hJ100 x4_11 x5_12 x6_13 (0 : Int32) k14 w15)
              · refine r_iconst 96 dX12_uses_95 rfl zci_1 ?_
                refine r_goto 100 dX12_uses_96 (by decide) ?_
                exact r_sub [1, 2, 3, 4, 5, 6, 7] (lv2 := [(0, .ref (G.1 130)), (1, .int a1), (2, .int a2), (3, .int a3), (4, .int x4_11), (5, .int x5_12), (6, .int x6_13)]) rfl (hJ100 x4_11 x5_12 x6_13 (1 : Int32) k14 w15)
      have hJ61 : ∀ (x4_7 : Int32) (x5_8 : Int32) (x6_9 : Int32) (w10 : ZW), zR G l d "LoveLocksModel" cX12_uses 11 none none o (Sum.elim (fun s4 => zA G l d "LoveLocksModel" cX12_uses 11 none none o 28 [(0, .ref (G.1 130)), (1, .int a1), (2, .int a2), (3, .int a3), (4, .int s4.1)] [] s4.2) (fun q5 => zA G l d "LoveLocksModel" cX12_uses 11 none none o 193 [(0, .ref (G.1 130))] [] q5)) 61 [(0, .ref (G.1 130)), (1, .int a1), (2, .int a2), (3, .int a3), (4, .int x4_7), (5, .int x5_8), (6, .int x6_9)] [] w10 (f_X12_uses_J61 a2 a1 a3 x4_7 x5_8 x6_9 w10) := by
        intro x4_7 x5_8 x6_9 w10
        rw [f_X12_uses_J61]
        refine r_iconst 62 dX12_uses_61 rfl zci_1 ?_
        refine r_goto 66 dX12_uses_62 (by decide) ?_
        exact r_sub [0, 1, 2, 3, 4, 5, 6] (lv2 := [(0, .ref (G.1 130)), (1, .int a1), (2, .int a2), (3, .int a3), (4, .int x4_7), (5, .int x5_8), (6, .int x6_9)]) rfl (hJ66 x4_7 x5_8 x6_9 (1 : Int32) w10)
      refine r_iload 30 dX12_uses_28 rfl 4 rfl ?_
      refine r_bipush 32 dX12_uses_30 rfl zcb_64 ?_
      refine r_icmp_ge 193 35 dX12_uses_32 (by decide) rfl ?_ ?_
      · exact r_leaf [0] (lv2 := [(0, .ref (G.1 130))]) rfl (fun h => h)
      · refine r_iload 37 dX12_uses_35 rfl 4 rfl ?_
        refine r_bipush 39 dX12_uses_37 rfl zcb_8 ?_
        refine r_idiv 40 dX12_uses_39 rfl (by decide) ?_
        refine r_istore 42 [(5, .int (s4.1 / (8 : Int32))), (0, .ref (G.1 130)), (1, .int a1), (2, .int a2), (3, .int a3), (4, .int s4.1)] dX12_uses_40 rfl (by decide) rfl ?_
        refine r_iload 44 dX12_uses_42 rfl 5 rfl ?_
        refine r_bipush 46 dX12_uses_44 rfl zcb_8 ?_
        refine r_irem 47 dX12_uses_46 rfl (by decide) ?_
        refine r_topi (fun y6 => ?_)
        refine r_istore 49 [(6, .int y6), (5, .int (s4.1 / (8 : Int32))), (0, .ref (G.1 130)), (1, .int a1), (2, .int a2), (3, .int a3), (4, .int s4.1)] dX12_uses_47 rfl (by decide) rfl ?_
        refine r_iload 51 dX12_uses_49 rfl 1 rfl ?_
        refine r_iload_n 52 dX12_uses_51 rfl 4 rfl rfl ?_
        refine r_icmp_eq 61 55 dX12_uses_52 (by decide) rfl ?_ ?_
        · exact r_sub [2, 3, 4, 5, 6, 1, 0] (lv2 := [(0, .ref (G.1 130)), (1, .int a1), (2, .int a2), (3, .int a3), (4, .int s4.1), (5, .int (s4.1 / (8 : Int32))), (6, .int y6)]) rfl (hJ61 s4.1 (s4.1 / (8 : Int32)) y6 s4.2)
        · refine r_iload 57 dX12_uses_55 rfl 0 rfl ?_
          refine r_iload_n 58 dX12_uses_57 rfl 4 rfl rfl ?_
          refine r_icmp_ne 65 61 dX12_uses_58 (by decide) rfl ?_ ?_
          · refine r_iconst 66 dX12_uses_65 rfl zci_0 ?_
            exact r_sub [2, 3, 4, 5, 6, 1, 0] (lv2 := [(0, .ref (G.1 130)), (1, .int a1), (2, .int a2), (3, .int a3), (4, .int s4.1), (5, .int (s4.1 / (8 : Int32))), (6, .int y6)]) rfl (hJ66 s4.1 (s4.1 / (8 : Int32)) y6 (0 : Int32) s4.2)
          · exact r_sub [2, 3, 4, 5, 6, 1, 0] (lv2 := [(0, .ref (G.1 130)), (1, .int a1), (2, .int a2), (3, .int a3), (4, .int s4.1), (5, .int (s4.1 / (8 : Int32))), (6, .int y6)]) rfl (hJ61 s4.1 (s4.1 / (8 : Int32)) y6 s4.2)
    · refine r_iconst 194 dX12_uses_193 rfl zci_0 ?_
      refine r_istore 196 [(4, .int (0 : Int32)), (0, .ref (G.1 130))] dX12_uses_194 rfl (by decide) rfl ?_
      refine r_loopE [1, 0] (fun s41 => [(0, .ref (G.1 130)), (4, .int s41.1)]) (fun s41 => s41.2) 224 (fun q42 => []) (fun q42 => q42) rfl rfl (fun s41 => ?_) (fun q42 => ?_)
      · rw [f_X12_uses_L196]
        refine r_iload 198 dX12_uses_196 rfl 1 rfl ?_
        refine r_sipush 201 dX12_uses_198 rfl zcs_256 ?_
        refine r_icmp_ge 224 204 dX12_uses_201 (by decide) rfl ?_ ?_
        · exact r_leaf [] (lv2 := []) rfl (fun h => h)
        · refine r_aload_n 205 dX12_uses_204 rfl 0 rfl rfl ?_
          refine r_get 208 130 23 dX12_uses_205 rfl zl_130 (ce_130 G _) rfl inz12 (by decide) wf_X12_58 rfl ?_
          refine r_iload 210 dX12_uses_208 rfl 1 rfl ?_
          refine r_aload_n 211 dX12_uses_210 rfl 0 rfl rfl ?_
          refine r_get 214 130 24 dX12_uses_211 rfl zl_130 (ce_130 G _) rfl inz12 (by decide) wf_X12_62 rfl ?_
          refine r_iload 216 dX12_uses_214 rfl 1 rfl ?_
          refine r_lald 217 148 256 dX12_uses_216 rfl zl_148 (ce_148 G _) ?_
          refine r_last 218 147 256 dX12_uses_217 rfl zl_147 (ce_147 G) ?_
          refine r_topw (fun w43 => ?_)
          refine r_iinc 221 1 [(4, .int (s41.1 + (1 : Int32))), (0, .ref (G.1 130))] dX12_uses_218 rfl rfl zci_1 (by decide) rfl ?_
          refine r_goto 196 dX12_uses_221 (by decide) ?_
          exact r_leaf [1, 0] (lv2 := [(0, .ref (G.1 130)), (4, .int (s41.1 + (1 : Int32)))]) rfl (fun h => h)
      · exact r_vret dX12_uses_224 rfl z_kvw
-- X12_waysOf
def f_X12_waysOf_L3 (s1 : Int32 × ZW) : Option ((Int32 × ZW) ⊕ (ZW)) :=
  if (256 : Int32) ≤ s1.1 then
  some (.inr s1.2)
else
  if s1.1 = 0 then
    if z_in s1.1 256 then
      z_let (z_upJ s1.2 147 s1.1.toNatClampNeg (1 : Int64)) fun w4 =>
      some (.inl (s1.1 + (1 : Int32), w4))
    else none
  else
    if z_in s1.1 256 then
      z_let (z_upJ s1.2 147 s1.1.toNatClampNeg (0 : Int64)) fun w3 =>
      some (.inl (s1.1 + (1 : Int32), w3))
    else none
def f_X12_waysOf_J82 (a4 : Int32) (x5_7 : Int32) (k8 : Int32) (k9 : Int32) (w10 : ZW) : Option ((Int32 × ZW) ⊕ (ZW)) :=
  (f_X12_uses w10 k9 k8 a4).bind fun r11 : ZW =>
  some (.inl (x5_7 + (1 : Int32), r11))
def f_X12_waysOf_L37 (a1 : Int32) (a2 : Int32) (a4 : Int32) (a3 : Int32) (s5 : Int32 × ZW) : Option ((Int32 × ZW) ⊕ (ZW)) :=
  if (s5.2.1 130 2) ≤ s5.1 then
  some (.inr s5.2)
else
  if z_in s5.1 14 then
    if (s5.2.1 144 s5.1.toNatClampNeg) ≤ 0 then
    some (.inl (s5.1 + (1 : Int32), s5.2))
  else
    if z_in s5.1 14 then
      if (s5.2.1 134 s5.1.toNatClampNeg) = a1 then
      if s5.1 = a2 then
        f_X12_waysOf_J82 a4 s5.1 a3 s5.1 s5.2
      else
        f_X12_waysOf_J82 a4 s5.1 (-4 : Int32) s5.1 s5.2
    else
      some (.inl (s5.1 + (1 : Int32), s5.2))
    else none
  else none
def f_X12_waysOf_L99 (q6 : ZW) (s12 : Int64 × Int32) : Option ((Int64 × Int32) ⊕ (Int64)) :=
  if (256 : Int32) ≤ s12.2 then
  some (.inr s12.1)
else
  if z_in s12.2 256 then
    z_let (s12.1 + (q6.2 147 s12.2.toNatClampNeg)) fun y14 =>
    some (.inl (y14, s12.2 + (1 : Int32)))
  else none
def f_X12_waysOf (w : ZW) (a1 : Int32) (a2 : Int32) (a3 : Int32) (a4 : Int32) : Option (Int64 × ZW) :=
  (z_iter (f_X12_waysOf_L3) z_fuel ((0 : Int32), w)).bind (fun q2 : ZW =>
  (z_iter (f_X12_waysOf_L37 a1 a2 a4 a3) z_fuel ((0 : Int32), q2)).bind (fun q6 : ZW =>
  (z_iter (f_X12_waysOf_L99 q6) z_fuel ((0 : Int64), (0 : Int32))).bind (fun q13 : Int64 =>
  some (q13, q6))))
set_option maxHeartbeats 4000000 in
set_option maxRecDepth 100000 in
theorem c_X12_waysOf (G : ZG) (l : Launch) (d : Nat) (hd : 4 ≤ d) (w : ZW) (a1 : Int32) (a2 : Int32) (a3 : Int32) (a4 : Int32) : ∀ o, f_X12_waysOf w a1 a2 a3 a4 = some o → zM G l d yX12_waysOf cX12_waysOf 8 (some .long) [.ref (G.1 130), .int a1, .int a2, .int a3, .int a4] w (some (.long o.1)) o.2 := by
  intro o ho
  refine zM.of [(0, .ref (G.1 130)), (1, .int a1), (2, .int a2), (3, .int a3), (4, .int a4)] (by decide) (Nat.le_of_ble_eq_true rfl) rfl ?_
  refine (?_ : zR G l d "LoveLocksModel" cX12_waysOf 8 (some .long) (some (.long o.1)) o.2 (fun x => x = o) 0 [(0, .ref (G.1 130)), (1, .int a1), (2, .int a2), (3, .int a3), (4, .int a4)] [] w (f_X12_waysOf w a1 a2 a3 a4)) o ho rfl
  rw [f_X12_waysOf]
  refine r_iconst 1 dX12_waysOf_0 rfl zci_0 ?_
  refine r_istore 3 [(5, .int (0 : Int32)), (0, .ref (G.1 130)), (1, .int a1), (2, .int a2), (3, .int a3), (4, .int a4)] dX12_waysOf_1 rfl (by decide) rfl ?_
  refine r_loopE [1, 2, 3, 4, 5, 0] (fun s1 => [(0, .ref (G.1 130)), (1, .int a1), (2, .int a2), (3, .int a3), (4, .int a4), (5, .int s1.1)]) (fun s1 => s1.2) 34 (fun q2 => [(0, .ref (G.1 130)), (1, .int a1), (2, .int a2), (3, .int a3), (4, .int a4)]) (fun q2 => q2) rfl rfl (fun s1 => ?_) (fun q2 => ?_)
  · rw [f_X12_waysOf_L3]
    refine r_iload 5 dX12_waysOf_3 rfl 5 rfl ?_
    refine r_sipush 8 dX12_waysOf_5 rfl zcs_256 ?_
    refine r_icmp_ge 34 11 dX12_waysOf_8 (by decide) rfl ?_ ?_
    · exact r_leaf [0, 1, 2, 3, 4] (lv2 := [(0, .ref (G.1 130)), (1, .int a1), (2, .int a2), (3, .int a3), (4, .int a4)]) rfl (fun h => h)
    · refine r_aload_n 12 dX12_waysOf_11 rfl 0 rfl rfl ?_
      refine r_get 15 130 23 dX12_waysOf_12 rfl zl_130 (ce_130 G _) rfl inz12 (by decide) wf_X12_58 rfl ?_
      refine r_iload 17 dX12_waysOf_15 rfl 5 rfl ?_
      refine r_iload 19 dX12_waysOf_17 rfl 5 rfl ?_
      refine r_if_ne 26 22 dX12_waysOf_19 (by decide) rfl ?_ ?_
      · refine r_lconst 27 dX12_waysOf_26 rfl zcl_0 ?_
        refine r_last 28 147 256 dX12_waysOf_27 rfl zl_147 (ce_147 G) ?_
        refine r_topw (fun w3 => ?_)
        refine r_iinc 31 5 [(5, .int (s1.1 + (1 : Int32))), (0, .ref (G.1 130)), (1, .int a1), (2, .int a2), (3, .int a3), (4, .int a4)] dX12_waysOf_28 rfl rfl zci_1 (by decide) rfl ?_
        refine r_goto 3 dX12_waysOf_31 (by decide) ?_
        exact r_leaf [1, 2, 3, 4, 5, 0] (lv2 := [(0, .ref (G.1 130)), (1, .int a1), (2, .int a2), (3, .int a3), (4, .int a4), (5, .int (s1.1 + (1 : Int32)))]) rfl (fun h => h)
      · refine r_lconst 23 dX12_waysOf_22 rfl zcl_1 ?_
        refine r_goto 27 dX12_waysOf_23 (by decide) ?_
        refine r_last 28 147 256 dX12_waysOf_27 rfl zl_147 (ce_147 G) ?_
        refine r_topw (fun w4 => ?_)
        refine r_iinc 31 5 [(5, .int (s1.1 + (1 : Int32))), (0, .ref (G.1 130)), (1, .int a1), (2, .int a2), (3, .int a3), (4, .int a4)] dX12_waysOf_28 rfl rfl zci_1 (by decide) rfl ?_
        refine r_goto 3 dX12_waysOf_31 (by decide) ?_
        exact r_leaf [1, 2, 3, 4, 5, 0] (lv2 := [(0, .ref (G.1 130)), (1, .int a1), (2, .int a2), (3, .int a3), (4, .int a4), (5, .int (s1.1 + (1 : Int32)))]) rfl (fun h => h)
  · refine r_iconst 35 dX12_waysOf_34 rfl zci_0 ?_
    refine r_istore 37 [(5, .int (0 : Int32)), (0, .ref (G.1 130)), (1, .int a1), (2, .int a2), (3, .int a3), (4, .int a4)] dX12_waysOf_35 rfl (by decide) rfl ?_
    refine r_loopE [1, 2, 3, 4, 5, 0] (fun s5 => [(0, .ref (G.1 130)), (1, .int a1), (2, .int a2), (3, .int a3), (4, .int a4), (5, .int s5.1)]) (fun s5 => s5.2) 93 (fun q6 => [(0, .ref (G.1 130))]) (fun q6 => q6) rfl rfl (fun s5 => ?_) (fun q6 => ?_)
    · rw [f_X12_waysOf_L37]
      have hJ82 : ∀ (x5_7 : Int32) (k8 : Int32) (k9 : Int32) (w10 : ZW), zR G l d "LoveLocksModel" cX12_waysOf 8 (some .long) (some (.long o.1)) o.2 (Sum.elim (fun s5 => zA G l d "LoveLocksModel" cX12_waysOf 8 (some .long) (some (.long o.1)) o.2 37 [(0, .ref (G.1 130)), (1, .int a1), (2, .int a2), (3, .int a3), (4, .int a4), (5, .int s5.1)] [] s5.2) (fun q6 => zA G l d "LoveLocksModel" cX12_waysOf 8 (some .long) (some (.long o.1)) o.2 93 [(0, .ref (G.1 130))] [] q6)) 82 [(0, .ref (G.1 130)), (1, .int a1), (2, .int a2), (3, .int a3), (4, .int a4), (5, .int x5_7)] [.int k8, .int k9, .ref (G.1 130)] w10 (f_X12_waysOf_J82 a4 x5_7 k8 k9 w10) := by
        intro x5_7 k8 k9 w10
        rw [f_X12_waysOf_J82]
        refine r_iload 84 dX12_waysOf_82 rfl 4 rfl ?_
        refine r_callVvw 87 3 (ko := 130) [.int k9, .int k8, .int a4] (st := []) dX12_waysOf_84 rfl rfl (fun r h => c_X12_uses G l (d - 1) (by omega) w10 k9 k8 a4 r h) zl_130 (ce_130 G _) rfl rfl wc_X12_uses wz_X12 wl_X12_227 wi_X12_uses ws_X12_uses zd_X12_uses (by decide) (by omega) rfl (Nat.le_of_ble_eq_true rfl) (fun r11 => ?_)
        refine r_iinc 90 5 [(5, .int (x5_7 + (1 : Int32))), (0, .ref (G.1 130)), (1, .int a1), (2, .int a2), (3, .int a3), (4, .int a4)] dX12_waysOf_87 rfl rfl zci_1 (by decide) rfl ?_
        refine r_goto 37 dX12_waysOf_90 (by decide) ?_
        exact r_leaf [1, 2, 3, 4, 5, 0] (lv2 := [(0, .ref (G.1 130)), (1, .int a1), (2, .int a2), (3, .int a3), (4, .int a4), (5, .int (x5_7 + (1 : Int32)))]) rfl (fun h => h)
      refine r_iload 39 dX12_waysOf_37 rfl 5 rfl ?_
      refine r_aload_n 40 dX12_waysOf_39 rfl 0 rfl rfl ?_
      refine r_get 43 130 2 dX12_waysOf_40 rfl zl_130 (ce_130 G _) rfl inz12 (by decide) wf_X12_115 rfl ?_
      refine r_icmp_ge 93 46 dX12_waysOf_43 (by decide) rfl ?_ ?_
      · exact r_leaf [0] (lv2 := [(0, .ref (G.1 130))]) rfl (fun h => h)
      · refine r_aload_n 47 dX12_waysOf_46 rfl 0 rfl rfl ?_
        refine r_get 50 130 20 dX12_waysOf_47 rfl zl_130 (ce_130 G _) rfl inz12 (by decide) wf_X12_49 rfl ?_
        refine r_iload 52 dX12_waysOf_50 rfl 5 rfl ?_
        refine r_iald 53 144 14 dX12_waysOf_52 rfl zl_144 (ce_144 G _) ?_
        refine r_if_le 87 56 dX12_waysOf_53 (by decide) rfl ?_ ?_
        · refine r_iinc 90 5 [(5, .int (s5.1 + (1 : Int32))), (0, .ref (G.1 130)), (1, .int a1), (2, .int a2), (3, .int a3), (4, .int a4)] dX12_waysOf_87 rfl rfl zci_1 (by decide) rfl ?_
          refine r_goto 37 dX12_waysOf_90 (by decide) ?_
          exact r_leaf [1, 2, 3, 4, 5, 0] (lv2 := [(0, .ref (G.1 130)), (1, .int a1), (2, .int a2), (3, .int a3), (4, .int a4), (5, .int (s5.1 + (1 : Int32)))]) rfl (fun h => h)
        · refine r_aload_n 57 dX12_waysOf_56 rfl 0 rfl rfl ?_
          refine r_get 60 130 5 dX12_waysOf_57 rfl zl_130 (ce_130 G _) rfl inz12 (by decide) wf_X12_19 rfl ?_
          refine r_iload 62 dX12_waysOf_60 rfl 5 rfl ?_
          refine r_iald 63 134 14 dX12_waysOf_62 rfl zl_134 (ce_134 G _) ?_
          refine r_iload_n 64 dX12_waysOf_63 rfl 1 rfl rfl ?_
          refine r_icmp_ne 87 67 dX12_waysOf_64 (by decide) rfl ?_ ?_
          · refine r_iinc 90 5 [(5, .int (s5.1 + (1 : Int32))), (0, .ref (G.1 130)), (1, .int a1), (2, .int a2), (3, .int a3), (4, .int a4)] dX12_waysOf_87 rfl rfl zci_1 (by decide) rfl ?_
            refine r_goto 37 dX12_waysOf_90 (by decide) ?_
            exact r_leaf [1, 2, 3, 4, 5, 0] (lv2 := [(0, .ref (G.1 130)), (1, .int a1), (2, .int a2), (3, .int a3), (4, .int a4), (5, .int (s5.1 + (1 : Int32)))]) rfl (fun h => h)
          · refine r_aload_n 68 dX12_waysOf_67 rfl 0 rfl rfl ?_
            refine r_iload 70 dX12_waysOf_68 rfl 5 rfl ?_
            refine r_iload 72 dX12_waysOf_70 rfl 5 rfl ?_
            refine r_iload_n 73 dX12_waysOf_72 rfl 2 rfl rfl ?_
            refine r_icmp_ne 80 76 dX12_waysOf_73 (by decide) rfl ?_ ?_
            · refine r_bipush 82 dX12_waysOf_80 rfl zcb_m4 ?_
              exact r_sub [0, 1, 2, 3, 4, 5] (lv2 := [(0, .ref (G.1 130)), (1, .int a1), (2, .int a2), (3, .int a3), (4, .int a4), (5, .int s5.1)]) rfl (hJ82 s5.1 (-4 : Int32) s5.1 s5.2)
            · refine r_iload_n 77 dX12_waysOf_76 rfl 3 rfl rfl ?_
              refine r_goto 82 dX12_waysOf_77 (by decide) ?_
              exact r_sub [0, 1, 2, 3, 4, 5] (lv2 := [(0, .ref (G.1 130)), (1, .int a1), (2, .int a2), (3, .int a3), (4, .int a4), (5, .int s5.1)]) rfl (hJ82 s5.1 a3 s5.1 s5.2)
    · refine r_lconst 94 dX12_waysOf_93 rfl zcl_0 ?_
      refine r_lstore 96 [(5, .long (0 : Int64)), (0, .ref (G.1 130))] dX12_waysOf_94 rfl (by decide) rfl ?_
      refine r_iconst 97 dX12_waysOf_96 rfl zci_0 ?_
      refine r_istore 99 [(7, .int (0 : Int32)), (5, .long (0 : Int64)), (0, .ref (G.1 130))] dX12_waysOf_97 rfl (by decide) rfl ?_
      refine r_loopE [2, 1, 0] (fun s12 => [(0, .ref (G.1 130)), (5, .long s12.1), (7, .int s12.2)]) (fun s12 => q6) 125 (fun q13 => [(5, .long q13)]) (fun q13 => q6) rfl rfl (fun s12 => ?_) (fun q13 => ?_)
      · rw [f_X12_waysOf_L99]
        refine r_iload 101 dX12_waysOf_99 rfl 2 rfl ?_
        refine r_sipush 104 dX12_waysOf_101 rfl zcs_256 ?_
        refine r_icmp_ge 125 107 dX12_waysOf_104 (by decide) rfl ?_ ?_
        · exact r_leaf [1] (lv2 := [(5, .long s12.1)]) rfl (fun h => h)
        · refine r_lload 109 dX12_waysOf_107 rfl 1 rfl ?_
          refine r_aload_n 110 dX12_waysOf_109 rfl 0 rfl rfl ?_
          refine r_get 113 130 23 dX12_waysOf_110 rfl zl_130 (ce_130 G _) rfl inz12 (by decide) wf_X12_58 rfl ?_
          refine r_iload 115 dX12_waysOf_113 rfl 2 rfl ?_
          refine r_lald 116 147 256 dX12_waysOf_115 rfl zl_147 (ce_147 G _) ?_
          refine r_ladd 117 dX12_waysOf_116 rfl ?_
          refine r_topl (fun y14 => ?_)
          refine r_lstore 119 [(5, .long y14), (0, .ref (G.1 130)), (7, .int s12.2)] dX12_waysOf_117 rfl (by decide) rfl ?_
          refine r_iinc 122 2 [(7, .int (s12.2 + (1 : Int32))), (5, .long y14), (0, .ref (G.1 130))] dX12_waysOf_119 rfl rfl zci_1 (by decide) rfl ?_
          refine r_goto 99 dX12_waysOf_122 (by decide) ?_
          exact r_leaf [2, 1, 0] (lv2 := [(0, .ref (G.1 130)), (5, .long y14), (7, .int (s12.2 + (1 : Int32)))]) rfl (fun h => h)
      · refine r_lload 127 dX12_waysOf_125 rfl 0 rfl ?_
        exact r_lret dX12_waysOf_127 rfl z_kjw
-- X12_waysBy
def f_X12_waysBy_L6 (a1 : Int32) (a2 : Int32) (a3 : Int32) (s1 : Int64 × Int32 × ZW) : Option ((Int64 × Int32 × ZW) ⊕ (Int64 × ZW)) :=
  if (20 : Int32) ≤ s1.2.1 then
  some (.inr (s1.1, s1.2.2))
else
  (f_X12_waysOf s1.2.2 s1.2.1 a1 a2 a3).bind fun r3 : Int64 × ZW =>
    some (.inl (s1.1 * r3.1, s1.2.1 + (1 : Int32), r3.2))
def f_X12_waysBy (w : ZW) (a1 : Int32) (a2 : Int32) (a3 : Int32) : Option (Int64 × ZW) :=
  (z_iter (f_X12_waysBy_L6 a1 a2 a3) z_fuel ((1 : Int64), (0 : Int32), w)).bind (fun q2 : Int64 × ZW =>
  some (q2.1, q2.2))
set_option maxHeartbeats 4000000 in
set_option maxRecDepth 100000 in
theorem c_X12_waysBy (G : ZG) (l : Launch) (d : Nat) (hd : 5 ≤ d) (w : ZW) (a1 : Int32) (a2 : Int32) (a3 : Int32) : ∀ o, f_X12_waysBy w a1 a2 a3 = some o → zM G l d yX12_waysBy cX12_waysBy 7 (some .long) [.ref (G.1 130), .int a1, .int a2, .int a3] w (some (.long o.1)) o.2 := by
  intro o ho
  refine zM.of [(0, .ref (G.1 130)), (1, .int a1), (2, .int a2), (3, .int a3)] (by decide) (Nat.le_of_ble_eq_true rfl) rfl ?_
  refine (?_ : zR G l d "LoveLocksModel" cX12_waysBy 7 (some .long) (some (.long o.1)) o.2 (fun x => x = o) 0 [(0, .ref (G.1 130)), (1, .int a1), (2, .int a2), (3, .int a3)] [] w (f_X12_waysBy w a1 a2 a3)) o ho rfl
  rw [f_X12_waysBy]
  refine r_lconst 1 dX12_waysBy_0 rfl zcl_1 ?_
  refine r_lstore 3 [(4, .long (1 : Int64)), (0, .ref (G.1 130)), (1, .int a1), (2, .int a2), (3, .int a3)] dX12_waysBy_1 rfl (by decide) rfl ?_
  refine r_iconst 4 dX12_waysBy_3 rfl zci_0 ?_
  refine r_istore 6 [(6, .int (0 : Int32)), (4, .long (1 : Int64)), (0, .ref (G.1 130)), (1, .int a1), (2, .int a2), (3, .int a3)] dX12_waysBy_4 rfl (by decide) rfl ?_
  refine r_loopE [2, 3, 4, 5, 1, 0] (fun s1 => [(0, .ref (G.1 130)), (1, .int a1), (2, .int a2), (3, .int a3), (4, .long s1.1), (6, .int s1.2.1)]) (fun s1 => s1.2.2) 33 (fun q2 => [(4, .long q2.1)]) (fun q2 => q2.2) rfl rfl (fun s1 => ?_) (fun q2 => ?_)
  · rw [f_X12_waysBy_L6]
    refine r_iload 8 dX12_waysBy_6 rfl 5 rfl ?_
    refine r_bipush 10 dX12_waysBy_8 rfl zcb_20 ?_
    refine r_icmp_ge 33 13 dX12_waysBy_10 (by decide) rfl ?_ ?_
    · exact r_leaf [4] (lv2 := [(4, .long s1.1)]) rfl (fun h => h)
    · refine r_lload 15 dX12_waysBy_13 rfl 4 rfl ?_
      refine r_aload_n 16 dX12_waysBy_15 rfl 0 rfl rfl ?_
      refine r_iload 18 dX12_waysBy_16 rfl 5 rfl ?_
      refine r_iload_n 19 dX12_waysBy_18 rfl 1 rfl rfl ?_
      refine r_iload_n 20 dX12_waysBy_19 rfl 2 rfl rfl ?_
      refine r_iload_n 21 dX12_waysBy_20 rfl 3 rfl rfl ?_
      refine r_callVjw 24 4 (ko := 130) [.int s1.2.1, .int a1, .int a2, .int a3] (st := [.long s1.1]) dX12_waysBy_21 rfl rfl (fun r h => c_X12_waysOf G l (d - 1) (by omega) s1.2.2 s1.2.1 a1 a2 a3 r h) zl_130 (ce_130 G _) rfl rfl wc_X12_waysOf wz_X12 wl_X12_231 wi_X12_waysOf ws_X12_waysOf zd_X12_waysOf (by decide) (by omega) rfl (Nat.le_of_ble_eq_true rfl) (fun r3 => ?_)
      refine r_lmul 25 dX12_waysBy_24 rfl ?_
      refine r_lstore 27 [(4, .long (s1.1 * r3.1)), (0, .ref (G.1 130)), (1, .int a1), (2, .int a2), (3, .int a3), (6, .int s1.2.1)] dX12_waysBy_25 rfl (by decide) rfl ?_
      refine r_iinc 30 5 [(6, .int (s1.2.1 + (1 : Int32))), (4, .long (s1.1 * r3.1)), (0, .ref (G.1 130)), (1, .int a1), (2, .int a2), (3, .int a3)] dX12_waysBy_27 rfl rfl zci_1 (by decide) rfl ?_
      refine r_goto 6 dX12_waysBy_30 (by decide) ?_
      exact r_leaf [2, 3, 4, 5, 1, 0] (lv2 := [(0, .ref (G.1 130)), (1, .int a1), (2, .int a2), (3, .int a3), (4, .long (s1.1 * r3.1)), (6, .int (s1.2.1 + (1 : Int32)))]) rfl (fun h => h)
  · refine r_lload 35 dX12_waysBy_33 rfl 0 rfl ?_
    exact r_lret dX12_waysBy_35 rfl z_kjw
-- X12_ways
def f_X12_ways (w : ZW) : Option (Int64 × ZW) :=
  (f_X12_waysBy w (-4 : Int32) (-4 : Int32) (0 : Int32)).bind fun r1 : Int64 × ZW =>
  some (r1.1, r1.2)
set_option maxHeartbeats 4000000 in
set_option maxRecDepth 100000 in
theorem c_X12_ways (G : ZG) (l : Launch) (d : Nat) (hd : 6 ≤ d) (w : ZW) : ∀ o, f_X12_ways w = some o → zM G l d yX12_ways cX12_ways 1 (some .long) [.ref (G.1 130)] w (some (.long o.1)) o.2 := by
  intro o ho
  refine zM.of [(0, .ref (G.1 130))] (by decide) (Nat.le_of_ble_eq_true rfl) rfl ?_
  refine (?_ : zR G l d "LoveLocksModel" cX12_ways 1 (some .long) (some (.long o.1)) o.2 (fun x => x = o) 0 [(0, .ref (G.1 130))] [] w (f_X12_ways w)) o ho rfl
  rw [f_X12_ways]
  refine r_aload_n 1 dX12_ways_0 rfl 0 rfl rfl ?_
  refine r_bipush 3 dX12_ways_1 rfl zcb_m4 ?_
  refine r_bipush 5 dX12_ways_3 rfl zcb_m4 ?_
  refine r_iconst 6 dX12_ways_5 rfl zci_0 ?_
  refine r_callVjw 9 3 (ko := 130) [.int (-4 : Int32), .int (-4 : Int32), .int (0 : Int32)] (st := []) dX12_ways_6 rfl rfl (fun r h => c_X12_waysBy G l (d - 1) (by omega) w (-4 : Int32) (-4 : Int32) (0 : Int32) r h) zl_130 (ce_130 G _) rfl rfl wc_X12_waysBy wz_X12 wl_X12_235 wi_X12_waysBy ws_X12_waysBy zd_X12_waysBy (by decide) (by omega) rfl (Nat.le_of_ble_eq_true rfl) (fun r1 => ?_)
  exact r_lret dX12_ways_9 rfl z_kjw
-- X12_isOn
def f_X12_isOn (w : ZW) (a1 : Int32) (a2 : Int32) (a3 : Int32) : Option (Int32 × ZW) :=
  if a3 = 0 then
  (f_X12_waysBy w a1 a2 (1 : Int32)).bind fun r2 : Int64 × ZW =>
    if (lg_cmp r2.1 (0 : Int64)) ≤ 0 then
    some ((0 : Int32), r2.2)
  else
    some ((1 : Int32), r2.2)
else
  (f_X12_waysBy w a1 a2 (2 : Int32)).bind fun r1 : Int64 × ZW =>
    if (lg_cmp r1.1 (0 : Int64)) = 0 then
    some ((1 : Int32), r1.2)
  else
    some ((0 : Int32), r1.2)
set_option maxHeartbeats 4000000 in
set_option maxRecDepth 100000 in
theorem c_X12_isOn (G : ZG) (l : Launch) (d : Nat) (hd : 6 ≤ d) (w : ZW) (a1 : Int32) (a2 : Int32) (a3 : Int32) : ∀ o, f_X12_isOn w a1 a2 a3 = some o → zM G l d yX12_isOn cX12_isOn 4 (some .boolean) [.ref (G.1 130), .int a1, .int a2, .int a3] w (some (.int o.1)) o.2 := by
  intro o ho
  refine zM.of [(0, .ref (G.1 130)), (1, .int a1), (2, .int a2), (3, .int a3)] (by decide) (Nat.le_of_ble_eq_true rfl) rfl ?_
  refine (?_ : zR G l d "LoveLocksModel" cX12_isOn 4 (some .boolean) (some (.int o.1)) o.2 (fun x => x = o) 0 [(0, .ref (G.1 130)), (1, .int a1), (2, .int a2), (3, .int a3)] [] w (f_X12_isOn w a1 a2 a3)) o ho rfl
  rw [f_X12_isOn]
  refine r_iload_n 1 dX12_isOn_0 rfl 3 rfl rfl ?_
  refine r_if_ne 24 4 dX12_isOn_1 (by decide) rfl ?_ ?_
  · refine r_aload_n 25 dX12_isOn_24 rfl 0 rfl rfl ?_
    refine r_iload_n 26 dX12_isOn_25 rfl 1 rfl rfl ?_
    refine r_iload_n 27 dX12_isOn_26 rfl 2 rfl rfl ?_
    refine r_iconst 28 dX12_isOn_27 rfl zci_2 ?_
    refine r_callVjw 31 3 (ko := 130) [.int a1, .int a2, .int (2 : Int32)] (st := []) dX12_isOn_28 rfl rfl (fun r h => c_X12_waysBy G l (d - 1) (by omega) w a1 a2 (2 : Int32) r h) zl_130 (ce_130 G _) rfl rfl wc_X12_waysBy wz_X12 wl_X12_235 wi_X12_waysBy ws_X12_waysBy zd_X12_waysBy (by decide) (by omega) rfl (Nat.le_of_ble_eq_true rfl) (fun r1 => ?_)
    refine r_lconst 32 dX12_isOn_31 rfl zcl_0 ?_
    refine r_lcmp 33 dX12_isOn_32 rfl ?_
    refine r_if_ne 40 36 dX12_isOn_33 (by decide) rfl ?_ ?_
    · refine r_iconst 41 dX12_isOn_40 rfl zci_0 ?_
      exact r_zret dX12_isOn_41 rfl rfl z_kiw
    · refine r_iconst 37 dX12_isOn_36 rfl zci_1 ?_
      refine r_goto 41 dX12_isOn_37 (by decide) ?_
      exact r_zret dX12_isOn_41 rfl rfl z_kiw
  · refine r_aload_n 5 dX12_isOn_4 rfl 0 rfl rfl ?_
    refine r_iload_n 6 dX12_isOn_5 rfl 1 rfl rfl ?_
    refine r_iload_n 7 dX12_isOn_6 rfl 2 rfl rfl ?_
    refine r_iconst 8 dX12_isOn_7 rfl zci_1 ?_
    refine r_callVjw 11 3 (ko := 130) [.int a1, .int a2, .int (1 : Int32)] (st := []) dX12_isOn_8 rfl rfl (fun r h => c_X12_waysBy G l (d - 1) (by omega) w a1 a2 (1 : Int32) r h) zl_130 (ce_130 G _) rfl rfl wc_X12_waysBy wz_X12 wl_X12_235 wi_X12_waysBy ws_X12_waysBy zd_X12_waysBy (by decide) (by omega) rfl (Nat.le_of_ble_eq_true rfl) (fun r2 => ?_)
    refine r_lconst 12 dX12_isOn_11 rfl zcl_0 ?_
    refine r_lcmp 13 dX12_isOn_12 rfl ?_
    refine r_if_le 20 16 dX12_isOn_13 (by decide) rfl ?_ ?_
    · refine r_iconst 21 dX12_isOn_20 rfl zci_0 ?_
      refine r_goto 41 dX12_isOn_21 (by decide) ?_
      exact r_zret dX12_isOn_41 rfl rfl z_kiw
    · refine r_iconst 17 dX12_isOn_16 rfl zci_1 ?_
      refine r_goto 41 dX12_isOn_17 (by decide) ?_
      exact r_zret dX12_isOn_41 rfl rfl z_kiw
-- X12_who
def f_X12_who_L49 (a1 : Int32) (a2 : Int32) (s4 : Int32 × Int32 × ZW) : Option ((Int32 × Int32 × ZW) ⊕ (Int32 × ZW)) :=
  if (s4.2.2.1 130 16) ≤ s4.2.1 then
  some (.inr (s4.1, s4.2.2))
else
  (f_X12_isOn s4.2.2 a1 s4.2.1 a2).bind fun r6 : Int32 × ZW =>
    if r6.1 = 0 then
    some (.inl (s4.1 ||| (0 : Int32), s4.2.1 + (1 : Int32), r6.2))
  else
    z_let (s4.1 ||| ((1 : Int32) <<< (s4.2.1 &&& 31))) fun y7 =>
      some (.inl (y7, s4.2.1 + (1 : Int32), r6.2))
def f_X12_who (w : ZW) (a1 : Int32) (a2 : Int32) : Option (Int32 × ZW) :=
  (f_X12_isLock w a1).bind fun r1 : Int32 =>
  if r1 = 0 then
  some ((-1 : Int32), w)
else
  (f_X12_in a2.toInt64 (0 : Int64) (1 : Int64)).bind fun r2 : Int32 =>
    if r2 = 0 then
    some ((-1 : Int32), w)
  else
    if z_in a1 14 then
      if (w.1 144 a1.toNatClampNeg) = 0 then
      some ((-2 : Int32), w)
    else
      (f_X12_ways w).bind fun r3 : Int64 × ZW =>
        if (lg_cmp r3.1 (0 : Int64)) = 0 then
        some ((-4 : Int32), r3.2)
      else
        (z_iter (f_X12_who_L49 a1 a2) z_fuel ((0 : Int32), (0 : Int32), r3.2)).bind (fun q5 : Int32 × ZW =>
          some (q5.1, q5.2))
    else none
set_option maxHeartbeats 4000000 in
set_option maxRecDepth 100000 in
theorem c_X12_who (G : ZG) (l : Launch) (d : Nat) (hd : 7 ≤ d) (w : ZW) (a1 : Int32) (a2 : Int32) : ∀ o, f_X12_who w a1 a2 = some o → zM G l d yX12_who cX12_who 5 (some .int) [.ref (G.1 130), .int a1, .int a2] w (some (.int o.1)) o.2 := by
  intro o ho
  refine zM.of [(0, .ref (G.1 130)), (1, .int a1), (2, .int a2)] (by decide) (Nat.le_of_ble_eq_true rfl) rfl ?_
  refine (?_ : zR G l d "LoveLocksModel" cX12_who 5 (some .int) (some (.int o.1)) o.2 (fun x => x = o) 0 [(0, .ref (G.1 130)), (1, .int a1), (2, .int a2)] [] w (f_X12_who w a1 a2)) o ho rfl
  rw [f_X12_who]
  refine r_aload_n 1 dX12_who_0 rfl 0 rfl rfl ?_
  refine r_iload_n 2 dX12_who_1 rfl 1 rfl rfl ?_
  refine r_callVi 5 1 (ko := 130) [.int a1] (st := []) dX12_who_2 rfl rfl (fun r h => c_X12_isLock G l (d - 1) (by omega) w a1 r h) zl_130 (ce_130 G _) rfl rfl wc_X12_isLock wz_X12 wl_X12_138 wi_X12_isLock ws_X12_isLock zd_X12_isLock (by decide) (by omega) rfl (Nat.le_of_ble_eq_true rfl) (fun r1 => ?_)
  refine r_if_eq 18 8 dX12_who_5 (by decide) rfl ?_ ?_
  · refine r_iconst 19 dX12_who_18 rfl zci_m1 ?_
    exact r_iret dX12_who_19 rfl z_kiw
  · refine r_iload_n 9 dX12_who_8 rfl 2 rfl rfl ?_
    refine r_i2l 10 dX12_who_9 rfl ?_
    refine r_lconst 11 dX12_who_10 rfl zcl_0 ?_
    refine r_lconst 12 dX12_who_11 rfl zcl_1 ?_
    refine r_callSi 15 3 [.long a2.toInt64, .long (0 : Int64), .long (1 : Int64)] (st := []) dX12_who_12 rfl rfl (fun r h => c_X12_in G l (d - 1) (by omega) w a2.toInt64 (0 : Int64) (1 : Int64) r h) wc_X12_in wz_X12 wl_X12_111 wst_X12_in zd_X12_in (by decide) (by omega) rfl (Nat.le_of_ble_eq_true rfl) (fun r2 => ?_)
    refine r_if_ne 20 18 dX12_who_15 (by decide) rfl ?_ ?_
    · refine r_aload_n 21 dX12_who_20 rfl 0 rfl rfl ?_
      refine r_get 24 130 20 dX12_who_21 rfl zl_130 (ce_130 G _) rfl inz12 (by decide) wf_X12_49 rfl ?_
      refine r_iload_n 25 dX12_who_24 rfl 1 rfl rfl ?_
      refine r_iald 26 144 14 dX12_who_25 rfl zl_144 (ce_144 G _) ?_
      refine r_if_ne 32 29 dX12_who_26 (by decide) rfl ?_ ?_
      · refine r_aload_n 33 dX12_who_32 rfl 0 rfl rfl ?_
        refine r_callVjw 36 0 (ko := 130) [] (st := []) dX12_who_33 rfl rfl (fun r h => c_X12_ways G l (d - 1) (by omega) w r h) zl_130 (ce_130 G _) rfl rfl wc_X12_ways wz_X12 wl_X12_239 wi_X12_ways ws_X12_ways zd_X12_ways (by decide) (by omega) rfl (Nat.le_of_ble_eq_true rfl) (fun r3 => ?_)
        refine r_lconst 37 dX12_who_36 rfl zcl_0 ?_
        refine r_lcmp 38 dX12_who_37 rfl ?_
        refine r_if_ne 44 41 dX12_who_38 (by decide) rfl ?_ ?_
        · refine r_iconst 45 dX12_who_44 rfl zci_0 ?_
          refine r_istore_n 46 [(3, .int (0 : Int32)), (0, .ref (G.1 130)), (1, .int a1), (2, .int a2)] dX12_who_45 rfl rfl (by decide) rfl ?_
          refine r_iconst 47 dX12_who_46 rfl zci_0 ?_
          refine r_istore 49 [(4, .int (0 : Int32)), (3, .int (0 : Int32)), (0, .ref (G.1 130)), (1, .int a1), (2, .int a2)] dX12_who_47 rfl (by decide) rfl ?_
          refine r_loopE [2, 3, 4, 1, 0] (fun s4 => [(0, .ref (G.1 130)), (1, .int a1), (2, .int a2), (3, .int s4.1), (4, .int s4.2.1)]) (fun s4 => s4.2.2) 86 (fun q5 => [(3, .int q5.1)]) (fun q5 => q5.2) rfl rfl (fun s4 => ?_) (fun q5 => ?_)
          · rw [f_X12_who_L49]
            refine r_iload 51 dX12_who_49 rfl 4 rfl ?_
            refine r_aload_n 52 dX12_who_51 rfl 0 rfl rfl ?_
            refine r_get 55 130 16 dX12_who_52 rfl zl_130 (ce_130 G _) rfl inz12 (by decide) wf_X12_175 rfl ?_
            refine r_icmp_ge 86 58 dX12_who_55 (by decide) rfl ?_ ?_
            · exact r_leaf [3] (lv2 := [(3, .int s4.1)]) rfl (fun h => h)
            · refine r_iload_n 59 dX12_who_58 rfl 3 rfl rfl ?_
              refine r_aload_n 60 dX12_who_59 rfl 0 rfl rfl ?_
              refine r_iload_n 61 dX12_who_60 rfl 1 rfl rfl ?_
              refine r_iload 63 dX12_who_61 rfl 4 rfl ?_
              refine r_iload_n 64 dX12_who_63 rfl 2 rfl rfl ?_
              refine r_callViw 67 3 (ko := 130) [.int a1, .int s4.2.1, .int a2] (st := [.int s4.1]) dX12_who_64 rfl rfl (fun r h => c_X12_isOn G l (d - 1) (by omega) s4.2.2 a1 s4.2.1 a2 r h) zl_130 (ce_130 G _) rfl rfl wc_X12_isOn wz_X12 wl_X12_243 wi_X12_isOn ws_X12_isOn zd_X12_isOn (by decide) (by omega) rfl (Nat.le_of_ble_eq_true rfl) (fun r6 => ?_)
              refine r_if_eq 77 70 dX12_who_67 (by decide) rfl ?_ ?_
              · refine r_iconst 78 dX12_who_77 rfl zci_0 ?_
                refine r_ior 79 dX12_who_78 rfl ?_
                refine r_istore_n 80 [(3, .int (s4.1 ||| (0 : Int32))), (0, .ref (G.1 130)), (1, .int a1), (2, .int a2), (4, .int s4.2.1)] dX12_who_79 rfl rfl (by decide) rfl ?_
                refine r_iinc 83 4 [(4, .int (s4.2.1 + (1 : Int32))), (3, .int (s4.1 ||| (0 : Int32))), (0, .ref (G.1 130)), (1, .int a1), (2, .int a2)] dX12_who_80 rfl rfl zci_1 (by decide) rfl ?_
                refine r_goto 49 dX12_who_83 (by decide) ?_
                exact r_leaf [2, 3, 4, 1, 0] (lv2 := [(0, .ref (G.1 130)), (1, .int a1), (2, .int a2), (3, .int (s4.1 ||| (0 : Int32))), (4, .int (s4.2.1 + (1 : Int32)))]) rfl (fun h => h)
              · refine r_iconst 71 dX12_who_70 rfl zci_1 ?_
                refine r_iload 73 dX12_who_71 rfl 4 rfl ?_
                refine r_ishl 74 dX12_who_73 rfl ?_
                refine r_goto 78 dX12_who_74 (by decide) ?_
                refine r_ior 79 dX12_who_78 rfl ?_
                refine r_topi (fun y7 => ?_)
                refine r_istore_n 80 [(3, .int y7), (0, .ref (G.1 130)), (1, .int a1), (2, .int a2), (4, .int s4.2.1)] dX12_who_79 rfl rfl (by decide) rfl ?_
                refine r_iinc 83 4 [(4, .int (s4.2.1 + (1 : Int32))), (3, .int y7), (0, .ref (G.1 130)), (1, .int a1), (2, .int a2)] dX12_who_80 rfl rfl zci_1 (by decide) rfl ?_
                refine r_goto 49 dX12_who_83 (by decide) ?_
                exact r_leaf [2, 3, 4, 1, 0] (lv2 := [(0, .ref (G.1 130)), (1, .int a1), (2, .int a2), (3, .int y7), (4, .int (s4.2.1 + (1 : Int32)))]) rfl (fun h => h)
          · refine r_iload_n 87 dX12_who_86 rfl 0 rfl rfl ?_
            exact r_iret dX12_who_87 rfl z_kiw
        · refine r_bipush 43 dX12_who_41 rfl zcb_m4 ?_
          exact r_iret dX12_who_43 rfl z_kiw
      · refine r_bipush 31 dX12_who_29 rfl zcb_m2 ?_
        exact r_iret dX12_who_31 rfl z_kiw
    · refine r_iconst 19 dX12_who_18 rfl zci_m1 ?_
      exact r_iret dX12_who_19 rfl z_kiw
-- X12_where
def f_X12_where_L45 (a1 : Int32) (a2 : Int32) (s4 : Int32 × Int32 × ZW) : Option ((Int32 × Int32 × ZW) ⊕ (Int32 × ZW)) :=
  if (s4.2.2.1 130 2) ≤ s4.2.1 then
  some (.inr (s4.1, s4.2.2))
else
  if z_in s4.2.1 14 then
    if (s4.2.2.1 144 s4.2.1.toNatClampNeg) ≤ 0 then
    some (.inl (s4.1 ||| (0 : Int32), s4.2.1 + (1 : Int32), s4.2.2))
  else
    (f_X12_isOn s4.2.2 s4.2.1 a1 a2).bind fun r6 : Int32 × ZW =>
      if r6.1 = 0 then
      some (.inl (s4.1 ||| (0 : Int32), s4.2.1 + (1 : Int32), r6.2))
    else
      z_let (s4.1 ||| ((1 : Int32) <<< (s4.2.1 &&& 31))) fun y7 =>
        some (.inl (y7, s4.2.1 + (1 : Int32), r6.2))
  else none
def f_X12_where (w : ZW) (a1 : Int32) (a2 : Int32) : Option (Int32 × ZW) :=
  (f_X12_in a1.toInt64 (0 : Int64) (((w.1 130 16) - (1 : Int32)).toInt64)).bind fun r1 : Int32 =>
  if r1 = 0 then
  some ((-1 : Int32), w)
else
  (f_X12_in a2.toInt64 (0 : Int64) (1 : Int64)).bind fun r2 : Int32 =>
    if r2 = 0 then
    some ((-1 : Int32), w)
  else
    (f_X12_ways w).bind fun r3 : Int64 × ZW =>
      if (lg_cmp r3.1 (0 : Int64)) = 0 then
      some ((-4 : Int32), r3.2)
    else
      (z_iter (f_X12_where_L45 a1 a2) z_fuel ((0 : Int32), (0 : Int32), r3.2)).bind (fun q5 : Int32 × ZW =>
        some (q5.1, q5.2))
set_option maxHeartbeats 4000000 in
set_option maxRecDepth 100000 in
theorem c_X12_where (G : ZG) (l : Launch) (d : Nat) (hd : 7 ≤ d) (w : ZW) (a1 : Int32) (a2 : Int32) : ∀ o, f_X12_where w a1 a2 = some o → zM G l d yX12_where cX12_where 5 (some .int) [.ref (G.1 130), .int a1, .int a2] w (some (.int o.1)) o.2 := by
  intro o ho
  refine zM.of [(0, .ref (G.1 130)), (1, .int a1), (2, .int a2)] (by decide) (Nat.le_of_ble_eq_true rfl) rfl ?_
  refine (?_ : zR G l d "LoveLocksModel" cX12_where 5 (some .int) (some (.int o.1)) o.2 (fun x => x = o) 0 [(0, .ref (G.1 130)), (1, .int a1), (2, .int a2)] [] w (f_X12_where w a1 a2)) o ho rfl
  rw [f_X12_where]
  refine r_iload_n 1 dX12_where_0 rfl 1 rfl rfl ?_
  refine r_i2l 2 dX12_where_1 rfl ?_
  refine r_lconst 3 dX12_where_2 rfl zcl_0 ?_
  refine r_aload_n 4 dX12_where_3 rfl 0 rfl rfl ?_
  refine r_get 7 130 16 dX12_where_4 rfl zl_130 (ce_130 G _) rfl inz12 (by decide) wf_X12_175 rfl ?_
  refine r_iconst 8 dX12_where_7 rfl zci_1 ?_
  refine r_isub 9 dX12_where_8 rfl ?_
  refine r_i2l 10 dX12_where_9 rfl ?_
  refine r_callSi 13 3 [.long a1.toInt64, .long (0 : Int64), .long (((w.1 130 16) - (1 : Int32)).toInt64)] (st := []) dX12_where_10 rfl rfl (fun r h => c_X12_in G l (d - 1) (by omega) w a1.toInt64 (0 : Int64) (((w.1 130 16) - (1 : Int32)).toInt64) r h) wc_X12_in wz_X12 wl_X12_111 wst_X12_in zd_X12_in (by decide) (by omega) rfl (Nat.le_of_ble_eq_true rfl) (fun r1 => ?_)
  refine r_if_eq 26 16 dX12_where_13 (by decide) rfl ?_ ?_
  · refine r_iconst 27 dX12_where_26 rfl zci_m1 ?_
    exact r_iret dX12_where_27 rfl z_kiw
  · refine r_iload_n 17 dX12_where_16 rfl 2 rfl rfl ?_
    refine r_i2l 18 dX12_where_17 rfl ?_
    refine r_lconst 19 dX12_where_18 rfl zcl_0 ?_
    refine r_lconst 20 dX12_where_19 rfl zcl_1 ?_
    refine r_callSi 23 3 [.long a2.toInt64, .long (0 : Int64), .long (1 : Int64)] (st := []) dX12_where_20 rfl rfl (fun r h => c_X12_in G l (d - 1) (by omega) w a2.toInt64 (0 : Int64) (1 : Int64) r h) wc_X12_in wz_X12 wl_X12_111 wst_X12_in zd_X12_in (by decide) (by omega) rfl (Nat.le_of_ble_eq_true rfl) (fun r2 => ?_)
    refine r_if_ne 28 26 dX12_where_23 (by decide) rfl ?_ ?_
    · refine r_aload_n 29 dX12_where_28 rfl 0 rfl rfl ?_
      refine r_callVjw 32 0 (ko := 130) [] (st := []) dX12_where_29 rfl rfl (fun r h => c_X12_ways G l (d - 1) (by omega) w r h) zl_130 (ce_130 G _) rfl rfl wc_X12_ways wz_X12 wl_X12_239 wi_X12_ways ws_X12_ways zd_X12_ways (by decide) (by omega) rfl (Nat.le_of_ble_eq_true rfl) (fun r3 => ?_)
      refine r_lconst 33 dX12_where_32 rfl zcl_0 ?_
      refine r_lcmp 34 dX12_where_33 rfl ?_
      refine r_if_ne 40 37 dX12_where_34 (by decide) rfl ?_ ?_
      · refine r_iconst 41 dX12_where_40 rfl zci_0 ?_
        refine r_istore_n 42 [(3, .int (0 : Int32)), (0, .ref (G.1 130)), (1, .int a1), (2, .int a2)] dX12_where_41 rfl rfl (by decide) rfl ?_
        refine r_iconst 43 dX12_where_42 rfl zci_0 ?_
        refine r_istore 45 [(4, .int (0 : Int32)), (3, .int (0 : Int32)), (0, .ref (G.1 130)), (1, .int a1), (2, .int a2)] dX12_where_43 rfl (by decide) rfl ?_
        refine r_loopE [2, 3, 4, 1, 0] (fun s4 => [(0, .ref (G.1 130)), (1, .int a1), (2, .int a2), (3, .int s4.1), (4, .int s4.2.1)]) (fun s4 => s4.2.2) 92 (fun q5 => [(3, .int q5.1)]) (fun q5 => q5.2) rfl rfl (fun s4 => ?_) (fun q5 => ?_)
        · rw [f_X12_where_L45]
          refine r_iload 47 dX12_where_45 rfl 4 rfl ?_
          refine r_aload_n 48 dX12_where_47 rfl 0 rfl rfl ?_
          refine r_get 51 130 2 dX12_where_48 rfl zl_130 (ce_130 G _) rfl inz12 (by decide) wf_X12_115 rfl ?_
          refine r_icmp_ge 92 54 dX12_where_51 (by decide) rfl ?_ ?_
          · exact r_leaf [3] (lv2 := [(3, .int s4.1)]) rfl (fun h => h)
          · refine r_iload_n 55 dX12_where_54 rfl 3 rfl rfl ?_
            refine r_aload_n 56 dX12_where_55 rfl 0 rfl rfl ?_
            refine r_get 59 130 20 dX12_where_56 rfl zl_130 (ce_130 G _) rfl inz12 (by decide) wf_X12_49 rfl ?_
            refine r_iload 61 dX12_where_59 rfl 4 rfl ?_
            refine r_iald 62 144 14 dX12_where_61 rfl zl_144 (ce_144 G _) ?_
            refine r_if_le 83 65 dX12_where_62 (by decide) rfl ?_ ?_
            · refine r_iconst 84 dX12_where_83 rfl zci_0 ?_
              refine r_ior 85 dX12_where_84 rfl ?_
              refine r_istore_n 86 [(3, .int (s4.1 ||| (0 : Int32))), (0, .ref (G.1 130)), (1, .int a1), (2, .int a2), (4, .int s4.2.1)] dX12_where_85 rfl rfl (by decide) rfl ?_
              refine r_iinc 89 4 [(4, .int (s4.2.1 + (1 : Int32))), (3, .int (s4.1 ||| (0 : Int32))), (0, .ref (G.1 130)), (1, .int a1), (2, .int a2)] dX12_where_86 rfl rfl zci_1 (by decide) rfl ?_
              refine r_goto 45 dX12_where_89 (by decide) ?_
              exact r_leaf [2, 3, 4, 1, 0] (lv2 := [(0, .ref (G.1 130)), (1, .int a1), (2, .int a2), (3, .int (s4.1 ||| (0 : Int32))), (4, .int (s4.2.1 + (1 : Int32)))]) rfl (fun h => h)
            · refine r_aload_n 66 dX12_where_65 rfl 0 rfl rfl ?_
              refine r_iload 68 dX12_where_66 rfl 4 rfl ?_
              refine r_iload_n 69 dX12_where_68 rfl 1 rfl rfl ?_
              refine r_iload_n 70 dX12_where_69 rfl 2 rfl rfl ?_
              refine r_callViw 73 3 (ko := 130) [.int s4.2.1, .int a1, .int a2] (st := [.int s4.1]) dX12_where_70 rfl rfl (fun r h => c_X12_isOn G l (d - 1) (by omega) s4.2.2 s4.2.1 a1 a2 r h) zl_130 (ce_130 G _) rfl rfl wc_X12_isOn wz_X12 wl_X12_243 wi_X12_isOn ws_X12_isOn zd_X12_isOn (by decide) (by omega) rfl (Nat.le_of_ble_eq_true rfl) (fun r6 => ?_)
              refine r_if_eq 83 76 dX12_where_73 (by decide) rfl ?_ ?_
              · refine r_iconst 84 dX12_where_83 rfl zci_0 ?_
                refine r_ior 85 dX12_where_84 rfl ?_
                refine r_istore_n 86 [(3, .int (s4.1 ||| (0 : Int32))), (0, .ref (G.1 130)), (1, .int a1), (2, .int a2), (4, .int s4.2.1)] dX12_where_85 rfl rfl (by decide) rfl ?_
                refine r_iinc 89 4 [(4, .int (s4.2.1 + (1 : Int32))), (3, .int (s4.1 ||| (0 : Int32))), (0, .ref (G.1 130)), (1, .int a1), (2, .int a2)] dX12_where_86 rfl rfl zci_1 (by decide) rfl ?_
                refine r_goto 45 dX12_where_89 (by decide) ?_
                exact r_leaf [2, 3, 4, 1, 0] (lv2 := [(0, .ref (G.1 130)), (1, .int a1), (2, .int a2), (3, .int (s4.1 ||| (0 : Int32))), (4, .int (s4.2.1 + (1 : Int32)))]) rfl (fun h => h)
              · refine r_iconst 77 dX12_where_76 rfl zci_1 ?_
                refine r_iload 79 dX12_where_77 rfl 4 rfl ?_
                refine r_ishl 80 dX12_where_79 rfl ?_
                refine r_goto 84 dX12_where_80 (by decide) ?_
                refine r_ior 85 dX12_where_84 rfl ?_
                refine r_topi (fun y7 => ?_)
                refine r_istore_n 86 [(3, .int y7), (0, .ref (G.1 130)), (1, .int a1), (2, .int a2), (4, .int s4.2.1)] dX12_where_85 rfl rfl (by decide) rfl ?_
                refine r_iinc 89 4 [(4, .int (s4.2.1 + (1 : Int32))), (3, .int y7), (0, .ref (G.1 130)), (1, .int a1), (2, .int a2)] dX12_where_86 rfl rfl zci_1 (by decide) rfl ?_
                refine r_goto 45 dX12_where_89 (by decide) ?_
                exact r_leaf [2, 3, 4, 1, 0] (lv2 := [(0, .ref (G.1 130)), (1, .int a1), (2, .int a2), (3, .int y7), (4, .int (s4.2.1 + (1 : Int32)))]) rfl (fun h => h)
        · refine r_iload_n 93 dX12_where_92 rfl 0 rfl rfl ?_
          exact r_iret dX12_where_93 rfl z_kiw
      · refine r_bipush 39 dX12_where_37 rfl zcb_m4 ?_
        exact r_iret dX12_where_39 rfl z_kiw
    · refine r_iconst 27 dX12_where_26 rfl zci_m1 ?_
      exact r_iret dX12_where_27 rfl z_kiw
-- X12_nightly
def f_X12_nightly (w : ZW) (a1 : Int32) : Option (Int32 × ZW) :=
  (f_X12_in a1.toInt64 (1 : Int64) (3 : Int64)).bind fun r1 : Int32 =>
  if r1 = 0 then
  some ((-1 : Int32), w)
else
  z_let (z_upI w 130 25 a1) fun w2 =>
    some (w.1 130 25, w2)
set_option maxHeartbeats 4000000 in
set_option maxRecDepth 100000 in
theorem c_X12_nightly (G : ZG) (l : Launch) (d : Nat) (hd : 2 ≤ d) (w : ZW) (a1 : Int32) : ∀ o, f_X12_nightly w a1 = some o → zM G l d yX12_nightly cX12_nightly 3 (some .int) [.ref (G.1 130), .int a1] w (some (.int o.1)) o.2 := by
  intro o ho
  refine zM.of [(0, .ref (G.1 130)), (1, .int a1)] (by decide) (Nat.le_of_ble_eq_true rfl) rfl ?_
  refine (?_ : zR G l d "LoveLocksModel" cX12_nightly 3 (some .int) (some (.int o.1)) o.2 (fun x => x = o) 0 [(0, .ref (G.1 130)), (1, .int a1)] [] w (f_X12_nightly w a1)) o ho rfl
  rw [f_X12_nightly]
  refine r_iload_n 1 dX12_nightly_0 rfl 1 rfl rfl ?_
  refine r_i2l 2 dX12_nightly_1 rfl ?_
  refine r_lconst 3 dX12_nightly_2 rfl zcl_1 ?_
  refine r_ldc2 6 dX12_nightly_3 rfl wk_X12_246 ?_
  refine r_callSi 9 3 [.long a1.toInt64, .long (1 : Int64), .long (3 : Int64)] (st := []) dX12_nightly_6 rfl rfl (fun r h => c_X12_in G l (d - 1) (by omega) w a1.toInt64 (1 : Int64) (3 : Int64) r h) wc_X12_in wz_X12 wl_X12_111 wst_X12_in zd_X12_in (by decide) (by omega) rfl (Nat.le_of_ble_eq_true rfl) (fun r1 => ?_)
  refine r_if_ne 14 12 dX12_nightly_9 (by decide) rfl ?_ ?_
  · refine r_aload_n 15 dX12_nightly_14 rfl 0 rfl rfl ?_
    refine r_get 18 130 25 dX12_nightly_15 rfl zl_130 (ce_130 G _) rfl inz12 (by decide) wf_X12_65 rfl ?_
    refine r_istore_n 19 [(2, .int (w.1 130 25)), (0, .ref (G.1 130)), (1, .int a1)] dX12_nightly_18 rfl rfl (by decide) rfl ?_
    refine r_aload_n 20 dX12_nightly_19 rfl 1 rfl rfl ?_
    refine r_iload_n 21 dX12_nightly_20 rfl 2 rfl rfl ?_
    refine r_puti 24 130 25 dX12_nightly_21 rfl zl_130 (ce_130 G _) rfl inz12 tyX12_ok nmX12 (by decide) wf_X12_65 rfl rfl (Nat.le_of_ble_eq_true rfl) rfl ?_
    refine r_topw (fun w2 => ?_)
    refine r_iload_n 25 dX12_nightly_24 rfl 0 rfl rfl ?_
    exact r_iret dX12_nightly_25 rfl z_kiw
  · refine r_iconst 13 dX12_nightly_12 rfl zci_m1 ?_
    exact r_iret dX12_nightly_13 rfl z_kiw
-- X12_risk
def f_X12_risk_J88 (a2 : Int32) (a1 : Int32) (a3 : Int32) (k8 : Int32) (w9 : ZW) : Option (Int32 × ZW) :=
  if a2 = 0 then
  if z_in a1 6 then
    z_let (z_upI w9 149 a1.toNatClampNeg a3) fun w12 =>
    some (k8, w12)
  else none
else
  if a2 = (1 : Int32) then
    if z_in a1 6 then
      z_let (z_upI w9 150 a1.toNatClampNeg a3) fun w11 =>
      some (k8, w11)
    else none
  else
    if z_in a1 6 then
      z_let (z_upI w9 151 a1.toNatClampNeg a3) fun w10 =>
      some (k8, w10)
    else none
def f_X12_risk_J47 (a2 : Int32) (a1 : Int32) (a3 : Int32) (k3 : Int64) (k4 : Int64) (k5 : Int64) (w6 : ZW) : Option (Int32 × ZW) :=
  (f_X12_in k5 k4 k3).bind fun r7 : Int32 =>
  if r7 = 0 then
  some ((-1 : Int32), w6)
else
  if a2 = 0 then
    if z_in a1 6 then
      f_X12_risk_J88 a2 a1 a3 (w6.1 149 a1.toNatClampNeg) w6
    else none
  else
    if a2 = (1 : Int32) then
      if z_in a1 6 then
        f_X12_risk_J88 a2 a1 a3 (w6.1 150 a1.toNatClampNeg) w6
      else none
    else
      if z_in a1 6 then
        f_X12_risk_J88 a2 a1 a3 (w6.1 151 a1.toNatClampNeg) w6
      else none
def f_X12_risk (w : ZW) (a1 : Int32) (a2 : Int32) (a3 : Int32) : Option (Int32 × ZW) :=
  (f_X12_isPanel w a1).bind fun r1 : Int32 =>
  if r1 = 0 then
  some ((-1 : Int32), w)
else
  (f_X12_in a2.toInt64 (0 : Int64) (2 : Int64)).bind fun r2 : Int32 =>
    if r2 = 0 then
    some ((-1 : Int32), w)
  else
    if a2 = 0 then
      f_X12_risk_J47 a2 a1 a3 (99 : Int64) (0 : Int64) a3.toInt64 w
    else
      if a2 = (1 : Int32) then
        f_X12_risk_J47 a2 a1 a3 (9 : Int64) (0 : Int64) a3.toInt64 w
      else
        f_X12_risk_J47 a2 a1 a3 (5 : Int64) (0 : Int64) a3.toInt64 w
set_option maxHeartbeats 4000000 in
set_option maxRecDepth 100000 in
theorem c_X12_risk (G : ZG) (l : Launch) (d : Nat) (hd : 3 ≤ d) (w : ZW) (a1 : Int32) (a2 : Int32) (a3 : Int32) : ∀ o, f_X12_risk w a1 a2 a3 = some o → zM G l d yX12_risk cX12_risk 5 (some .int) [.ref (G.1 130), .int a1, .int a2, .int a3] w (some (.int o.1)) o.2 := by
  intro o ho
  refine zM.of [(0, .ref (G.1 130)), (1, .int a1), (2, .int a2), (3, .int a3)] (by decide) (Nat.le_of_ble_eq_true rfl) rfl ?_
  refine (?_ : zR G l d "LoveLocksModel" cX12_risk 5 (some .int) (some (.int o.1)) o.2 (fun x => x = o) 0 [(0, .ref (G.1 130)), (1, .int a1), (2, .int a2), (3, .int a3)] [] w (f_X12_risk w a1 a2 a3)) o ho rfl
  rw [f_X12_risk]
  have hJ88 : ∀ (k8 : Int32) (w9 : ZW), zR G l d "LoveLocksModel" cX12_risk 5 (some .int) (some (.int o.1)) o.2 (fun x => x = o) 88 [(0, .ref (G.1 130)), (1, .int a1), (2, .int a2), (3, .int a3)] [.int k8] w9 (f_X12_risk_J88 a2 a1 a3 k8 w9) := by
    intro k8 w9
    rw [f_X12_risk_J88]
    refine r_istore 90 [(4, .int k8), (0, .ref (G.1 130)), (1, .int a1), (2, .int a2), (3, .int a3)] dX12_risk_88 rfl (by decide) rfl ?_
    refine r_iload_n 91 dX12_risk_90 rfl 3 rfl rfl ?_
    refine r_if_ne 104 94 dX12_risk_91 (by decide) rfl ?_ ?_
    · refine r_iload_n 105 dX12_risk_104 rfl 3 rfl rfl ?_
      refine r_iconst 106 dX12_risk_105 rfl zci_1 ?_
      refine r_icmp_ne 119 109 dX12_risk_106 (by decide) rfl ?_ ?_
      · refine r_aload_n 120 dX12_risk_119 rfl 1 rfl rfl ?_
        refine r_get 123 130 28 dX12_risk_120 rfl zl_130 (ce_130 G _) rfl inz12 (by decide) wf_X12_75 rfl ?_
        refine r_iload_n 124 dX12_risk_123 rfl 2 rfl rfl ?_
        refine r_iload_n 125 dX12_risk_124 rfl 4 rfl rfl ?_
        refine r_iast 126 151 6 dX12_risk_125 rfl zl_151 (ce_151 G) ?_
        refine r_topw (fun w10 => ?_)
        refine r_iload 128 dX12_risk_126 rfl 0 rfl ?_
        exact r_iret dX12_risk_128 rfl z_kiw
      · refine r_aload_n 110 dX12_risk_109 rfl 1 rfl rfl ?_
        refine r_get 113 130 27 dX12_risk_110 rfl zl_130 (ce_130 G _) rfl inz12 (by decide) wf_X12_72 rfl ?_
        refine r_iload_n 114 dX12_risk_113 rfl 2 rfl rfl ?_
        refine r_iload_n 115 dX12_risk_114 rfl 4 rfl rfl ?_
        refine r_iast 116 150 6 dX12_risk_115 rfl zl_150 (ce_150 G) ?_
        refine r_topw (fun w11 => ?_)
        refine r_goto 126 dX12_risk_116 (by decide) ?_
        refine r_iload 128 dX12_risk_126 rfl 0 rfl ?_
        exact r_iret dX12_risk_128 rfl z_kiw
    · refine r_aload_n 95 dX12_risk_94 rfl 1 rfl rfl ?_
      refine r_get 98 130 26 dX12_risk_95 rfl zl_130 (ce_130 G _) rfl inz12 (by decide) wf_X12_69 rfl ?_
      refine r_iload_n 99 dX12_risk_98 rfl 2 rfl rfl ?_
      refine r_iload_n 100 dX12_risk_99 rfl 4 rfl rfl ?_
      refine r_iast 101 149 6 dX12_risk_100 rfl zl_149 (ce_149 G) ?_
      refine r_topw (fun w12 => ?_)
      refine r_goto 126 dX12_risk_101 (by decide) ?_
      refine r_iload 128 dX12_risk_126 rfl 0 rfl ?_
      exact r_iret dX12_risk_128 rfl z_kiw
  have hJ47 : ∀ (k3 : Int64) (k4 : Int64) (k5 : Int64) (w6 : ZW), zR G l d "LoveLocksModel" cX12_risk 5 (some .int) (some (.int o.1)) o.2 (fun x => x = o) 47 [(0, .ref (G.1 130)), (1, .int a1), (2, .int a2), (3, .int a3)] [.long k3, .long k4, .long k5] w6 (f_X12_risk_J47 a2 a1 a3 k3 k4 k5 w6) := by
    intro k3 k4 k5 w6
    rw [f_X12_risk_J47]
    refine r_callSi 50 3 [.long k5, .long k4, .long k3] (st := []) dX12_risk_47 rfl rfl (fun r h => c_X12_in G l (d - 1) (by omega) w6 k5 k4 k3 r h) wc_X12_in wz_X12 wl_X12_111 wst_X12_in zd_X12_in (by decide) (by omega) rfl (Nat.le_of_ble_eq_true rfl) (fun r7 => ?_)
    refine r_if_ne 55 53 dX12_risk_50 (by decide) rfl ?_ ?_
    · refine r_iload_n 56 dX12_risk_55 rfl 2 rfl rfl ?_
      refine r_if_ne 68 59 dX12_risk_56 (by decide) rfl ?_ ?_
      · refine r_iload_n 69 dX12_risk_68 rfl 2 rfl rfl ?_
        refine r_iconst 70 dX12_risk_69 rfl zci_1 ?_
        refine r_icmp_ne 82 73 dX12_risk_70 (by decide) rfl ?_ ?_
        · refine r_aload_n 83 dX12_risk_82 rfl 0 rfl rfl ?_
          refine r_get 86 130 28 dX12_risk_83 rfl zl_130 (ce_130 G _) rfl inz12 (by decide) wf_X12_75 rfl ?_
          refine r_iload_n 87 dX12_risk_86 rfl 1 rfl rfl ?_
          refine r_iald 88 151 6 dX12_risk_87 rfl zl_151 (ce_151 G _) ?_
          exact r_sub [0, 1, 2, 3] (lv2 := [(0, .ref (G.1 130)), (1, .int a1), (2, .int a2), (3, .int a3)]) rfl (hJ88 (w6.1 151 a1.toNatClampNeg) w6)
        · refine r_aload_n 74 dX12_risk_73 rfl 0 rfl rfl ?_
          refine r_get 77 130 27 dX12_risk_74 rfl zl_130 (ce_130 G _) rfl inz12 (by decide) wf_X12_72 rfl ?_
          refine r_iload_n 78 dX12_risk_77 rfl 1 rfl rfl ?_
          refine r_iald 79 150 6 dX12_risk_78 rfl zl_150 (ce_150 G _) ?_
          refine r_goto 88 dX12_risk_79 (by decide) ?_
          exact r_sub [0, 1, 2, 3] (lv2 := [(0, .ref (G.1 130)), (1, .int a1), (2, .int a2), (3, .int a3)]) rfl (hJ88 (w6.1 150 a1.toNatClampNeg) w6)
      · refine r_aload_n 60 dX12_risk_59 rfl 0 rfl rfl ?_
        refine r_get 63 130 26 dX12_risk_60 rfl zl_130 (ce_130 G _) rfl inz12 (by decide) wf_X12_69 rfl ?_
        refine r_iload_n 64 dX12_risk_63 rfl 1 rfl rfl ?_
        refine r_iald 65 149 6 dX12_risk_64 rfl zl_149 (ce_149 G _) ?_
        refine r_goto 88 dX12_risk_65 (by decide) ?_
        exact r_sub [0, 1, 2, 3] (lv2 := [(0, .ref (G.1 130)), (1, .int a1), (2, .int a2), (3, .int a3)]) rfl (hJ88 (w6.1 149 a1.toNatClampNeg) w6)
    · refine r_iconst 54 dX12_risk_53 rfl zci_m1 ?_
      exact r_iret dX12_risk_54 rfl z_kiw
  refine r_aload_n 1 dX12_risk_0 rfl 0 rfl rfl ?_
  refine r_iload_n 2 dX12_risk_1 rfl 1 rfl rfl ?_
  refine r_callVi 5 1 (ko := 130) [.int a1] (st := []) dX12_risk_2 rfl rfl (fun r h => c_X12_isPanel G l (d - 1) (by omega) w a1 r h) zl_130 (ce_130 G _) rfl rfl wc_X12_isPanel wz_X12 wl_X12_124 wi_X12_isPanel ws_X12_isPanel zd_X12_isPanel (by decide) (by omega) rfl (Nat.le_of_ble_eq_true rfl) (fun r1 => ?_)
  refine r_if_eq 53 8 dX12_risk_5 (by decide) rfl ?_ ?_
  · refine r_iconst 54 dX12_risk_53 rfl zci_m1 ?_
    exact r_iret dX12_risk_54 rfl z_kiw
  · refine r_iload_n 9 dX12_risk_8 rfl 2 rfl rfl ?_
    refine r_i2l 10 dX12_risk_9 rfl ?_
    refine r_lconst 11 dX12_risk_10 rfl zcl_0 ?_
    refine r_ldc2 14 dX12_risk_11 rfl wk_X12_128 ?_
    refine r_callSi 17 3 [.long a2.toInt64, .long (0 : Int64), .long (2 : Int64)] (st := []) dX12_risk_14 rfl rfl (fun r h => c_X12_in G l (d - 1) (by omega) w a2.toInt64 (0 : Int64) (2 : Int64) r h) wc_X12_in wz_X12 wl_X12_111 wst_X12_in zd_X12_in (by decide) (by omega) rfl (Nat.le_of_ble_eq_true rfl) (fun r2 => ?_)
    refine r_if_eq 53 20 dX12_risk_17 (by decide) rfl ?_ ?_
    · refine r_iconst 54 dX12_risk_53 rfl zci_m1 ?_
      exact r_iret dX12_risk_54 rfl z_kiw
    · refine r_iload_n 21 dX12_risk_20 rfl 3 rfl rfl ?_
      refine r_i2l 22 dX12_risk_21 rfl ?_
      refine r_lconst 23 dX12_risk_22 rfl zcl_0 ?_
      refine r_iload_n 24 dX12_risk_23 rfl 2 rfl rfl ?_
      refine r_if_ne 33 27 dX12_risk_24 (by decide) rfl ?_ ?_
      · refine r_iload_n 34 dX12_risk_33 rfl 2 rfl rfl ?_
        refine r_iconst 35 dX12_risk_34 rfl zci_1 ?_
        refine r_icmp_ne 44 38 dX12_risk_35 (by decide) rfl ?_ ?_
        · refine r_ldc2 47 dX12_risk_44 rfl wk_X12_252 ?_
          exact r_sub [0, 1, 2, 3] (lv2 := [(0, .ref (G.1 130)), (1, .int a1), (2, .int a2), (3, .int a3)]) rfl (hJ47 (5 : Int64) (0 : Int64) a3.toInt64 w)
        · refine r_ldc2 41 dX12_risk_38 rfl wk_X12_250 ?_
          refine r_goto 47 dX12_risk_41 (by decide) ?_
          exact r_sub [0, 1, 2, 3] (lv2 := [(0, .ref (G.1 130)), (1, .int a1), (2, .int a2), (3, .int a3)]) rfl (hJ47 (9 : Int64) (0 : Int64) a3.toInt64 w)
      · refine r_ldc2 30 dX12_risk_27 rfl wk_X12_248 ?_
        refine r_goto 47 dX12_risk_30 (by decide) ?_
        exact r_sub [0, 1, 2, 3] (lv2 := [(0, .ref (G.1 130)), (1, .int a1), (2, .int a2), (3, .int a3)]) rfl (hJ47 (99 : Int64) (0 : Int64) a3.toInt64 w)
-- X12_costs
def f_X12_costs_L5 (w : ZW) (a1 : Int32) (a2 : Int32) (s1 : Int32 × Int32) : Option ((Int32 × Int32) ⊕ (Int32)) :=
  if (w.1 130 0) ≤ s1.2 then
  some (.inr s1.1)
else
  if ((a1 >>> (s1.2 &&& 31)) &&& (1 : Int32)) = (1 : Int32) then
    if z_in s1.2 6 then
      if z_in s1.2 6 then
      z_let (s1.1 + ((w.1 149 s1.2.toNatClampNeg) + (a2 * (w.1 150 s1.2.toNatClampNeg)))) fun y3 =>
      some (.inl (y3, s1.2 + (1 : Int32)))
    else none
    else none
  else
    some (.inl (s1.1 + (0 : Int32), s1.2 + (1 : Int32)))
def f_X12_costs (w : ZW) (a1 : Int32) (a2 : Int32) : Option (Int32) :=
  (z_iter (f_X12_costs_L5 w a1 a2) z_fuel ((0 : Int32), (0 : Int32))).bind (fun q2 : Int32 =>
  some q2)
set_option maxHeartbeats 4000000 in
set_option maxRecDepth 100000 in
theorem c_X12_costs (G : ZG) (l : Launch) (d : Nat) (hd : 1 ≤ d) (w : ZW) (a1 : Int32) (a2 : Int32) : ∀ o, f_X12_costs w a1 a2 = some o → zM G l d yX12_costs cX12_costs 5 (some .int) [.ref (G.1 130), .int a1, .int a2] w (some (.int o)) w := by
  intro o ho
  refine zM.of [(0, .ref (G.1 130)), (1, .int a1), (2, .int a2)] (by decide) (Nat.le_of_ble_eq_true rfl) rfl ?_
  refine (?_ : zR G l d "LoveLocksModel" cX12_costs 5 (some .int) (some (.int o)) w (fun x => x = o) 0 [(0, .ref (G.1 130)), (1, .int a1), (2, .int a2)] [] w (f_X12_costs w a1 a2)) o ho rfl
  rw [f_X12_costs]
  refine r_iconst 1 dX12_costs_0 rfl zci_0 ?_
  refine r_istore_n 2 [(3, .int (0 : Int32)), (0, .ref (G.1 130)), (1, .int a1), (2, .int a2)] dX12_costs_1 rfl rfl (by decide) rfl ?_
  refine r_iconst 3 dX12_costs_2 rfl zci_0 ?_
  refine r_istore 5 [(4, .int (0 : Int32)), (3, .int (0 : Int32)), (0, .ref (G.1 130)), (1, .int a1), (2, .int a2)] dX12_costs_3 rfl (by decide) rfl ?_
  refine r_loopE [2, 3, 4, 1, 0] (fun s1 => [(0, .ref (G.1 130)), (1, .int a1), (2, .int a2), (3, .int s1.1), (4, .int s1.2)]) (fun s1 => w) 54 (fun q2 => [(3, .int q2)]) (fun q2 => w) rfl rfl (fun s1 => ?_) (fun q2 => ?_)
  · rw [f_X12_costs_L5]
    refine r_iload 7 dX12_costs_5 rfl 4 rfl ?_
    refine r_aload_n 8 dX12_costs_7 rfl 0 rfl rfl ?_
    refine r_get 11 130 0 dX12_costs_8 rfl zl_130 (ce_130 G _) rfl inz12 (by decide) wf_X12_108 rfl ?_
    refine r_icmp_ge 54 14 dX12_costs_11 (by decide) rfl ?_ ?_
    · exact r_leaf [3] (lv2 := [(3, .int s1.1)]) rfl (fun h => h)
    · refine r_iload_n 15 dX12_costs_14 rfl 3 rfl rfl ?_
      refine r_iload_n 16 dX12_costs_15 rfl 1 rfl rfl ?_
      refine r_iload 18 dX12_costs_16 rfl 4 rfl ?_
      refine r_ishr 19 dX12_costs_18 rfl ?_
      refine r_iconst 20 dX12_costs_19 rfl zci_1 ?_
      refine r_iand 21 dX12_costs_20 rfl ?_
      refine r_iconst 22 dX12_costs_21 rfl zci_1 ?_
      refine r_icmp_ne 45 25 dX12_costs_22 (by decide) rfl ?_ ?_
      · refine r_iconst 46 dX12_costs_45 rfl zci_0 ?_
        refine r_iadd 47 dX12_costs_46 rfl ?_
        refine r_istore_n 48 [(3, .int (s1.1 + (0 : Int32))), (0, .ref (G.1 130)), (1, .int a1), (2, .int a2), (4, .int s1.2)] dX12_costs_47 rfl rfl (by decide) rfl ?_
        refine r_iinc 51 4 [(4, .int (s1.2 + (1 : Int32))), (3, .int (s1.1 + (0 : Int32))), (0, .ref (G.1 130)), (1, .int a1), (2, .int a2)] dX12_costs_48 rfl rfl zci_1 (by decide) rfl ?_
        refine r_goto 5 dX12_costs_51 (by decide) ?_
        exact r_leaf [2, 3, 4, 1, 0] (lv2 := [(0, .ref (G.1 130)), (1, .int a1), (2, .int a2), (3, .int (s1.1 + (0 : Int32))), (4, .int (s1.2 + (1 : Int32)))]) rfl (fun h => h)
      · refine r_aload_n 26 dX12_costs_25 rfl 0 rfl rfl ?_
        refine r_get 29 130 26 dX12_costs_26 rfl zl_130 (ce_130 G _) rfl inz12 (by decide) wf_X12_69 rfl ?_
        refine r_iload 31 dX12_costs_29 rfl 4 rfl ?_
        refine r_iald 32 149 6 dX12_costs_31 rfl zl_149 (ce_149 G _) ?_
        refine r_iload_n 33 dX12_costs_32 rfl 2 rfl rfl ?_
        refine r_aload_n 34 dX12_costs_33 rfl 0 rfl rfl ?_
        refine r_get 37 130 27 dX12_costs_34 rfl zl_130 (ce_130 G _) rfl inz12 (by decide) wf_X12_72 rfl ?_
        refine r_iload 39 dX12_costs_37 rfl 4 rfl ?_
        refine r_iald 40 150 6 dX12_costs_39 rfl zl_150 (ce_150 G _) ?_
        refine r_imul 41 dX12_costs_40 rfl ?_
        refine r_iadd 42 dX12_costs_41 rfl ?_
        refine r_goto 46 dX12_costs_42 (by decide) ?_
        refine r_iadd 47 dX12_costs_46 rfl ?_
        refine r_topi (fun y3 => ?_)
        refine r_istore_n 48 [(3, .int y3), (0, .ref (G.1 130)), (1, .int a1), (2, .int a2), (4, .int s1.2)] dX12_costs_47 rfl rfl (by decide) rfl ?_
        refine r_iinc 51 4 [(4, .int (s1.2 + (1 : Int32))), (3, .int y3), (0, .ref (G.1 130)), (1, .int a1), (2, .int a2)] dX12_costs_48 rfl rfl zci_1 (by decide) rfl ?_
        refine r_goto 5 dX12_costs_51 (by decide) ?_
        exact r_leaf [2, 3, 4, 1, 0] (lv2 := [(0, .ref (G.1 130)), (1, .int a1), (2, .int a2), (3, .int y3), (4, .int (s1.2 + (1 : Int32)))]) rfl (fun h => h)
  · refine r_iload_n 55 dX12_costs_54 rfl 0 rfl rfl ?_
    exact r_iret dX12_costs_55 rfl z_ki
-- X12_mayCut
def f_X12_mayCut_L20 (w : ZW) (a1 : Int32) (a2 : Int32) (s3 : Int32 × Int32) : Option ((Int32 × Int32) ⊕ (Int32)) :=
  if (w.1 130 0) ≤ s3.2 then
  some (.inr s3.1)
else
  if s3.1 = 0 then
    some (.inl ((0 : Int32), s3.2 + (1 : Int32)))
  else
    if ((a1 >>> (s3.2 &&& 31)) &&& (1 : Int32)) = 0 then
      some (.inl ((1 : Int32), s3.2 + (1 : Int32)))
    else
      if z_in s3.2 6 then
        if a2 < (w.1 151 s3.2.toNatClampNeg) then
        some (.inl ((0 : Int32), s3.2 + (1 : Int32)))
      else
        some (.inl ((1 : Int32), s3.2 + (1 : Int32)))
      else none
def f_X12_mayCut_J16 (w : ZW) (a1 : Int32) (a2 : Int32) (k2 : Int32) : Option (Int32) :=
  (z_iter (f_X12_mayCut_L20 w a1 a2) z_fuel (k2, (0 : Int32))).bind (fun q4 : Int32 =>
  if z_bo q4 then some q4 else none)
def f_X12_mayCut (w : ZW) (a1 : Int32) (a2 : Int32) : Option (Int32) :=
  (f_X12_size a1).bind fun r1 : Int32 =>
  if (w.1 130 25) < r1 then
  f_X12_mayCut_J16 w a1 a2 (0 : Int32)
else
  f_X12_mayCut_J16 w a1 a2 (1 : Int32)
set_option maxHeartbeats 4000000 in
set_option maxRecDepth 100000 in
theorem c_X12_mayCut (G : ZG) (l : Launch) (d : Nat) (hd : 2 ≤ d) (w : ZW) (a1 : Int32) (a2 : Int32) : ∀ o, f_X12_mayCut w a1 a2 = some o → zM G l d yX12_mayCut cX12_mayCut 5 (some .boolean) [.ref (G.1 130), .int a1, .int a2] w (some (.int o)) w := by
  intro o ho
  refine zM.of [(0, .ref (G.1 130)), (1, .int a1), (2, .int a2)] (by decide) (Nat.le_of_ble_eq_true rfl) rfl ?_
  refine (?_ : zR G l d "LoveLocksModel" cX12_mayCut 5 (some .boolean) (some (.int o)) w (fun x => x = o) 0 [(0, .ref (G.1 130)), (1, .int a1), (2, .int a2)] [] w (f_X12_mayCut w a1 a2)) o ho rfl
  rw [f_X12_mayCut]
  have hJ16 : ∀ (k2 : Int32), zR G l d "LoveLocksModel" cX12_mayCut 5 (some .boolean) (some (.int o)) w (fun x => x = o) 16 [(0, .ref (G.1 130)), (1, .int a1), (2, .int a2)] [.int k2] w (f_X12_mayCut_J16 w a1 a2 k2) := by
    intro k2
    rw [f_X12_mayCut_J16]
    refine r_istore_n 17 [(3, .int k2), (0, .ref (G.1 130)), (1, .int a1), (2, .int a2)] dX12_mayCut_16 rfl rfl (by decide) rfl ?_
    refine r_iconst 18 dX12_mayCut_17 rfl zci_0 ?_
    refine r_istore 20 [(4, .int (0 : Int32)), (3, .int k2), (0, .ref (G.1 130)), (1, .int a1), (2, .int a2)] dX12_mayCut_18 rfl (by decide) rfl ?_
    refine r_loopE [2, 3, 4, 1, 0] (fun s3 => [(0, .ref (G.1 130)), (1, .int a1), (2, .int a2), (3, .int s3.1), (4, .int s3.2)]) (fun s3 => w) 65 (fun q4 => [(3, .int q4)]) (fun q4 => w) rfl rfl (fun s3 => ?_) (fun q4 => ?_)
    · rw [f_X12_mayCut_L20]
      refine r_iload 22 dX12_mayCut_20 rfl 4 rfl ?_
      refine r_aload_n 23 dX12_mayCut_22 rfl 0 rfl rfl ?_
      refine r_get 26 130 0 dX12_mayCut_23 rfl zl_130 (ce_130 G _) rfl inz12 (by decide) wf_X12_108 rfl ?_
      refine r_icmp_ge 65 29 dX12_mayCut_26 (by decide) rfl ?_ ?_
      · exact r_leaf [3] (lv2 := [(3, .int s3.1)]) rfl (fun h => h)
      · refine r_iload_n 30 dX12_mayCut_29 rfl 3 rfl rfl ?_
        refine r_if_eq 57 33 dX12_mayCut_30 (by decide) rfl ?_ ?_
        · refine r_iconst 58 dX12_mayCut_57 rfl zci_0 ?_
          refine r_istore_n 59 [(3, .int (0 : Int32)), (0, .ref (G.1 130)), (1, .int a1), (2, .int a2), (4, .int s3.2)] dX12_mayCut_58 rfl rfl (by decide) rfl ?_
          refine r_iinc 62 4 [(4, .int (s3.2 + (1 : Int32))), (3, .int (0 : Int32)), (0, .ref (G.1 130)), (1, .int a1), (2, .int a2)] dX12_mayCut_59 rfl rfl zci_1 (by decide) rfl ?_
          refine r_goto 20 dX12_mayCut_62 (by decide) ?_
          exact r_leaf [2, 3, 4, 1, 0] (lv2 := [(0, .ref (G.1 130)), (1, .int a1), (2, .int a2), (3, .int (0 : Int32)), (4, .int (s3.2 + (1 : Int32)))]) rfl (fun h => h)
        · refine r_iload_n 34 dX12_mayCut_33 rfl 1 rfl rfl ?_
          refine r_iload 36 dX12_mayCut_34 rfl 4 rfl ?_
          refine r_ishr 37 dX12_mayCut_36 rfl ?_
          refine r_iconst 38 dX12_mayCut_37 rfl zci_1 ?_
          refine r_iand 39 dX12_mayCut_38 rfl ?_
          refine r_if_eq 53 42 dX12_mayCut_39 (by decide) rfl ?_ ?_
          · refine r_iconst 54 dX12_mayCut_53 rfl zci_1 ?_
            refine r_goto 58 dX12_mayCut_54 (by decide) ?_
            refine r_istore_n 59 [(3, .int (1 : Int32)), (0, .ref (G.1 130)), (1, .int a1), (2, .int a2), (4, .int s3.2)] dX12_mayCut_58 rfl rfl (by decide) rfl ?_
            refine r_iinc 62 4 [(4, .int (s3.2 + (1 : Int32))), (3, .int (1 : Int32)), (0, .ref (G.1 130)), (1, .int a1), (2, .int a2)] dX12_mayCut_59 rfl rfl zci_1 (by decide) rfl ?_
            refine r_goto 20 dX12_mayCut_62 (by decide) ?_
            exact r_leaf [2, 3, 4, 1, 0] (lv2 := [(0, .ref (G.1 130)), (1, .int a1), (2, .int a2), (3, .int (1 : Int32)), (4, .int (s3.2 + (1 : Int32)))]) rfl (fun h => h)
          · refine r_aload_n 43 dX12_mayCut_42 rfl 0 rfl rfl ?_
            refine r_get 46 130 28 dX12_mayCut_43 rfl zl_130 (ce_130 G _) rfl inz12 (by decide) wf_X12_75 rfl ?_
            refine r_iload 48 dX12_mayCut_46 rfl 4 rfl ?_
            refine r_iald 49 151 6 dX12_mayCut_48 rfl zl_151 (ce_151 G _) ?_
            refine r_iload_n 50 dX12_mayCut_49 rfl 2 rfl rfl ?_
            refine r_icmp_gt 57 53 dX12_mayCut_50 (by decide) rfl ?_ ?_
            · refine r_iconst 58 dX12_mayCut_57 rfl zci_0 ?_
              refine r_istore_n 59 [(3, .int (0 : Int32)), (0, .ref (G.1 130)), (1, .int a1), (2, .int a2), (4, .int s3.2)] dX12_mayCut_58 rfl rfl (by decide) rfl ?_
              refine r_iinc 62 4 [(4, .int (s3.2 + (1 : Int32))), (3, .int (0 : Int32)), (0, .ref (G.1 130)), (1, .int a1), (2, .int a2)] dX12_mayCut_59 rfl rfl zci_1 (by decide) rfl ?_
              refine r_goto 20 dX12_mayCut_62 (by decide) ?_
              exact r_leaf [2, 3, 4, 1, 0] (lv2 := [(0, .ref (G.1 130)), (1, .int a1), (2, .int a2), (3, .int (0 : Int32)), (4, .int (s3.2 + (1 : Int32)))]) rfl (fun h => h)
            · refine r_iconst 54 dX12_mayCut_53 rfl zci_1 ?_
              refine r_goto 58 dX12_mayCut_54 (by decide) ?_
              refine r_istore_n 59 [(3, .int (1 : Int32)), (0, .ref (G.1 130)), (1, .int a1), (2, .int a2), (4, .int s3.2)] dX12_mayCut_58 rfl rfl (by decide) rfl ?_
              refine r_iinc 62 4 [(4, .int (s3.2 + (1 : Int32))), (3, .int (1 : Int32)), (0, .ref (G.1 130)), (1, .int a1), (2, .int a2)] dX12_mayCut_59 rfl rfl zci_1 (by decide) rfl ?_
              refine r_goto 20 dX12_mayCut_62 (by decide) ?_
              exact r_leaf [2, 3, 4, 1, 0] (lv2 := [(0, .ref (G.1 130)), (1, .int a1), (2, .int a2), (3, .int (1 : Int32)), (4, .int (s3.2 + (1 : Int32)))]) rfl (fun h => h)
    · refine r_iload_n 66 dX12_mayCut_65 rfl 0 rfl rfl ?_
      refine r_gd (fun hz => ?_)
      exact r_zret dX12_mayCut_66 rfl (z_bo_n hz) z_ki
  refine r_iload_n 1 dX12_mayCut_0 rfl 1 rfl rfl ?_
  refine r_callSi 4 1 [.int a1] (st := []) dX12_mayCut_1 rfl rfl (fun r h => c_X12_size G l (d - 1) (by omega) w a1 r h) wc_X12_size wz_X12 wl_X12_162 wst_X12_size zd_X12_size (by decide) (by omega) rfl (Nat.le_of_ble_eq_true rfl) (fun r1 => ?_)
  refine r_aload_n 5 dX12_mayCut_4 rfl 0 rfl rfl ?_
  refine r_get 8 130 25 dX12_mayCut_5 rfl zl_130 (ce_130 G _) rfl inz12 (by decide) wf_X12_65 rfl ?_
  refine r_icmp_gt 15 11 dX12_mayCut_8 (by decide) rfl ?_ ?_
  · refine r_iconst 16 dX12_mayCut_15 rfl zci_0 ?_
    exact r_sub [0, 1, 2] (lv2 := [(0, .ref (G.1 130)), (1, .int a1), (2, .int a2)]) rfl (hJ16 (0 : Int32))
  · refine r_iconst 12 dX12_mayCut_11 rfl zci_1 ?_
    refine r_goto 16 dX12_mayCut_12 (by decide) ?_
    exact r_sub [0, 1, 2] (lv2 := [(0, .ref (G.1 130)), (1, .int a1), (2, .int a2)]) rfl (hJ16 (1 : Int32))
-- X12_settles
def f_X12_settles_J135 (x3_20 : Int32) (x4_21 : Int32) (k22 : Int32) : Option ((Int32 × Int32) ⊕ (Int32)) :=
  if x3_20 ≤ k22 then
  some (.inl (x3_20, x4_21 + (1 : Int32)))
else
  some (.inl (k22, x4_21 + (1 : Int32)))
def f_X12_settles_J100 (w9 : ZW) (s1 : Int32 × ZW) (x3_16 : Int32) (x4_17 : Int32) (x5_18 : Int32) (k19 : Int32) : Option ((Int32 × Int32) ⊕ (Int32)) :=
  if k19 = 0 then
  f_X12_settles_J135 x3_16 x4_17 (1000000000 : Int32)
else
  (f_X12_costs w9 x5_18 s1.1).bind fun r23 : Int32 =>
    if z_in ((((64 : Int32) * s1.1) + (64 : Int32)) + x5_18) 832 then
    f_X12_settles_J135 x3_16 x4_17 (r23 + (w9.1 152 ((((64 : Int32) * s1.1) + (64 : Int32)) + x5_18).toNatClampNeg))
  else none
def f_X12_settles_J99 (w9 : ZW) (s1 : Int32 × ZW) (x3_13 : Int32) (x4_14 : Int32) (x5_15 : Int32) : Option ((Int32 × Int32) ⊕ (Int32)) :=
  f_X12_settles_J100 w9 s1 x3_13 x4_14 x5_15 (0 : Int32)
def f_X12_settles_L35 (s1 : Int32 × ZW) (x2_7 : Int32) (w9 : ZW) (s10 : Int32 × Int32) : Option ((Int32 × Int32) ⊕ (Int32)) :=
  if (64 : Int32) ≤ s10.2 then
  some (.inr s10.1)
else
  if (12 : Int32) ≤ s1.1 then
    some (.inr s10.1)
  else
    z_let (x2_7 &&& (s10.2 ^^^ (-1 : Int32))) fun y12 =>
      if (s10.2 &&& (x2_7 ^^^ (-1 : Int32))) = 0 then
      if z_in ((((64 : Int32) * s1.1) + (64 : Int32)) + y12) 832 then
        if (1000000000 : Int32) ≤ (w9.1 152 ((((64 : Int32) * s1.1) + (64 : Int32)) + y12).toNatClampNeg) then
        f_X12_settles_J99 w9 s1 s10.1 s10.2 y12
      else
        (f_X12_mayCut w9 s10.2 s1.1).bind fun r24 : Int32 =>
          if r24 = 0 then
          f_X12_settles_J99 w9 s1 s10.1 s10.2 y12
        else
          f_X12_settles_J100 w9 s1 s10.1 s10.2 y12 (1 : Int32)
      else none
    else
      f_X12_settles_J99 w9 s1 s10.1 s10.2 y12
def f_X12_settles_J156 (s1 : Int32 × ZW) (x2_25 : Int32) (x3_26 : Int32) (w27 : ZW) : Option ((Int32 × ZW) ⊕ (ZW)) :=
  if z_in (((64 : Int32) * s1.1) + x2_25) 832 then
  z_let (z_upI w27 152 (((64 : Int32) * s1.1) + x2_25).toNatClampNeg x3_26) fun w28 =>
  some (.inl (x2_25 + (1 : Int32), w28))
else none
def f_X12_settles_J31 (s1 : Int32 × ZW) (x2_7 : Int32) (k8 : Int32) (w9 : ZW) : Option ((Int32 × ZW) ⊕ (ZW)) :=
  (z_iter (f_X12_settles_L35 s1 x2_7 w9) z_fuel (k8, (0 : Int32))).bind (fun q11 : Int32 =>
  f_X12_settles_J156 s1 x2_7 q11 w9)
def f_X12_settles_J29 (s1 : Int32 × ZW) (x2_5 : Int32) (w6 : ZW) : Option ((Int32 × ZW) ⊕ (ZW)) :=
  f_X12_settles_J31 s1 x2_5 (1000000000 : Int32) w6
def f_X12_settles_L9 (s1 : Int32 × ZW) (s3 : Int32 × ZW) : Option ((Int32 × ZW) ⊕ (ZW)) :=
  if (64 : Int32) ≤ s3.1 then
  some (.inr s3.2)
else
  if s1.1 = (12 : Int32) then
    if s3.1 = 0 then
      f_X12_settles_J31 s1 s3.1 (0 : Int32) s3.2
    else
      f_X12_settles_J29 s1 s3.1 s3.2
  else
    f_X12_settles_J29 s1 s3.1 s3.2
def f_X12_settles_L3 (s1 : Int32 × ZW) : Option ((Int32 × ZW) ⊕ (ZW)) :=
  if s1.1 < 0 then
  some (.inr s1.2)
else
  (z_iter (f_X12_settles_L9 s1) z_fuel ((0 : Int32), s1.2)).bind (fun q4 : ZW =>
    some (.inl (s1.1 + (-1 : Int32), q4)))
def f_X12_settles (w : ZW) : Option (ZW) :=
  (z_iter (f_X12_settles_L3) z_fuel ((12 : Int32), w)).bind (fun q2 : ZW =>
  some q2)
set_option maxHeartbeats 4000000 in
set_option maxRecDepth 100000 in
theorem c_X12_settles (G : ZG) (l : Launch) (d : Nat) (hd : 3 ≤ d) (w : ZW) : ∀ o, f_X12_settles w = some o → zM G l d yX12_settles cX12_settles 8 none [.ref (G.1 130)] w none o := by
  intro o ho
  refine zM.of [(0, .ref (G.1 130))] (by decide) (Nat.le_of_ble_eq_true rfl) rfl ?_
  refine (?_ : zR G l d "LoveLocksModel" cX12_settles 8 none none o (fun x => x = o) 0 [(0, .ref (G.1 130))] [] w (f_X12_settles w)) o ho rfl
  rw [f_X12_settles]
  refine r_bipush 2 dX12_settles_0 rfl zcb_12 ?_
  refine r_istore_n 3 [(1, .int (12 : Int32)), (0, .ref (G.1 130))] dX12_settles_2 rfl rfl (by decide) rfl ?_
  refine r_loopE [1, 0] (fun s1 => [(0, .ref (G.1 130)), (1, .int s1.1)]) (fun s1 => s1.2) 180 (fun q2 => []) (fun q2 => q2) rfl rfl (fun s1 => ?_) (fun q2 => ?_)
  · rw [f_X12_settles_L3]
    refine r_iload_n 4 dX12_settles_3 rfl 1 rfl rfl ?_
    refine r_if_lt 180 7 dX12_settles_4 (by decide) rfl ?_ ?_
    · exact r_leaf [] (lv2 := []) rfl (fun h => h)
    · refine r_iconst 8 dX12_settles_7 rfl zci_0 ?_
      refine r_istore_n 9 [(2, .int (0 : Int32)), (0, .ref (G.1 130)), (1, .int s1.1)] dX12_settles_8 rfl rfl (by decide) rfl ?_
      refine r_loopE [1, 2, 0] (fun s3 => [(0, .ref (G.1 130)), (1, .int s1.1), (2, .int s3.1)]) (fun s3 => s3.2) 174 (fun q4 => [(0, .ref (G.1 130)), (1, .int s1.1)]) (fun q4 => q4) rfl rfl (fun s3 => ?_) (fun q4 => ?_)
      · rw [f_X12_settles_L9]
        have hJ156 : ∀ (x2_25 : Int32) (x3_26 : Int32) (w27 : ZW), zR G l d "LoveLocksModel" cX12_settles 8 none none o (Sum.elim (fun s3 => zA G l d "LoveLocksModel" cX12_settles 8 none none o 9 [(0, .ref (G.1 130)), (1, .int s1.1), (2, .int s3.1)] [] s3.2) (fun q4 => zA G l d "LoveLocksModel" cX12_settles 8 none none o 174 [(0, .ref (G.1 130)), (1, .int s1.1)] [] q4)) 156 [(0, .ref (G.1 130)), (1, .int s1.1), (2, .int x2_25), (3, .int x3_26)] [] w27 (f_X12_settles_J156 s1 x2_25 x3_26 w27) := by
          intro x2_25 x3_26 w27
          rw [f_X12_settles_J156]
          refine r_aload_n 157 dX12_settles_156 rfl 0 rfl rfl ?_
          refine r_get 160 130 29 dX12_settles_157 rfl zl_130 (ce_130 G _) rfl inz12 (by decide) wf_X12_78 rfl ?_
          refine r_bipush 162 dX12_settles_160 rfl zcb_64 ?_
          refine r_iload_n 163 dX12_settles_162 rfl 1 rfl rfl ?_
          refine r_imul 164 dX12_settles_163 rfl ?_
          refine r_iload_n 165 dX12_settles_164 rfl 2 rfl rfl ?_
          refine r_iadd 166 dX12_settles_165 rfl ?_
          refine r_iload_n 167 dX12_settles_166 rfl 3 rfl rfl ?_
          refine r_iast 168 152 832 dX12_settles_167 rfl zl_152 (ce_152 G) ?_
          refine r_topw (fun w28 => ?_)
          refine r_iinc 171 2 [(2, .int (x2_25 + (1 : Int32))), (0, .ref (G.1 130)), (1, .int s1.1), (3, .int x3_26)] dX12_settles_168 rfl rfl zci_1 (by decide) rfl ?_
          refine r_goto 9 dX12_settles_171 (by decide) ?_
          exact r_leaf [1, 2, 0] (lv2 := [(0, .ref (G.1 130)), (1, .int s1.1), (2, .int (x2_25 + (1 : Int32)))]) rfl (fun h => h)
        have hJ31 : ∀ (x2_7 : Int32) (k8 : Int32) (w9 : ZW), zR G l d "LoveLocksModel" cX12_settles 8 none none o (Sum.elim (fun s3 => zA G l d "LoveLocksModel" cX12_settles 8 none none o 9 [(0, .ref (G.1 130)), (1, .int s1.1), (2, .int s3.1)] [] s3.2) (fun q4 => zA G l d "LoveLocksModel" cX12_settles 8 none none o 174 [(0, .ref (G.1 130)), (1, .int s1.1)] [] q4)) 31 [(0, .ref (G.1 130)), (1, .int s1.1), (2, .int x2_7)] [.int k8] w9 (f_X12_settles_J31 s1 x2_7 k8 w9) := by
          intro x2_7 k8 w9
          rw [f_X12_settles_J31]
          refine r_istore_n 32 [(3, .int k8), (0, .ref (G.1 130)), (1, .int s1.1), (2, .int x2_7)] dX12_settles_31 rfl rfl (by decide) rfl ?_
          refine r_iconst 33 dX12_settles_32 rfl zci_0 ?_
          refine r_istore 35 [(4, .int (0 : Int32)), (3, .int k8), (0, .ref (G.1 130)), (1, .int s1.1), (2, .int x2_7)] dX12_settles_33 rfl (by decide) rfl ?_
          refine r_loopE [2, 3, 4, 1, 0] (fun s10 => [(0, .ref (G.1 130)), (1, .int s1.1), (2, .int x2_7), (3, .int s10.1), (4, .int s10.2)]) (fun s10 => w9) 156 (fun q11 => [(0, .ref (G.1 130)), (1, .int s1.1), (2, .int x2_7), (3, .int q11)]) (fun q11 => w9) rfl rfl (fun s10 => ?_) (fun q11 => ?_)
          · rw [f_X12_settles_L35]
            have hJ135 : ∀ (x3_20 : Int32) (x4_21 : Int32) (k22 : Int32), zR G l d "LoveLocksModel" cX12_settles 8 none none o (Sum.elim (fun s10 => zA G l d "LoveLocksModel" cX12_settles 8 none none o 35 [(0, .ref (G.1 130)), (1, .int s1.1), (2, .int x2_7), (3, .int s10.1), (4, .int s10.2)] [] w9) (fun q11 => zA G l d "LoveLocksModel" cX12_settles 8 none none o 156 [(0, .ref (G.1 130)), (1, .int s1.1), (2, .int x2_7), (3, .int q11)] [] w9)) 135 [(0, .ref (G.1 130)), (1, .int s1.1), (2, .int x2_7), (3, .int x3_20), (4, .int x4_21)] [.int k22] w9 (f_X12_settles_J135 x3_20 x4_21 k22) := by
              intro x3_20 x4_21 k22
              rw [f_X12_settles_J135]
              refine r_istore 137 [(7, .int k22), (0, .ref (G.1 130)), (1, .int s1.1), (2, .int x2_7), (3, .int x3_20), (4, .int x4_21)] dX12_settles_135 rfl (by decide) rfl ?_
              refine r_iload 139 dX12_settles_137 rfl 0 rfl ?_
              refine r_iload_n 140 dX12_settles_139 rfl 4 rfl rfl ?_
              refine r_icmp_ge 148 143 dX12_settles_140 (by decide) rfl ?_ ?_
              · refine r_iload_n 149 dX12_settles_148 rfl 4 rfl rfl ?_
                refine r_istore_n 150 [(3, .int x3_20), (7, .int k22), (0, .ref (G.1 130)), (1, .int s1.1), (2, .int x2_7), (4, .int x4_21)] dX12_settles_149 rfl rfl (by decide) rfl ?_
                refine r_iinc 153 5 [(4, .int (x4_21 + (1 : Int32))), (3, .int x3_20), (7, .int k22), (0, .ref (G.1 130)), (1, .int s1.1), (2, .int x2_7)] dX12_settles_150 rfl rfl zci_1 (by decide) rfl ?_
                refine r_goto 35 dX12_settles_153 (by decide) ?_
                exact r_leaf [3, 4, 5, 1, 0] (lv2 := [(0, .ref (G.1 130)), (1, .int s1.1), (2, .int x2_7), (3, .int x3_20), (4, .int (x4_21 + (1 : Int32)))]) rfl (fun h => h)
              · refine r_iload 145 dX12_settles_143 rfl 0 rfl ?_
                refine r_goto 149 dX12_settles_145 (by decide) ?_
                refine r_istore_n 150 [(3, .int k22), (7, .int k22), (0, .ref (G.1 130)), (1, .int s1.1), (2, .int x2_7), (4, .int x4_21)] dX12_settles_149 rfl rfl (by decide) rfl ?_
                refine r_iinc 153 5 [(4, .int (x4_21 + (1 : Int32))), (3, .int k22), (7, .int k22), (0, .ref (G.1 130)), (1, .int s1.1), (2, .int x2_7)] dX12_settles_150 rfl rfl zci_1 (by decide) rfl ?_
                refine r_goto 35 dX12_settles_153 (by decide) ?_
                exact r_leaf [3, 4, 5, 1, 0] (lv2 := [(0, .ref (G.1 130)), (1, .int s1.1), (2, .int x2_7), (3, .int k22), (4, .int (x4_21 + (1 : Int32)))]) rfl (fun h => h)
            have hJ100 : ∀ (x3_16 : Int32) (x4_17 : Int32) (x5_18 : Int32) (k19 : Int32), zR G l d "LoveLocksModel" cX12_settles 8 none none o (Sum.elim (fun s10 => zA G l d "LoveLocksModel" cX12_settles 8 none none o 35 [(0, .ref (G.1 130)), (1, .int s1.1), (2, .int x2_7), (3, .int s10.1), (4, .int s10.2)] [] w9) (fun q11 => zA G l d "LoveLocksModel" cX12_settles 8 none none o 156 [(0, .ref (G.1 130)), (1, .int s1.1), (2, .int x2_7), (3, .int q11)] [] w9)) 100 [(0, .ref (G.1 130)), (1, .int s1.1), (2, .int x2_7), (3, .int x3_16), (4, .int x4_17), (5, .int x5_18)] [.int k19] w9 (f_X12_settles_J100 w9 s1 x3_16 x4_17 x5_18 k19) := by
              intro x3_16 x4_17 x5_18 k19
              rw [f_X12_settles_J100]
              refine r_istore 102 [(6, .int k19), (0, .ref (G.1 130)), (1, .int s1.1), (2, .int x2_7), (3, .int x3_16), (4, .int x4_17), (5, .int x5_18)] dX12_settles_100 rfl (by decide) rfl ?_
              refine r_iload 104 dX12_settles_102 rfl 0 rfl ?_
              refine r_if_eq 133 107 dX12_settles_104 (by decide) rfl ?_ ?_
              · refine r_ldc 135 dX12_settles_133 rfl wk_X12_254 ?_
                exact r_sub [1, 2, 3, 4, 5] (lv2 := [(0, .ref (G.1 130)), (1, .int s1.1), (2, .int x2_7), (3, .int x3_16), (4, .int x4_17)]) rfl (hJ135 x3_16 x4_17 (1000000000 : Int32))
              · refine r_aload_n 108 dX12_settles_107 rfl 1 rfl rfl ?_
                refine r_iload 110 dX12_settles_108 rfl 6 rfl ?_
                refine r_iload_n 111 dX12_settles_110 rfl 2 rfl rfl ?_
                refine r_callVi 114 2 (ko := 130) [.int x5_18, .int s1.1] (st := []) dX12_settles_111 rfl rfl (fun r h => c_X12_costs G l (d - 1) (by omega) w9 x5_18 s1.1 r h) zl_130 (ce_130 G _) rfl rfl wc_X12_costs wz_X12 wl_X12_259 wi_X12_costs ws_X12_costs zd_X12_costs (by decide) (by omega) rfl (Nat.le_of_ble_eq_true rfl) (fun r23 => ?_)
                refine r_aload_n 115 dX12_settles_114 rfl 1 rfl rfl ?_
                refine r_get 118 130 29 dX12_settles_115 rfl zl_130 (ce_130 G _) rfl inz12 (by decide) wf_X12_78 rfl ?_
                refine r_bipush 120 dX12_settles_118 rfl zcb_64 ?_
                refine r_iload_n 121 dX12_settles_120 rfl 2 rfl rfl ?_
                refine r_imul 122 dX12_settles_121 rfl ?_
                refine r_bipush 124 dX12_settles_122 rfl zcb_64 ?_
                refine r_iadd 125 dX12_settles_124 rfl ?_
                refine r_iload 127 dX12_settles_125 rfl 6 rfl ?_
                refine r_iadd 128 dX12_settles_127 rfl ?_
                refine r_iald 129 152 832 dX12_settles_128 rfl zl_152 (ce_152 G _) ?_
                refine r_iadd 130 dX12_settles_129 rfl ?_
                refine r_goto 135 dX12_settles_130 (by decide) ?_
                exact r_sub [1, 2, 3, 4, 5] (lv2 := [(0, .ref (G.1 130)), (1, .int s1.1), (2, .int x2_7), (3, .int x3_16), (4, .int x4_17)]) rfl (hJ135 x3_16 x4_17 (r23 + (w9.1 152 ((((64 : Int32) * s1.1) + (64 : Int32)) + x5_18).toNatClampNeg)))
            have hJ99 : ∀ (x3_13 : Int32) (x4_14 : Int32) (x5_15 : Int32), zR G l d "LoveLocksModel" cX12_settles 8 none none o (Sum.elim (fun s10 => zA G l d "LoveLocksModel" cX12_settles 8 none none o 35 [(0, .ref (G.1 130)), (1, .int s1.1), (2, .int x2_7), (3, .int s10.1), (4, .int s10.2)] [] w9) (fun q11 => zA G l d "LoveLocksModel" cX12_settles 8 none none o 156 [(0, .ref (G.1 130)), (1, .int s1.1), (2, .int x2_7), (3, .int q11)] [] w9)) 99 [(0, .ref (G.1 130)), (1, .int s1.1), (2, .int x2_7), (3, .int x3_13), (4, .int x4_14), (5, .int x5_15)] [] w9 (f_X12_settles_J99 w9 s1 x3_13 x4_14 x5_15) := by
              intro x3_13 x4_14 x5_15
              rw [f_X12_settles_J99]
              refine r_iconst 100 dX12_settles_99 rfl zci_0 ?_
              exact r_sub [0, 1, 2, 3, 4, 5] (lv2 := [(0, .ref (G.1 130)), (1, .int s1.1), (2, .int x2_7), (3, .int x3_13), (4, .int x4_14), (5, .int x5_15)]) rfl (hJ100 x3_13 x4_14 x5_15 (0 : Int32))
            refine r_iload 37 dX12_settles_35 rfl 4 rfl ?_
            refine r_bipush 39 dX12_settles_37 rfl zcb_64 ?_
            refine r_icmp_ge 156 42 dX12_settles_39 (by decide) rfl ?_ ?_
            · exact r_leaf [0, 1, 2, 3] (lv2 := [(0, .ref (G.1 130)), (1, .int s1.1), (2, .int x2_7), (3, .int s10.1)]) rfl (fun h => h)
            · refine r_iload_n 43 dX12_settles_42 rfl 1 rfl rfl ?_
              refine r_bipush 45 dX12_settles_43 rfl zcb_12 ?_
              refine r_icmp_ge 156 48 dX12_settles_45 (by decide) rfl ?_ ?_
              · exact r_leaf [0, 1, 2, 3] (lv2 := [(0, .ref (G.1 130)), (1, .int s1.1), (2, .int x2_7), (3, .int s10.1)]) rfl (fun h => h)
              · refine r_iload_n 49 dX12_settles_48 rfl 2 rfl rfl ?_
                refine r_iload 51 dX12_settles_49 rfl 4 rfl ?_
                refine r_iconst 52 dX12_settles_51 rfl zci_m1 ?_
                refine r_ixor 53 dX12_settles_52 rfl ?_
                refine r_iand 54 dX12_settles_53 rfl ?_
                refine r_topi (fun y12 => ?_)
                refine r_istore 56 [(5, .int y12), (0, .ref (G.1 130)), (1, .int s1.1), (2, .int x2_7), (3, .int s10.1), (4, .int s10.2)] dX12_settles_54 rfl (by decide) rfl ?_
                refine r_iload 58 dX12_settles_56 rfl 5 rfl ?_
                refine r_iload_n 59 dX12_settles_58 rfl 3 rfl rfl ?_
                refine r_iconst 60 dX12_settles_59 rfl zci_m1 ?_
                refine r_ixor 61 dX12_settles_60 rfl ?_
                refine r_iand 62 dX12_settles_61 rfl ?_
                refine r_if_ne 99 65 dX12_settles_62 (by decide) rfl ?_ ?_
                · exact r_sub [1, 2, 3, 4, 5, 0] (lv2 := [(0, .ref (G.1 130)), (1, .int s1.1), (2, .int x2_7), (3, .int s10.1), (4, .int s10.2), (5, .int y12)]) rfl (hJ99 s10.1 s10.2 y12)
                · refine r_aload_n 66 dX12_settles_65 rfl 1 rfl rfl ?_
                  refine r_get 69 130 29 dX12_settles_66 rfl zl_130 (ce_130 G _) rfl inz12 (by decide) wf_X12_78 rfl ?_
                  refine r_bipush 71 dX12_settles_69 rfl zcb_64 ?_
                  refine r_iload_n 72 dX12_settles_71 rfl 2 rfl rfl ?_
                  refine r_imul 73 dX12_settles_72 rfl ?_
                  refine r_bipush 75 dX12_settles_73 rfl zcb_64 ?_
                  refine r_iadd 76 dX12_settles_75 rfl ?_
                  refine r_iload 78 dX12_settles_76 rfl 0 rfl ?_
                  refine r_iadd 79 dX12_settles_78 rfl ?_
                  refine r_iald 80 152 832 dX12_settles_79 rfl zl_152 (ce_152 G _) ?_
                  refine r_ldc 82 dX12_settles_80 rfl wk_X12_254 ?_
                  refine r_icmp_ge 99 85 dX12_settles_82 (by decide) rfl ?_ ?_
                  · exact r_sub [1, 2, 3, 4, 5, 0] (lv2 := [(0, .ref (G.1 130)), (1, .int s1.1), (2, .int x2_7), (3, .int s10.1), (4, .int s10.2), (5, .int y12)]) rfl (hJ99 s10.1 s10.2 y12)
                  · refine r_aload_n 86 dX12_settles_85 rfl 1 rfl rfl ?_
                    refine r_iload 88 dX12_settles_86 rfl 5 rfl ?_
                    refine r_iload_n 89 dX12_settles_88 rfl 2 rfl rfl ?_
                    refine r_callVi 92 2 (ko := 130) [.int s10.2, .int s1.1] (st := []) dX12_settles_89 rfl rfl (fun r h => c_X12_mayCut G l (d - 1) (by omega) w9 s10.2 s1.1 r h) zl_130 (ce_130 G _) rfl rfl wc_X12_mayCut wz_X12 wl_X12_255 wi_X12_mayCut ws_X12_mayCut zd_X12_mayCut (by decide) (by omega) rfl (Nat.le_of_ble_eq_true rfl) (fun r24 => ?_)
                    refine r_if_eq 99 95 dX12_settles_92 (by decide) rfl ?_ ?_
                    · exact r_sub [1, 2, 3, 4, 5, 0] (lv2 := [(0, .ref (G.1 130)), (1, .int s1.1), (2, .int x2_7), (3, .int s10.1), (4, .int s10.2), (5, .int y12)]) rfl (hJ99 s10.1 s10.2 y12)
                    · refine r_iconst 96 dX12_settles_95 rfl zci_1 ?_
                      refine r_goto 100 dX12_settles_96 (by decide) ?_
                      exact r_sub [1, 2, 3, 4, 5, 0] (lv2 := [(0, .ref (G.1 130)), (1, .int s1.1), (2, .int x2_7), (3, .int s10.1), (4, .int s10.2), (5, .int y12)]) rfl (hJ100 s10.1 s10.2 y12 (1 : Int32))
          · exact r_sub [0, 1, 2, 3] (lv2 := [(0, .ref (G.1 130)), (1, .int s1.1), (2, .int x2_7), (3, .int q11)]) rfl (hJ156 x2_7 q11 w9)
        have hJ29 : ∀ (x2_5 : Int32) (w6 : ZW), zR G l d "LoveLocksModel" cX12_settles 8 none none o (Sum.elim (fun s3 => zA G l d "LoveLocksModel" cX12_settles 8 none none o 9 [(0, .ref (G.1 130)), (1, .int s1.1), (2, .int s3.1)] [] s3.2) (fun q4 => zA G l d "LoveLocksModel" cX12_settles 8 none none o 174 [(0, .ref (G.1 130)), (1, .int s1.1)] [] q4)) 29 [(0, .ref (G.1 130)), (1, .int s1.1), (2, .int x2_5)] [] w6 (f_X12_settles_J29 s1 x2_5 w6) := by
          intro x2_5 w6
          rw [f_X12_settles_J29]
          refine r_ldc 31 dX12_settles_29 rfl wk_X12_254 ?_
          exact r_sub [0, 1, 2] (lv2 := [(0, .ref (G.1 130)), (1, .int s1.1), (2, .int x2_5)]) rfl (hJ31 x2_5 (1000000000 : Int32) w6)
        refine r_iload_n 10 dX12_settles_9 rfl 2 rfl rfl ?_
        refine r_bipush 12 dX12_settles_10 rfl zcb_64 ?_
        refine r_icmp_ge 174 15 dX12_settles_12 (by decide) rfl ?_ ?_
        · exact r_leaf [0, 1] (lv2 := [(0, .ref (G.1 130)), (1, .int s1.1)]) rfl (fun h => h)
        · refine r_iload_n 16 dX12_settles_15 rfl 1 rfl rfl ?_
          refine r_bipush 18 dX12_settles_16 rfl zcb_12 ?_
          refine r_icmp_ne 29 21 dX12_settles_18 (by decide) rfl ?_ ?_
          · exact r_sub [0, 1, 2] (lv2 := [(0, .ref (G.1 130)), (1, .int s1.1), (2, .int s3.1)]) rfl (hJ29 s3.1 s3.2)
          · refine r_iload_n 22 dX12_settles_21 rfl 2 rfl rfl ?_
            refine r_if_ne 29 25 dX12_settles_22 (by decide) rfl ?_ ?_
            · exact r_sub [0, 1, 2] (lv2 := [(0, .ref (G.1 130)), (1, .int s1.1), (2, .int s3.1)]) rfl (hJ29 s3.1 s3.2)
            · refine r_iconst 26 dX12_settles_25 rfl zci_0 ?_
              refine r_goto 31 dX12_settles_26 (by decide) ?_
              exact r_sub [0, 1, 2] (lv2 := [(0, .ref (G.1 130)), (1, .int s1.1), (2, .int s3.1)]) rfl (hJ31 s3.1 (0 : Int32) s3.2)
      · refine r_iinc 177 1 [(1, .int (s1.1 + (-1 : Int32))), (0, .ref (G.1 130))] dX12_settles_174 rfl rfl zci_m1 (by decide) rfl ?_
        refine r_goto 3 dX12_settles_177 (by decide) ?_
        exact r_leaf [1, 0] (lv2 := [(0, .ref (G.1 130)), (1, .int (s1.1 + (-1 : Int32)))]) rfl (fun h => h)
  · exact r_vret dX12_settles_180 rfl z_kvw
-- X12_order
def f_X12_order_J122 (r2 : ZW) (s4 : Int32 × Int32) (x4_12 : Int32) (x5_13 : Int32) (x6_14 : Int32) (k15 : Int32) : Option ((Int32 × Int32) ⊕ (Int32)) :=
  if (1000000000 : Int32) ≤ k15 then
  some (.inl (x4_12, x5_13 + (-1 : Int32)))
else
  (f_X12_costs r2 x6_14 s4.2).bind fun r16 : Int32 =>
    if z_in (((64 : Int32) * s4.2) + s4.1) 832 then
    if (r16 + k15) = (r2.1 152 (((64 : Int32) * s4.2) + s4.1).toNatClampNeg) then
    some (.inl (x5_13, x5_13 + (-1 : Int32)))
  else
    some (.inl (x4_12, x5_13 + (-1 : Int32)))
  else none
def f_X12_order_J120 (r2 : ZW) (s4 : Int32 × Int32) (x4_9 : Int32) (x5_10 : Int32) (x6_11 : Int32) : Option ((Int32 × Int32) ⊕ (Int32)) :=
  f_X12_order_J122 r2 s4 x4_9 x5_10 x6_11 (1000000000 : Int32)
def f_X12_order_L70 (s4 : Int32 × Int32) (r2 : ZW) (s6 : Int32 × Int32) : Option ((Int32 × Int32) ⊕ (Int32)) :=
  if s6.2 < 0 then
  some (.inr s6.1)
else
  z_let (s4.1 &&& (s6.2 ^^^ (-1 : Int32))) fun y8 =>
    if (s6.2 &&& (s4.1 ^^^ (-1 : Int32))) = 0 then
    (f_X12_mayCut r2 s6.2 s4.2).bind fun r17 : Int32 =>
      if r17 = 0 then
      f_X12_order_J120 r2 s4 s6.1 s6.2 y8
    else
      if z_in ((((64 : Int32) * s4.2) + (64 : Int32)) + y8) 832 then
        f_X12_order_J122 r2 s4 s6.1 s6.2 y8 (r2.1 152 ((((64 : Int32) * s4.2) + (64 : Int32)) + y8).toNatClampNeg)
      else none
  else
    f_X12_order_J120 r2 s4 s6.1 s6.2 y8
def f_X12_order_L56 (r2 : ZW) (a1 : Int32) (s4 : Int32 × Int32) : Option ((Int32 × Int32) ⊕ ((Int32 × ZW) ⊕ (Unit))) :=
  if (12 : Int32) ≤ s4.2 then
  some (.inr (.inr ()))
else
  (z_iter (f_X12_order_L70 s4 r2) z_fuel ((-4 : Int32), (63 : Int32))).bind (fun q7 : Int32 =>
    if ((q7 >>> (a1 &&& 31)) &&& (1 : Int32)) = (1 : Int32) then
    some (.inr (.inl (s4.2, r2)))
  else
    z_let (s4.1 &&& (q7 ^^^ (-1 : Int32))) fun y18 =>
      some (.inl (y18, s4.2 + (1 : Int32))))
def f_X12_order (w : ZW) (a1 : Int32) : Option (Int32 × ZW) :=
  (f_X12_in a1.toInt64 (-1 : Int64) (((w.1 130 0) - (1 : Int32)).toInt64)).bind fun r1 : Int32 =>
  if r1 = 0 then
  some ((-1 : Int32), w)
else
  if (w.1 130 0) = 0 then
    some ((-2 : Int32), w)
  else
    (f_X12_settles w).bind fun r2 : ZW =>
      z_let (((1 : Int32) <<< ((r2.1 130 0) &&& 31)) - (1 : Int32)) fun y3 =>
      if 0 ≤ a1 then
      (z_iter (f_X12_order_L56 r2 a1) z_fuel (y3, (0 : Int32))).bind (Sum.elim (fun x : Int32 × ZW => some x) (fun q5 : Unit =>
        some ((-4 : Int32), r2)))
    else
      if z_in y3 832 then
        some (r2.1 152 y3.toNatClampNeg, r2)
      else none
set_option maxHeartbeats 4000000 in
set_option maxRecDepth 100000 in
theorem c_X12_order (G : ZG) (l : Launch) (d : Nat) (hd : 4 ≤ d) (w : ZW) (a1 : Int32) : ∀ o, f_X12_order w a1 = some o → zM G l d yX12_order cX12_order 8 (some .int) [.ref (G.1 130), .int a1] w (some (.int o.1)) o.2 := by
  intro o ho
  refine zM.of [(0, .ref (G.1 130)), (1, .int a1)] (by decide) (Nat.le_of_ble_eq_true rfl) rfl ?_
  refine (?_ : zR G l d "LoveLocksModel" cX12_order 8 (some .int) (some (.int o.1)) o.2 (fun x => x = o) 0 [(0, .ref (G.1 130)), (1, .int a1)] [] w (f_X12_order w a1)) o ho rfl
  rw [f_X12_order]
  refine r_iload_n 1 dX12_order_0 rfl 1 rfl rfl ?_
  refine r_i2l 2 dX12_order_1 rfl ?_
  refine r_ldc2 5 dX12_order_2 rfl wk_X12_262 ?_
  refine r_aload_n 6 dX12_order_5 rfl 0 rfl rfl ?_
  refine r_get 9 130 0 dX12_order_6 rfl zl_130 (ce_130 G _) rfl inz12 (by decide) wf_X12_108 rfl ?_
  refine r_iconst 10 dX12_order_9 rfl zci_1 ?_
  refine r_isub 11 dX12_order_10 rfl ?_
  refine r_i2l 12 dX12_order_11 rfl ?_
  refine r_callSi 15 3 [.long a1.toInt64, .long (-1 : Int64), .long (((w.1 130 0) - (1 : Int32)).toInt64)] (st := []) dX12_order_12 rfl rfl (fun r h => c_X12_in G l (d - 1) (by omega) w a1.toInt64 (-1 : Int64) (((w.1 130 0) - (1 : Int32)).toInt64) r h) wc_X12_in wz_X12 wl_X12_111 wst_X12_in zd_X12_in (by decide) (by omega) rfl (Nat.le_of_ble_eq_true rfl) (fun r1 => ?_)
  refine r_if_ne 20 18 dX12_order_15 (by decide) rfl ?_ ?_
  · refine r_aload_n 21 dX12_order_20 rfl 0 rfl rfl ?_
    refine r_get 24 130 0 dX12_order_21 rfl zl_130 (ce_130 G _) rfl inz12 (by decide) wf_X12_108 rfl ?_
    refine r_if_ne 30 27 dX12_order_24 (by decide) rfl ?_ ?_
    · refine r_aload_n 31 dX12_order_30 rfl 0 rfl rfl ?_
      refine r_callVvw 34 0 (ko := 130) [] (st := []) dX12_order_31 rfl rfl (fun r h => c_X12_settles G l (d - 1) (by omega) w r h) zl_130 (ce_130 G _) rfl rfl wc_X12_settles wz_X12 wl_X12_264 wi_X12_settles ws_X12_settles zd_X12_settles (by decide) (by omega) rfl (Nat.le_of_ble_eq_true rfl) (fun r2 => ?_)
      refine r_iconst 35 dX12_order_34 rfl zci_1 ?_
      refine r_aload_n 36 dX12_order_35 rfl 0 rfl rfl ?_
      refine r_get 39 130 0 dX12_order_36 rfl zl_130 (ce_130 G _) rfl inz12 (by decide) wf_X12_108 rfl ?_
      refine r_ishl 40 dX12_order_39 rfl ?_
      refine r_iconst 41 dX12_order_40 rfl zci_1 ?_
      refine r_isub 42 dX12_order_41 rfl ?_
      refine r_topi (fun y3 => ?_)
      refine r_istore_n 43 [(2, .int y3), (0, .ref (G.1 130)), (1, .int a1)] dX12_order_42 rfl rfl (by decide) rfl ?_
      refine r_iload_n 44 dX12_order_43 rfl 2 rfl rfl ?_
      refine r_if_ge 54 47 dX12_order_44 (by decide) rfl ?_ ?_
      · refine r_iconst 55 dX12_order_54 rfl zci_0 ?_
        refine r_istore_n 56 [(3, .int (0 : Int32)), (2, .int y3), (0, .ref (G.1 130)), (1, .int a1)] dX12_order_55 rfl rfl (by decide) rfl ?_
        refine r_loopR [2, 3, 1, 0] (fun s4 => [(0, .ref (G.1 130)), (1, .int a1), (2, .int s4.1), (3, .int s4.2)]) (fun s4 => r2) (fun x => x = o) 195 (fun q5 => []) (fun q5 => r2) rfl rfl (fun s4 => ?_) (fun x y h1 h2 => by cases h1; exact h2) (fun q5 => ?_)
        · rw [f_X12_order_L56]
          refine r_iload_n 57 dX12_order_56 rfl 3 rfl rfl ?_
          refine r_bipush 59 dX12_order_57 rfl zcb_12 ?_
          refine r_icmp_ge 195 62 dX12_order_59 (by decide) rfl ?_ ?_
          · exact r_leaf [] (lv2 := []) rfl (fun h => h)
          · refine r_bipush 64 dX12_order_62 rfl zcb_m4 ?_
            refine r_istore 66 [(4, .int (-4 : Int32)), (0, .ref (G.1 130)), (1, .int a1), (2, .int s4.1), (3, .int s4.2)] dX12_order_64 rfl (by decide) rfl ?_
            refine r_bipush 68 dX12_order_66 rfl zcb_63 ?_
            refine r_istore 70 [(5, .int (63 : Int32)), (4, .int (-4 : Int32)), (0, .ref (G.1 130)), (1, .int a1), (2, .int s4.1), (3, .int s4.2)] dX12_order_68 rfl (by decide) rfl ?_
            refine r_loopE [2, 3, 4, 5, 1, 0] (fun s6 => [(0, .ref (G.1 130)), (1, .int a1), (2, .int s4.1), (3, .int s4.2), (4, .int s6.1), (5, .int s6.2)]) (fun s6 => r2) 170 (fun q7 => [(0, .ref (G.1 130)), (1, .int a1), (2, .int s4.1), (3, .int s4.2), (4, .int q7)]) (fun q7 => r2) rfl rfl (fun s6 => ?_) (fun q7 => ?_)
            · rw [f_X12_order_L70]
              have hJ122 : ∀ (x4_12 : Int32) (x5_13 : Int32) (x6_14 : Int32) (k15 : Int32), zR G l d "LoveLocksModel" cX12_order 8 (some .int) (some (.int o.1)) o.2 (Sum.elim (fun s6 => zA G l d "LoveLocksModel" cX12_order 8 (some .int) (some (.int o.1)) o.2 70 [(0, .ref (G.1 130)), (1, .int a1), (2, .int s4.1), (3, .int s4.2), (4, .int s6.1), (5, .int s6.2)] [] r2) (fun q7 => zA G l d "LoveLocksModel" cX12_order 8 (some .int) (some (.int o.1)) o.2 170 [(0, .ref (G.1 130)), (1, .int a1), (2, .int s4.1), (3, .int s4.2), (4, .int q7)] [] r2)) 122 [(0, .ref (G.1 130)), (1, .int a1), (2, .int s4.1), (3, .int s4.2), (4, .int x4_12), (5, .int x5_13), (6, .int x6_14)] [.int k15] r2 (f_X12_order_J122 r2 s4 x4_12 x5_13 x6_14 k15) := by
                intro x4_12 x5_13 x6_14 k15
                rw [f_X12_order_J122]
                refine r_istore 124 [(7, .int k15), (0, .ref (G.1 130)), (1, .int a1), (2, .int s4.1), (3, .int s4.2), (4, .int x4_12), (5, .int x5_13), (6, .int x6_14)] dX12_order_122 rfl (by decide) rfl ?_
                refine r_iload 126 dX12_order_124 rfl 0 rfl ?_
                refine r_ldc 128 dX12_order_126 rfl wk_X12_254 ?_
                refine r_icmp_ge 160 131 dX12_order_128 (by decide) rfl ?_ ?_
                · refine r_iload 162 dX12_order_160 rfl 5 rfl ?_
                  refine r_istore 164 [(4, .int x4_12), (7, .int k15), (0, .ref (G.1 130)), (1, .int a1), (2, .int s4.1), (3, .int s4.2), (5, .int x5_13), (6, .int x6_14)] dX12_order_162 rfl (by decide) rfl ?_
                  refine r_iinc 167 6 [(5, .int (x5_13 + (-1 : Int32))), (4, .int x4_12), (7, .int k15), (0, .ref (G.1 130)), (1, .int a1), (2, .int s4.1), (3, .int s4.2), (6, .int x6_14)] dX12_order_164 rfl rfl zci_m1 (by decide) rfl ?_
                  refine r_goto 70 dX12_order_167 (by decide) ?_
                  exact r_leaf [3, 4, 5, 6, 1, 0] (lv2 := [(0, .ref (G.1 130)), (1, .int a1), (2, .int s4.1), (3, .int s4.2), (4, .int x4_12), (5, .int (x5_13 + (-1 : Int32)))]) rfl (fun h => h)
                · refine r_aload_n 132 dX12_order_131 rfl 1 rfl rfl ?_
                  refine r_iload 134 dX12_order_132 rfl 7 rfl ?_
                  refine r_iload_n 135 dX12_order_134 rfl 4 rfl rfl ?_
                  refine r_callVi 138 2 (ko := 130) [.int x6_14, .int s4.2] (st := []) dX12_order_135 rfl rfl (fun r h => c_X12_costs G l (d - 1) (by omega) r2 x6_14 s4.2 r h) zl_130 (ce_130 G _) rfl rfl wc_X12_costs wz_X12 wl_X12_259 wi_X12_costs ws_X12_costs zd_X12_costs (by decide) (by omega) rfl (Nat.le_of_ble_eq_true rfl) (fun r16 => ?_)
                  refine r_iload 140 dX12_order_138 rfl 0 rfl ?_
                  refine r_iadd 141 dX12_order_140 rfl ?_
                  refine r_aload_n 142 dX12_order_141 rfl 1 rfl rfl ?_
                  refine r_get 145 130 29 dX12_order_142 rfl zl_130 (ce_130 G _) rfl inz12 (by decide) wf_X12_78 rfl ?_
                  refine r_bipush 147 dX12_order_145 rfl zcb_64 ?_
                  refine r_iload_n 148 dX12_order_147 rfl 4 rfl rfl ?_
                  refine r_imul 149 dX12_order_148 rfl ?_
                  refine r_iload_n 150 dX12_order_149 rfl 3 rfl rfl ?_
                  refine r_iadd 151 dX12_order_150 rfl ?_
                  refine r_iald 152 152 832 dX12_order_151 rfl zl_152 (ce_152 G _) ?_
                  refine r_icmp_ne 160 155 dX12_order_152 (by decide) rfl ?_ ?_
                  · refine r_iload 162 dX12_order_160 rfl 5 rfl ?_
                    refine r_istore 164 [(4, .int x4_12), (7, .int k15), (0, .ref (G.1 130)), (1, .int a1), (2, .int s4.1), (3, .int s4.2), (5, .int x5_13), (6, .int x6_14)] dX12_order_162 rfl (by decide) rfl ?_
                    refine r_iinc 167 6 [(5, .int (x5_13 + (-1 : Int32))), (4, .int x4_12), (7, .int k15), (0, .ref (G.1 130)), (1, .int a1), (2, .int s4.1), (3, .int s4.2), (6, .int x6_14)] dX12_order_164 rfl rfl zci_m1 (by decide) rfl ?_
                    refine r_goto 70 dX12_order_167 (by decide) ?_
                    exact r_leaf [3, 4, 5, 6, 1, 0] (lv2 := [(0, .ref (G.1 130)), (1, .int a1), (2, .int s4.1), (3, .int s4.2), (4, .int x4_12), (5, .int (x5_13 + (-1 : Int32)))]) rfl (fun h => h)
                  · refine r_iload 157 dX12_order_155 rfl 6 rfl ?_
                    refine r_goto 162 dX12_order_157 (by decide) ?_
                    refine r_istore 164 [(4, .int x5_13), (7, .int k15), (0, .ref (G.1 130)), (1, .int a1), (2, .int s4.1), (3, .int s4.2), (5, .int x5_13), (6, .int x6_14)] dX12_order_162 rfl (by decide) rfl ?_
                    refine r_iinc 167 6 [(5, .int (x5_13 + (-1 : Int32))), (4, .int x5_13), (7, .int k15), (0, .ref (G.1 130)), (1, .int a1), (2, .int s4.1), (3, .int s4.2), (6, .int x6_14)] dX12_order_164 rfl rfl zci_m1 (by decide) rfl ?_
                    refine r_goto 70 dX12_order_167 (by decide) ?_
                    exact r_leaf [3, 4, 5, 6, 1, 0] (lv2 := [(0, .ref (G.1 130)), (1, .int a1), (2, .int s4.1), (3, .int s4.2), (4, .int x5_13), (5, .int (x5_13 + (-1 : Int32)))]) rfl (fun h => h)
              have hJ120 : ∀ (x4_9 : Int32) (x5_10 : Int32) (x6_11 : Int32), zR G l d "LoveLocksModel" cX12_order 8 (some .int) (some (.int o.1)) o.2 (Sum.elim (fun s6 => zA G l d "LoveLocksModel" cX12_order 8 (some .int) (some (.int o.1)) o.2 70 [(0, .ref (G.1 130)), (1, .int a1), (2, .int s4.1), (3, .int s4.2), (4, .int s6.1), (5, .int s6.2)] [] r2) (fun q7 => zA G l d "LoveLocksModel" cX12_order 8 (some .int) (some (.int o.1)) o.2 170 [(0, .ref (G.1 130)), (1, .int a1), (2, .int s4.1), (3, .int s4.2), (4, .int q7)] [] r2)) 120 [(0, .ref (G.1 130)), (1, .int a1), (2, .int s4.1), (3, .int s4.2), (4, .int x4_9), (5, .int x5_10), (6, .int x6_11)] [] r2 (f_X12_order_J120 r2 s4 x4_9 x5_10 x6_11) := by
                intro x4_9 x5_10 x6_11
                rw [f_X12_order_J120]
                refine r_ldc 122 dX12_order_120 rfl wk_X12_254 ?_
                exact r_sub [0, 1, 2, 3, 4, 5, 6] (lv2 := [(0, .ref (G.1 130)), (1, .int a1), (2, .int s4.1), (3, .int s4.2), (4, .int x4_9), (5, .int x5_10), (6, .int x6_11)]) rfl (hJ122 x4_9 x5_10 x6_11 (1000000000 : Int32))
              refine r_iload 72 dX12_order_70 rfl 5 rfl ?_
              refine r_if_lt 170 75 dX12_order_72 (by decide) rfl ?_ ?_
              · exact r_leaf [0, 1, 2, 3, 4] (lv2 := [(0, .ref (G.1 130)), (1, .int a1), (2, .int s4.1), (3, .int s4.2), (4, .int s6.1)]) rfl (fun h => h)
              · refine r_iload_n 76 dX12_order_75 rfl 2 rfl rfl ?_
                refine r_iload 78 dX12_order_76 rfl 5 rfl ?_
                refine r_iconst 79 dX12_order_78 rfl zci_m1 ?_
                refine r_ixor 80 dX12_order_79 rfl ?_
                refine r_iand 81 dX12_order_80 rfl ?_
                refine r_topi (fun y8 => ?_)
                refine r_istore 83 [(6, .int y8), (0, .ref (G.1 130)), (1, .int a1), (2, .int s4.1), (3, .int s4.2), (4, .int s6.1), (5, .int s6.2)] dX12_order_81 rfl (by decide) rfl ?_
                refine r_iload 85 dX12_order_83 rfl 6 rfl ?_
                refine r_iload_n 86 dX12_order_85 rfl 3 rfl rfl ?_
                refine r_iconst 87 dX12_order_86 rfl zci_m1 ?_
                refine r_ixor 88 dX12_order_87 rfl ?_
                refine r_iand 89 dX12_order_88 rfl ?_
                refine r_if_ne 120 92 dX12_order_89 (by decide) rfl ?_ ?_
                · exact r_sub [1, 2, 3, 4, 5, 6, 0] (lv2 := [(0, .ref (G.1 130)), (1, .int a1), (2, .int s4.1), (3, .int s4.2), (4, .int s6.1), (5, .int s6.2), (6, .int y8)]) rfl (hJ120 s6.1 s6.2 y8)
                · refine r_aload_n 93 dX12_order_92 rfl 1 rfl rfl ?_
                  refine r_iload 95 dX12_order_93 rfl 6 rfl ?_
                  refine r_iload_n 96 dX12_order_95 rfl 4 rfl rfl ?_
                  refine r_callVi 99 2 (ko := 130) [.int s6.2, .int s4.2] (st := []) dX12_order_96 rfl rfl (fun r h => c_X12_mayCut G l (d - 1) (by omega) r2 s6.2 s4.2 r h) zl_130 (ce_130 G _) rfl rfl wc_X12_mayCut wz_X12 wl_X12_255 wi_X12_mayCut ws_X12_mayCut zd_X12_mayCut (by decide) (by omega) rfl (Nat.le_of_ble_eq_true rfl) (fun r17 => ?_)
                  refine r_if_eq 120 102 dX12_order_99 (by decide) rfl ?_ ?_
                  · exact r_sub [1, 2, 3, 4, 5, 6, 0] (lv2 := [(0, .ref (G.1 130)), (1, .int a1), (2, .int s4.1), (3, .int s4.2), (4, .int s6.1), (5, .int s6.2), (6, .int y8)]) rfl (hJ120 s6.1 s6.2 y8)
                  · refine r_aload_n 103 dX12_order_102 rfl 1 rfl rfl ?_
                    refine r_get 106 130 29 dX12_order_103 rfl zl_130 (ce_130 G _) rfl inz12 (by decide) wf_X12_78 rfl ?_
                    refine r_bipush 108 dX12_order_106 rfl zcb_64 ?_
                    refine r_iload_n 109 dX12_order_108 rfl 4 rfl rfl ?_
                    refine r_imul 110 dX12_order_109 rfl ?_
                    refine r_bipush 112 dX12_order_110 rfl zcb_64 ?_
                    refine r_iadd 113 dX12_order_112 rfl ?_
                    refine r_iload 115 dX12_order_113 rfl 0 rfl ?_
                    refine r_iadd 116 dX12_order_115 rfl ?_
                    refine r_iald 117 152 832 dX12_order_116 rfl zl_152 (ce_152 G _) ?_
                    refine r_goto 122 dX12_order_117 (by decide) ?_
                    exact r_sub [1, 2, 3, 4, 5, 6, 0] (lv2 := [(0, .ref (G.1 130)), (1, .int a1), (2, .int s4.1), (3, .int s4.2), (4, .int s6.1), (5, .int s6.2), (6, .int y8)]) rfl (hJ122 s6.1 s6.2 y8 (r2.1 152 ((((64 : Int32) * s4.2) + (64 : Int32)) + y8).toNatClampNeg))
            · refine r_iload 172 dX12_order_170 rfl 4 rfl ?_
              refine r_iload_n 173 dX12_order_172 rfl 1 rfl rfl ?_
              refine r_ishr 174 dX12_order_173 rfl ?_
              refine r_iconst 175 dX12_order_174 rfl zci_1 ?_
              refine r_iand 176 dX12_order_175 rfl ?_
              refine r_iconst 177 dX12_order_176 rfl zci_1 ?_
              refine r_icmp_ne 182 180 dX12_order_177 (by decide) rfl ?_ ?_
              · refine r_iload_n 183 dX12_order_182 rfl 2 rfl rfl ?_
                refine r_iload 185 dX12_order_183 rfl 4 rfl ?_
                refine r_iconst 186 dX12_order_185 rfl zci_m1 ?_
                refine r_ixor 187 dX12_order_186 rfl ?_
                refine r_iand 188 dX12_order_187 rfl ?_
                refine r_topi (fun y18 => ?_)
                refine r_istore_n 189 [(2, .int y18), (0, .ref (G.1 130)), (1, .int a1), (3, .int s4.2), (4, .int q7)] dX12_order_188 rfl rfl (by decide) rfl ?_
                refine r_iinc 192 3 [(3, .int (s4.2 + (1 : Int32))), (2, .int y18), (0, .ref (G.1 130)), (1, .int a1), (4, .int q7)] dX12_order_189 rfl rfl zci_1 (by decide) rfl ?_
                refine r_goto 56 dX12_order_192 (by decide) ?_
                exact r_leaf [2, 3, 1, 0] (lv2 := [(0, .ref (G.1 130)), (1, .int a1), (2, .int y18), (3, .int (s4.2 + (1 : Int32)))]) rfl (fun h => h)
              · refine r_iload_n 181 dX12_order_180 rfl 3 rfl rfl ?_
                exact r_iret dX12_order_181 rfl z_kiw
        · refine r_bipush 197 dX12_order_195 rfl zcb_m4 ?_
          exact r_iret dX12_order_197 rfl z_kiw
      · refine r_aload_n 48 dX12_order_47 rfl 1 rfl rfl ?_
        refine r_get 51 130 29 dX12_order_48 rfl zl_130 (ce_130 G _) rfl inz12 (by decide) wf_X12_78 rfl ?_
        refine r_iload_n 52 dX12_order_51 rfl 0 rfl rfl ?_
        refine r_iald 53 152 832 dX12_order_52 rfl zl_152 (ce_152 G _) ?_
        exact r_iret dX12_order_53 rfl z_kiw
    · refine r_bipush 29 dX12_order_27 rfl zcb_m2 ?_
      exact r_iret dX12_order_29 rfl z_kiw
  · refine r_iconst 19 dX12_order_18 rfl zci_m1 ?_
    exact r_iret dX12_order_19 rfl z_kiw
-- X12_isMonth
def f_X12_isMonth (a0 : Int32) (a1 : Int32) : Option (Int32) :=
  (f_X12_in a1.toInt64 (0 : Int64) (9999 : Int64)).bind fun r1 : Int32 =>
  if r1 = 0 then
  some (0 : Int32)
else
  (f_X12_in a0.toInt64 (0 : Int64) a1.toInt64).bind fun r2 : Int32 =>
    if r2 = 0 then
    some (0 : Int32)
  else
    some (1 : Int32)
set_option maxHeartbeats 4000000 in
set_option maxRecDepth 100000 in
theorem c_X12_isMonth (G : ZG) (l : Launch) (d : Nat) (hd : 2 ≤ d) (w0 : ZW) (a0 : Int32) (a1 : Int32) : ∀ o, f_X12_isMonth a0 a1 = some o → zM G l d yX12_isMonth cX12_isMonth 2 (some .boolean) [.int a0, .int a1] w0 (some (.int o)) w0 := by
  intro o ho
  refine zM.of [(0, .int a0), (1, .int a1)] (by decide) (Nat.le_of_ble_eq_true rfl) rfl ?_
  refine (?_ : zR G l d "LoveLocksModel" cX12_isMonth 2 (some .boolean) (some (.int o)) w0 (fun x => x = o) 0 [(0, .int a0), (1, .int a1)] [] w0 (f_X12_isMonth a0 a1)) o ho rfl
  rw [f_X12_isMonth]
  refine r_iload_n 1 dX12_isMonth_0 rfl 1 rfl rfl ?_
  refine r_i2l 2 dX12_isMonth_1 rfl ?_
  refine r_lconst 3 dX12_isMonth_2 rfl zcl_0 ?_
  refine r_ldc2 6 dX12_isMonth_3 rfl wk_X12_182 ?_
  refine r_callSi 9 3 [.long a1.toInt64, .long (0 : Int64), .long (9999 : Int64)] (st := []) dX12_isMonth_6 rfl rfl (fun r h => c_X12_in G l (d - 1) (by omega) w0 a1.toInt64 (0 : Int64) (9999 : Int64) r h) wc_X12_in wz_X12 wl_X12_111 wst_X12_in zd_X12_in (by decide) (by omega) rfl (Nat.le_of_ble_eq_true rfl) (fun r1 => ?_)
  refine r_if_eq 27 12 dX12_isMonth_9 (by decide) rfl ?_ ?_
  · refine r_iconst 28 dX12_isMonth_27 rfl zci_0 ?_
    exact r_zret dX12_isMonth_28 rfl rfl z_ki
  · refine r_iload_n 13 dX12_isMonth_12 rfl 0 rfl rfl ?_
    refine r_i2l 14 dX12_isMonth_13 rfl ?_
    refine r_lconst 15 dX12_isMonth_14 rfl zcl_0 ?_
    refine r_iload_n 16 dX12_isMonth_15 rfl 1 rfl rfl ?_
    refine r_i2l 17 dX12_isMonth_16 rfl ?_
    refine r_callSi 20 3 [.long a0.toInt64, .long (0 : Int64), .long a1.toInt64] (st := []) dX12_isMonth_17 rfl rfl (fun r h => c_X12_in G l (d - 1) (by omega) w0 a0.toInt64 (0 : Int64) a1.toInt64 r h) wc_X12_in wz_X12 wl_X12_111 wst_X12_in zd_X12_in (by decide) (by omega) rfl (Nat.le_of_ble_eq_true rfl) (fun r2 => ?_)
    refine r_if_eq 27 23 dX12_isMonth_20 (by decide) rfl ?_ ?_
    · refine r_iconst 28 dX12_isMonth_27 rfl zci_0 ?_
      exact r_zret dX12_isMonth_28 rfl rfl z_ki
    · refine r_iconst 24 dX12_isMonth_23 rfl zci_1 ?_
      refine r_goto 28 dX12_isMonth_24 (by decide) ?_
      exact r_zret dX12_isMonth_28 rfl rfl z_ki
-- X12_month
def f_X12_month (w : ZW) (a1 : Int32) (a2 : Int32) (a3 : Int32) : Option (Int32 × ZW) :=
  (f_X12_in a1.toInt64 (0 : Int64) (11 : Int64)).bind fun r1 : Int32 =>
  if r1 = 0 then
  some ((-1 : Int32), w)
else
  (f_X12_isMonth a2 a3).bind fun r2 : Int32 =>
    if r2 = 0 then
    some ((-1 : Int32), w)
  else
    if z_in a1 12 then
      z_let (z_upI w 153 a1.toNatClampNeg a2) fun w3 =>
      if z_in a1 12 then
      z_let (z_upI w3 154 a1.toNatClampNeg a3) fun w4 =>
      some ((1 : Int32), w4)
    else none
    else none
set_option maxHeartbeats 4000000 in
set_option maxRecDepth 100000 in
theorem c_X12_month (G : ZG) (l : Launch) (d : Nat) (hd : 3 ≤ d) (w : ZW) (a1 : Int32) (a2 : Int32) (a3 : Int32) : ∀ o, f_X12_month w a1 a2 a3 = some o → zM G l d yX12_month cX12_month 4 (some .int) [.ref (G.1 130), .int a1, .int a2, .int a3] w (some (.int o.1)) o.2 := by
  intro o ho
  refine zM.of [(0, .ref (G.1 130)), (1, .int a1), (2, .int a2), (3, .int a3)] (by decide) (Nat.le_of_ble_eq_true rfl) rfl ?_
  refine (?_ : zR G l d "LoveLocksModel" cX12_month 4 (some .int) (some (.int o.1)) o.2 (fun x => x = o) 0 [(0, .ref (G.1 130)), (1, .int a1), (2, .int a2), (3, .int a3)] [] w (f_X12_month w a1 a2 a3)) o ho rfl
  rw [f_X12_month]
  refine r_iload_n 1 dX12_month_0 rfl 1 rfl rfl ?_
  refine r_i2l 2 dX12_month_1 rfl ?_
  refine r_lconst 3 dX12_month_2 rfl zcl_0 ?_
  refine r_ldc2 6 dX12_month_3 rfl wk_X12_267 ?_
  refine r_callSi 9 3 [.long a1.toInt64, .long (0 : Int64), .long (11 : Int64)] (st := []) dX12_month_6 rfl rfl (fun r h => c_X12_in G l (d - 1) (by omega) w a1.toInt64 (0 : Int64) (11 : Int64) r h) wc_X12_in wz_X12 wl_X12_111 wst_X12_in zd_X12_in (by decide) (by omega) rfl (Nat.le_of_ble_eq_true rfl) (fun r1 => ?_)
  refine r_if_eq 20 12 dX12_month_9 (by decide) rfl ?_ ?_
  · refine r_iconst 21 dX12_month_20 rfl zci_m1 ?_
    exact r_iret dX12_month_21 rfl z_kiw
  · refine r_iload_n 13 dX12_month_12 rfl 2 rfl rfl ?_
    refine r_iload_n 14 dX12_month_13 rfl 3 rfl rfl ?_
    refine r_callSi 17 2 [.int a2, .int a3] (st := []) dX12_month_14 rfl rfl (fun r h => c_X12_isMonth G l (d - 1) (by omega) w a2 a3 r h) wc_X12_isMonth wz_X12 wl_X12_269 wst_X12_isMonth zd_X12_isMonth (by decide) (by omega) rfl (Nat.le_of_ble_eq_true rfl) (fun r2 => ?_)
    refine r_if_ne 22 20 dX12_month_17 (by decide) rfl ?_ ?_
    · refine r_aload_n 23 dX12_month_22 rfl 0 rfl rfl ?_
      refine r_get 26 130 30 dX12_month_23 rfl zl_130 (ce_130 G _) rfl inz12 (by decide) wf_X12_81 rfl ?_
      refine r_iload_n 27 dX12_month_26 rfl 1 rfl rfl ?_
      refine r_iload_n 28 dX12_month_27 rfl 2 rfl rfl ?_
      refine r_iast 29 153 12 dX12_month_28 rfl zl_153 (ce_153 G) ?_
      refine r_topw (fun w3 => ?_)
      refine r_aload_n 30 dX12_month_29 rfl 0 rfl rfl ?_
      refine r_get 33 130 31 dX12_month_30 rfl zl_130 (ce_130 G _) rfl inz12 (by decide) wf_X12_84 rfl ?_
      refine r_iload_n 34 dX12_month_33 rfl 1 rfl rfl ?_
      refine r_iload_n 35 dX12_month_34 rfl 3 rfl rfl ?_
      refine r_iast 36 154 12 dX12_month_35 rfl zl_154 (ce_154 G) ?_
      refine r_topw (fun w4 => ?_)
      refine r_iconst 37 dX12_month_36 rfl zci_1 ?_
      exact r_iret dX12_month_37 rfl z_kiw
    · refine r_iconst 21 dX12_month_20 rfl zci_m1 ?_
      exact r_iret dX12_month_21 rfl z_kiw
-- X12_isSheet
def f_X12_isSheet (a0 : Int32) : Option (Int32) :=
  (f_X12_in a0.toInt64 (0 : Int64) (3 : Int64)).bind fun r1 : Int32 =>
  if z_bo r1 then some r1 else none
set_option maxHeartbeats 4000000 in
set_option maxRecDepth 100000 in
theorem c_X12_isSheet (G : ZG) (l : Launch) (d : Nat) (hd : 2 ≤ d) (w0 : ZW) (a0 : Int32) : ∀ o, f_X12_isSheet a0 = some o → zM G l d yX12_isSheet cX12_isSheet 1 (some .boolean) [.int a0] w0 (some (.int o)) w0 := by
  intro o ho
  refine zM.of [(0, .int a0)] (by decide) (Nat.le_of_ble_eq_true rfl) rfl ?_
  refine (?_ : zR G l d "LoveLocksModel" cX12_isSheet 1 (some .boolean) (some (.int o)) w0 (fun x => x = o) 0 [(0, .int a0)] [] w0 (f_X12_isSheet a0)) o ho rfl
  rw [f_X12_isSheet]
  refine r_iload_n 1 dX12_isSheet_0 rfl 0 rfl rfl ?_
  refine r_i2l 2 dX12_isSheet_1 rfl ?_
  refine r_lconst 3 dX12_isSheet_2 rfl zcl_0 ?_
  refine r_ldc2 6 dX12_isSheet_3 rfl wk_X12_246 ?_
  refine r_callSi 9 3 [.long a0.toInt64, .long (0 : Int64), .long (3 : Int64)] (st := []) dX12_isSheet_6 rfl rfl (fun r h => c_X12_in G l (d - 1) (by omega) w0 a0.toInt64 (0 : Int64) (3 : Int64) r h) wc_X12_in wz_X12 wl_X12_111 wst_X12_in zd_X12_in (by decide) (by omega) rfl (Nat.le_of_ble_eq_true rfl) (fun r1 => ?_)
  refine r_gd (fun hz => ?_)
  exact r_zret dX12_isSheet_9 rfl (z_bo_n hz) z_ki
-- X12_isLane
def f_X12_isLane (a0 : Int32) : Option (Int32) :=
  (f_X12_in a0.toInt64 (0 : Int64) (2 : Int64)).bind fun r1 : Int32 =>
  if z_bo r1 then some r1 else none
set_option maxHeartbeats 4000000 in
set_option maxRecDepth 100000 in
theorem c_X12_isLane (G : ZG) (l : Launch) (d : Nat) (hd : 2 ≤ d) (w0 : ZW) (a0 : Int32) : ∀ o, f_X12_isLane a0 = some o → zM G l d yX12_isLane cX12_isLane 1 (some .boolean) [.int a0] w0 (some (.int o)) w0 := by
  intro o ho
  refine zM.of [(0, .int a0)] (by decide) (Nat.le_of_ble_eq_true rfl) rfl ?_
  refine (?_ : zR G l d "LoveLocksModel" cX12_isLane 1 (some .boolean) (some (.int o)) w0 (fun x => x = o) 0 [(0, .int a0)] [] w0 (f_X12_isLane a0)) o ho rfl
  rw [f_X12_isLane]
  refine r_iload_n 1 dX12_isLane_0 rfl 0 rfl rfl ?_
  refine r_i2l 2 dX12_isLane_1 rfl ?_
  refine r_lconst 3 dX12_isLane_2 rfl zcl_0 ?_
  refine r_ldc2 6 dX12_isLane_3 rfl wk_X12_128 ?_
  refine r_callSi 9 3 [.long a0.toInt64, .long (0 : Int64), .long (2 : Int64)] (st := []) dX12_isLane_6 rfl rfl (fun r h => c_X12_in G l (d - 1) (by omega) w0 a0.toInt64 (0 : Int64) (2 : Int64) r h) wc_X12_in wz_X12 wl_X12_111 wst_X12_in zd_X12_in (by decide) (by omega) rfl (Nat.le_of_ble_eq_true rfl) (fun r1 => ?_)
  refine r_gd (fun hz => ?_)
  exact r_zret dX12_isLane_9 rfl (z_bo_n hz) z_ki
-- X12_finds
def f_X12_finds (w : ZW) (a1 : Int32) (a2 : Int32) (a3 : Int32) (a4 : Int32) : Option (Int32) :=
  if z_in a1 4 then
  if 0 ≤ (w.1 158 a1.toNatClampNeg) then
  if z_in a1 4 then
    if (w.1 158 a1.toNatClampNeg) = a2 then
    if a3 < 0 then
      some (-13 : Int32)
    else
      if z_in a1 4 then
        if (lg_cmp (a3.toInt64 + a4.toInt64) ((w.1 159 a1.toNatClampNeg).toInt64)) ≤ 0 then
        some (0 : Int32)
      else
        some (-13 : Int32)
      else none
  else
    some (-12 : Int32)
  else none
else
  some (-11 : Int32)
else none
set_option maxHeartbeats 4000000 in
set_option maxRecDepth 100000 in
theorem c_X12_finds (G : ZG) (l : Launch) (d : Nat) (hd : 1 ≤ d) (w : ZW) (a1 : Int32) (a2 : Int32) (a3 : Int32) (a4 : Int32) : ∀ o, f_X12_finds w a1 a2 a3 a4 = some o → zM G l d yX12_finds cX12_finds 5 (some .int) [.ref (G.1 130), .int a1, .int a2, .int a3, .int a4] w (some (.int o)) w := by
  intro o ho
  refine zM.of [(0, .ref (G.1 130)), (1, .int a1), (2, .int a2), (3, .int a3), (4, .int a4)] (by decide) (Nat.le_of_ble_eq_true rfl) rfl ?_
  refine (?_ : zR G l d "LoveLocksModel" cX12_finds 5 (some .int) (some (.int o)) w (fun x => x = o) 0 [(0, .ref (G.1 130)), (1, .int a1), (2, .int a2), (3, .int a3), (4, .int a4)] [] w (f_X12_finds w a1 a2 a3 a4)) o ho rfl
  rw [f_X12_finds]
  refine r_aload_n 1 dX12_finds_0 rfl 0 rfl rfl ?_
  refine r_get 4 130 38 dX12_finds_1 rfl zl_130 (ce_130 G _) rfl inz12 (by decide) wf_X12_96 rfl ?_
  refine r_iload_n 5 dX12_finds_4 rfl 1 rfl rfl ?_
  refine r_iald 6 158 4 dX12_finds_5 rfl zl_158 (ce_158 G _) ?_
  refine r_if_ge 12 9 dX12_finds_6 (by decide) rfl ?_ ?_
  · refine r_aload_n 13 dX12_finds_12 rfl 0 rfl rfl ?_
    refine r_get 16 130 38 dX12_finds_13 rfl zl_130 (ce_130 G _) rfl inz12 (by decide) wf_X12_96 rfl ?_
    refine r_iload_n 17 dX12_finds_16 rfl 1 rfl rfl ?_
    refine r_iald 18 158 4 dX12_finds_17 rfl zl_158 (ce_158 G _) ?_
    refine r_iload_n 19 dX12_finds_18 rfl 2 rfl rfl ?_
    refine r_icmp_eq 25 22 dX12_finds_19 (by decide) rfl ?_ ?_
    · refine r_iload_n 26 dX12_finds_25 rfl 3 rfl rfl ?_
      refine r_if_lt 46 29 dX12_finds_26 (by decide) rfl ?_ ?_
      · refine r_bipush 48 dX12_finds_46 rfl zcb_m13 ?_
        refine r_goto 52 dX12_finds_48 (by decide) ?_
        exact r_iret dX12_finds_52 rfl z_ki
      · refine r_iload_n 30 dX12_finds_29 rfl 3 rfl rfl ?_
        refine r_i2l 31 dX12_finds_30 rfl ?_
        refine r_iload 33 dX12_finds_31 rfl 4 rfl ?_
        refine r_i2l 34 dX12_finds_33 rfl ?_
        refine r_ladd 35 dX12_finds_34 rfl ?_
        refine r_aload_n 36 dX12_finds_35 rfl 0 rfl rfl ?_
        refine r_get 39 130 39 dX12_finds_36 rfl zl_130 (ce_130 G _) rfl inz12 (by decide) wf_X12_99 rfl ?_
        refine r_iload_n 40 dX12_finds_39 rfl 1 rfl rfl ?_
        refine r_iald 41 159 4 dX12_finds_40 rfl zl_159 (ce_159 G _) ?_
        refine r_i2l 42 dX12_finds_41 rfl ?_
        refine r_lcmp 43 dX12_finds_42 rfl ?_
        refine r_if_le 51 46 dX12_finds_43 (by decide) rfl ?_ ?_
        · refine r_iconst 52 dX12_finds_51 rfl zci_0 ?_
          exact r_iret dX12_finds_52 rfl z_ki
        · refine r_bipush 48 dX12_finds_46 rfl zcb_m13 ?_
          refine r_goto 52 dX12_finds_48 (by decide) ?_
          exact r_iret dX12_finds_52 rfl z_ki
    · refine r_bipush 24 dX12_finds_22 rfl zcb_m12 ?_
      exact r_iret dX12_finds_24 rfl z_ki
  · refine r_bipush 11 dX12_finds_9 rfl zcb_m11 ?_
    exact r_iret dX12_finds_11 rfl z_ki
-- X12_months
def f_X12_months_L53 (a4 : Int32) (a1 : Int32) (a3 : Int32) (w : ZW) (s5 : Int32) : Option ((Int32) ⊕ ((Int32 × ZW) ⊕ (Unit))) :=
  if a4 ≤ s5 then
  some (.inr (.inr ()))
else
  if z_in ((((24 : Int32) * a1) + a3) + ((2 : Int32) * s5)) 96 then
    if z_in (((((24 : Int32) * a1) + a3) + ((2 : Int32) * s5)) + (1 : Int32)) 96 then
    (f_X12_isMonth (w.1 160 ((((24 : Int32) * a1) + a3) + ((2 : Int32) * s5)).toNatClampNeg) (w.1 160 (((((24 : Int32) * a1) + a3) + ((2 : Int32) * s5)) + (1 : Int32)).toNatClampNeg)).bind fun r7 : Int32 =>
    if r7 = 0 then
    some (.inr (.inl ((-2 : Int32), w)))
  else
    some (.inl (s5 + (1 : Int32)))
  else none
  else none
def f_X12_months_L112 (a4 : Int32) (a1 : Int32) (a3 : Int32) (s8 : Int32 × ZW) : Option ((Int32 × ZW) ⊕ (ZW)) :=
  if a4 ≤ s8.1 then
  some (.inr s8.2)
else
  if z_in ((((24 : Int32) * a1) + a3) + ((2 : Int32) * s8.1)) 96 then
    if z_in s8.1 12 then
    z_let (z_upI s8.2 153 s8.1.toNatClampNeg (s8.2.1 160 ((((24 : Int32) * a1) + a3) + ((2 : Int32) * s8.1)).toNatClampNeg)) fun w10 =>
    if z_in (((((24 : Int32) * a1) + a3) + ((2 : Int32) * s8.1)) + (1 : Int32)) 96 then
    if z_in s8.1 12 then
    z_let (z_upI w10 154 s8.1.toNatClampNeg (w10.1 160 (((((24 : Int32) * a1) + a3) + ((2 : Int32) * s8.1)) + (1 : Int32)).toNatClampNeg)) fun w11 =>
    some (.inl (s8.1 + (1 : Int32), w11))
  else none
  else none
  else none
  else none
def f_X12_months (w : ZW) (a1 : Int32) (a2 : Int32) (a3 : Int32) (a4 : Int32) : Option (Int32 × ZW) :=
  (f_X12_isSheet a1).bind fun r1 : Int32 =>
  if r1 = 0 then
  some ((-1 : Int32), w)
else
  (f_X12_isLane a2).bind fun r2 : Int32 =>
    if r2 = 0 then
    some ((-1 : Int32), w)
  else
    (f_X12_in a4.toInt64 (1 : Int64) (12 : Int64)).bind fun r3 : Int32 =>
      if r3 = 0 then
      some ((-1 : Int32), w)
    else
      (f_X12_finds w a1 a2 a3 ((2 : Int32) * a4)).bind fun r4 : Int32 =>
        if 0 ≤ r4 then
        (z_iter (f_X12_months_L53 a4 a1 a3 w) z_fuel (0 : Int32)).bind (Sum.elim (fun x : Int32 × ZW => some x) (fun q6 : Unit =>
          (z_iter (f_X12_months_L112 a4 a1 a3) z_fuel ((0 : Int32), w)).bind (fun q9 : ZW =>
          some (a4, q9))))
      else
        some (r4, w)
set_option maxHeartbeats 4000000 in
set_option maxRecDepth 100000 in
theorem c_X12_months (G : ZG) (l : Launch) (d : Nat) (hd : 3 ≤ d) (w : ZW) (a1 : Int32) (a2 : Int32) (a3 : Int32) (a4 : Int32) : ∀ o, f_X12_months w a1 a2 a3 a4 = some o → zM G l d yX12_months cX12_months 7 (some .int) [.ref (G.1 130), .int a1, .int a2, .int a3, .int a4] w (some (.int o.1)) o.2 := by
  intro o ho
  refine zM.of [(0, .ref (G.1 130)), (1, .int a1), (2, .int a2), (3, .int a3), (4, .int a4)] (by decide) (Nat.le_of_ble_eq_true rfl) rfl ?_
  refine (?_ : zR G l d "LoveLocksModel" cX12_months 7 (some .int) (some (.int o.1)) o.2 (fun x => x = o) 0 [(0, .ref (G.1 130)), (1, .int a1), (2, .int a2), (3, .int a3), (4, .int a4)] [] w (f_X12_months w a1 a2 a3 a4)) o ho rfl
  rw [f_X12_months]
  refine r_iload_n 1 dX12_months_0 rfl 1 rfl rfl ?_
  refine r_callSi 4 1 [.int a1] (st := []) dX12_months_1 rfl rfl (fun r h => c_X12_isSheet G l (d - 1) (by omega) w a1 r h) wc_X12_isSheet wz_X12 wl_X12_272 wst_X12_isSheet zd_X12_isSheet (by decide) (by omega) rfl (Nat.le_of_ble_eq_true rfl) (fun r1 => ?_)
  refine r_if_eq 27 7 dX12_months_4 (by decide) rfl ?_ ?_
  · refine r_iconst 28 dX12_months_27 rfl zci_m1 ?_
    exact r_iret dX12_months_28 rfl z_kiw
  · refine r_iload_n 8 dX12_months_7 rfl 2 rfl rfl ?_
    refine r_callSi 11 1 [.int a2] (st := []) dX12_months_8 rfl rfl (fun r h => c_X12_isLane G l (d - 1) (by omega) w a2 r h) wc_X12_isLane wz_X12 wl_X12_275 wst_X12_isLane zd_X12_isLane (by decide) (by omega) rfl (Nat.le_of_ble_eq_true rfl) (fun r2 => ?_)
    refine r_if_eq 27 14 dX12_months_11 (by decide) rfl ?_ ?_
    · refine r_iconst 28 dX12_months_27 rfl zci_m1 ?_
      exact r_iret dX12_months_28 rfl z_kiw
    · refine r_iload 16 dX12_months_14 rfl 4 rfl ?_
      refine r_i2l 17 dX12_months_16 rfl ?_
      refine r_lconst 18 dX12_months_17 rfl zcl_1 ?_
      refine r_ldc2 21 dX12_months_18 rfl wk_X12_278 ?_
      refine r_callSi 24 3 [.long a4.toInt64, .long (1 : Int64), .long (12 : Int64)] (st := []) dX12_months_21 rfl rfl (fun r h => c_X12_in G l (d - 1) (by omega) w a4.toInt64 (1 : Int64) (12 : Int64) r h) wc_X12_in wz_X12 wl_X12_111 wst_X12_in zd_X12_in (by decide) (by omega) rfl (Nat.le_of_ble_eq_true rfl) (fun r3 => ?_)
      refine r_if_ne 29 27 dX12_months_24 (by decide) rfl ?_ ?_
      · refine r_aload_n 30 dX12_months_29 rfl 0 rfl rfl ?_
        refine r_iload_n 31 dX12_months_30 rfl 1 rfl rfl ?_
        refine r_iload_n 32 dX12_months_31 rfl 2 rfl rfl ?_
        refine r_iload_n 33 dX12_months_32 rfl 3 rfl rfl ?_
        refine r_iconst 34 dX12_months_33 rfl zci_2 ?_
        refine r_iload 36 dX12_months_34 rfl 4 rfl ?_
        refine r_imul 37 dX12_months_36 rfl ?_
        refine r_callVi 40 4 (ko := 130) [.int a1, .int a2, .int a3, .int ((2 : Int32) * a4)] (st := []) dX12_months_37 rfl rfl (fun r h => c_X12_finds G l (d - 1) (by omega) w a1 a2 a3 ((2 : Int32) * a4) r h) zl_130 (ce_130 G _) rfl rfl wc_X12_finds wz_X12 wl_X12_280 wi_X12_finds ws_X12_finds zd_X12_finds (by decide) (by omega) rfl (Nat.le_of_ble_eq_true rfl) (fun r4 => ?_)
        refine r_istore 42 [(5, .int r4), (0, .ref (G.1 130)), (1, .int a1), (2, .int a2), (3, .int a3), (4, .int a4)] dX12_months_40 rfl (by decide) rfl ?_
        refine r_iload 44 dX12_months_42 rfl 0 rfl ?_
        refine r_if_ge 50 47 dX12_months_44 (by decide) rfl ?_ ?_
        · refine r_iconst 51 dX12_months_50 rfl zci_0 ?_
          refine r_istore 53 [(6, .int (0 : Int32)), (5, .int r4), (0, .ref (G.1 130)), (1, .int a1), (2, .int a2), (3, .int a3), (4, .int a4)] dX12_months_51 rfl (by decide) rfl ?_
          refine r_loopR [2, 3, 5, 6, 0] (fun s5 => [(0, .ref (G.1 130)), (1, .int a1), (3, .int a3), (4, .int a4), (6, .int s5)]) (fun s5 => w) (fun x => x = o) 109 (fun q6 => [(0, .ref (G.1 130)), (1, .int a1), (3, .int a3), (4, .int a4)]) (fun q6 => w) rfl rfl (fun s5 => ?_) (fun x y h1 h2 => by cases h1; exact h2) (fun q6 => ?_)
          · rw [f_X12_months_L53]
            refine r_iload 55 dX12_months_53 rfl 4 rfl ?_
            refine r_iload 57 dX12_months_55 rfl 3 rfl ?_
            refine r_icmp_ge 109 60 dX12_months_57 (by decide) rfl ?_ ?_
            · exact r_leaf [0, 1, 2, 3] (lv2 := [(0, .ref (G.1 130)), (1, .int a1), (3, .int a3), (4, .int a4)]) rfl (fun h => h)
            · refine r_aload_n 61 dX12_months_60 rfl 0 rfl rfl ?_
              refine r_get 64 130 40 dX12_months_61 rfl zl_130 (ce_130 G _) rfl inz12 (by decide) wf_X12_102 rfl ?_
              refine r_bipush 66 dX12_months_64 rfl zcb_24 ?_
              refine r_iload_n 67 dX12_months_66 rfl 1 rfl rfl ?_
              refine r_imul 68 dX12_months_67 rfl ?_
              refine r_iload_n 69 dX12_months_68 rfl 2 rfl rfl ?_
              refine r_iadd 70 dX12_months_69 rfl ?_
              refine r_iconst 71 dX12_months_70 rfl zci_2 ?_
              refine r_iload 73 dX12_months_71 rfl 4 rfl ?_
              refine r_imul 74 dX12_months_73 rfl ?_
              refine r_iadd 75 dX12_months_74 rfl ?_
              refine r_iald 76 160 96 dX12_months_75 rfl zl_160 (ce_160 G _) ?_
              refine r_aload_n 77 dX12_months_76 rfl 0 rfl rfl ?_
              refine r_get 80 130 40 dX12_months_77 rfl zl_130 (ce_130 G _) rfl inz12 (by decide) wf_X12_102 rfl ?_
              refine r_bipush 82 dX12_months_80 rfl zcb_24 ?_
              refine r_iload_n 83 dX12_months_82 rfl 1 rfl rfl ?_
              refine r_imul 84 dX12_months_83 rfl ?_
              refine r_iload_n 85 dX12_months_84 rfl 2 rfl rfl ?_
              refine r_iadd 86 dX12_months_85 rfl ?_
              refine r_iconst 87 dX12_months_86 rfl zci_2 ?_
              refine r_iload 89 dX12_months_87 rfl 4 rfl ?_
              refine r_imul 90 dX12_months_89 rfl ?_
              refine r_iadd 91 dX12_months_90 rfl ?_
              refine r_iconst 92 dX12_months_91 rfl zci_1 ?_
              refine r_iadd 93 dX12_months_92 rfl ?_
              refine r_iald 94 160 96 dX12_months_93 rfl zl_160 (ce_160 G _) ?_
              refine r_callSi 97 2 [.int (w.1 160 ((((24 : Int32) * a1) + a3) + ((2 : Int32) * s5)).toNatClampNeg), .int (w.1 160 (((((24 : Int32) * a1) + a3) + ((2 : Int32) * s5)) + (1 : Int32)).toNatClampNeg)] (st := []) dX12_months_94 rfl rfl (fun r h => c_X12_isMonth G l (d - 1) (by omega) w (w.1 160 ((((24 : Int32) * a1) + a3) + ((2 : Int32) * s5)).toNatClampNeg) (w.1 160 (((((24 : Int32) * a1) + a3) + ((2 : Int32) * s5)) + (1 : Int32)).toNatClampNeg) r h) wc_X12_isMonth wz_X12 wl_X12_269 wst_X12_isMonth zd_X12_isMonth (by decide) (by omega) rfl (Nat.le_of_ble_eq_true rfl) (fun r7 => ?_)
              refine r_if_ne 103 100 dX12_months_97 (by decide) rfl ?_ ?_
              · refine r_iinc 106 4 [(6, .int (s5 + (1 : Int32))), (0, .ref (G.1 130)), (1, .int a1), (3, .int a3), (4, .int a4)] dX12_months_103 rfl rfl zci_1 (by decide) rfl ?_
                refine r_goto 53 dX12_months_106 (by decide) ?_
                exact r_leaf [1, 2, 3, 4, 0] (lv2 := [(0, .ref (G.1 130)), (1, .int a1), (3, .int a3), (4, .int a4), (6, .int (s5 + (1 : Int32)))]) rfl (fun h => h)
              · refine r_bipush 102 dX12_months_100 rfl zcb_m2 ?_
                exact r_iret dX12_months_102 rfl z_kiw
          · refine r_iconst 110 dX12_months_109 rfl zci_0 ?_
            refine r_istore 112 [(6, .int (0 : Int32)), (0, .ref (G.1 130)), (1, .int a1), (3, .int a3), (4, .int a4)] dX12_months_110 rfl (by decide) rfl ?_
            refine r_loopE [1, 2, 3, 4, 0] (fun s8 => [(0, .ref (G.1 130)), (1, .int a1), (3, .int a3), (4, .int a4), (6, .int s8.1)]) (fun s8 => s8.2) 173 (fun q9 => [(4, .int a4)]) (fun q9 => q9) rfl rfl (fun s8 => ?_) (fun q9 => ?_)
            · rw [f_X12_months_L112]
              refine r_iload 114 dX12_months_112 rfl 4 rfl ?_
              refine r_iload 116 dX12_months_114 rfl 3 rfl ?_
              refine r_icmp_ge 173 119 dX12_months_116 (by decide) rfl ?_ ?_
              · exact r_leaf [3] (lv2 := [(4, .int a4)]) rfl (fun h => h)
              · refine r_aload_n 120 dX12_months_119 rfl 0 rfl rfl ?_
                refine r_get 123 130 30 dX12_months_120 rfl zl_130 (ce_130 G _) rfl inz12 (by decide) wf_X12_81 rfl ?_
                refine r_iload 125 dX12_months_123 rfl 4 rfl ?_
                refine r_aload_n 126 dX12_months_125 rfl 0 rfl rfl ?_
                refine r_get 129 130 40 dX12_months_126 rfl zl_130 (ce_130 G _) rfl inz12 (by decide) wf_X12_102 rfl ?_
                refine r_bipush 131 dX12_months_129 rfl zcb_24 ?_
                refine r_iload_n 132 dX12_months_131 rfl 1 rfl rfl ?_
                refine r_imul 133 dX12_months_132 rfl ?_
                refine r_iload_n 134 dX12_months_133 rfl 2 rfl rfl ?_
                refine r_iadd 135 dX12_months_134 rfl ?_
                refine r_iconst 136 dX12_months_135 rfl zci_2 ?_
                refine r_iload 138 dX12_months_136 rfl 4 rfl ?_
                refine r_imul 139 dX12_months_138 rfl ?_
                refine r_iadd 140 dX12_months_139 rfl ?_
                refine r_iald 141 160 96 dX12_months_140 rfl zl_160 (ce_160 G _) ?_
                refine r_iast 142 153 12 dX12_months_141 rfl zl_153 (ce_153 G) ?_
                refine r_topw (fun w10 => ?_)
                refine r_aload_n 143 dX12_months_142 rfl 0 rfl rfl ?_
                refine r_get 146 130 31 dX12_months_143 rfl zl_130 (ce_130 G _) rfl inz12 (by decide) wf_X12_84 rfl ?_
                refine r_iload 148 dX12_months_146 rfl 4 rfl ?_
                refine r_aload_n 149 dX12_months_148 rfl 0 rfl rfl ?_
                refine r_get 152 130 40 dX12_months_149 rfl zl_130 (ce_130 G _) rfl inz12 (by decide) wf_X12_102 rfl ?_
                refine r_bipush 154 dX12_months_152 rfl zcb_24 ?_
                refine r_iload_n 155 dX12_months_154 rfl 1 rfl rfl ?_
                refine r_imul 156 dX12_months_155 rfl ?_
                refine r_iload_n 157 dX12_months_156 rfl 2 rfl rfl ?_
                refine r_iadd 158 dX12_months_157 rfl ?_
                refine r_iconst 159 dX12_months_158 rfl zci_2 ?_
                refine r_iload 161 dX12_months_159 rfl 4 rfl ?_
                refine r_imul 162 dX12_months_161 rfl ?_
                refine r_iadd 163 dX12_months_162 rfl ?_
                refine r_iconst 164 dX12_months_163 rfl zci_1 ?_
                refine r_iadd 165 dX12_months_164 rfl ?_
                refine r_iald 166 160 96 dX12_months_165 rfl zl_160 (ce_160 G _) ?_
                refine r_iast 167 154 12 dX12_months_166 rfl zl_154 (ce_154 G) ?_
                refine r_topw (fun w11 => ?_)
                refine r_iinc 170 4 [(6, .int (s8.1 + (1 : Int32))), (0, .ref (G.1 130)), (1, .int a1), (3, .int a3), (4, .int a4)] dX12_months_167 rfl rfl zci_1 (by decide) rfl ?_
                refine r_goto 112 dX12_months_170 (by decide) ?_
                exact r_leaf [1, 2, 3, 4, 0] (lv2 := [(0, .ref (G.1 130)), (1, .int a1), (3, .int a3), (4, .int a4), (6, .int (s8.1 + (1 : Int32)))]) rfl (fun h => h)
            · refine r_iload 175 dX12_months_173 rfl 0 rfl ?_
              exact r_iret dX12_months_175 rfl z_kiw
        · refine r_iload 49 dX12_months_47 rfl 0 rfl ?_
          exact r_iret dX12_months_49 rfl z_kiw
      · refine r_iconst 28 dX12_months_27 rfl zci_m1 ?_
        exact r_iret dX12_months_28 rfl z_kiw
-- X12_growsTo
def f_X12_growsTo_L6 (a3 : Int32) (a1 : Int32) (a2 : Int32) (s1 : Int32 × Int32) : Option ((Int32 × Int32) ⊕ (Int32)) :=
  if a3 ≤ s1.2 then
  some (.inr s1.1)
else
  z_let ((s1.1 + ((s1.1 * a1) / (100 : Int32))) + a2) fun y3 =>
    some (.inl (y3, s1.2 + (1 : Int32)))
def f_X12_growsTo (a0 : Int32) (a1 : Int32) (a2 : Int32) (a3 : Int32) : Option (Int32) :=
  (z_iter (f_X12_growsTo_L6 a3 a1 a2) z_fuel (a0, (0 : Int32))).bind (fun q2 : Int32 =>
  some q2)
set_option maxHeartbeats 4000000 in
set_option maxRecDepth 100000 in
theorem c_X12_growsTo (G : ZG) (l : Launch) (d : Nat) (hd : 1 ≤ d) (w0 : ZW) (a0 : Int32) (a1 : Int32) (a2 : Int32) (a3 : Int32) : ∀ o, f_X12_growsTo a0 a1 a2 a3 = some o → zM G l d yX12_growsTo cX12_growsTo 6 (some .int) [.int a0, .int a1, .int a2, .int a3] w0 (some (.int o)) w0 := by
  intro o ho
  refine zM.of [(0, .int a0), (1, .int a1), (2, .int a2), (3, .int a3)] (by decide) (Nat.le_of_ble_eq_true rfl) rfl ?_
  refine (?_ : zR G l d "LoveLocksModel" cX12_growsTo 6 (some .int) (some (.int o)) w0 (fun x => x = o) 0 [(0, .int a0), (1, .int a1), (2, .int a2), (3, .int a3)] [] w0 (f_X12_growsTo a0 a1 a2 a3)) o ho rfl
  rw [f_X12_growsTo]
  refine r_iload_n 1 dX12_growsTo_0 rfl 0 rfl rfl ?_
  refine r_istore 3 [(4, .int a0), (0, .int a0), (1, .int a1), (2, .int a2), (3, .int a3)] dX12_growsTo_1 rfl (by decide) rfl ?_
  refine r_iconst 4 dX12_growsTo_3 rfl zci_0 ?_
  refine r_istore 6 [(5, .int (0 : Int32)), (4, .int a0), (0, .int a0), (1, .int a1), (2, .int a2), (3, .int a3)] dX12_growsTo_4 rfl (by decide) rfl ?_
  refine r_loopE [3, 4, 5, 1, 0] (fun s1 => [(1, .int a1), (2, .int a2), (3, .int a3), (4, .int s1.1), (5, .int s1.2)]) (fun s1 => w0) 32 (fun q2 => [(4, .int q2)]) (fun q2 => w0) rfl rfl (fun s1 => ?_) (fun q2 => ?_)
  · rw [f_X12_growsTo_L6]
    refine r_iload 8 dX12_growsTo_6 rfl 4 rfl ?_
    refine r_iload_n 9 dX12_growsTo_8 rfl 2 rfl rfl ?_
    refine r_icmp_ge 32 12 dX12_growsTo_9 (by decide) rfl ?_ ?_
    · exact r_leaf [3] (lv2 := [(4, .int s1.1)]) rfl (fun h => h)
    · refine r_iload 14 dX12_growsTo_12 rfl 3 rfl ?_
      refine r_iload 16 dX12_growsTo_14 rfl 3 rfl ?_
      refine r_iload_n 17 dX12_growsTo_16 rfl 0 rfl rfl ?_
      refine r_imul 18 dX12_growsTo_17 rfl ?_
      refine r_bipush 20 dX12_growsTo_18 rfl zcb_100 ?_
      refine r_idiv 21 dX12_growsTo_20 rfl (by decide) ?_
      refine r_iadd 22 dX12_growsTo_21 rfl ?_
      refine r_iload_n 23 dX12_growsTo_22 rfl 1 rfl rfl ?_
      refine r_iadd 24 dX12_growsTo_23 rfl ?_
      refine r_topi (fun y3 => ?_)
      refine r_istore 26 [(4, .int y3), (1, .int a1), (2, .int a2), (3, .int a3), (5, .int s1.2)] dX12_growsTo_24 rfl (by decide) rfl ?_
      refine r_iinc 29 4 [(5, .int (s1.2 + (1 : Int32))), (4, .int y3), (1, .int a1), (2, .int a2), (3, .int a3)] dX12_growsTo_26 rfl rfl zci_1 (by decide) rfl ?_
      refine r_goto 6 dX12_growsTo_29 (by decide) ?_
      exact r_leaf [2, 3, 4, 1, 0] (lv2 := [(1, .int a1), (2, .int a2), (3, .int a3), (4, .int y3), (5, .int (s1.2 + (1 : Int32)))]) rfl (fun h => h)
  · refine r_iload 34 dX12_growsTo_32 rfl 0 rfl ?_
    exact r_iret dX12_growsTo_34 rfl z_ki
-- X12_isLaw
def f_X12_isLaw_J91 (x4_13 : Int32) (x6_14 : Int32) (x7_15 : Int32) (k16 : Int32) : Option ((Int32 × Int32) ⊕ (Int32)) :=
  if x7_15 = 0 then
  some (.inl (x6_14, k16))
else
  some (.inl (x4_13, k16))
def f_X12_isLaw_J77 (x4_9 : Int32) (x5_10 : Int32) (x6_11 : Int32) (k12 : Int32) : Option ((Int32 × Int32) ⊕ (Int32)) :=
  if k12 = 0 then
  f_X12_isLaw_J91 x4_9 x6_11 k12 x5_10
else
  f_X12_isLaw_J91 x4_9 x6_11 k12 x6_11
def f_X12_isLaw_L37 (a1 : Int32) (a2 : Int32) (s3 : Int32 × ZW) (s5 : Int32 × Int32) : Option ((Int32 × Int32) ⊕ (Int32)) :=
  if (s5.2 - s5.1) ≤ (1 : Int32) then
  some (.inr s5.2)
else
  z_let ((s5.1 + s5.2) / (2 : Int32)) fun y7 =>
    (f_X12_growsTo y7 a1 a2 s3.1).bind fun r8 : Int32 =>
    if z_in s3.1 12 then
    if r8 < (s3.2.1 153 s3.1.toNatClampNeg) then
    f_X12_isLaw_J77 s5.1 s5.2 y7 (0 : Int32)
  else
    f_X12_isLaw_J77 s5.1 s5.2 y7 (1 : Int32)
  else none
def f_X12_isLaw_J194 (x5_29 : Int32) (x6_30 : Int32) (x7_31 : Int32) (k32 : Int32) : Option ((Int32 × Int32) ⊕ (Int32)) :=
  if x7_31 = 0 then
  some (.inl (k32, x6_30))
else
  some (.inl (k32, x5_29))
def f_X12_isLaw_J180 (x4_25 : Int32) (x5_26 : Int32) (x6_27 : Int32) (k28 : Int32) : Option ((Int32 × Int32) ⊕ (Int32)) :=
  if k28 = 0 then
  f_X12_isLaw_J194 x5_26 x6_27 k28 x4_25
else
  f_X12_isLaw_J194 x5_26 x6_27 k28 x6_27
def f_X12_isLaw_L140 (a1 : Int32) (a2 : Int32) (x3_17 : Int32) (w20 : ZW) (s21 : Int32 × Int32) : Option ((Int32 × Int32) ⊕ (Int32)) :=
  if (s21.2 - s21.1) ≤ (1 : Int32) then
  some (.inr s21.1)
else
  z_let ((s21.1 + s21.2) / (2 : Int32)) fun y23 =>
    (f_X12_growsTo y23 a1 a2 x3_17).bind fun r24 : Int32 =>
    if z_in x3_17 12 then
    if (w20.1 154 x3_17.toNatClampNeg) < r24 then
    f_X12_isLaw_J180 s21.1 s21.2 y23 (0 : Int32)
  else
    f_X12_isLaw_J180 s21.1 s21.2 y23 (1 : Int32)
  else none
def f_X12_isLaw_J129 (a1 : Int32) (a2 : Int32) (x3_17 : Int32) (k18 : Int32) (w19 : ZW) : Option ((Int32 × ZW) ⊕ (ZW)) :=
  z_let (z_upI w19 130 32 k18) fun w20 =>
  (z_iter (f_X12_isLaw_L140 a1 a2 x3_17 w20) z_fuel ((-1 : Int32), (10000 : Int32))).bind (fun q22 : Int32 =>
  if (w20.1 130 33) ≤ q22 then
  z_let (z_upI w20 130 33 (w20.1 130 33)) fun w33 =>
    some (.inl (x3_17 + (1 : Int32), w33))
else
  z_let (z_upI w20 130 33 q22) fun w34 =>
    some (.inl (x3_17 + (1 : Int32), w34)))
def f_X12_isLaw_L14 (a1 : Int32) (a2 : Int32) (s3 : Int32 × ZW) : Option ((Int32 × ZW) ⊕ (ZW)) :=
  if (12 : Int32) ≤ s3.1 then
  some (.inr s3.2)
else
  if z_in s3.1 12 then
    if (s3.2.1 154 s3.1.toNatClampNeg) < 0 then
    some (.inl (s3.1 + (1 : Int32), s3.2))
  else
    (z_iter (f_X12_isLaw_L37 a1 a2 s3) z_fuel ((-1 : Int32), (10000 : Int32))).bind (fun q6 : Int32 =>
      if q6 ≤ (s3.2.1 130 32) then
      f_X12_isLaw_J129 a1 a2 s3.1 (s3.2.1 130 32) s3.2
    else
      f_X12_isLaw_J129 a1 a2 s3.1 q6 s3.2)
  else none
def f_X12_isLaw (w : ZW) (a1 : Int32) (a2 : Int32) : Option (Int32 × ZW) :=
  z_let (z_upI w 130 32 (0 : Int32)) fun w1 =>
  z_let (z_upI w1 130 33 (9999 : Int32)) fun w2 =>
  (z_iter (f_X12_isLaw_L14 a1 a2) z_fuel ((0 : Int32), w2)).bind (fun q4 : ZW =>
  if (q4.1 130 33) < (q4.1 130 32) then
  some ((0 : Int32), q4)
else
  some ((1 : Int32), q4))
set_option maxHeartbeats 4000000 in
set_option maxRecDepth 100000 in
theorem c_X12_isLaw (G : ZG) (l : Launch) (d : Nat) (hd : 2 ≤ d) (w : ZW) (a1 : Int32) (a2 : Int32) : ∀ o, f_X12_isLaw w a1 a2 = some o → zM G l d yX12_isLaw cX12_isLaw 8 (some .boolean) [.ref (G.1 130), .int a1, .int a2] w (some (.int o.1)) o.2 := by
  intro o ho
  refine zM.of [(0, .ref (G.1 130)), (1, .int a1), (2, .int a2)] (by decide) (Nat.le_of_ble_eq_true rfl) rfl ?_
  refine (?_ : zR G l d "LoveLocksModel" cX12_isLaw 8 (some .boolean) (some (.int o.1)) o.2 (fun x => x = o) 0 [(0, .ref (G.1 130)), (1, .int a1), (2, .int a2)] [] w (f_X12_isLaw w a1 a2)) o ho rfl
  rw [f_X12_isLaw]
  refine r_aload_n 1 dX12_isLaw_0 rfl 0 rfl rfl ?_
  refine r_iconst 2 dX12_isLaw_1 rfl zci_0 ?_
  refine r_puti 5 130 32 dX12_isLaw_2 rfl zl_130 (ce_130 G _) rfl inz12 tyX12_ok nmX12 (by decide) wf_X12_284 rfl rfl (Nat.le_of_ble_eq_true rfl) rfl ?_
  refine r_topw (fun w1 => ?_)
  refine r_aload_n 6 dX12_isLaw_5 rfl 0 rfl rfl ?_
  refine r_sipush 9 dX12_isLaw_6 rfl zcs_9999 ?_
  refine r_puti 12 130 33 dX12_isLaw_9 rfl zl_130 (ce_130 G _) rfl inz12 tyX12_ok nmX12 (by decide) wf_X12_287 rfl rfl (Nat.le_of_ble_eq_true rfl) rfl ?_
  refine r_topw (fun w2 => ?_)
  refine r_iconst 13 dX12_isLaw_12 rfl zci_0 ?_
  refine r_istore_n 14 [(3, .int (0 : Int32)), (0, .ref (G.1 130)), (1, .int a1), (2, .int a2)] dX12_isLaw_13 rfl rfl (by decide) rfl ?_
  refine r_loopE [1, 2, 3, 0] (fun s3 => [(0, .ref (G.1 130)), (1, .int a1), (2, .int a2), (3, .int s3.1)]) (fun s3 => s3.2) 241 (fun q4 => [(0, .ref (G.1 130))]) (fun q4 => q4) rfl rfl (fun s3 => ?_) (fun q4 => ?_)
  · rw [f_X12_isLaw_L14]
    have hJ129 : ∀ (x3_17 : Int32) (k18 : Int32) (w19 : ZW), zR G l d "LoveLocksModel" cX12_isLaw 8 (some .boolean) (some (.int o.1)) o.2 (Sum.elim (fun s3 => zA G l d "LoveLocksModel" cX12_isLaw 8 (some .boolean) (some (.int o.1)) o.2 14 [(0, .ref (G.1 130)), (1, .int a1), (2, .int a2), (3, .int s3.1)] [] s3.2) (fun q4 => zA G l d "LoveLocksModel" cX12_isLaw 8 (some .boolean) (some (.int o.1)) o.2 241 [(0, .ref (G.1 130))] [] q4)) 129 [(0, .ref (G.1 130)), (1, .int a1), (2, .int a2), (3, .int x3_17)] [.int k18, .ref (G.1 130)] w19 (f_X12_isLaw_J129 a1 a2 x3_17 k18 w19) := by
      intro x3_17 k18 w19
      rw [f_X12_isLaw_J129]
      refine r_puti 132 130 32 dX12_isLaw_129 rfl zl_130 (ce_130 G _) rfl inz12 tyX12_ok nmX12 (by decide) wf_X12_284 rfl rfl (Nat.le_of_ble_eq_true rfl) rfl ?_
      refine r_topw (fun w20 => ?_)
      refine r_iconst 133 dX12_isLaw_132 rfl zci_m1 ?_
      refine r_istore 135 [(4, .int (-1 : Int32)), (0, .ref (G.1 130)), (1, .int a1), (2, .int a2), (3, .int x3_17)] dX12_isLaw_133 rfl (by decide) rfl ?_
      refine r_sipush 138 dX12_isLaw_135 rfl zcs_10000 ?_
      refine r_istore 140 [(5, .int (10000 : Int32)), (4, .int (-1 : Int32)), (0, .ref (G.1 130)), (1, .int a1), (2, .int a2), (3, .int x3_17)] dX12_isLaw_138 rfl (by decide) rfl ?_
      refine r_loopE [2, 3, 4, 5, 1, 0] (fun s21 => [(0, .ref (G.1 130)), (1, .int a1), (2, .int a2), (3, .int x3_17), (4, .int s21.1), (5, .int s21.2)]) (fun s21 => w20) 213 (fun q22 => [(0, .ref (G.1 130)), (1, .int a1), (2, .int a2), (3, .int x3_17), (4, .int q22)]) (fun q22 => w20) rfl rfl (fun s21 => ?_) (fun q22 => ?_)
      · rw [f_X12_isLaw_L140]
        have hJ194 : ∀ (x5_29 : Int32) (x6_30 : Int32) (x7_31 : Int32) (k32 : Int32), zR G l d "LoveLocksModel" cX12_isLaw 8 (some .boolean) (some (.int o.1)) o.2 (Sum.elim (fun s21 => zA G l d "LoveLocksModel" cX12_isLaw 8 (some .boolean) (some (.int o.1)) o.2 140 [(0, .ref (G.1 130)), (1, .int a1), (2, .int a2), (3, .int x3_17), (4, .int s21.1), (5, .int s21.2)] [] w20) (fun q22 => zA G l d "LoveLocksModel" cX12_isLaw 8 (some .boolean) (some (.int o.1)) o.2 213 [(0, .ref (G.1 130)), (1, .int a1), (2, .int a2), (3, .int x3_17), (4, .int q22)] [] w20)) 194 [(0, .ref (G.1 130)), (1, .int a1), (2, .int a2), (3, .int x3_17), (5, .int x5_29), (6, .int x6_30), (7, .int x7_31)] [.int k32] w20 (f_X12_isLaw_J194 x5_29 x6_30 x7_31 k32) := by
          intro x5_29 x6_30 x7_31 k32
          rw [f_X12_isLaw_J194]
          refine r_istore 196 [(4, .int k32), (0, .ref (G.1 130)), (1, .int a1), (2, .int a2), (3, .int x3_17), (5, .int x5_29), (6, .int x6_30), (7, .int x7_31)] dX12_isLaw_194 rfl (by decide) rfl ?_
          refine r_iload 198 dX12_isLaw_196 rfl 7 rfl ?_
          refine r_if_eq 206 201 dX12_isLaw_198 (by decide) rfl ?_ ?_
          · refine r_iload 208 dX12_isLaw_206 rfl 6 rfl ?_
            refine r_istore 210 [(5, .int x6_30), (4, .int k32), (0, .ref (G.1 130)), (1, .int a1), (2, .int a2), (3, .int x3_17), (6, .int x6_30), (7, .int x7_31)] dX12_isLaw_208 rfl (by decide) rfl ?_
            refine r_goto 140 dX12_isLaw_210 (by decide) ?_
            exact r_leaf [2, 3, 4, 5, 1, 0] (lv2 := [(0, .ref (G.1 130)), (1, .int a1), (2, .int a2), (3, .int x3_17), (4, .int k32), (5, .int x6_30)]) rfl (fun h => h)
          · refine r_iload 203 dX12_isLaw_201 rfl 5 rfl ?_
            refine r_goto 208 dX12_isLaw_203 (by decide) ?_
            refine r_istore 210 [(5, .int x5_29), (4, .int k32), (0, .ref (G.1 130)), (1, .int a1), (2, .int a2), (3, .int x3_17), (6, .int x6_30), (7, .int x7_31)] dX12_isLaw_208 rfl (by decide) rfl ?_
            refine r_goto 140 dX12_isLaw_210 (by decide) ?_
            exact r_leaf [2, 3, 4, 5, 1, 0] (lv2 := [(0, .ref (G.1 130)), (1, .int a1), (2, .int a2), (3, .int x3_17), (4, .int k32), (5, .int x5_29)]) rfl (fun h => h)
        have hJ180 : ∀ (x4_25 : Int32) (x5_26 : Int32) (x6_27 : Int32) (k28 : Int32), zR G l d "LoveLocksModel" cX12_isLaw 8 (some .boolean) (some (.int o.1)) o.2 (Sum.elim (fun s21 => zA G l d "LoveLocksModel" cX12_isLaw 8 (some .boolean) (some (.int o.1)) o.2 140 [(0, .ref (G.1 130)), (1, .int a1), (2, .int a2), (3, .int x3_17), (4, .int s21.1), (5, .int s21.2)] [] w20) (fun q22 => zA G l d "LoveLocksModel" cX12_isLaw 8 (some .boolean) (some (.int o.1)) o.2 213 [(0, .ref (G.1 130)), (1, .int a1), (2, .int a2), (3, .int x3_17), (4, .int q22)] [] w20)) 180 [(0, .ref (G.1 130)), (1, .int a1), (2, .int a2), (3, .int x3_17), (4, .int x4_25), (5, .int x5_26), (6, .int x6_27)] [.int k28] w20 (f_X12_isLaw_J180 x4_25 x5_26 x6_27 k28) := by
          intro x4_25 x5_26 x6_27 k28
          rw [f_X12_isLaw_J180]
          refine r_istore 182 [(7, .int k28), (0, .ref (G.1 130)), (1, .int a1), (2, .int a2), (3, .int x3_17), (4, .int x4_25), (5, .int x5_26), (6, .int x6_27)] dX12_isLaw_180 rfl (by decide) rfl ?_
          refine r_iload 184 dX12_isLaw_182 rfl 0 rfl ?_
          refine r_if_eq 192 187 dX12_isLaw_184 (by decide) rfl ?_ ?_
          · refine r_iload 194 dX12_isLaw_192 rfl 5 rfl ?_
            exact r_sub [1, 2, 3, 4, 6, 7, 0] (lv2 := [(0, .ref (G.1 130)), (1, .int a1), (2, .int a2), (3, .int x3_17), (5, .int x5_26), (6, .int x6_27), (7, .int k28)]) rfl (hJ194 x5_26 x6_27 k28 x4_25)
          · refine r_iload 189 dX12_isLaw_187 rfl 7 rfl ?_
            refine r_goto 194 dX12_isLaw_189 (by decide) ?_
            exact r_sub [1, 2, 3, 4, 6, 7, 0] (lv2 := [(0, .ref (G.1 130)), (1, .int a1), (2, .int a2), (3, .int x3_17), (5, .int x5_26), (6, .int x6_27), (7, .int k28)]) rfl (hJ194 x5_26 x6_27 k28 x6_27)
        refine r_iload 142 dX12_isLaw_140 rfl 5 rfl ?_
        refine r_iload 144 dX12_isLaw_142 rfl 4 rfl ?_
        refine r_isub 145 dX12_isLaw_144 rfl ?_
        refine r_iconst 146 dX12_isLaw_145 rfl zci_1 ?_
        refine r_icmp_le 213 149 dX12_isLaw_146 (by decide) rfl ?_ ?_
        · exact r_leaf [0, 1, 2, 3, 4] (lv2 := [(0, .ref (G.1 130)), (1, .int a1), (2, .int a2), (3, .int x3_17), (4, .int s21.1)]) rfl (fun h => h)
        · refine r_iload 151 dX12_isLaw_149 rfl 4 rfl ?_
          refine r_iload 153 dX12_isLaw_151 rfl 5 rfl ?_
          refine r_iadd 154 dX12_isLaw_153 rfl ?_
          refine r_iconst 155 dX12_isLaw_154 rfl zci_2 ?_
          refine r_idiv 156 dX12_isLaw_155 rfl (by decide) ?_
          refine r_topi (fun y23 => ?_)
          refine r_istore 158 [(6, .int y23), (0, .ref (G.1 130)), (1, .int a1), (2, .int a2), (3, .int x3_17), (4, .int s21.1), (5, .int s21.2)] dX12_isLaw_156 rfl (by decide) rfl ?_
          refine r_iload 160 dX12_isLaw_158 rfl 0 rfl ?_
          refine r_iload_n 161 dX12_isLaw_160 rfl 2 rfl rfl ?_
          refine r_iload_n 162 dX12_isLaw_161 rfl 3 rfl rfl ?_
          refine r_iload_n 163 dX12_isLaw_162 rfl 4 rfl rfl ?_
          refine r_callSi 166 4 [.int y23, .int a1, .int a2, .int x3_17] (st := []) dX12_isLaw_163 rfl rfl (fun r h => c_X12_growsTo G l (d - 1) (by omega) w20 y23 a1 a2 x3_17 r h) wc_X12_growsTo wz_X12 wl_X12_290 wst_X12_growsTo zd_X12_growsTo (by decide) (by omega) rfl (Nat.le_of_ble_eq_true rfl) (fun r24 => ?_)
          refine r_aload_n 167 dX12_isLaw_166 rfl 1 rfl rfl ?_
          refine r_get 170 130 31 dX12_isLaw_167 rfl zl_130 (ce_130 G _) rfl inz12 (by decide) wf_X12_84 rfl ?_
          refine r_iload_n 171 dX12_isLaw_170 rfl 4 rfl rfl ?_
          refine r_iald 172 154 12 dX12_isLaw_171 rfl zl_154 (ce_154 G _) ?_
          refine r_icmp_gt 179 175 dX12_isLaw_172 (by decide) rfl ?_ ?_
          · refine r_iconst 180 dX12_isLaw_179 rfl zci_0 ?_
            exact r_sub [1, 2, 3, 4, 5, 6, 0] (lv2 := [(0, .ref (G.1 130)), (1, .int a1), (2, .int a2), (3, .int x3_17), (4, .int s21.1), (5, .int s21.2), (6, .int y23)]) rfl (hJ180 s21.1 s21.2 y23 (0 : Int32))
          · refine r_iconst 176 dX12_isLaw_175 rfl zci_1 ?_
            refine r_goto 180 dX12_isLaw_176 (by decide) ?_
            exact r_sub [1, 2, 3, 4, 5, 6, 0] (lv2 := [(0, .ref (G.1 130)), (1, .int a1), (2, .int a2), (3, .int x3_17), (4, .int s21.1), (5, .int s21.2), (6, .int y23)]) rfl (hJ180 s21.1 s21.2 y23 (1 : Int32))
      · refine r_aload_n 214 dX12_isLaw_213 rfl 0 rfl rfl ?_
        refine r_iload 216 dX12_isLaw_214 rfl 4 rfl ?_
        refine r_aload_n 217 dX12_isLaw_216 rfl 0 rfl rfl ?_
        refine r_get 220 130 33 dX12_isLaw_217 rfl zl_130 (ce_130 G _) rfl inz12 (by decide) wf_X12_287 rfl ?_
        refine r_icmp_ge 228 223 dX12_isLaw_220 (by decide) rfl ?_ ?_
        · refine r_aload_n 229 dX12_isLaw_228 rfl 0 rfl rfl ?_
          refine r_get 232 130 33 dX12_isLaw_229 rfl zl_130 (ce_130 G _) rfl inz12 (by decide) wf_X12_287 rfl ?_
          refine r_puti 235 130 33 dX12_isLaw_232 rfl zl_130 (ce_130 G _) rfl inz12 tyX12_ok nmX12 (by decide) wf_X12_287 rfl rfl (Nat.le_of_ble_eq_true rfl) rfl ?_
          refine r_topw (fun w33 => ?_)
          refine r_iinc 238 3 [(3, .int (x3_17 + (1 : Int32))), (0, .ref (G.1 130)), (1, .int a1), (2, .int a2), (4, .int q22)] dX12_isLaw_235 rfl rfl zci_1 (by decide) rfl ?_
          refine r_goto 14 dX12_isLaw_238 (by decide) ?_
          exact r_leaf [1, 2, 3, 0] (lv2 := [(0, .ref (G.1 130)), (1, .int a1), (2, .int a2), (3, .int (x3_17 + (1 : Int32)))]) rfl (fun h => h)
        · refine r_iload 225 dX12_isLaw_223 rfl 4 rfl ?_
          refine r_goto 232 dX12_isLaw_225 (by decide) ?_
          refine r_puti 235 130 33 dX12_isLaw_232 rfl zl_130 (ce_130 G _) rfl inz12 tyX12_ok nmX12 (by decide) wf_X12_287 rfl rfl (Nat.le_of_ble_eq_true rfl) rfl ?_
          refine r_topw (fun w34 => ?_)
          refine r_iinc 238 3 [(3, .int (x3_17 + (1 : Int32))), (0, .ref (G.1 130)), (1, .int a1), (2, .int a2), (4, .int q22)] dX12_isLaw_235 rfl rfl zci_1 (by decide) rfl ?_
          refine r_goto 14 dX12_isLaw_238 (by decide) ?_
          exact r_leaf [1, 2, 3, 0] (lv2 := [(0, .ref (G.1 130)), (1, .int a1), (2, .int a2), (3, .int (x3_17 + (1 : Int32)))]) rfl (fun h => h)
    refine r_iload_n 15 dX12_isLaw_14 rfl 3 rfl rfl ?_
    refine r_bipush 17 dX12_isLaw_15 rfl zcb_12 ?_
    refine r_icmp_ge 241 20 dX12_isLaw_17 (by decide) rfl ?_ ?_
    · exact r_leaf [0] (lv2 := [(0, .ref (G.1 130))]) rfl (fun h => h)
    · refine r_aload_n 21 dX12_isLaw_20 rfl 0 rfl rfl ?_
      refine r_get 24 130 31 dX12_isLaw_21 rfl zl_130 (ce_130 G _) rfl inz12 (by decide) wf_X12_84 rfl ?_
      refine r_iload_n 25 dX12_isLaw_24 rfl 3 rfl rfl ?_
      refine r_iald 26 154 12 dX12_isLaw_25 rfl zl_154 (ce_154 G _) ?_
      refine r_if_lt 235 29 dX12_isLaw_26 (by decide) rfl ?_ ?_
      · refine r_iinc 238 3 [(3, .int (s3.1 + (1 : Int32))), (0, .ref (G.1 130)), (1, .int a1), (2, .int a2)] dX12_isLaw_235 rfl rfl zci_1 (by decide) rfl ?_
        refine r_goto 14 dX12_isLaw_238 (by decide) ?_
        exact r_leaf [1, 2, 3, 0] (lv2 := [(0, .ref (G.1 130)), (1, .int a1), (2, .int a2), (3, .int (s3.1 + (1 : Int32)))]) rfl (fun h => h)
      · refine r_iconst 30 dX12_isLaw_29 rfl zci_m1 ?_
        refine r_istore 32 [(4, .int (-1 : Int32)), (0, .ref (G.1 130)), (1, .int a1), (2, .int a2), (3, .int s3.1)] dX12_isLaw_30 rfl (by decide) rfl ?_
        refine r_sipush 35 dX12_isLaw_32 rfl zcs_10000 ?_
        refine r_istore 37 [(5, .int (10000 : Int32)), (4, .int (-1 : Int32)), (0, .ref (G.1 130)), (1, .int a1), (2, .int a2), (3, .int s3.1)] dX12_isLaw_35 rfl (by decide) rfl ?_
        refine r_loopE [2, 3, 4, 5, 1, 0] (fun s5 => [(0, .ref (G.1 130)), (1, .int a1), (2, .int a2), (3, .int s3.1), (4, .int s5.1), (5, .int s5.2)]) (fun s5 => s3.2) 110 (fun q6 => [(0, .ref (G.1 130)), (1, .int a1), (2, .int a2), (3, .int s3.1), (5, .int q6)]) (fun q6 => s3.2) rfl rfl (fun s5 => ?_) (fun q6 => ?_)
        · rw [f_X12_isLaw_L37]
          have hJ91 : ∀ (x4_13 : Int32) (x6_14 : Int32) (x7_15 : Int32) (k16 : Int32), zR G l d "LoveLocksModel" cX12_isLaw 8 (some .boolean) (some (.int o.1)) o.2 (Sum.elim (fun s5 => zA G l d "LoveLocksModel" cX12_isLaw 8 (some .boolean) (some (.int o.1)) o.2 37 [(0, .ref (G.1 130)), (1, .int a1), (2, .int a2), (3, .int s3.1), (4, .int s5.1), (5, .int s5.2)] [] s3.2) (fun q6 => zA G l d "LoveLocksModel" cX12_isLaw 8 (some .boolean) (some (.int o.1)) o.2 110 [(0, .ref (G.1 130)), (1, .int a1), (2, .int a2), (3, .int s3.1), (5, .int q6)] [] s3.2)) 91 [(0, .ref (G.1 130)), (1, .int a1), (2, .int a2), (3, .int s3.1), (4, .int x4_13), (6, .int x6_14), (7, .int x7_15)] [.int k16] s3.2 (f_X12_isLaw_J91 x4_13 x6_14 x7_15 k16) := by
            intro x4_13 x6_14 x7_15 k16
            rw [f_X12_isLaw_J91]
            refine r_istore 93 [(5, .int k16), (0, .ref (G.1 130)), (1, .int a1), (2, .int a2), (3, .int s3.1), (4, .int x4_13), (6, .int x6_14), (7, .int x7_15)] dX12_isLaw_91 rfl (by decide) rfl ?_
            refine r_iload 95 dX12_isLaw_93 rfl 7 rfl ?_
            refine r_if_eq 103 98 dX12_isLaw_95 (by decide) rfl ?_ ?_
            · refine r_iload 105 dX12_isLaw_103 rfl 6 rfl ?_
              refine r_istore 107 [(4, .int x6_14), (5, .int k16), (0, .ref (G.1 130)), (1, .int a1), (2, .int a2), (3, .int s3.1), (6, .int x6_14), (7, .int x7_15)] dX12_isLaw_105 rfl (by decide) rfl ?_
              refine r_goto 37 dX12_isLaw_107 (by decide) ?_
              exact r_leaf [2, 3, 4, 5, 0, 1] (lv2 := [(0, .ref (G.1 130)), (1, .int a1), (2, .int a2), (3, .int s3.1), (4, .int x6_14), (5, .int k16)]) rfl (fun h => h)
            · refine r_iload 100 dX12_isLaw_98 rfl 5 rfl ?_
              refine r_goto 105 dX12_isLaw_100 (by decide) ?_
              refine r_istore 107 [(4, .int x4_13), (5, .int k16), (0, .ref (G.1 130)), (1, .int a1), (2, .int a2), (3, .int s3.1), (6, .int x6_14), (7, .int x7_15)] dX12_isLaw_105 rfl (by decide) rfl ?_
              refine r_goto 37 dX12_isLaw_107 (by decide) ?_
              exact r_leaf [2, 3, 4, 5, 0, 1] (lv2 := [(0, .ref (G.1 130)), (1, .int a1), (2, .int a2), (3, .int s3.1), (4, .int x4_13), (5, .int k16)]) rfl (fun h => h)
          have hJ77 : ∀ (x4_9 : Int32) (x5_10 : Int32) (x6_11 : Int32) (k12 : Int32), zR G l d "LoveLocksModel" cX12_isLaw 8 (some .boolean) (some (.int o.1)) o.2 (Sum.elim (fun s5 => zA G l d "LoveLocksModel" cX12_isLaw 8 (some .boolean) (some (.int o.1)) o.2 37 [(0, .ref (G.1 130)), (1, .int a1), (2, .int a2), (3, .int s3.1), (4, .int s5.1), (5, .int s5.2)] [] s3.2) (fun q6 => zA G l d "LoveLocksModel" cX12_isLaw 8 (some .boolean) (some (.int o.1)) o.2 110 [(0, .ref (G.1 130)), (1, .int a1), (2, .int a2), (3, .int s3.1), (5, .int q6)] [] s3.2)) 77 [(0, .ref (G.1 130)), (1, .int a1), (2, .int a2), (3, .int s3.1), (4, .int x4_9), (5, .int x5_10), (6, .int x6_11)] [.int k12] s3.2 (f_X12_isLaw_J77 x4_9 x5_10 x6_11 k12) := by
            intro x4_9 x5_10 x6_11 k12
            rw [f_X12_isLaw_J77]
            refine r_istore 79 [(7, .int k12), (0, .ref (G.1 130)), (1, .int a1), (2, .int a2), (3, .int s3.1), (4, .int x4_9), (5, .int x5_10), (6, .int x6_11)] dX12_isLaw_77 rfl (by decide) rfl ?_
            refine r_iload 81 dX12_isLaw_79 rfl 0 rfl ?_
            refine r_if_eq 89 84 dX12_isLaw_81 (by decide) rfl ?_ ?_
            · refine r_iload 91 dX12_isLaw_89 rfl 6 rfl ?_
              exact r_sub [1, 2, 3, 4, 5, 7, 0] (lv2 := [(0, .ref (G.1 130)), (1, .int a1), (2, .int a2), (3, .int s3.1), (4, .int x4_9), (6, .int x6_11), (7, .int k12)]) rfl (hJ91 x4_9 x6_11 k12 x5_10)
            · refine r_iload 86 dX12_isLaw_84 rfl 7 rfl ?_
              refine r_goto 91 dX12_isLaw_86 (by decide) ?_
              exact r_sub [1, 2, 3, 4, 5, 7, 0] (lv2 := [(0, .ref (G.1 130)), (1, .int a1), (2, .int a2), (3, .int s3.1), (4, .int x4_9), (6, .int x6_11), (7, .int k12)]) rfl (hJ91 x4_9 x6_11 k12 x6_11)
          refine r_iload 39 dX12_isLaw_37 rfl 5 rfl ?_
          refine r_iload 41 dX12_isLaw_39 rfl 4 rfl ?_
          refine r_isub 42 dX12_isLaw_41 rfl ?_
          refine r_iconst 43 dX12_isLaw_42 rfl zci_1 ?_
          refine r_icmp_le 110 46 dX12_isLaw_43 (by decide) rfl ?_ ?_
          · exact r_leaf [0, 1, 2, 3, 5] (lv2 := [(0, .ref (G.1 130)), (1, .int a1), (2, .int a2), (3, .int s3.1), (5, .int s5.2)]) rfl (fun h => h)
          · refine r_iload 48 dX12_isLaw_46 rfl 4 rfl ?_
            refine r_iload 50 dX12_isLaw_48 rfl 5 rfl ?_
            refine r_iadd 51 dX12_isLaw_50 rfl ?_
            refine r_iconst 52 dX12_isLaw_51 rfl zci_2 ?_
            refine r_idiv 53 dX12_isLaw_52 rfl (by decide) ?_
            refine r_topi (fun y7 => ?_)
            refine r_istore 55 [(6, .int y7), (0, .ref (G.1 130)), (1, .int a1), (2, .int a2), (3, .int s3.1), (4, .int s5.1), (5, .int s5.2)] dX12_isLaw_53 rfl (by decide) rfl ?_
            refine r_iload 57 dX12_isLaw_55 rfl 0 rfl ?_
            refine r_iload_n 58 dX12_isLaw_57 rfl 2 rfl rfl ?_
            refine r_iload_n 59 dX12_isLaw_58 rfl 3 rfl rfl ?_
            refine r_iload_n 60 dX12_isLaw_59 rfl 4 rfl rfl ?_
            refine r_callSi 63 4 [.int y7, .int a1, .int a2, .int s3.1] (st := []) dX12_isLaw_60 rfl rfl (fun r h => c_X12_growsTo G l (d - 1) (by omega) s3.2 y7 a1 a2 s3.1 r h) wc_X12_growsTo wz_X12 wl_X12_290 wst_X12_growsTo zd_X12_growsTo (by decide) (by omega) rfl (Nat.le_of_ble_eq_true rfl) (fun r8 => ?_)
            refine r_aload_n 64 dX12_isLaw_63 rfl 1 rfl rfl ?_
            refine r_get 67 130 30 dX12_isLaw_64 rfl zl_130 (ce_130 G _) rfl inz12 (by decide) wf_X12_81 rfl ?_
            refine r_iload_n 68 dX12_isLaw_67 rfl 4 rfl rfl ?_
            refine r_iald 69 153 12 dX12_isLaw_68 rfl zl_153 (ce_153 G _) ?_
            refine r_icmp_lt 76 72 dX12_isLaw_69 (by decide) rfl ?_ ?_
            · refine r_iconst 77 dX12_isLaw_76 rfl zci_0 ?_
              exact r_sub [1, 2, 3, 4, 5, 6, 0] (lv2 := [(0, .ref (G.1 130)), (1, .int a1), (2, .int a2), (3, .int s3.1), (4, .int s5.1), (5, .int s5.2), (6, .int y7)]) rfl (hJ77 s5.1 s5.2 y7 (0 : Int32))
            · refine r_iconst 73 dX12_isLaw_72 rfl zci_1 ?_
              refine r_goto 77 dX12_isLaw_73 (by decide) ?_
              exact r_sub [1, 2, 3, 4, 5, 6, 0] (lv2 := [(0, .ref (G.1 130)), (1, .int a1), (2, .int a2), (3, .int s3.1), (4, .int s5.1), (5, .int s5.2), (6, .int y7)]) rfl (hJ77 s5.1 s5.2 y7 (1 : Int32))
        · refine r_aload_n 111 dX12_isLaw_110 rfl 0 rfl rfl ?_
          refine r_iload 113 dX12_isLaw_111 rfl 4 rfl ?_
          refine r_aload_n 114 dX12_isLaw_113 rfl 0 rfl rfl ?_
          refine r_get 117 130 32 dX12_isLaw_114 rfl zl_130 (ce_130 G _) rfl inz12 (by decide) wf_X12_284 rfl ?_
          refine r_icmp_le 125 120 dX12_isLaw_117 (by decide) rfl ?_ ?_
          · refine r_aload_n 126 dX12_isLaw_125 rfl 0 rfl rfl ?_
            refine r_get 129 130 32 dX12_isLaw_126 rfl zl_130 (ce_130 G _) rfl inz12 (by decide) wf_X12_284 rfl ?_
            exact r_sub [0, 1, 2, 3] (lv2 := [(0, .ref (G.1 130)), (1, .int a1), (2, .int a2), (3, .int s3.1)]) rfl (hJ129 s3.1 (s3.2.1 130 32) s3.2)
          · refine r_iload 122 dX12_isLaw_120 rfl 4 rfl ?_
            refine r_goto 129 dX12_isLaw_122 (by decide) ?_
            exact r_sub [0, 1, 2, 3] (lv2 := [(0, .ref (G.1 130)), (1, .int a1), (2, .int a2), (3, .int s3.1)]) rfl (hJ129 s3.1 q6 s3.2)
  · refine r_aload_n 242 dX12_isLaw_241 rfl 0 rfl rfl ?_
    refine r_get 245 130 32 dX12_isLaw_242 rfl zl_130 (ce_130 G _) rfl inz12 (by decide) wf_X12_284 rfl ?_
    refine r_aload_n 246 dX12_isLaw_245 rfl 0 rfl rfl ?_
    refine r_get 249 130 33 dX12_isLaw_246 rfl zl_130 (ce_130 G _) rfl inz12 (by decide) wf_X12_287 rfl ?_
    refine r_icmp_gt 256 252 dX12_isLaw_249 (by decide) rfl ?_ ?_
    · refine r_iconst 257 dX12_isLaw_256 rfl zci_0 ?_
      exact r_zret dX12_isLaw_257 rfl rfl z_kiw
    · refine r_iconst 253 dX12_isLaw_252 rfl zci_1 ?_
      refine r_goto 257 dX12_isLaw_253 (by decide) ?_
      exact r_zret dX12_isLaw_257 rfl rfl z_kiw
-- X12_laws
def f_X12_laws_J56 (x3_5 : Int32) (x4_6 : Int32) (x5_7 : Int32) (k8 : Int32) (k9 : Int32) (w10 : ZW) : Option ((Int32 × Int32 × Int32 × ZW) ⊕ (Int32 × Int32 × ZW)) :=
  if x5_7 = 0 then
  some (.inl (k9 + k8, x3_5, x4_6 + (-1 : Int32), w10))
else
  some (.inl (k9 + k8, x4_6, x4_6 + (-1 : Int32), w10))
def f_X12_laws_L24 (s2 : Int32 × Int32 × Int32 × ZW) : Option ((Int32 × Int32 × Int32 × ZW) ⊕ (Int32 × Int32 × ZW)) :=
  if s2.2.2.1 < 0 then
  some (.inr (s2.1, s2.2.1, s2.2.2.2))
else
  (f_X12_isLaw s2.2.2.2 (s2.2.2.1 / (10 : Int32)) (s2.2.2.1 - s2.2.2.1 / (10 : Int32) * (10 : Int32))).bind fun r4 : Int32 × ZW =>
    if r4.1 = 0 then
    f_X12_laws_J56 s2.2.1 s2.2.2.1 r4.1 (0 : Int32) s2.1 r4.2
  else
    f_X12_laws_J56 s2.2.1 s2.2.2.1 r4.1 (1 : Int32) s2.1 r4.2
def f_X12_laws (w : ZW) (a1 : Int32) : Option (Int32 × ZW) :=
  (f_X12_in a1.toInt64 (0 : Int64) (2 : Int64)).bind fun r1 : Int32 =>
  if r1 = 0 then
  some ((-1 : Int32), w)
else
  (z_iter (f_X12_laws_L24) z_fuel ((0 : Int32), (-4 : Int32), (209 : Int32), w)).bind (fun q3 : Int32 × Int32 × ZW =>
    if a1 = 0 then
    some (q3.1, q3.2.2)
  else
    if 0 ≤ q3.2.1 then
      if a1 = (1 : Int32) then
        some (q3.2.1 / (10 : Int32), q3.2.2)
      else
        some (q3.2.1 - q3.2.1 / (10 : Int32) * (10 : Int32), q3.2.2)
    else
      some ((-4 : Int32), q3.2.2))
set_option maxHeartbeats 4000000 in
set_option maxRecDepth 100000 in
theorem c_X12_laws (G : ZG) (l : Launch) (d : Nat) (hd : 3 ≤ d) (w : ZW) (a1 : Int32) : ∀ o, f_X12_laws w a1 = some o → zM G l d yX12_laws cX12_laws 6 (some .int) [.ref (G.1 130), .int a1] w (some (.int o.1)) o.2 := by
  intro o ho
  refine zM.of [(0, .ref (G.1 130)), (1, .int a1)] (by decide) (Nat.le_of_ble_eq_true rfl) rfl ?_
  refine (?_ : zR G l d "LoveLocksModel" cX12_laws 6 (some .int) (some (.int o.1)) o.2 (fun x => x = o) 0 [(0, .ref (G.1 130)), (1, .int a1)] [] w (f_X12_laws w a1)) o ho rfl
  rw [f_X12_laws]
  refine r_iload_n 1 dX12_laws_0 rfl 1 rfl rfl ?_
  refine r_i2l 2 dX12_laws_1 rfl ?_
  refine r_lconst 3 dX12_laws_2 rfl zcl_0 ?_
  refine r_ldc2 6 dX12_laws_3 rfl wk_X12_128 ?_
  refine r_callSi 9 3 [.long a1.toInt64, .long (0 : Int64), .long (2 : Int64)] (st := []) dX12_laws_6 rfl rfl (fun r h => c_X12_in G l (d - 1) (by omega) w a1.toInt64 (0 : Int64) (2 : Int64) r h) wc_X12_in wz_X12 wl_X12_111 wst_X12_in zd_X12_in (by decide) (by omega) rfl (Nat.le_of_ble_eq_true rfl) (fun r1 => ?_)
  refine r_if_ne 14 12 dX12_laws_9 (by decide) rfl ?_ ?_
  · refine r_iconst 15 dX12_laws_14 rfl zci_0 ?_
    refine r_istore_n 16 [(2, .int (0 : Int32)), (0, .ref (G.1 130)), (1, .int a1)] dX12_laws_15 rfl rfl (by decide) rfl ?_
    refine r_bipush 18 dX12_laws_16 rfl zcb_m4 ?_
    refine r_istore_n 19 [(3, .int (-4 : Int32)), (2, .int (0 : Int32)), (0, .ref (G.1 130)), (1, .int a1)] dX12_laws_18 rfl rfl (by decide) rfl ?_
    refine r_sipush 22 dX12_laws_19 rfl zcs_209 ?_
    refine r_istore 24 [(4, .int (209 : Int32)), (3, .int (-4 : Int32)), (2, .int (0 : Int32)), (0, .ref (G.1 130)), (1, .int a1)] dX12_laws_22 rfl (by decide) rfl ?_
    refine r_loopE [3, 4, 2, 1, 0] (fun s2 => [(0, .ref (G.1 130)), (1, .int a1), (2, .int s2.1), (3, .int s2.2.1), (4, .int s2.2.2.1)]) (fun s2 => s2.2.2.2) 76 (fun q3 => [(1, .int a1), (2, .int q3.1), (3, .int q3.2.1)]) (fun q3 => q3.2.2) rfl rfl (fun s2 => ?_) (fun q3 => ?_)
    · rw [f_X12_laws_L24]
      have hJ56 : ∀ (x3_5 : Int32) (x4_6 : Int32) (x5_7 : Int32) (k8 : Int32) (k9 : Int32) (w10 : ZW), zR G l d "LoveLocksModel" cX12_laws 6 (some .int) (some (.int o.1)) o.2 (Sum.elim (fun s2 => zA G l d "LoveLocksModel" cX12_laws 6 (some .int) (some (.int o.1)) o.2 24 [(0, .ref (G.1 130)), (1, .int a1), (2, .int s2.1), (3, .int s2.2.1), (4, .int s2.2.2.1)] [] s2.2.2.2) (fun q3 => zA G l d "LoveLocksModel" cX12_laws 6 (some .int) (some (.int o.1)) o.2 76 [(1, .int a1), (2, .int q3.1), (3, .int q3.2.1)] [] q3.2.2)) 56 [(0, .ref (G.1 130)), (1, .int a1), (3, .int x3_5), (4, .int x4_6), (5, .int x5_7)] [.int k8, .int k9] w10 (f_X12_laws_J56 x3_5 x4_6 x5_7 k8 k9 w10) := by
        intro x3_5 x4_6 x5_7 k8 k9 w10
        rw [f_X12_laws_J56]
        refine r_iadd 57 dX12_laws_56 rfl ?_
        refine r_istore_n 58 [(2, .int (k9 + k8)), (0, .ref (G.1 130)), (1, .int a1), (3, .int x3_5), (4, .int x4_6), (5, .int x5_7)] dX12_laws_57 rfl rfl (by decide) rfl ?_
        refine r_iload 60 dX12_laws_58 rfl 5 rfl ?_
        refine r_if_eq 68 63 dX12_laws_60 (by decide) rfl ?_ ?_
        · refine r_iload_n 69 dX12_laws_68 rfl 3 rfl rfl ?_
          refine r_istore_n 70 [(3, .int x3_5), (2, .int (k9 + k8)), (0, .ref (G.1 130)), (1, .int a1), (4, .int x4_6), (5, .int x5_7)] dX12_laws_69 rfl rfl (by decide) rfl ?_
          refine r_iinc 73 4 [(4, .int (x4_6 + (-1 : Int32))), (3, .int x3_5), (2, .int (k9 + k8)), (0, .ref (G.1 130)), (1, .int a1), (5, .int x5_7)] dX12_laws_70 rfl rfl zci_m1 (by decide) rfl ?_
          refine r_goto 24 dX12_laws_73 (by decide) ?_
          exact r_leaf [3, 4, 2, 1, 0] (lv2 := [(0, .ref (G.1 130)), (1, .int a1), (2, .int (k9 + k8)), (3, .int x3_5), (4, .int (x4_6 + (-1 : Int32)))]) rfl (fun h => h)
        · refine r_iload 65 dX12_laws_63 rfl 4 rfl ?_
          refine r_goto 69 dX12_laws_65 (by decide) ?_
          refine r_istore_n 70 [(3, .int x4_6), (2, .int (k9 + k8)), (0, .ref (G.1 130)), (1, .int a1), (4, .int x4_6), (5, .int x5_7)] dX12_laws_69 rfl rfl (by decide) rfl ?_
          refine r_iinc 73 4 [(4, .int (x4_6 + (-1 : Int32))), (3, .int x4_6), (2, .int (k9 + k8)), (0, .ref (G.1 130)), (1, .int a1), (5, .int x5_7)] dX12_laws_70 rfl rfl zci_m1 (by decide) rfl ?_
          refine r_goto 24 dX12_laws_73 (by decide) ?_
          exact r_leaf [3, 4, 2, 1, 0] (lv2 := [(0, .ref (G.1 130)), (1, .int a1), (2, .int (k9 + k8)), (3, .int x4_6), (4, .int (x4_6 + (-1 : Int32)))]) rfl (fun h => h)
      refine r_iload 26 dX12_laws_24 rfl 4 rfl ?_
      refine r_if_lt 76 29 dX12_laws_26 (by decide) rfl ?_ ?_
      · exact r_leaf [1, 2, 3] (lv2 := [(1, .int a1), (2, .int s2.1), (3, .int s2.2.1)]) rfl (fun h => h)
      · refine r_aload_n 30 dX12_laws_29 rfl 0 rfl rfl ?_
        refine r_iload 32 dX12_laws_30 rfl 4 rfl ?_
        refine r_bipush 34 dX12_laws_32 rfl zcb_10 ?_
        refine r_idiv 35 dX12_laws_34 rfl (by decide) ?_
        refine r_iload 37 dX12_laws_35 rfl 4 rfl ?_
        refine r_bipush 39 dX12_laws_37 rfl zcb_10 ?_
        refine r_irem 40 dX12_laws_39 rfl (by decide) ?_
        refine r_callViw 43 2 (ko := 130) [.int (s2.2.2.1 / (10 : Int32)), .int (s2.2.2.1 - s2.2.2.1 / (10 : Int32) * (10 : Int32))] (st := []) dX12_laws_40 rfl rfl (fun r h => c_X12_isLaw G l (d - 1) (by omega) s2.2.2.2 (s2.2.2.1 / (10 : Int32)) (s2.2.2.1 - s2.2.2.1 / (10 : Int32) * (10 : Int32)) r h) zl_130 (ce_130 G _) rfl rfl wc_X12_isLaw wz_X12 wl_X12_293 wi_X12_isLaw ws_X12_isLaw zd_X12_isLaw (by decide) (by omega) rfl (Nat.le_of_ble_eq_true rfl) (fun r4 => ?_)
        refine r_istore 45 [(5, .int r4.1), (0, .ref (G.1 130)), (1, .int a1), (2, .int s2.1), (3, .int s2.2.1), (4, .int s2.2.2.1)] dX12_laws_43 rfl (by decide) rfl ?_
        refine r_iload_n 46 dX12_laws_45 rfl 3 rfl rfl ?_
        refine r_iload 48 dX12_laws_46 rfl 0 rfl ?_
        refine r_if_eq 55 51 dX12_laws_48 (by decide) rfl ?_ ?_
        · refine r_iconst 56 dX12_laws_55 rfl zci_0 ?_
          exact r_sub [1, 2, 4, 5, 0] (lv2 := [(0, .ref (G.1 130)), (1, .int a1), (3, .int s2.2.1), (4, .int s2.2.2.1), (5, .int r4.1)]) rfl (hJ56 s2.2.1 s2.2.2.1 r4.1 (0 : Int32) s2.1 r4.2)
        · refine r_iconst 52 dX12_laws_51 rfl zci_1 ?_
          refine r_goto 56 dX12_laws_52 (by decide) ?_
          exact r_sub [1, 2, 4, 5, 0] (lv2 := [(0, .ref (G.1 130)), (1, .int a1), (3, .int s2.2.1), (4, .int s2.2.2.1), (5, .int r4.1)]) rfl (hJ56 s2.2.1 s2.2.2.1 r4.1 (1 : Int32) s2.1 r4.2)
    · refine r_iload_n 77 dX12_laws_76 rfl 0 rfl rfl ?_
      refine r_if_ne 84 80 dX12_laws_77 (by decide) rfl ?_ ?_
      · refine r_iload_n 85 dX12_laws_84 rfl 2 rfl rfl ?_
        refine r_if_ge 93 88 dX12_laws_85 (by decide) rfl ?_ ?_
        · refine r_iload_n 94 dX12_laws_93 rfl 0 rfl rfl ?_
          refine r_iconst 95 dX12_laws_94 rfl zci_1 ?_
          refine r_icmp_ne 105 98 dX12_laws_95 (by decide) rfl ?_ ?_
          · refine r_iload_n 106 dX12_laws_105 rfl 2 rfl rfl ?_
            refine r_bipush 108 dX12_laws_106 rfl zcb_10 ?_
            refine r_irem 109 dX12_laws_108 rfl (by decide) ?_
            exact r_iret dX12_laws_109 rfl z_kiw
          · refine r_iload_n 99 dX12_laws_98 rfl 2 rfl rfl ?_
            refine r_bipush 101 dX12_laws_99 rfl zcb_10 ?_
            refine r_idiv 102 dX12_laws_101 rfl (by decide) ?_
            refine r_goto 109 dX12_laws_102 (by decide) ?_
            exact r_iret dX12_laws_109 rfl z_kiw
        · refine r_bipush 90 dX12_laws_88 rfl zcb_m4 ?_
          refine r_goto 109 dX12_laws_90 (by decide) ?_
          exact r_iret dX12_laws_109 rfl z_kiw
      · refine r_iload_n 81 dX12_laws_80 rfl 1 rfl rfl ?_
        refine r_goto 109 dX12_laws_81 (by decide) ?_
        exact r_iret dX12_laws_109 rfl z_kiw
  · refine r_iconst 13 dX12_laws_12 rfl zci_m1 ?_
    exact r_iret dX12_laws_13 rfl z_kiw
-- X12_grown
def f_X12_grown_J72 (a1 : Int32) (a2 : Int32) (x3_6 : Int32) (x4_7 : Int32) (k8 : Int32) (w9 : ZW) : Option ((Int32 × Int32 × ZW) ⊕ (Int32 × ZW)) :=
  (f_X12_growsTo k8 (x4_7 / (10 : Int32)) (x4_7 - x4_7 / (10 : Int32) * (10 : Int32)) a1).bind fun r10 : Int32 =>
  if x3_6 < 0 then
  some (.inl (r10, x4_7 + (1 : Int32), w9))
else
  if a2 = 0 then
    if x3_6 ≤ r10 then
      some (.inl (x3_6, x4_7 + (1 : Int32), w9))
    else
      some (.inl (r10, x4_7 + (1 : Int32), w9))
  else
    if r10 ≤ x3_6 then
      some (.inl (x3_6, x4_7 + (1 : Int32), w9))
    else
      some (.inl (r10, x4_7 + (1 : Int32), w9))
def f_X12_grown_L32 (a2 : Int32) (a1 : Int32) (s3 : Int32 × Int32 × ZW) : Option ((Int32 × Int32 × ZW) ⊕ (Int32 × ZW)) :=
  if (210 : Int32) ≤ s3.2.1 then
  some (.inr (s3.1, s3.2.2))
else
  (f_X12_isLaw s3.2.2 (s3.2.1 / (10 : Int32)) (s3.2.1 - s3.2.1 / (10 : Int32) * (10 : Int32))).bind fun r5 : Int32 × ZW =>
    if r5.1 = 0 then
    some (.inl (s3.1, s3.2.1 + (1 : Int32), r5.2))
  else
    if a2 = 0 then
      f_X12_grown_J72 a1 a2 s3.1 s3.2.1 (r5.2.1 130 32) r5.2
    else
      f_X12_grown_J72 a1 a2 s3.1 s3.2.1 (r5.2.1 130 33) r5.2
def f_X12_grown (w : ZW) (a1 : Int32) (a2 : Int32) : Option (Int64 × ZW) :=
  (f_X12_in a1.toInt64 (0 : Int64) (11 : Int64)).bind fun r1 : Int32 =>
  if r1 = 0 then
  some ((-1 : Int64), w)
else
  (f_X12_in a2.toInt64 (0 : Int64) (1 : Int64)).bind fun r2 : Int32 =>
    if r2 = 0 then
    some ((-1 : Int64), w)
  else
    (z_iter (f_X12_grown_L32 a2 a1) z_fuel ((-4 : Int32), (0 : Int32), w)).bind (fun q4 : Int32 × ZW =>
      some (q4.1.toInt64, q4.2))
set_option maxHeartbeats 4000000 in
set_option maxRecDepth 100000 in
theorem c_X12_grown (G : ZG) (l : Launch) (d : Nat) (hd : 3 ≤ d) (w : ZW) (a1 : Int32) (a2 : Int32) : ∀ o, f_X12_grown w a1 a2 = some o → zM G l d yX12_grown cX12_grown 6 (some .long) [.ref (G.1 130), .int a1, .int a2] w (some (.long o.1)) o.2 := by
  intro o ho
  refine zM.of [(0, .ref (G.1 130)), (1, .int a1), (2, .int a2)] (by decide) (Nat.le_of_ble_eq_true rfl) rfl ?_
  refine (?_ : zR G l d "LoveLocksModel" cX12_grown 6 (some .long) (some (.long o.1)) o.2 (fun x => x = o) 0 [(0, .ref (G.1 130)), (1, .int a1), (2, .int a2)] [] w (f_X12_grown w a1 a2)) o ho rfl
  rw [f_X12_grown]
  refine r_iload_n 1 dX12_grown_0 rfl 1 rfl rfl ?_
  refine r_i2l 2 dX12_grown_1 rfl ?_
  refine r_lconst 3 dX12_grown_2 rfl zcl_0 ?_
  refine r_ldc2 6 dX12_grown_3 rfl wk_X12_267 ?_
  refine r_callSi 9 3 [.long a1.toInt64, .long (0 : Int64), .long (11 : Int64)] (st := []) dX12_grown_6 rfl rfl (fun r h => c_X12_in G l (d - 1) (by omega) w a1.toInt64 (0 : Int64) (11 : Int64) r h) wc_X12_in wz_X12 wl_X12_111 wst_X12_in zd_X12_in (by decide) (by omega) rfl (Nat.le_of_ble_eq_true rfl) (fun r1 => ?_)
  refine r_if_eq 22 12 dX12_grown_9 (by decide) rfl ?_ ?_
  · refine r_ldc2 25 dX12_grown_22 rfl wk_X12_262 ?_
    exact r_lret dX12_grown_25 rfl z_kjw
  · refine r_iload_n 13 dX12_grown_12 rfl 2 rfl rfl ?_
    refine r_i2l 14 dX12_grown_13 rfl ?_
    refine r_lconst 15 dX12_grown_14 rfl zcl_0 ?_
    refine r_lconst 16 dX12_grown_15 rfl zcl_1 ?_
    refine r_callSi 19 3 [.long a2.toInt64, .long (0 : Int64), .long (1 : Int64)] (st := []) dX12_grown_16 rfl rfl (fun r h => c_X12_in G l (d - 1) (by omega) w a2.toInt64 (0 : Int64) (1 : Int64) r h) wc_X12_in wz_X12 wl_X12_111 wst_X12_in zd_X12_in (by decide) (by omega) rfl (Nat.le_of_ble_eq_true rfl) (fun r2 => ?_)
    refine r_if_ne 26 22 dX12_grown_19 (by decide) rfl ?_ ?_
    · refine r_bipush 28 dX12_grown_26 rfl zcb_m4 ?_
      refine r_istore_n 29 [(3, .int (-4 : Int32)), (0, .ref (G.1 130)), (1, .int a1), (2, .int a2)] dX12_grown_28 rfl rfl (by decide) rfl ?_
      refine r_iconst 30 dX12_grown_29 rfl zci_0 ?_
      refine r_istore 32 [(4, .int (0 : Int32)), (3, .int (-4 : Int32)), (0, .ref (G.1 130)), (1, .int a1), (2, .int a2)] dX12_grown_30 rfl (by decide) rfl ?_
      refine r_loopE [2, 3, 4, 1, 0] (fun s3 => [(0, .ref (G.1 130)), (1, .int a1), (2, .int a2), (3, .int s3.1), (4, .int s3.2.1)]) (fun s3 => s3.2.2) 124 (fun q4 => [(3, .int q4.1)]) (fun q4 => q4.2) rfl rfl (fun s3 => ?_) (fun q4 => ?_)
      · rw [f_X12_grown_L32]
        have hJ72 : ∀ (x3_6 : Int32) (x4_7 : Int32) (k8 : Int32) (w9 : ZW), zR G l d "LoveLocksModel" cX12_grown 6 (some .long) (some (.long o.1)) o.2 (Sum.elim (fun s3 => zA G l d "LoveLocksModel" cX12_grown 6 (some .long) (some (.long o.1)) o.2 32 [(0, .ref (G.1 130)), (1, .int a1), (2, .int a2), (3, .int s3.1), (4, .int s3.2.1)] [] s3.2.2) (fun q4 => zA G l d "LoveLocksModel" cX12_grown 6 (some .long) (some (.long o.1)) o.2 124 [(3, .int q4.1)] [] q4.2)) 72 [(0, .ref (G.1 130)), (1, .int a1), (2, .int a2), (3, .int x3_6), (4, .int x4_7)] [.int k8] w9 (f_X12_grown_J72 a1 a2 x3_6 x4_7 k8 w9) := by
          intro x3_6 x4_7 k8 w9
          rw [f_X12_grown_J72]
          refine r_iload 74 dX12_grown_72 rfl 4 rfl ?_
          refine r_bipush 76 dX12_grown_74 rfl zcb_10 ?_
          refine r_idiv 77 dX12_grown_76 rfl (by decide) ?_
          refine r_iload 79 dX12_grown_77 rfl 4 rfl ?_
          refine r_bipush 81 dX12_grown_79 rfl zcb_10 ?_
          refine r_irem 82 dX12_grown_81 rfl (by decide) ?_
          refine r_iload_n 83 dX12_grown_82 rfl 1 rfl rfl ?_
          refine r_callSi 86 4 [.int k8, .int (x4_7 / (10 : Int32)), .int (x4_7 - x4_7 / (10 : Int32) * (10 : Int32)), .int a1] (st := []) dX12_grown_83 rfl rfl (fun r h => c_X12_growsTo G l (d - 1) (by omega) w9 k8 (x4_7 / (10 : Int32)) (x4_7 - x4_7 / (10 : Int32) * (10 : Int32)) a1 r h) wc_X12_growsTo wz_X12 wl_X12_290 wst_X12_growsTo zd_X12_growsTo (by decide) (by omega) rfl (Nat.le_of_ble_eq_true rfl) (fun r10 => ?_)
          refine r_istore 88 [(5, .int r10), (0, .ref (G.1 130)), (1, .int a1), (2, .int a2), (3, .int x3_6), (4, .int x4_7)] dX12_grown_86 rfl (by decide) rfl ?_
          refine r_iload_n 89 dX12_grown_88 rfl 4 rfl rfl ?_
          refine r_if_lt 111 92 dX12_grown_89 (by decide) rfl ?_ ?_
          · refine r_iload 113 dX12_grown_111 rfl 0 rfl ?_
            refine r_goto 117 dX12_grown_113 (by decide) ?_
            refine r_istore_n 118 [(3, .int r10), (5, .int r10), (0, .ref (G.1 130)), (1, .int a1), (2, .int a2), (4, .int x4_7)] dX12_grown_117 rfl rfl (by decide) rfl ?_
            refine r_iinc 121 5 [(4, .int (x4_7 + (1 : Int32))), (3, .int r10), (5, .int r10), (0, .ref (G.1 130)), (1, .int a1), (2, .int a2)] dX12_grown_118 rfl rfl zci_1 (by decide) rfl ?_
            refine r_goto 32 dX12_grown_121 (by decide) ?_
            exact r_leaf [3, 4, 5, 1, 0] (lv2 := [(0, .ref (G.1 130)), (1, .int a1), (2, .int a2), (3, .int r10), (4, .int (x4_7 + (1 : Int32)))]) rfl (fun h => h)
          · refine r_iload_n 93 dX12_grown_92 rfl 3 rfl rfl ?_
            refine r_if_ne 105 96 dX12_grown_93 (by decide) rfl ?_ ?_
            · refine r_iload 107 dX12_grown_105 rfl 0 rfl ?_
              refine r_iload_n 108 dX12_grown_107 rfl 4 rfl rfl ?_
              refine r_icmp_le 116 111 dX12_grown_108 (by decide) rfl ?_ ?_
              · refine r_iload_n 117 dX12_grown_116 rfl 4 rfl rfl ?_
                refine r_istore_n 118 [(3, .int x3_6), (5, .int r10), (0, .ref (G.1 130)), (1, .int a1), (2, .int a2), (4, .int x4_7)] dX12_grown_117 rfl rfl (by decide) rfl ?_
                refine r_iinc 121 5 [(4, .int (x4_7 + (1 : Int32))), (3, .int x3_6), (5, .int r10), (0, .ref (G.1 130)), (1, .int a1), (2, .int a2)] dX12_grown_118 rfl rfl zci_1 (by decide) rfl ?_
                refine r_goto 32 dX12_grown_121 (by decide) ?_
                exact r_leaf [3, 4, 5, 1, 0] (lv2 := [(0, .ref (G.1 130)), (1, .int a1), (2, .int a2), (3, .int x3_6), (4, .int (x4_7 + (1 : Int32)))]) rfl (fun h => h)
              · refine r_iload 113 dX12_grown_111 rfl 0 rfl ?_
                refine r_goto 117 dX12_grown_113 (by decide) ?_
                refine r_istore_n 118 [(3, .int r10), (5, .int r10), (0, .ref (G.1 130)), (1, .int a1), (2, .int a2), (4, .int x4_7)] dX12_grown_117 rfl rfl (by decide) rfl ?_
                refine r_iinc 121 5 [(4, .int (x4_7 + (1 : Int32))), (3, .int r10), (5, .int r10), (0, .ref (G.1 130)), (1, .int a1), (2, .int a2)] dX12_grown_118 rfl rfl zci_1 (by decide) rfl ?_
                refine r_goto 32 dX12_grown_121 (by decide) ?_
                exact r_leaf [3, 4, 5, 1, 0] (lv2 := [(0, .ref (G.1 130)), (1, .int a1), (2, .int a2), (3, .int r10), (4, .int (x4_7 + (1 : Int32)))]) rfl (fun h => h)
            · refine r_iload 98 dX12_grown_96 rfl 0 rfl ?_
              refine r_iload_n 99 dX12_grown_98 rfl 4 rfl rfl ?_
              refine r_icmp_ge 116 102 dX12_grown_99 (by decide) rfl ?_ ?_
              · refine r_iload_n 117 dX12_grown_116 rfl 4 rfl rfl ?_
                refine r_istore_n 118 [(3, .int x3_6), (5, .int r10), (0, .ref (G.1 130)), (1, .int a1), (2, .int a2), (4, .int x4_7)] dX12_grown_117 rfl rfl (by decide) rfl ?_
                refine r_iinc 121 5 [(4, .int (x4_7 + (1 : Int32))), (3, .int x3_6), (5, .int r10), (0, .ref (G.1 130)), (1, .int a1), (2, .int a2)] dX12_grown_118 rfl rfl zci_1 (by decide) rfl ?_
                refine r_goto 32 dX12_grown_121 (by decide) ?_
                exact r_leaf [3, 4, 5, 1, 0] (lv2 := [(0, .ref (G.1 130)), (1, .int a1), (2, .int a2), (3, .int x3_6), (4, .int (x4_7 + (1 : Int32)))]) rfl (fun h => h)
              · refine r_goto 111 dX12_grown_102 (by decide) ?_
                refine r_iload 113 dX12_grown_111 rfl 0 rfl ?_
                refine r_goto 117 dX12_grown_113 (by decide) ?_
                refine r_istore_n 118 [(3, .int r10), (5, .int r10), (0, .ref (G.1 130)), (1, .int a1), (2, .int a2), (4, .int x4_7)] dX12_grown_117 rfl rfl (by decide) rfl ?_
                refine r_iinc 121 5 [(4, .int (x4_7 + (1 : Int32))), (3, .int r10), (5, .int r10), (0, .ref (G.1 130)), (1, .int a1), (2, .int a2)] dX12_grown_118 rfl rfl zci_1 (by decide) rfl ?_
                refine r_goto 32 dX12_grown_121 (by decide) ?_
                exact r_leaf [3, 4, 5, 1, 0] (lv2 := [(0, .ref (G.1 130)), (1, .int a1), (2, .int a2), (3, .int r10), (4, .int (x4_7 + (1 : Int32)))]) rfl (fun h => h)
        refine r_iload 34 dX12_grown_32 rfl 4 rfl ?_
        refine r_sipush 37 dX12_grown_34 rfl zcs_210 ?_
        refine r_icmp_ge 124 40 dX12_grown_37 (by decide) rfl ?_ ?_
        · exact r_leaf [3] (lv2 := [(3, .int s3.1)]) rfl (fun h => h)
        · refine r_aload_n 41 dX12_grown_40 rfl 0 rfl rfl ?_
          refine r_iload 43 dX12_grown_41 rfl 4 rfl ?_
          refine r_bipush 45 dX12_grown_43 rfl zcb_10 ?_
          refine r_idiv 46 dX12_grown_45 rfl (by decide) ?_
          refine r_iload 48 dX12_grown_46 rfl 4 rfl ?_
          refine r_bipush 50 dX12_grown_48 rfl zcb_10 ?_
          refine r_irem 51 dX12_grown_50 rfl (by decide) ?_
          refine r_callViw 54 2 (ko := 130) [.int (s3.2.1 / (10 : Int32)), .int (s3.2.1 - s3.2.1 / (10 : Int32) * (10 : Int32))] (st := []) dX12_grown_51 rfl rfl (fun r h => c_X12_isLaw G l (d - 1) (by omega) s3.2.2 (s3.2.1 / (10 : Int32)) (s3.2.1 - s3.2.1 / (10 : Int32) * (10 : Int32)) r h) zl_130 (ce_130 G _) rfl rfl wc_X12_isLaw wz_X12 wl_X12_293 wi_X12_isLaw ws_X12_isLaw zd_X12_isLaw (by decide) (by omega) rfl (Nat.le_of_ble_eq_true rfl) (fun r5 => ?_)
          refine r_if_eq 118 57 dX12_grown_54 (by decide) rfl ?_ ?_
          · refine r_iinc 121 4 [(4, .int (s3.2.1 + (1 : Int32))), (0, .ref (G.1 130)), (1, .int a1), (2, .int a2), (3, .int s3.1)] dX12_grown_118 rfl rfl zci_1 (by decide) rfl ?_
            refine r_goto 32 dX12_grown_121 (by decide) ?_
            exact r_leaf [1, 2, 3, 4, 0] (lv2 := [(0, .ref (G.1 130)), (1, .int a1), (2, .int a2), (3, .int s3.1), (4, .int (s3.2.1 + (1 : Int32)))]) rfl (fun h => h)
          · refine r_iload_n 58 dX12_grown_57 rfl 2 rfl rfl ?_
            refine r_if_ne 68 61 dX12_grown_58 (by decide) rfl ?_ ?_
            · refine r_aload_n 69 dX12_grown_68 rfl 0 rfl rfl ?_
              refine r_get 72 130 33 dX12_grown_69 rfl zl_130 (ce_130 G _) rfl inz12 (by decide) wf_X12_287 rfl ?_
              exact r_sub [0, 1, 2, 3, 4] (lv2 := [(0, .ref (G.1 130)), (1, .int a1), (2, .int a2), (3, .int s3.1), (4, .int s3.2.1)]) rfl (hJ72 s3.1 s3.2.1 (r5.2.1 130 33) r5.2)
            · refine r_aload_n 62 dX12_grown_61 rfl 0 rfl rfl ?_
              refine r_get 65 130 32 dX12_grown_62 rfl zl_130 (ce_130 G _) rfl inz12 (by decide) wf_X12_284 rfl ?_
              refine r_goto 72 dX12_grown_65 (by decide) ?_
              exact r_sub [0, 1, 2, 3, 4] (lv2 := [(0, .ref (G.1 130)), (1, .int a1), (2, .int a2), (3, .int s3.1), (4, .int s3.2.1)]) rfl (hJ72 s3.1 s3.2.1 (r5.2.1 130 32) r5.2)
      · refine r_iload_n 125 dX12_grown_124 rfl 0 rfl rfl ?_
        refine r_i2l 126 dX12_grown_125 rfl ?_
        exact r_lret dX12_grown_126 rfl z_kjw
    · refine r_ldc2 25 dX12_grown_22 rfl wk_X12_262 ?_
      exact r_lret dX12_grown_25 rfl z_kjw
-- X12_isSought
def f_X12_isSought_L18 (w : ZW) (a1 : Int32) (s2 : Int32 × Int32) : Option ((Int32 × Int32) ⊕ (Int32)) :=
  if (w.1 130 2) ≤ s2.2 then
  some (.inr s2.1)
else
  if s2.1 = 0 then
    some (.inl ((0 : Int32), s2.2 + (1 : Int32)))
  else
    if ((a1 >>> (s2.2 &&& 31)) &&& (1 : Int32)) = 0 then
      some (.inl ((1 : Int32), s2.2 + (1 : Int32)))
    else
      if z_in s2.2 14 then
        if (w.1 138 s2.2.toNatClampNeg) = 0 then
        some (.inl ((1 : Int32), s2.2 + (1 : Int32)))
      else
        some (.inl ((0 : Int32), s2.2 + (1 : Int32)))
      else none
def f_X12_isSought (w : ZW) (a1 : Int32) : Option (Int32) :=
  (f_X12_in a1.toInt64 (1 : Int64) ((((1 : Int32) <<< ((w.1 130 2) &&& 31)) - (1 : Int32)).toInt64)).bind fun r1 : Int32 =>
  (z_iter (f_X12_isSought_L18 w a1) z_fuel (r1, (0 : Int32))).bind (fun q3 : Int32 =>
  if z_bo q3 then some q3 else none)
set_option maxHeartbeats 4000000 in
set_option maxRecDepth 100000 in
theorem c_X12_isSought (G : ZG) (l : Launch) (d : Nat) (hd : 2 ≤ d) (w : ZW) (a1 : Int32) : ∀ o, f_X12_isSought w a1 = some o → zM G l d yX12_isSought cX12_isSought 4 (some .boolean) [.ref (G.1 130), .int a1] w (some (.int o)) w := by
  intro o ho
  refine zM.of [(0, .ref (G.1 130)), (1, .int a1)] (by decide) (Nat.le_of_ble_eq_true rfl) rfl ?_
  refine (?_ : zR G l d "LoveLocksModel" cX12_isSought 4 (some .boolean) (some (.int o)) w (fun x => x = o) 0 [(0, .ref (G.1 130)), (1, .int a1)] [] w (f_X12_isSought w a1)) o ho rfl
  rw [f_X12_isSought]
  refine r_iload_n 1 dX12_isSought_0 rfl 1 rfl rfl ?_
  refine r_i2l 2 dX12_isSought_1 rfl ?_
  refine r_lconst 3 dX12_isSought_2 rfl zcl_1 ?_
  refine r_iconst 4 dX12_isSought_3 rfl zci_1 ?_
  refine r_aload_n 5 dX12_isSought_4 rfl 0 rfl rfl ?_
  refine r_get 8 130 2 dX12_isSought_5 rfl zl_130 (ce_130 G _) rfl inz12 (by decide) wf_X12_115 rfl ?_
  refine r_ishl 9 dX12_isSought_8 rfl ?_
  refine r_iconst 10 dX12_isSought_9 rfl zci_1 ?_
  refine r_isub 11 dX12_isSought_10 rfl ?_
  refine r_i2l 12 dX12_isSought_11 rfl ?_
  refine r_callSi 15 3 [.long a1.toInt64, .long (1 : Int64), .long ((((1 : Int32) <<< ((w.1 130 2) &&& 31)) - (1 : Int32)).toInt64)] (st := []) dX12_isSought_12 rfl rfl (fun r h => c_X12_in G l (d - 1) (by omega) w a1.toInt64 (1 : Int64) ((((1 : Int32) <<< ((w.1 130 2) &&& 31)) - (1 : Int32)).toInt64) r h) wc_X12_in wz_X12 wl_X12_111 wst_X12_in zd_X12_in (by decide) (by omega) rfl (Nat.le_of_ble_eq_true rfl) (fun r1 => ?_)
  refine r_istore_n 16 [(2, .int r1), (0, .ref (G.1 130)), (1, .int a1)] dX12_isSought_15 rfl rfl (by decide) rfl ?_
  refine r_iconst 17 dX12_isSought_16 rfl zci_0 ?_
  refine r_istore_n 18 [(3, .int (0 : Int32)), (2, .int r1), (0, .ref (G.1 130)), (1, .int a1)] dX12_isSought_17 rfl rfl (by decide) rfl ?_
  refine r_loopE [2, 3, 1, 0] (fun s2 => [(0, .ref (G.1 130)), (1, .int a1), (2, .int s2.1), (3, .int s2.2)]) (fun s2 => w) 59 (fun q3 => [(2, .int q3)]) (fun q3 => w) rfl rfl (fun s2 => ?_) (fun q3 => ?_)
  · rw [f_X12_isSought_L18]
    refine r_iload_n 19 dX12_isSought_18 rfl 3 rfl rfl ?_
    refine r_aload_n 20 dX12_isSought_19 rfl 0 rfl rfl ?_
    refine r_get 23 130 2 dX12_isSought_20 rfl zl_130 (ce_130 G _) rfl inz12 (by decide) wf_X12_115 rfl ?_
    refine r_icmp_ge 59 26 dX12_isSought_23 (by decide) rfl ?_ ?_
    · exact r_leaf [2] (lv2 := [(2, .int s2.1)]) rfl (fun h => h)
    · refine r_iload_n 27 dX12_isSought_26 rfl 2 rfl rfl ?_
      refine r_if_eq 51 30 dX12_isSought_27 (by decide) rfl ?_ ?_
      · refine r_iconst 52 dX12_isSought_51 rfl zci_0 ?_
        refine r_istore_n 53 [(2, .int (0 : Int32)), (0, .ref (G.1 130)), (1, .int a1), (3, .int s2.2)] dX12_isSought_52 rfl rfl (by decide) rfl ?_
        refine r_iinc 56 3 [(3, .int (s2.2 + (1 : Int32))), (2, .int (0 : Int32)), (0, .ref (G.1 130)), (1, .int a1)] dX12_isSought_53 rfl rfl zci_1 (by decide) rfl ?_
        refine r_goto 18 dX12_isSought_56 (by decide) ?_
        exact r_leaf [2, 3, 1, 0] (lv2 := [(0, .ref (G.1 130)), (1, .int a1), (2, .int (0 : Int32)), (3, .int (s2.2 + (1 : Int32)))]) rfl (fun h => h)
      · refine r_iload_n 31 dX12_isSought_30 rfl 1 rfl rfl ?_
        refine r_iload_n 32 dX12_isSought_31 rfl 3 rfl rfl ?_
        refine r_ishr 33 dX12_isSought_32 rfl ?_
        refine r_iconst 34 dX12_isSought_33 rfl zci_1 ?_
        refine r_iand 35 dX12_isSought_34 rfl ?_
        refine r_if_eq 47 38 dX12_isSought_35 (by decide) rfl ?_ ?_
        · refine r_iconst 48 dX12_isSought_47 rfl zci_1 ?_
          refine r_goto 52 dX12_isSought_48 (by decide) ?_
          refine r_istore_n 53 [(2, .int (1 : Int32)), (0, .ref (G.1 130)), (1, .int a1), (3, .int s2.2)] dX12_isSought_52 rfl rfl (by decide) rfl ?_
          refine r_iinc 56 3 [(3, .int (s2.2 + (1 : Int32))), (2, .int (1 : Int32)), (0, .ref (G.1 130)), (1, .int a1)] dX12_isSought_53 rfl rfl zci_1 (by decide) rfl ?_
          refine r_goto 18 dX12_isSought_56 (by decide) ?_
          exact r_leaf [2, 3, 1, 0] (lv2 := [(0, .ref (G.1 130)), (1, .int a1), (2, .int (1 : Int32)), (3, .int (s2.2 + (1 : Int32)))]) rfl (fun h => h)
        · refine r_aload_n 39 dX12_isSought_38 rfl 0 rfl rfl ?_
          refine r_get 42 130 9 dX12_isSought_39 rfl zl_130 (ce_130 G _) rfl inz12 (by decide) wf_X12_31 rfl ?_
          refine r_iload_n 43 dX12_isSought_42 rfl 3 rfl rfl ?_
          refine r_iald 44 138 14 dX12_isSought_43 rfl zl_138 (ce_138 G _) ?_
          refine r_if_ne 51 47 dX12_isSought_44 (by decide) rfl ?_ ?_
          · refine r_iconst 52 dX12_isSought_51 rfl zci_0 ?_
            refine r_istore_n 53 [(2, .int (0 : Int32)), (0, .ref (G.1 130)), (1, .int a1), (3, .int s2.2)] dX12_isSought_52 rfl rfl (by decide) rfl ?_
            refine r_iinc 56 3 [(3, .int (s2.2 + (1 : Int32))), (2, .int (0 : Int32)), (0, .ref (G.1 130)), (1, .int a1)] dX12_isSought_53 rfl rfl zci_1 (by decide) rfl ?_
            refine r_goto 18 dX12_isSought_56 (by decide) ?_
            exact r_leaf [2, 3, 1, 0] (lv2 := [(0, .ref (G.1 130)), (1, .int a1), (2, .int (0 : Int32)), (3, .int (s2.2 + (1 : Int32)))]) rfl (fun h => h)
          · refine r_iconst 48 dX12_isSought_47 rfl zci_1 ?_
            refine r_goto 52 dX12_isSought_48 (by decide) ?_
            refine r_istore_n 53 [(2, .int (1 : Int32)), (0, .ref (G.1 130)), (1, .int a1), (3, .int s2.2)] dX12_isSought_52 rfl rfl (by decide) rfl ?_
            refine r_iinc 56 3 [(3, .int (s2.2 + (1 : Int32))), (2, .int (1 : Int32)), (0, .ref (G.1 130)), (1, .int a1)] dX12_isSought_53 rfl rfl zci_1 (by decide) rfl ?_
            refine r_goto 18 dX12_isSought_56 (by decide) ?_
            exact r_leaf [2, 3, 1, 0] (lv2 := [(0, .ref (G.1 130)), (1, .int a1), (2, .int (1 : Int32)), (3, .int (s2.2 + (1 : Int32)))]) rfl (fun h => h)
  · refine r_iload_n 60 dX12_isSought_59 rfl 0 rfl rfl ?_
    refine r_gd (fun hz => ?_)
    exact r_zret dX12_isSought_60 rfl (z_bo_n hz) z_ki
-- X12_yes
def f_X12_yes_J106 (x3_3 : Int32) (x4_4 : Int32) (k5 : Int32) : Option ((Int32 × Int32) ⊕ (Int32)) :=
  if k5 = 0 then
  some (.inl (x3_3 ||| (0 : Int32), x4_4 + (1 : Int32)))
else
  z_let (x3_3 ||| ((1 : Int32) <<< (x4_4 &&& 31))) fun y6 =>
    some (.inl (y6, x4_4 + (1 : Int32)))
def f_X12_yes_L5 (w : ZW) (a2 : Int32) (s1 : Int32 × Int32) : Option ((Int32 × Int32) ⊕ (Int32)) :=
  if (w.1 130 2) ≤ s1.2 then
  some (.inr s1.1)
else
  if (6 : Int32) ≤ a2 then
    if (30 : Int32) ≤ a2 then
      if a2 = (30 : Int32) then
        if z_in s1.2 14 then
          if (w.1 133 s1.2.toNatClampNeg) = 0 then
          f_X12_yes_J106 s1.1 s1.2 (1 : Int32)
        else
          f_X12_yes_J106 s1.1 s1.2 (0 : Int32)
        else none
      else
        if z_in s1.2 14 then
          if 0 ≤ (w.1 137 s1.2.toNatClampNeg) then
          f_X12_yes_J106 s1.1 s1.2 (0 : Int32)
        else
          f_X12_yes_J106 s1.1 s1.2 (1 : Int32)
        else none
    else
      if z_in s1.2 14 then
        if (a2 - (10 : Int32)) < (w.1 134 s1.2.toNatClampNeg) then
        f_X12_yes_J106 s1.1 s1.2 (0 : Int32)
      else
        f_X12_yes_J106 s1.1 s1.2 (1 : Int32)
      else none
  else
    if z_in s1.2 14 then
      if a2 < (w.1 135 s1.2.toNatClampNeg) then
      f_X12_yes_J106 s1.1 s1.2 (0 : Int32)
    else
      f_X12_yes_J106 s1.1 s1.2 (1 : Int32)
    else none
def f_X12_yes (w : ZW) (a1 : Int32) (a2 : Int32) : Option (Int32) :=
  (z_iter (f_X12_yes_L5 w a2) z_fuel ((0 : Int32), (0 : Int32))).bind (fun q2 : Int32 =>
  some (a1 &&& q2))
set_option maxHeartbeats 4000000 in
set_option maxRecDepth 100000 in
theorem c_X12_yes (G : ZG) (l : Launch) (d : Nat) (hd : 1 ≤ d) (w : ZW) (a1 : Int32) (a2 : Int32) : ∀ o, f_X12_yes w a1 a2 = some o → zM G l d yX12_yes cX12_yes 6 (some .int) [.ref (G.1 130), .int a1, .int a2] w (some (.int o)) w := by
  intro o ho
  refine zM.of [(0, .ref (G.1 130)), (1, .int a1), (2, .int a2)] (by decide) (Nat.le_of_ble_eq_true rfl) rfl ?_
  refine (?_ : zR G l d "LoveLocksModel" cX12_yes 6 (some .int) (some (.int o)) w (fun x => x = o) 0 [(0, .ref (G.1 130)), (1, .int a1), (2, .int a2)] [] w (f_X12_yes w a1 a2)) o ho rfl
  rw [f_X12_yes]
  refine r_iconst 1 dX12_yes_0 rfl zci_0 ?_
  refine r_istore_n 2 [(3, .int (0 : Int32)), (0, .ref (G.1 130)), (1, .int a1), (2, .int a2)] dX12_yes_1 rfl rfl (by decide) rfl ?_
  refine r_iconst 3 dX12_yes_2 rfl zci_0 ?_
  refine r_istore 5 [(4, .int (0 : Int32)), (3, .int (0 : Int32)), (0, .ref (G.1 130)), (1, .int a1), (2, .int a2)] dX12_yes_3 rfl (by decide) rfl ?_
  refine r_loopE [2, 3, 4, 1, 0] (fun s1 => [(0, .ref (G.1 130)), (1, .int a1), (2, .int a2), (3, .int s1.1), (4, .int s1.2)]) (fun s1 => w) 130 (fun q2 => [(1, .int a1), (3, .int q2)]) (fun q2 => w) rfl rfl (fun s1 => ?_) (fun q2 => ?_)
  · rw [f_X12_yes_L5]
    have hJ106 : ∀ (x3_3 : Int32) (x4_4 : Int32) (k5 : Int32), zR G l d "LoveLocksModel" cX12_yes 6 (some .int) (some (.int o)) w (Sum.elim (fun s1 => zA G l d "LoveLocksModel" cX12_yes 6 (some .int) (some (.int o)) w 5 [(0, .ref (G.1 130)), (1, .int a1), (2, .int a2), (3, .int s1.1), (4, .int s1.2)] [] w) (fun q2 => zA G l d "LoveLocksModel" cX12_yes 6 (some .int) (some (.int o)) w 130 [(1, .int a1), (3, .int q2)] [] w)) 106 [(0, .ref (G.1 130)), (1, .int a1), (2, .int a2), (3, .int x3_3), (4, .int x4_4)] [.int k5] w (f_X12_yes_J106 x3_3 x4_4 k5) := by
      intro x3_3 x4_4 k5
      rw [f_X12_yes_J106]
      refine r_istore 108 [(5, .int k5), (0, .ref (G.1 130)), (1, .int a1), (2, .int a2), (3, .int x3_3), (4, .int x4_4)] dX12_yes_106 rfl (by decide) rfl ?_
      refine r_iload_n 109 dX12_yes_108 rfl 4 rfl rfl ?_
      refine r_iload 111 dX12_yes_109 rfl 0 rfl ?_
      refine r_if_eq 121 114 dX12_yes_111 (by decide) rfl ?_ ?_
      · refine r_iconst 122 dX12_yes_121 rfl zci_0 ?_
        refine r_ior 123 dX12_yes_122 rfl ?_
        refine r_istore_n 124 [(3, .int (x3_3 ||| (0 : Int32))), (5, .int k5), (0, .ref (G.1 130)), (1, .int a1), (2, .int a2), (4, .int x4_4)] dX12_yes_123 rfl rfl (by decide) rfl ?_
        refine r_iinc 127 5 [(4, .int (x4_4 + (1 : Int32))), (3, .int (x3_3 ||| (0 : Int32))), (5, .int k5), (0, .ref (G.1 130)), (1, .int a1), (2, .int a2)] dX12_yes_124 rfl rfl zci_1 (by decide) rfl ?_
        refine r_goto 5 dX12_yes_127 (by decide) ?_
        exact r_leaf [3, 4, 5, 1, 0] (lv2 := [(0, .ref (G.1 130)), (1, .int a1), (2, .int a2), (3, .int (x3_3 ||| (0 : Int32))), (4, .int (x4_4 + (1 : Int32)))]) rfl (fun h => h)
      · refine r_iconst 115 dX12_yes_114 rfl zci_1 ?_
        refine r_iload 117 dX12_yes_115 rfl 5 rfl ?_
        refine r_ishl 118 dX12_yes_117 rfl ?_
        refine r_goto 122 dX12_yes_118 (by decide) ?_
        refine r_ior 123 dX12_yes_122 rfl ?_
        refine r_topi (fun y6 => ?_)
        refine r_istore_n 124 [(3, .int y6), (5, .int k5), (0, .ref (G.1 130)), (1, .int a1), (2, .int a2), (4, .int x4_4)] dX12_yes_123 rfl rfl (by decide) rfl ?_
        refine r_iinc 127 5 [(4, .int (x4_4 + (1 : Int32))), (3, .int y6), (5, .int k5), (0, .ref (G.1 130)), (1, .int a1), (2, .int a2)] dX12_yes_124 rfl rfl zci_1 (by decide) rfl ?_
        refine r_goto 5 dX12_yes_127 (by decide) ?_
        exact r_leaf [3, 4, 5, 1, 0] (lv2 := [(0, .ref (G.1 130)), (1, .int a1), (2, .int a2), (3, .int y6), (4, .int (x4_4 + (1 : Int32)))]) rfl (fun h => h)
    refine r_iload 7 dX12_yes_5 rfl 4 rfl ?_
    refine r_aload_n 8 dX12_yes_7 rfl 0 rfl rfl ?_
    refine r_get 11 130 2 dX12_yes_8 rfl zl_130 (ce_130 G _) rfl inz12 (by decide) wf_X12_115 rfl ?_
    refine r_icmp_ge 130 14 dX12_yes_11 (by decide) rfl ?_ ?_
    · exact r_leaf [1, 3] (lv2 := [(1, .int a1), (3, .int s1.1)]) rfl (fun h => h)
    · refine r_iload_n 15 dX12_yes_14 rfl 2 rfl rfl ?_
      refine r_bipush 17 dX12_yes_15 rfl zcb_6 ?_
      refine r_icmp_ge 39 20 dX12_yes_17 (by decide) rfl ?_ ?_
      · refine r_iload_n 40 dX12_yes_39 rfl 2 rfl rfl ?_
        refine r_bipush 42 dX12_yes_40 rfl zcb_30 ?_
        refine r_icmp_ge 67 45 dX12_yes_42 (by decide) rfl ?_ ?_
        · refine r_iload_n 68 dX12_yes_67 rfl 2 rfl rfl ?_
          refine r_bipush 70 dX12_yes_68 rfl zcb_30 ?_
          refine r_icmp_ne 91 73 dX12_yes_70 (by decide) rfl ?_ ?_
          · refine r_aload_n 92 dX12_yes_91 rfl 0 rfl rfl ?_
            refine r_get 95 130 8 dX12_yes_92 rfl zl_130 (ce_130 G _) rfl inz12 (by decide) wf_X12_28 rfl ?_
            refine r_iload 97 dX12_yes_95 rfl 4 rfl ?_
            refine r_iald 98 137 14 dX12_yes_97 rfl zl_137 (ce_137 G _) ?_
            refine r_if_ge 105 101 dX12_yes_98 (by decide) rfl ?_ ?_
            · refine r_iconst 106 dX12_yes_105 rfl zci_0 ?_
              exact r_sub [0, 1, 2, 3, 4] (lv2 := [(0, .ref (G.1 130)), (1, .int a1), (2, .int a2), (3, .int s1.1), (4, .int s1.2)]) rfl (hJ106 s1.1 s1.2 (0 : Int32))
            · refine r_iconst 102 dX12_yes_101 rfl zci_1 ?_
              refine r_goto 106 dX12_yes_102 (by decide) ?_
              exact r_sub [0, 1, 2, 3, 4] (lv2 := [(0, .ref (G.1 130)), (1, .int a1), (2, .int a2), (3, .int s1.1), (4, .int s1.2)]) rfl (hJ106 s1.1 s1.2 (1 : Int32))
          · refine r_aload_n 74 dX12_yes_73 rfl 0 rfl rfl ?_
            refine r_get 77 130 4 dX12_yes_74 rfl zl_130 (ce_130 G _) rfl inz12 (by decide) wf_X12_16 rfl ?_
            refine r_iload 79 dX12_yes_77 rfl 4 rfl ?_
            refine r_iald 80 133 14 dX12_yes_79 rfl zl_133 (ce_133 G _) ?_
            refine r_if_ne 87 83 dX12_yes_80 (by decide) rfl ?_ ?_
            · refine r_iconst 88 dX12_yes_87 rfl zci_0 ?_
              refine r_goto 106 dX12_yes_88 (by decide) ?_
              exact r_sub [0, 1, 2, 3, 4] (lv2 := [(0, .ref (G.1 130)), (1, .int a1), (2, .int a2), (3, .int s1.1), (4, .int s1.2)]) rfl (hJ106 s1.1 s1.2 (0 : Int32))
            · refine r_iconst 84 dX12_yes_83 rfl zci_1 ?_
              refine r_goto 106 dX12_yes_84 (by decide) ?_
              exact r_sub [0, 1, 2, 3, 4] (lv2 := [(0, .ref (G.1 130)), (1, .int a1), (2, .int a2), (3, .int s1.1), (4, .int s1.2)]) rfl (hJ106 s1.1 s1.2 (1 : Int32))
        · refine r_aload_n 46 dX12_yes_45 rfl 0 rfl rfl ?_
          refine r_get 49 130 5 dX12_yes_46 rfl zl_130 (ce_130 G _) rfl inz12 (by decide) wf_X12_19 rfl ?_
          refine r_iload 51 dX12_yes_49 rfl 4 rfl ?_
          refine r_iald 52 134 14 dX12_yes_51 rfl zl_134 (ce_134 G _) ?_
          refine r_iload_n 53 dX12_yes_52 rfl 2 rfl rfl ?_
          refine r_bipush 55 dX12_yes_53 rfl zcb_10 ?_
          refine r_isub 56 dX12_yes_55 rfl ?_
          refine r_icmp_gt 63 59 dX12_yes_56 (by decide) rfl ?_ ?_
          · refine r_iconst 64 dX12_yes_63 rfl zci_0 ?_
            refine r_goto 106 dX12_yes_64 (by decide) ?_
            exact r_sub [0, 1, 2, 3, 4] (lv2 := [(0, .ref (G.1 130)), (1, .int a1), (2, .int a2), (3, .int s1.1), (4, .int s1.2)]) rfl (hJ106 s1.1 s1.2 (0 : Int32))
          · refine r_iconst 60 dX12_yes_59 rfl zci_1 ?_
            refine r_goto 106 dX12_yes_60 (by decide) ?_
            exact r_sub [0, 1, 2, 3, 4] (lv2 := [(0, .ref (G.1 130)), (1, .int a1), (2, .int a2), (3, .int s1.1), (4, .int s1.2)]) rfl (hJ106 s1.1 s1.2 (1 : Int32))
      · refine r_aload_n 21 dX12_yes_20 rfl 0 rfl rfl ?_
        refine r_get 24 130 6 dX12_yes_21 rfl zl_130 (ce_130 G _) rfl inz12 (by decide) wf_X12_22 rfl ?_
        refine r_iload 26 dX12_yes_24 rfl 4 rfl ?_
        refine r_iald 27 135 14 dX12_yes_26 rfl zl_135 (ce_135 G _) ?_
        refine r_iload_n 28 dX12_yes_27 rfl 2 rfl rfl ?_
        refine r_icmp_gt 35 31 dX12_yes_28 (by decide) rfl ?_ ?_
        · refine r_iconst 36 dX12_yes_35 rfl zci_0 ?_
          refine r_goto 106 dX12_yes_36 (by decide) ?_
          exact r_sub [0, 1, 2, 3, 4] (lv2 := [(0, .ref (G.1 130)), (1, .int a1), (2, .int a2), (3, .int s1.1), (4, .int s1.2)]) rfl (hJ106 s1.1 s1.2 (0 : Int32))
        · refine r_iconst 32 dX12_yes_31 rfl zci_1 ?_
          refine r_goto 106 dX12_yes_32 (by decide) ?_
          exact r_sub [0, 1, 2, 3, 4] (lv2 := [(0, .ref (G.1 130)), (1, .int a1), (2, .int a2), (3, .int s1.1), (4, .int s1.2)]) rfl (hJ106 s1.1 s1.2 (1 : Int32))
  · refine r_iload_n 131 dX12_yes_130 rfl 0 rfl rfl ?_
    refine r_iload_n 132 dX12_yes_131 rfl 1 rfl rfl ?_
    refine r_iand 133 dX12_yes_132 rfl ?_
    exact r_iret dX12_yes_133 rfl z_ki
-- X12_ask
def f_X12_ask_J101 (x4_15 : Int32) (x5_16 : Int32) (x8_17 : Int32) (k18 : Int32) : Option ((Int32 × Int32 × Int32) ⊕ (Int32 × Int32)) :=
  if x4_15 ≤ x8_17 then
  some (.inl (k18, x4_15, x5_16 + (1 : Int32)))
else
  some (.inl (k18, x8_17, x5_16 + (1 : Int32)))
def f_X12_ask_J86 (x3_11 : Int32) (x4_12 : Int32) (x5_13 : Int32) (k14 : Int32) : Option ((Int32 × Int32 × Int32) ⊕ (Int32 × Int32)) :=
  if x4_12 ≤ k14 then
  f_X12_ask_J101 x4_12 x5_13 k14 x3_11
else
  f_X12_ask_J101 x4_12 x5_13 k14 x5_13
def f_X12_ask_J51 (w : ZW) (a1 : Int32) (x3_5 : Int32) (x4_6 : Int32) (x5_7 : Int32) : Option ((Int32 × Int32 × Int32) ⊕ (Int32 × Int32)) :=
  (f_X12_yes w a1 x5_7).bind fun r8 : Int32 =>
  (f_X12_size r8).bind fun r9 : Int32 =>
  (f_X12_size a1).bind fun r10 : Int32 =>
  if r9 ≤ (r10 - r9) then
  f_X12_ask_J86 x3_5 x4_6 x5_7 (r10 - r9)
else
  f_X12_ask_J86 x3_5 x4_6 x5_7 r9
def f_X12_ask_L30 (w : ZW) (a1 : Int32) (s3 : Int32 × Int32 × Int32) : Option ((Int32 × Int32 × Int32) ⊕ (Int32 × Int32)) :=
  if (32 : Int32) ≤ s3.2.2 then
  some (.inr (s3.1, s3.2.1))
else
  if s3.2.2 < (6 : Int32) then
    f_X12_ask_J51 w a1 s3.1 s3.2.1 s3.2.2
  else
    if s3.2.2 ≤ (9 : Int32) then
      some (.inl (s3.1, s3.2.1, s3.2.2 + (1 : Int32)))
    else
      f_X12_ask_J51 w a1 s3.1 s3.2.1 s3.2.2
def f_X12_ask (w : ZW) (a1 : Int32) (a2 : Int32) : Option (Int32) :=
  (f_X12_isSought w a1).bind fun r1 : Int32 =>
  if r1 = 0 then
  some (-1 : Int32)
else
  (f_X12_in a2.toInt64 (0 : Int64) (1 : Int64)).bind fun r2 : Int32 =>
    if r2 = 0 then
    some (-1 : Int32)
  else
    (z_iter (f_X12_ask_L30 w a1) z_fuel ((-4 : Int32), (100 : Int32), (0 : Int32))).bind (fun q4 : Int32 × Int32 =>
      if a2 = 0 then
      some q4.1
    else
      some q4.2)
set_option maxHeartbeats 4000000 in
set_option maxRecDepth 100000 in
theorem c_X12_ask (G : ZG) (l : Launch) (d : Nat) (hd : 3 ≤ d) (w : ZW) (a1 : Int32) (a2 : Int32) : ∀ o, f_X12_ask w a1 a2 = some o → zM G l d yX12_ask cX12_ask 9 (some .int) [.ref (G.1 130), .int a1, .int a2] w (some (.int o)) w := by
  intro o ho
  refine zM.of [(0, .ref (G.1 130)), (1, .int a1), (2, .int a2)] (by decide) (Nat.le_of_ble_eq_true rfl) rfl ?_
  refine (?_ : zR G l d "LoveLocksModel" cX12_ask 9 (some .int) (some (.int o)) w (fun x => x = o) 0 [(0, .ref (G.1 130)), (1, .int a1), (2, .int a2)] [] w (f_X12_ask w a1 a2)) o ho rfl
  rw [f_X12_ask]
  refine r_aload_n 1 dX12_ask_0 rfl 0 rfl rfl ?_
  refine r_iload_n 2 dX12_ask_1 rfl 1 rfl rfl ?_
  refine r_callVi 5 1 (ko := 130) [.int a1] (st := []) dX12_ask_2 rfl rfl (fun r h => c_X12_isSought G l (d - 1) (by omega) w a1 r h) zl_130 (ce_130 G _) rfl rfl wc_X12_isSought wz_X12 wl_X12_296 wi_X12_isSought ws_X12_isSought zd_X12_isSought (by decide) (by omega) rfl (Nat.le_of_ble_eq_true rfl) (fun r1 => ?_)
  refine r_if_eq 18 8 dX12_ask_5 (by decide) rfl ?_ ?_
  · refine r_iconst 19 dX12_ask_18 rfl zci_m1 ?_
    exact r_iret dX12_ask_19 rfl z_ki
  · refine r_iload_n 9 dX12_ask_8 rfl 2 rfl rfl ?_
    refine r_i2l 10 dX12_ask_9 rfl ?_
    refine r_lconst 11 dX12_ask_10 rfl zcl_0 ?_
    refine r_lconst 12 dX12_ask_11 rfl zcl_1 ?_
    refine r_callSi 15 3 [.long a2.toInt64, .long (0 : Int64), .long (1 : Int64)] (st := []) dX12_ask_12 rfl rfl (fun r h => c_X12_in G l (d - 1) (by omega) w a2.toInt64 (0 : Int64) (1 : Int64) r h) wc_X12_in wz_X12 wl_X12_111 wst_X12_in zd_X12_in (by decide) (by omega) rfl (Nat.le_of_ble_eq_true rfl) (fun r2 => ?_)
    refine r_if_ne 20 18 dX12_ask_15 (by decide) rfl ?_ ?_
    · refine r_bipush 22 dX12_ask_20 rfl zcb_m4 ?_
      refine r_istore_n 23 [(3, .int (-4 : Int32)), (0, .ref (G.1 130)), (1, .int a1), (2, .int a2)] dX12_ask_22 rfl rfl (by decide) rfl ?_
      refine r_bipush 25 dX12_ask_23 rfl zcb_100 ?_
      refine r_istore 27 [(4, .int (100 : Int32)), (3, .int (-4 : Int32)), (0, .ref (G.1 130)), (1, .int a1), (2, .int a2)] dX12_ask_25 rfl (by decide) rfl ?_
      refine r_iconst 28 dX12_ask_27 rfl zci_0 ?_
      refine r_istore 30 [(5, .int (0 : Int32)), (4, .int (100 : Int32)), (3, .int (-4 : Int32)), (0, .ref (G.1 130)), (1, .int a1), (2, .int a2)] dX12_ask_28 rfl (by decide) rfl ?_
      refine r_loopE [3, 4, 5, 2, 1, 0] (fun s3 => [(0, .ref (G.1 130)), (1, .int a1), (2, .int a2), (3, .int s3.1), (4, .int s3.2.1), (5, .int s3.2.2)]) (fun s3 => w) 124 (fun q4 => [(2, .int a2), (3, .int q4.1), (4, .int q4.2)]) (fun q4 => w) rfl rfl (fun s3 => ?_) (fun q4 => ?_)
      · rw [f_X12_ask_L30]
        have hJ101 : ∀ (x4_15 : Int32) (x5_16 : Int32) (x8_17 : Int32) (k18 : Int32), zR G l d "LoveLocksModel" cX12_ask 9 (some .int) (some (.int o)) w (Sum.elim (fun s3 => zA G l d "LoveLocksModel" cX12_ask 9 (some .int) (some (.int o)) w 30 [(0, .ref (G.1 130)), (1, .int a1), (2, .int a2), (3, .int s3.1), (4, .int s3.2.1), (5, .int s3.2.2)] [] w) (fun q4 => zA G l d "LoveLocksModel" cX12_ask 9 (some .int) (some (.int o)) w 124 [(2, .int a2), (3, .int q4.1), (4, .int q4.2)] [] w)) 101 [(0, .ref (G.1 130)), (1, .int a1), (2, .int a2), (4, .int x4_15), (5, .int x5_16), (8, .int x8_17)] [.int k18] w (f_X12_ask_J101 x4_15 x5_16 x8_17 k18) := by
          intro x4_15 x5_16 x8_17 k18
          rw [f_X12_ask_J101]
          refine r_istore_n 102 [(3, .int k18), (0, .ref (G.1 130)), (1, .int a1), (2, .int a2), (4, .int x4_15), (5, .int x5_16), (8, .int x8_17)] dX12_ask_101 rfl rfl (by decide) rfl ?_
          refine r_iload 104 dX12_ask_102 rfl 6 rfl ?_
          refine r_iload 106 dX12_ask_104 rfl 4 rfl ?_
          refine r_icmp_ge 114 109 dX12_ask_106 (by decide) rfl ?_ ?_
          · refine r_iload 116 dX12_ask_114 rfl 4 rfl ?_
            refine r_istore 118 [(4, .int x4_15), (3, .int k18), (0, .ref (G.1 130)), (1, .int a1), (2, .int a2), (5, .int x5_16), (8, .int x8_17)] dX12_ask_116 rfl (by decide) rfl ?_
            refine r_iinc 121 5 [(5, .int (x5_16 + (1 : Int32))), (4, .int x4_15), (3, .int k18), (0, .ref (G.1 130)), (1, .int a1), (2, .int a2), (8, .int x8_17)] dX12_ask_118 rfl rfl zci_1 (by decide) rfl ?_
            refine r_goto 30 dX12_ask_121 (by decide) ?_
            exact r_leaf [3, 4, 5, 2, 1, 0] (lv2 := [(0, .ref (G.1 130)), (1, .int a1), (2, .int a2), (3, .int k18), (4, .int x4_15), (5, .int (x5_16 + (1 : Int32)))]) rfl (fun h => h)
          · refine r_iload 111 dX12_ask_109 rfl 6 rfl ?_
            refine r_goto 116 dX12_ask_111 (by decide) ?_
            refine r_istore 118 [(4, .int x8_17), (3, .int k18), (0, .ref (G.1 130)), (1, .int a1), (2, .int a2), (5, .int x5_16), (8, .int x8_17)] dX12_ask_116 rfl (by decide) rfl ?_
            refine r_iinc 121 5 [(5, .int (x5_16 + (1 : Int32))), (4, .int x8_17), (3, .int k18), (0, .ref (G.1 130)), (1, .int a1), (2, .int a2), (8, .int x8_17)] dX12_ask_118 rfl rfl zci_1 (by decide) rfl ?_
            refine r_goto 30 dX12_ask_121 (by decide) ?_
            exact r_leaf [3, 4, 5, 2, 1, 0] (lv2 := [(0, .ref (G.1 130)), (1, .int a1), (2, .int a2), (3, .int k18), (4, .int x8_17), (5, .int (x5_16 + (1 : Int32)))]) rfl (fun h => h)
        have hJ86 : ∀ (x3_11 : Int32) (x4_12 : Int32) (x5_13 : Int32) (k14 : Int32), zR G l d "LoveLocksModel" cX12_ask 9 (some .int) (some (.int o)) w (Sum.elim (fun s3 => zA G l d "LoveLocksModel" cX12_ask 9 (some .int) (some (.int o)) w 30 [(0, .ref (G.1 130)), (1, .int a1), (2, .int a2), (3, .int s3.1), (4, .int s3.2.1), (5, .int s3.2.2)] [] w) (fun q4 => zA G l d "LoveLocksModel" cX12_ask 9 (some .int) (some (.int o)) w 124 [(2, .int a2), (3, .int q4.1), (4, .int q4.2)] [] w)) 86 [(0, .ref (G.1 130)), (1, .int a1), (2, .int a2), (3, .int x3_11), (4, .int x4_12), (5, .int x5_13)] [.int k14] w (f_X12_ask_J86 x3_11 x4_12 x5_13 k14) := by
          intro x3_11 x4_12 x5_13 k14
          rw [f_X12_ask_J86]
          refine r_istore 88 [(8, .int k14), (0, .ref (G.1 130)), (1, .int a1), (2, .int a2), (3, .int x3_11), (4, .int x4_12), (5, .int x5_13)] dX12_ask_86 rfl (by decide) rfl ?_
          refine r_iload 90 dX12_ask_88 rfl 0 rfl ?_
          refine r_iload 92 dX12_ask_90 rfl 5 rfl ?_
          refine r_icmp_ge 100 95 dX12_ask_92 (by decide) rfl ?_ ?_
          · refine r_iload_n 101 dX12_ask_100 rfl 4 rfl rfl ?_
            exact r_sub [1, 2, 3, 5, 6, 0] (lv2 := [(0, .ref (G.1 130)), (1, .int a1), (2, .int a2), (4, .int x4_12), (5, .int x5_13), (8, .int k14)]) rfl (hJ101 x4_12 x5_13 k14 x3_11)
          · refine r_iload 97 dX12_ask_95 rfl 6 rfl ?_
            refine r_goto 101 dX12_ask_97 (by decide) ?_
            exact r_sub [1, 2, 3, 5, 6, 0] (lv2 := [(0, .ref (G.1 130)), (1, .int a1), (2, .int a2), (4, .int x4_12), (5, .int x5_13), (8, .int k14)]) rfl (hJ101 x4_12 x5_13 k14 x5_13)
        have hJ51 : ∀ (x3_5 : Int32) (x4_6 : Int32) (x5_7 : Int32), zR G l d "LoveLocksModel" cX12_ask 9 (some .int) (some (.int o)) w (Sum.elim (fun s3 => zA G l d "LoveLocksModel" cX12_ask 9 (some .int) (some (.int o)) w 30 [(0, .ref (G.1 130)), (1, .int a1), (2, .int a2), (3, .int s3.1), (4, .int s3.2.1), (5, .int s3.2.2)] [] w) (fun q4 => zA G l d "LoveLocksModel" cX12_ask 9 (some .int) (some (.int o)) w 124 [(2, .int a2), (3, .int q4.1), (4, .int q4.2)] [] w)) 51 [(0, .ref (G.1 130)), (1, .int a1), (2, .int a2), (3, .int x3_5), (4, .int x4_6), (5, .int x5_7)] [] w (f_X12_ask_J51 w a1 x3_5 x4_6 x5_7) := by
          intro x3_5 x4_6 x5_7
          rw [f_X12_ask_J51]
          refine r_aload_n 52 dX12_ask_51 rfl 0 rfl rfl ?_
          refine r_iload_n 53 dX12_ask_52 rfl 1 rfl rfl ?_
          refine r_iload 55 dX12_ask_53 rfl 5 rfl ?_
          refine r_callVi 58 2 (ko := 130) [.int a1, .int x5_7] (st := []) dX12_ask_55 rfl rfl (fun r h => c_X12_yes G l (d - 1) (by omega) w a1 x5_7 r h) zl_130 (ce_130 G _) rfl rfl wc_X12_yes wz_X12 wl_X12_299 wi_X12_yes ws_X12_yes zd_X12_yes (by decide) (by omega) rfl (Nat.le_of_ble_eq_true rfl) (fun r8 => ?_)
          refine r_callSi 61 1 [.int r8] (st := []) dX12_ask_58 rfl rfl (fun r h => c_X12_size G l (d - 1) (by omega) w r8 r h) wc_X12_size wz_X12 wl_X12_162 wst_X12_size zd_X12_size (by decide) (by omega) rfl (Nat.le_of_ble_eq_true rfl) (fun r9 => ?_)
          refine r_istore 63 [(6, .int r9), (0, .ref (G.1 130)), (1, .int a1), (2, .int a2), (3, .int x3_5), (4, .int x4_6), (5, .int x5_7)] dX12_ask_61 rfl (by decide) rfl ?_
          refine r_iload_n 64 dX12_ask_63 rfl 2 rfl rfl ?_
          refine r_callSi 67 1 [.int a1] (st := []) dX12_ask_64 rfl rfl (fun r h => c_X12_size G l (d - 1) (by omega) w a1 r h) wc_X12_size wz_X12 wl_X12_162 wst_X12_size zd_X12_size (by decide) (by omega) rfl (Nat.le_of_ble_eq_true rfl) (fun r10 => ?_)
          refine r_iload 69 dX12_ask_67 rfl 0 rfl ?_
          refine r_isub 70 dX12_ask_69 rfl ?_
          refine r_istore 72 [(7, .int (r10 - r9)), (6, .int r9), (0, .ref (G.1 130)), (1, .int a1), (2, .int a2), (3, .int x3_5), (4, .int x4_6), (5, .int x5_7)] dX12_ask_70 rfl (by decide) rfl ?_
          refine r_iload 74 dX12_ask_72 rfl 1 rfl ?_
          refine r_iload 76 dX12_ask_74 rfl 0 rfl ?_
          refine r_icmp_le 84 79 dX12_ask_76 (by decide) rfl ?_ ?_
          · refine r_iload 86 dX12_ask_84 rfl 0 rfl ?_
            exact r_sub [2, 3, 4, 5, 6, 7] (lv2 := [(0, .ref (G.1 130)), (1, .int a1), (2, .int a2), (3, .int x3_5), (4, .int x4_6), (5, .int x5_7)]) rfl (hJ86 x3_5 x4_6 x5_7 (r10 - r9))
          · refine r_iload 81 dX12_ask_79 rfl 1 rfl ?_
            refine r_goto 86 dX12_ask_81 (by decide) ?_
            exact r_sub [2, 3, 4, 5, 6, 7] (lv2 := [(0, .ref (G.1 130)), (1, .int a1), (2, .int a2), (3, .int x3_5), (4, .int x4_6), (5, .int x5_7)]) rfl (hJ86 x3_5 x4_6 x5_7 r9)
        refine r_iload 32 dX12_ask_30 rfl 5 rfl ?_
        refine r_bipush 34 dX12_ask_32 rfl zcb_32 ?_
        refine r_icmp_ge 124 37 dX12_ask_34 (by decide) rfl ?_ ?_
        · exact r_leaf [2, 3, 4] (lv2 := [(2, .int a2), (3, .int s3.1), (4, .int s3.2.1)]) rfl (fun h => h)
        · refine r_iload 39 dX12_ask_37 rfl 5 rfl ?_
          refine r_bipush 41 dX12_ask_39 rfl zcb_6 ?_
          refine r_icmp_lt 51 44 dX12_ask_41 (by decide) rfl ?_ ?_
          · exact r_sub [0, 1, 2, 3, 4, 5] (lv2 := [(0, .ref (G.1 130)), (1, .int a1), (2, .int a2), (3, .int s3.1), (4, .int s3.2.1), (5, .int s3.2.2)]) rfl (hJ51 s3.1 s3.2.1 s3.2.2)
          · refine r_iload 46 dX12_ask_44 rfl 5 rfl ?_
            refine r_bipush 48 dX12_ask_46 rfl zcb_9 ?_
            refine r_icmp_le 118 51 dX12_ask_48 (by decide) rfl ?_ ?_
            · refine r_iinc 121 5 [(5, .int (s3.2.2 + (1 : Int32))), (0, .ref (G.1 130)), (1, .int a1), (2, .int a2), (3, .int s3.1), (4, .int s3.2.1)] dX12_ask_118 rfl rfl zci_1 (by decide) rfl ?_
              refine r_goto 30 dX12_ask_121 (by decide) ?_
              exact r_leaf [1, 2, 3, 4, 5, 0] (lv2 := [(0, .ref (G.1 130)), (1, .int a1), (2, .int a2), (3, .int s3.1), (4, .int s3.2.1), (5, .int (s3.2.2 + (1 : Int32)))]) rfl (fun h => h)
            · exact r_sub [0, 1, 2, 3, 4, 5] (lv2 := [(0, .ref (G.1 130)), (1, .int a1), (2, .int a2), (3, .int s3.1), (4, .int s3.2.1), (5, .int s3.2.2)]) rfl (hJ51 s3.1 s3.2.1 s3.2.2)
      · refine r_iload_n 125 dX12_ask_124 rfl 0 rfl rfl ?_
        refine r_if_ne 132 128 dX12_ask_125 (by decide) rfl ?_ ?_
        · refine r_iload 134 dX12_ask_132 rfl 2 rfl ?_
          exact r_iret dX12_ask_134 rfl z_ki
        · refine r_iload_n 129 dX12_ask_128 rfl 1 rfl rfl ?_
          refine r_goto 134 dX12_ask_129 (by decide) ?_
          exact r_iret dX12_ask_134 rfl z_ki
    · refine r_iconst 19 dX12_ask_18 rfl zci_m1 ?_
      exact r_iret dX12_ask_19 rfl z_ki
-- X12_needed
def f_X12_needed_J38 (a1 : Int32) (x2_4 : Int32) (k5 : Int32) (w6 : ZW) : Option ((Int32 × ZW) ⊕ (ZW)) :=
  (f_X12_yes w6 a1 x2_4).bind fun r7 : Int32 =>
  if z_in k5 32 then
  z_let (z_upI w6 156 k5.toNatClampNeg r7) fun w8 =>
  some (.inl (x2_4 + (1 : Int32), w8))
else none
def f_X12_needed_L12 (a1 : Int32) (s2 : Int32 × ZW) : Option ((Int32 × ZW) ⊕ (ZW)) :=
  if (32 : Int32) ≤ s2.1 then
  some (.inr s2.2)
else
  if s2.1 ≤ (5 : Int32) then
    f_X12_needed_J38 a1 s2.1 s2.1 s2.2
  else
    if (10 : Int32) ≤ s2.1 then
      f_X12_needed_J38 a1 s2.1 s2.1 s2.2
    else
      if z_in s2.1 32 then
        z_let (z_upI s2.2 156 s2.1.toNatClampNeg (0 : Int32)) fun w9 =>
        some (.inl (s2.1 + (1 : Int32), w9))
      else none
def f_X12_needed_J168 (x3_22 : Int32) (x4_23 : Int32) (k24 : Int32) : Option ((Int32 × Int32) ⊕ (Int32)) :=
  if (1000000000 : Int32) ≤ k24 then
  some (.inl (x3_22, x4_23 + (1 : Int32)))
else
  if x3_22 ≤ (k24 + (1 : Int32)) then
    some (.inl (x3_22, x4_23 + (1 : Int32)))
  else
    some (.inl (k24 + (1 : Int32), x4_23 + (1 : Int32)))
def f_X12_needed_J129 (x3_20 : Int32) (x4_21 : Int32) : Option ((Int32 × Int32) ⊕ (Int32)) :=
  f_X12_needed_J168 x3_20 x4_21 (1000000000 : Int32)
def f_X12_needed_L84 (x2_13 : Int32) (w15 : ZW) (s16 : Int32 × Int32) : Option ((Int32 × Int32) ⊕ (Int32)) :=
  if (32 : Int32) ≤ s16.2 then
  some (.inr s16.1)
else
  if s16.1 ≤ 0 then
    some (.inr s16.1)
  else
    if z_in s16.2 32 then
      z_let (x2_13 &&& (w15.1 156 s16.2.toNatClampNeg)) fun y18 =>
      if z_in s16.2 32 then
      z_let (x2_13 &&& ((w15.1 156 s16.2.toNatClampNeg) ^^^ (-1 : Int32))) fun y19 =>
      if y18 = 0 then
      f_X12_needed_J129 s16.1 s16.2
    else
      if y19 = 0 then
        f_X12_needed_J129 s16.1 s16.2
      else
        if z_in y18 16384 then
          if z_in y19 16384 then
          if (w15.1 155 y18.toNatClampNeg) ≤ (w15.1 155 y19.toNatClampNeg) then
          if z_in y19 16384 then
            f_X12_needed_J168 s16.1 s16.2 (w15.1 155 y19.toNatClampNeg)
          else none
        else
          if z_in y18 16384 then
            f_X12_needed_J168 s16.1 s16.2 (w15.1 155 y18.toNatClampNeg)
          else none
        else none
        else none
    else none
    else none
def f_X12_needed_J80 (x2_13 : Int32) (k14 : Int32) (w15 : ZW) : Option ((Int32 × ZW) ⊕ (ZW)) :=
  (z_iter (f_X12_needed_L84 x2_13 w15) z_fuel (k14, (0 : Int32))).bind (fun q17 : Int32 =>
  if z_in x2_13 16384 then
  z_let (z_upI w15 155 x2_13.toNatClampNeg q17) fun w25 =>
  some (.inl (x2_13 + (1 : Int32), w25))
else none)
def f_X12_needed_L53 (a1 : Int32) (s10 : Int32 × ZW) : Option ((Int32 × ZW) ⊕ (ZW)) :=
  if a1 < s10.1 then
  some (.inr s10.2)
else
  if (s10.1 &&& (a1 ^^^ (-1 : Int32))) = 0 then
    (f_X12_size s10.1).bind fun r12 : Int32 =>
      if r12 = (1 : Int32) then
      f_X12_needed_J80 s10.1 (0 : Int32) s10.2
    else
      f_X12_needed_J80 s10.1 (1000000000 : Int32) s10.2
  else
    some (.inl (s10.1 + (1 : Int32), s10.2))
def f_X12_needed (w : ZW) (a1 : Int32) : Option (Int32 × ZW) :=
  (f_X12_isSought w a1).bind fun r1 : Int32 =>
  if r1 = 0 then
  some ((-1 : Int32), w)
else
  (z_iter (f_X12_needed_L12 a1) z_fuel ((0 : Int32), w)).bind (fun q3 : ZW =>
    (z_iter (f_X12_needed_L53 a1) z_fuel ((1 : Int32), q3)).bind (fun q11 : ZW =>
    if z_in a1 16384 then
    if (q11.1 155 a1.toNatClampNeg) = (1000000000 : Int32) then
    some ((-4 : Int32), q11)
  else
    if z_in a1 16384 then
      some (q11.1 155 a1.toNatClampNeg, q11)
    else none
  else none))
set_option maxHeartbeats 4000000 in
set_option maxRecDepth 100000 in
theorem c_X12_needed (G : ZG) (l : Launch) (d : Nat) (hd : 3 ≤ d) (w : ZW) (a1 : Int32) : ∀ o, f_X12_needed w a1 = some o → zM G l d yX12_needed cX12_needed 8 (some .int) [.ref (G.1 130), .int a1] w (some (.int o.1)) o.2 := by
  intro o ho
  refine zM.of [(0, .ref (G.1 130)), (1, .int a1)] (by decide) (Nat.le_of_ble_eq_true rfl) rfl ?_
  refine (?_ : zR G l d "LoveLocksModel" cX12_needed 8 (some .int) (some (.int o.1)) o.2 (fun x => x = o) 0 [(0, .ref (G.1 130)), (1, .int a1)] [] w (f_X12_needed w a1)) o ho rfl
  rw [f_X12_needed]
  refine r_aload_n 1 dX12_needed_0 rfl 0 rfl rfl ?_
  refine r_iload_n 2 dX12_needed_1 rfl 1 rfl rfl ?_
  refine r_callVi 5 1 (ko := 130) [.int a1] (st := []) dX12_needed_2 rfl rfl (fun r h => c_X12_isSought G l (d - 1) (by omega) w a1 r h) zl_130 (ce_130 G _) rfl rfl wc_X12_isSought wz_X12 wl_X12_296 wi_X12_isSought ws_X12_isSought zd_X12_isSought (by decide) (by omega) rfl (Nat.le_of_ble_eq_true rfl) (fun r1 => ?_)
  refine r_if_ne 10 8 dX12_needed_5 (by decide) rfl ?_ ?_
  · refine r_iconst 11 dX12_needed_10 rfl zci_0 ?_
    refine r_istore_n 12 [(2, .int (0 : Int32)), (0, .ref (G.1 130)), (1, .int a1)] dX12_needed_11 rfl rfl (by decide) rfl ?_
    refine r_loopE [1, 2, 0] (fun s2 => [(0, .ref (G.1 130)), (1, .int a1), (2, .int s2.1)]) (fun s2 => s2.2) 51 (fun q3 => [(0, .ref (G.1 130)), (1, .int a1)]) (fun q3 => q3) rfl rfl (fun s2 => ?_) (fun q3 => ?_)
    · rw [f_X12_needed_L12]
      have hJ38 : ∀ (x2_4 : Int32) (k5 : Int32) (w6 : ZW), zR G l d "LoveLocksModel" cX12_needed 8 (some .int) (some (.int o.1)) o.2 (Sum.elim (fun s2 => zA G l d "LoveLocksModel" cX12_needed 8 (some .int) (some (.int o.1)) o.2 12 [(0, .ref (G.1 130)), (1, .int a1), (2, .int s2.1)] [] s2.2) (fun q3 => zA G l d "LoveLocksModel" cX12_needed 8 (some .int) (some (.int o.1)) o.2 51 [(0, .ref (G.1 130)), (1, .int a1)] [] q3)) 38 [(0, .ref (G.1 130)), (1, .int a1), (2, .int x2_4)] [.int k5, .ref (G.1 156)] w6 (f_X12_needed_J38 a1 x2_4 k5 w6) := by
        intro x2_4 k5 w6
        rw [f_X12_needed_J38]
        refine r_aload_n 39 dX12_needed_38 rfl 0 rfl rfl ?_
        refine r_iload_n 40 dX12_needed_39 rfl 1 rfl rfl ?_
        refine r_iload_n 41 dX12_needed_40 rfl 2 rfl rfl ?_
        refine r_callVi 44 2 (ko := 130) [.int a1, .int x2_4] (st := [.int k5, .ref (G.1 156)]) dX12_needed_41 rfl rfl (fun r h => c_X12_yes G l (d - 1) (by omega) w6 a1 x2_4 r h) zl_130 (ce_130 G _) rfl rfl wc_X12_yes wz_X12 wl_X12_299 wi_X12_yes ws_X12_yes zd_X12_yes (by decide) (by omega) rfl (Nat.le_of_ble_eq_true rfl) (fun r7 => ?_)
        refine r_iast 45 156 32 dX12_needed_44 rfl zl_156 (ce_156 G) ?_
        refine r_topw (fun w8 => ?_)
        refine r_iinc 48 2 [(2, .int (x2_4 + (1 : Int32))), (0, .ref (G.1 130)), (1, .int a1)] dX12_needed_45 rfl rfl zci_1 (by decide) rfl ?_
        refine r_goto 12 dX12_needed_48 (by decide) ?_
        exact r_leaf [1, 2, 0] (lv2 := [(0, .ref (G.1 130)), (1, .int a1), (2, .int (x2_4 + (1 : Int32)))]) rfl (fun h => h)
      refine r_iload_n 13 dX12_needed_12 rfl 2 rfl rfl ?_
      refine r_bipush 15 dX12_needed_13 rfl zcb_32 ?_
      refine r_icmp_ge 51 18 dX12_needed_15 (by decide) rfl ?_ ?_
      · exact r_leaf [0, 1] (lv2 := [(0, .ref (G.1 130)), (1, .int a1)]) rfl (fun h => h)
      · refine r_aload_n 19 dX12_needed_18 rfl 0 rfl rfl ?_
        refine r_get 22 130 35 dX12_needed_19 rfl zl_130 (ce_130 G _) rfl inz12 (by decide) wf_X12_90 rfl ?_
        refine r_iload_n 23 dX12_needed_22 rfl 2 rfl rfl ?_
        refine r_iload_n 24 dX12_needed_23 rfl 2 rfl rfl ?_
        refine r_iconst 25 dX12_needed_24 rfl zci_5 ?_
        refine r_icmp_le 38 28 dX12_needed_25 (by decide) rfl ?_ ?_
        · exact r_sub [0, 1, 2] (lv2 := [(0, .ref (G.1 130)), (1, .int a1), (2, .int s2.1)]) rfl (hJ38 s2.1 s2.1 s2.2)
        · refine r_iload_n 29 dX12_needed_28 rfl 2 rfl rfl ?_
          refine r_bipush 31 dX12_needed_29 rfl zcb_10 ?_
          refine r_icmp_ge 38 34 dX12_needed_31 (by decide) rfl ?_ ?_
          · exact r_sub [0, 1, 2] (lv2 := [(0, .ref (G.1 130)), (1, .int a1), (2, .int s2.1)]) rfl (hJ38 s2.1 s2.1 s2.2)
          · refine r_iconst 35 dX12_needed_34 rfl zci_0 ?_
            refine r_goto 44 dX12_needed_35 (by decide) ?_
            refine r_iast 45 156 32 dX12_needed_44 rfl zl_156 (ce_156 G) ?_
            refine r_topw (fun w9 => ?_)
            refine r_iinc 48 2 [(2, .int (s2.1 + (1 : Int32))), (0, .ref (G.1 130)), (1, .int a1)] dX12_needed_45 rfl rfl zci_1 (by decide) rfl ?_
            refine r_goto 12 dX12_needed_48 (by decide) ?_
            exact r_leaf [1, 2, 0] (lv2 := [(0, .ref (G.1 130)), (1, .int a1), (2, .int (s2.1 + (1 : Int32)))]) rfl (fun h => h)
    · refine r_iconst 52 dX12_needed_51 rfl zci_1 ?_
      refine r_istore_n 53 [(2, .int (1 : Int32)), (0, .ref (G.1 130)), (1, .int a1)] dX12_needed_52 rfl rfl (by decide) rfl ?_
      refine r_loopE [1, 2, 0] (fun s10 => [(0, .ref (G.1 130)), (1, .int a1), (2, .int s10.1)]) (fun s10 => s10.2) 213 (fun q11 => [(0, .ref (G.1 130)), (1, .int a1)]) (fun q11 => q11) rfl rfl (fun s10 => ?_) (fun q11 => ?_)
      · rw [f_X12_needed_L53]
        have hJ80 : ∀ (x2_13 : Int32) (k14 : Int32) (w15 : ZW), zR G l d "LoveLocksModel" cX12_needed 8 (some .int) (some (.int o.1)) o.2 (Sum.elim (fun s10 => zA G l d "LoveLocksModel" cX12_needed 8 (some .int) (some (.int o.1)) o.2 53 [(0, .ref (G.1 130)), (1, .int a1), (2, .int s10.1)] [] s10.2) (fun q11 => zA G l d "LoveLocksModel" cX12_needed 8 (some .int) (some (.int o.1)) o.2 213 [(0, .ref (G.1 130)), (1, .int a1)] [] q11)) 80 [(0, .ref (G.1 130)), (1, .int a1), (2, .int x2_13)] [.int k14] w15 (f_X12_needed_J80 x2_13 k14 w15) := by
          intro x2_13 k14 w15
          rw [f_X12_needed_J80]
          refine r_istore_n 81 [(3, .int k14), (0, .ref (G.1 130)), (1, .int a1), (2, .int x2_13)] dX12_needed_80 rfl rfl (by decide) rfl ?_
          refine r_iconst 82 dX12_needed_81 rfl zci_0 ?_
          refine r_istore 84 [(4, .int (0 : Int32)), (3, .int k14), (0, .ref (G.1 130)), (1, .int a1), (2, .int x2_13)] dX12_needed_82 rfl (by decide) rfl ?_
          refine r_loopE [2, 3, 4, 1, 0] (fun s16 => [(0, .ref (G.1 130)), (1, .int a1), (2, .int x2_13), (3, .int s16.1), (4, .int s16.2)]) (fun s16 => w15) 200 (fun q17 => [(0, .ref (G.1 130)), (1, .int a1), (2, .int x2_13), (3, .int q17)]) (fun q17 => w15) rfl rfl (fun s16 => ?_) (fun q17 => ?_)
          · rw [f_X12_needed_L84]
            have hJ168 : ∀ (x3_22 : Int32) (x4_23 : Int32) (k24 : Int32), zR G l d "LoveLocksModel" cX12_needed 8 (some .int) (some (.int o.1)) o.2 (Sum.elim (fun s16 => zA G l d "LoveLocksModel" cX12_needed 8 (some .int) (some (.int o.1)) o.2 84 [(0, .ref (G.1 130)), (1, .int a1), (2, .int x2_13), (3, .int s16.1), (4, .int s16.2)] [] w15) (fun q17 => zA G l d "LoveLocksModel" cX12_needed 8 (some .int) (some (.int o.1)) o.2 200 [(0, .ref (G.1 130)), (1, .int a1), (2, .int x2_13), (3, .int q17)] [] w15)) 168 [(0, .ref (G.1 130)), (1, .int a1), (2, .int x2_13), (3, .int x3_22), (4, .int x4_23)] [.int k24] w15 (f_X12_needed_J168 x3_22 x4_23 k24) := by
              intro x3_22 x4_23 k24
              rw [f_X12_needed_J168]
              refine r_istore 170 [(7, .int k24), (0, .ref (G.1 130)), (1, .int a1), (2, .int x2_13), (3, .int x3_22), (4, .int x4_23)] dX12_needed_168 rfl (by decide) rfl ?_
              refine r_iload 172 dX12_needed_170 rfl 0 rfl ?_
              refine r_ldc 174 dX12_needed_172 rfl wk_X12_254 ?_
              refine r_icmp_ge 192 177 dX12_needed_174 (by decide) rfl ?_ ?_
              · refine r_iload_n 193 dX12_needed_192 rfl 4 rfl rfl ?_
                refine r_istore_n 194 [(3, .int x3_22), (7, .int k24), (0, .ref (G.1 130)), (1, .int a1), (2, .int x2_13), (4, .int x4_23)] dX12_needed_193 rfl rfl (by decide) rfl ?_
                refine r_iinc 197 5 [(4, .int (x4_23 + (1 : Int32))), (3, .int x3_22), (7, .int k24), (0, .ref (G.1 130)), (1, .int a1), (2, .int x2_13)] dX12_needed_194 rfl rfl zci_1 (by decide) rfl ?_
                refine r_goto 84 dX12_needed_197 (by decide) ?_
                exact r_leaf [3, 4, 5, 1, 0] (lv2 := [(0, .ref (G.1 130)), (1, .int a1), (2, .int x2_13), (3, .int x3_22), (4, .int (x4_23 + (1 : Int32)))]) rfl (fun h => h)
              · refine r_iload 179 dX12_needed_177 rfl 0 rfl ?_
                refine r_iconst 180 dX12_needed_179 rfl zci_1 ?_
                refine r_iadd 181 dX12_needed_180 rfl ?_
                refine r_iload_n 182 dX12_needed_181 rfl 4 rfl rfl ?_
                refine r_icmp_ge 192 185 dX12_needed_182 (by decide) rfl ?_ ?_
                · refine r_iload_n 193 dX12_needed_192 rfl 4 rfl rfl ?_
                  refine r_istore_n 194 [(3, .int x3_22), (7, .int k24), (0, .ref (G.1 130)), (1, .int a1), (2, .int x2_13), (4, .int x4_23)] dX12_needed_193 rfl rfl (by decide) rfl ?_
                  refine r_iinc 197 5 [(4, .int (x4_23 + (1 : Int32))), (3, .int x3_22), (7, .int k24), (0, .ref (G.1 130)), (1, .int a1), (2, .int x2_13)] dX12_needed_194 rfl rfl zci_1 (by decide) rfl ?_
                  refine r_goto 84 dX12_needed_197 (by decide) ?_
                  exact r_leaf [3, 4, 5, 1, 0] (lv2 := [(0, .ref (G.1 130)), (1, .int a1), (2, .int x2_13), (3, .int x3_22), (4, .int (x4_23 + (1 : Int32)))]) rfl (fun h => h)
                · refine r_iload 187 dX12_needed_185 rfl 0 rfl ?_
                  refine r_iconst 188 dX12_needed_187 rfl zci_1 ?_
                  refine r_iadd 189 dX12_needed_188 rfl ?_
                  refine r_goto 193 dX12_needed_189 (by decide) ?_
                  refine r_istore_n 194 [(3, .int (k24 + (1 : Int32))), (7, .int k24), (0, .ref (G.1 130)), (1, .int a1), (2, .int x2_13), (4, .int x4_23)] dX12_needed_193 rfl rfl (by decide) rfl ?_
                  refine r_iinc 197 5 [(4, .int (x4_23 + (1 : Int32))), (3, .int (k24 + (1 : Int32))), (7, .int k24), (0, .ref (G.1 130)), (1, .int a1), (2, .int x2_13)] dX12_needed_194 rfl rfl zci_1 (by decide) rfl ?_
                  refine r_goto 84 dX12_needed_197 (by decide) ?_
                  exact r_leaf [3, 4, 5, 1, 0] (lv2 := [(0, .ref (G.1 130)), (1, .int a1), (2, .int x2_13), (3, .int (k24 + (1 : Int32))), (4, .int (x4_23 + (1 : Int32)))]) rfl (fun h => h)
            have hJ129 : ∀ (x3_20 : Int32) (x4_21 : Int32), zR G l d "LoveLocksModel" cX12_needed 8 (some .int) (some (.int o.1)) o.2 (Sum.elim (fun s16 => zA G l d "LoveLocksModel" cX12_needed 8 (some .int) (some (.int o.1)) o.2 84 [(0, .ref (G.1 130)), (1, .int a1), (2, .int x2_13), (3, .int s16.1), (4, .int s16.2)] [] w15) (fun q17 => zA G l d "LoveLocksModel" cX12_needed 8 (some .int) (some (.int o.1)) o.2 200 [(0, .ref (G.1 130)), (1, .int a1), (2, .int x2_13), (3, .int q17)] [] w15)) 129 [(0, .ref (G.1 130)), (1, .int a1), (2, .int x2_13), (3, .int x3_20), (4, .int x4_21)] [] w15 (f_X12_needed_J129 x3_20 x4_21) := by
              intro x3_20 x4_21
              rw [f_X12_needed_J129]
              refine r_ldc 131 dX12_needed_129 rfl wk_X12_254 ?_
              refine r_goto 168 dX12_needed_131 (by decide) ?_
              exact r_sub [0, 1, 2, 3, 4] (lv2 := [(0, .ref (G.1 130)), (1, .int a1), (2, .int x2_13), (3, .int x3_20), (4, .int x4_21)]) rfl (hJ168 x3_20 x4_21 (1000000000 : Int32))
            refine r_iload 86 dX12_needed_84 rfl 4 rfl ?_
            refine r_bipush 88 dX12_needed_86 rfl zcb_32 ?_
            refine r_icmp_ge 200 91 dX12_needed_88 (by decide) rfl ?_ ?_
            · exact r_leaf [0, 1, 2, 3] (lv2 := [(0, .ref (G.1 130)), (1, .int a1), (2, .int x2_13), (3, .int s16.1)]) rfl (fun h => h)
            · refine r_iload_n 92 dX12_needed_91 rfl 3 rfl rfl ?_
              refine r_if_le 200 95 dX12_needed_92 (by decide) rfl ?_ ?_
              · exact r_leaf [0, 1, 2, 3] (lv2 := [(0, .ref (G.1 130)), (1, .int a1), (2, .int x2_13), (3, .int s16.1)]) rfl (fun h => h)
              · refine r_iload_n 96 dX12_needed_95 rfl 2 rfl rfl ?_
                refine r_aload_n 97 dX12_needed_96 rfl 0 rfl rfl ?_
                refine r_get 100 130 35 dX12_needed_97 rfl zl_130 (ce_130 G _) rfl inz12 (by decide) wf_X12_90 rfl ?_
                refine r_iload 102 dX12_needed_100 rfl 4 rfl ?_
                refine r_iald 103 156 32 dX12_needed_102 rfl zl_156 (ce_156 G _) ?_
                refine r_iand 104 dX12_needed_103 rfl ?_
                refine r_topi (fun y18 => ?_)
                refine r_istore 106 [(5, .int y18), (0, .ref (G.1 130)), (1, .int a1), (2, .int x2_13), (3, .int s16.1), (4, .int s16.2)] dX12_needed_104 rfl (by decide) rfl ?_
                refine r_iload_n 107 dX12_needed_106 rfl 3 rfl rfl ?_
                refine r_aload_n 108 dX12_needed_107 rfl 1 rfl rfl ?_
                refine r_get 111 130 35 dX12_needed_108 rfl zl_130 (ce_130 G _) rfl inz12 (by decide) wf_X12_90 rfl ?_
                refine r_iload 113 dX12_needed_111 rfl 5 rfl ?_
                refine r_iald 114 156 32 dX12_needed_113 rfl zl_156 (ce_156 G _) ?_
                refine r_iconst 115 dX12_needed_114 rfl zci_m1 ?_
                refine r_ixor 116 dX12_needed_115 rfl ?_
                refine r_iand 117 dX12_needed_116 rfl ?_
                refine r_topi (fun y19 => ?_)
                refine r_istore 119 [(6, .int y19), (5, .int y18), (0, .ref (G.1 130)), (1, .int a1), (2, .int x2_13), (3, .int s16.1), (4, .int s16.2)] dX12_needed_117 rfl (by decide) rfl ?_
                refine r_iload 121 dX12_needed_119 rfl 1 rfl ?_
                refine r_if_eq 129 124 dX12_needed_121 (by decide) rfl ?_ ?_
                · exact r_sub [2, 3, 4, 5, 6] (lv2 := [(0, .ref (G.1 130)), (1, .int a1), (2, .int x2_13), (3, .int s16.1), (4, .int s16.2)]) rfl (hJ129 s16.1 s16.2)
                · refine r_iload 126 dX12_needed_124 rfl 0 rfl ?_
                  refine r_if_ne 134 129 dX12_needed_126 (by decide) rfl ?_ ?_
                  · refine r_aload_n 135 dX12_needed_134 rfl 2 rfl rfl ?_
                    refine r_get 138 130 34 dX12_needed_135 rfl zl_130 (ce_130 G _) rfl inz12 (by decide) wf_X12_87 rfl ?_
                    refine r_iload 140 dX12_needed_138 rfl 1 rfl ?_
                    refine r_iald 141 155 16384 dX12_needed_140 rfl zl_155 (ce_155 G _) ?_
                    refine r_aload_n 142 dX12_needed_141 rfl 2 rfl rfl ?_
                    refine r_get 145 130 34 dX12_needed_142 rfl zl_130 (ce_130 G _) rfl inz12 (by decide) wf_X12_87 rfl ?_
                    refine r_iload 147 dX12_needed_145 rfl 0 rfl ?_
                    refine r_iald 148 155 16384 dX12_needed_147 rfl zl_155 (ce_155 G _) ?_
                    refine r_icmp_le 161 151 dX12_needed_148 (by decide) rfl ?_ ?_
                    · refine r_aload_n 162 dX12_needed_161 rfl 2 rfl rfl ?_
                      refine r_get 165 130 34 dX12_needed_162 rfl zl_130 (ce_130 G _) rfl inz12 (by decide) wf_X12_87 rfl ?_
                      refine r_iload 167 dX12_needed_165 rfl 0 rfl ?_
                      refine r_iald 168 155 16384 dX12_needed_167 rfl zl_155 (ce_155 G _) ?_
                      exact r_sub [2, 3, 4, 5, 6] (lv2 := [(0, .ref (G.1 130)), (1, .int a1), (2, .int x2_13), (3, .int s16.1), (4, .int s16.2)]) rfl (hJ168 s16.1 s16.2 (w15.1 155 y19.toNatClampNeg))
                    · refine r_aload_n 152 dX12_needed_151 rfl 2 rfl rfl ?_
                      refine r_get 155 130 34 dX12_needed_152 rfl zl_130 (ce_130 G _) rfl inz12 (by decide) wf_X12_87 rfl ?_
                      refine r_iload 157 dX12_needed_155 rfl 1 rfl ?_
                      refine r_iald 158 155 16384 dX12_needed_157 rfl zl_155 (ce_155 G _) ?_
                      refine r_goto 168 dX12_needed_158 (by decide) ?_
                      exact r_sub [2, 3, 4, 5, 6] (lv2 := [(0, .ref (G.1 130)), (1, .int a1), (2, .int x2_13), (3, .int s16.1), (4, .int s16.2)]) rfl (hJ168 s16.1 s16.2 (w15.1 155 y18.toNatClampNeg))
                  · exact r_sub [2, 3, 4, 5, 6] (lv2 := [(0, .ref (G.1 130)), (1, .int a1), (2, .int x2_13), (3, .int s16.1), (4, .int s16.2)]) rfl (hJ129 s16.1 s16.2)
          · refine r_aload_n 201 dX12_needed_200 rfl 0 rfl rfl ?_
            refine r_get 204 130 34 dX12_needed_201 rfl zl_130 (ce_130 G _) rfl inz12 (by decide) wf_X12_87 rfl ?_
            refine r_iload_n 205 dX12_needed_204 rfl 2 rfl rfl ?_
            refine r_iload_n 206 dX12_needed_205 rfl 3 rfl rfl ?_
            refine r_iast 207 155 16384 dX12_needed_206 rfl zl_155 (ce_155 G) ?_
            refine r_topw (fun w25 => ?_)
            refine r_iinc 210 2 [(2, .int (x2_13 + (1 : Int32))), (0, .ref (G.1 130)), (1, .int a1), (3, .int q17)] dX12_needed_207 rfl rfl zci_1 (by decide) rfl ?_
            refine r_goto 53 dX12_needed_210 (by decide) ?_
            exact r_leaf [1, 2, 0] (lv2 := [(0, .ref (G.1 130)), (1, .int a1), (2, .int (x2_13 + (1 : Int32)))]) rfl (fun h => h)
        refine r_iload_n 54 dX12_needed_53 rfl 2 rfl rfl ?_
        refine r_iload_n 55 dX12_needed_54 rfl 1 rfl rfl ?_
        refine r_icmp_gt 213 58 dX12_needed_55 (by decide) rfl ?_ ?_
        · exact r_leaf [0, 1] (lv2 := [(0, .ref (G.1 130)), (1, .int a1)]) rfl (fun h => h)
        · refine r_iload_n 59 dX12_needed_58 rfl 2 rfl rfl ?_
          refine r_iload_n 60 dX12_needed_59 rfl 1 rfl rfl ?_
          refine r_iconst 61 dX12_needed_60 rfl zci_m1 ?_
          refine r_ixor 62 dX12_needed_61 rfl ?_
          refine r_iand 63 dX12_needed_62 rfl ?_
          refine r_if_ne 207 66 dX12_needed_63 (by decide) rfl ?_ ?_
          · refine r_iinc 210 2 [(2, .int (s10.1 + (1 : Int32))), (0, .ref (G.1 130)), (1, .int a1)] dX12_needed_207 rfl rfl zci_1 (by decide) rfl ?_
            refine r_goto 53 dX12_needed_210 (by decide) ?_
            exact r_leaf [1, 2, 0] (lv2 := [(0, .ref (G.1 130)), (1, .int a1), (2, .int (s10.1 + (1 : Int32)))]) rfl (fun h => h)
          · refine r_iload_n 67 dX12_needed_66 rfl 2 rfl rfl ?_
            refine r_callSi 70 1 [.int s10.1] (st := []) dX12_needed_67 rfl rfl (fun r h => c_X12_size G l (d - 1) (by omega) s10.2 s10.1 r h) wc_X12_size wz_X12 wl_X12_162 wst_X12_size zd_X12_size (by decide) (by omega) rfl (Nat.le_of_ble_eq_true rfl) (fun r12 => ?_)
            refine r_iconst 71 dX12_needed_70 rfl zci_1 ?_
            refine r_icmp_ne 78 74 dX12_needed_71 (by decide) rfl ?_ ?_
            · refine r_ldc 80 dX12_needed_78 rfl wk_X12_254 ?_
              exact r_sub [0, 1, 2] (lv2 := [(0, .ref (G.1 130)), (1, .int a1), (2, .int s10.1)]) rfl (hJ80 s10.1 (1000000000 : Int32) s10.2)
            · refine r_iconst 75 dX12_needed_74 rfl zci_0 ?_
              refine r_goto 80 dX12_needed_75 (by decide) ?_
              exact r_sub [0, 1, 2] (lv2 := [(0, .ref (G.1 130)), (1, .int a1), (2, .int s10.1)]) rfl (hJ80 s10.1 (0 : Int32) s10.2)
      · refine r_aload_n 214 dX12_needed_213 rfl 0 rfl rfl ?_
        refine r_get 217 130 34 dX12_needed_214 rfl zl_130 (ce_130 G _) rfl inz12 (by decide) wf_X12_87 rfl ?_
        refine r_iload_n 218 dX12_needed_217 rfl 1 rfl rfl ?_
        refine r_iald 219 155 16384 dX12_needed_218 rfl zl_155 (ce_155 G _) ?_
        refine r_ldc 221 dX12_needed_219 rfl wk_X12_254 ?_
        refine r_icmp_ne 229 224 dX12_needed_221 (by decide) rfl ?_ ?_
        · refine r_aload_n 230 dX12_needed_229 rfl 0 rfl rfl ?_
          refine r_get 233 130 34 dX12_needed_230 rfl zl_130 (ce_130 G _) rfl inz12 (by decide) wf_X12_87 rfl ?_
          refine r_iload_n 234 dX12_needed_233 rfl 1 rfl rfl ?_
          refine r_iald 235 155 16384 dX12_needed_234 rfl zl_155 (ce_155 G _) ?_
          exact r_iret dX12_needed_235 rfl z_kiw
        · refine r_bipush 226 dX12_needed_224 rfl zcb_m4 ?_
          refine r_goto 235 dX12_needed_226 (by decide) ?_
          exact r_iret dX12_needed_235 rfl z_kiw
  · refine r_iconst 9 dX12_needed_8 rfl zci_m1 ?_
    exact r_iret dX12_needed_9 rfl z_kiw
-- X12_isLoot
def f_X12_isLoot_J68 (w : ZW) (x3_7 : Int32) (x4_8 : Int32) (k9 : Int32) : Option ((Int32 × Int32) ⊕ (Int32)) :=
  if k9 = 0 then
  if x4_8 = 0 then
    some (.inl ((1 : Int32), x3_7 + (1 : Int32)))
  else
    if z_in x3_7 14 then
      if (w.1 138 x3_7.toNatClampNeg) = (1 : Int32) then
      some (.inl ((1 : Int32), x3_7 + (1 : Int32)))
    else
      some (.inl ((0 : Int32), x3_7 + (1 : Int32)))
    else none
else
  if x4_8 = 0 then
    if z_in x3_7 14 then
      if (w.1 133 x3_7.toNatClampNeg) = 0 then
      some (.inl ((1 : Int32), x3_7 + (1 : Int32)))
    else
      some (.inl ((0 : Int32), x3_7 + (1 : Int32)))
    else none
  else
    some (.inl ((1 : Int32), x3_7 + (1 : Int32)))
def f_X12_isLoot_J52 (a1 : Int32) (w : ZW) (x3_5 : Int32) (k6 : Int32) : Option ((Int32 × Int32) ⊕ (Int32)) :=
  if ((a1 >>> (x3_5 &&& 31)) &&& (1 : Int32)) = (1 : Int32) then
  f_X12_isLoot_J68 w x3_5 k6 (1 : Int32)
else
  f_X12_isLoot_J68 w x3_5 k6 (0 : Int32)
def f_X12_isLoot_J51 (a1 : Int32) (w : ZW) (x3_4 : Int32) : Option ((Int32 × Int32) ⊕ (Int32)) :=
  f_X12_isLoot_J52 a1 w x3_4 (0 : Int32)
def f_X12_isLoot_L12 (w : ZW) (a1 : Int32) (s2 : Int32 × Int32) : Option ((Int32 × Int32) ⊕ (Int32)) :=
  if (w.1 130 2) ≤ s2.2 then
  some (.inr s2.1)
else
  if s2.1 = 0 then
    some (.inr s2.1)
  else
    if z_in s2.2 14 then
      if (w.1 137 s2.2.toNatClampNeg) < 0 then
      f_X12_isLoot_J51 a1 w s2.2
    else
      if z_in s2.2 14 then
        if ((a1 >>> ((w.1 137 s2.2.toNatClampNeg) &&& 31)) &&& (1 : Int32)) = (1 : Int32) then
        f_X12_isLoot_J52 a1 w s2.2 (1 : Int32)
      else
        f_X12_isLoot_J51 a1 w s2.2
      else none
    else none
def f_X12_isLoot_J9 (w : ZW) (a1 : Int32) (k1 : Int32) : Option (Int32) :=
  (z_iter (f_X12_isLoot_L12 w a1) z_fuel (k1, (0 : Int32))).bind (fun q3 : Int32 =>
  if z_bo q3 then some q3 else none)
def f_X12_isLoot (w : ZW) (a1 : Int32) : Option (Int32) :=
  if a1 = 0 then
  f_X12_isLoot_J9 w a1 (0 : Int32)
else
  f_X12_isLoot_J9 w a1 (1 : Int32)
set_option maxHeartbeats 4000000 in
set_option maxRecDepth 100000 in
theorem c_X12_isLoot (G : ZG) (l : Launch) (d : Nat) (hd : 1 ≤ d) (w : ZW) (a1 : Int32) : ∀ o, f_X12_isLoot w a1 = some o → zM G l d yX12_isLoot cX12_isLoot 6 (some .boolean) [.ref (G.1 130), .int a1] w (some (.int o)) w := by
  intro o ho
  refine zM.of [(0, .ref (G.1 130)), (1, .int a1)] (by decide) (Nat.le_of_ble_eq_true rfl) rfl ?_
  refine (?_ : zR G l d "LoveLocksModel" cX12_isLoot 6 (some .boolean) (some (.int o)) w (fun x => x = o) 0 [(0, .ref (G.1 130)), (1, .int a1)] [] w (f_X12_isLoot w a1)) o ho rfl
  rw [f_X12_isLoot]
  have hJ9 : ∀ (k1 : Int32), zR G l d "LoveLocksModel" cX12_isLoot 6 (some .boolean) (some (.int o)) w (fun x => x = o) 9 [(0, .ref (G.1 130)), (1, .int a1)] [.int k1] w (f_X12_isLoot_J9 w a1 k1) := by
    intro k1
    rw [f_X12_isLoot_J9]
    refine r_istore_n 10 [(2, .int k1), (0, .ref (G.1 130)), (1, .int a1)] dX12_isLoot_9 rfl rfl (by decide) rfl ?_
    refine r_iconst 11 dX12_isLoot_10 rfl zci_0 ?_
    refine r_istore_n 12 [(3, .int (0 : Int32)), (2, .int k1), (0, .ref (G.1 130)), (1, .int a1)] dX12_isLoot_11 rfl rfl (by decide) rfl ?_
    refine r_loopE [2, 3, 1, 0] (fun s2 => [(0, .ref (G.1 130)), (1, .int a1), (2, .int s2.1), (3, .int s2.2)]) (fun s2 => w) 124 (fun q3 => [(2, .int q3)]) (fun q3 => w) rfl rfl (fun s2 => ?_) (fun q3 => ?_)
    · rw [f_X12_isLoot_L12]
      have hJ68 : ∀ (x3_7 : Int32) (x4_8 : Int32) (k9 : Int32), zR G l d "LoveLocksModel" cX12_isLoot 6 (some .boolean) (some (.int o)) w (Sum.elim (fun s2 => zA G l d "LoveLocksModel" cX12_isLoot 6 (some .boolean) (some (.int o)) w 12 [(0, .ref (G.1 130)), (1, .int a1), (2, .int s2.1), (3, .int s2.2)] [] w) (fun q3 => zA G l d "LoveLocksModel" cX12_isLoot 6 (some .boolean) (some (.int o)) w 124 [(2, .int q3)] [] w)) 68 [(0, .ref (G.1 130)), (1, .int a1), (3, .int x3_7), (4, .int x4_8)] [.int k9] w (f_X12_isLoot_J68 w x3_7 x4_8 k9) := by
        intro x3_7 x4_8 k9
        rw [f_X12_isLoot_J68]
        refine r_istore 70 [(5, .int k9), (0, .ref (G.1 130)), (1, .int a1), (3, .int x3_7), (4, .int x4_8)] dX12_isLoot_68 rfl (by decide) rfl ?_
        refine r_iload 72 dX12_isLoot_70 rfl 0 rfl ?_
        refine r_if_eq 97 75 dX12_isLoot_72 (by decide) rfl ?_ ?_
        · refine r_iload 99 dX12_isLoot_97 rfl 4 rfl ?_
          refine r_if_eq 112 102 dX12_isLoot_99 (by decide) rfl ?_ ?_
          · refine r_iconst 113 dX12_isLoot_112 rfl zci_1 ?_
            refine r_goto 117 dX12_isLoot_113 (by decide) ?_
            refine r_istore_n 118 [(2, .int (1 : Int32)), (5, .int k9), (0, .ref (G.1 130)), (1, .int a1), (3, .int x3_7), (4, .int x4_8)] dX12_isLoot_117 rfl rfl (by decide) rfl ?_
            refine r_iinc 121 4 [(3, .int (x3_7 + (1 : Int32))), (2, .int (1 : Int32)), (5, .int k9), (0, .ref (G.1 130)), (1, .int a1), (4, .int x4_8)] dX12_isLoot_118 rfl rfl zci_1 (by decide) rfl ?_
            refine r_goto 12 dX12_isLoot_121 (by decide) ?_
            exact r_leaf [3, 4, 1, 0] (lv2 := [(0, .ref (G.1 130)), (1, .int a1), (2, .int (1 : Int32)), (3, .int (x3_7 + (1 : Int32)))]) rfl (fun h => h)
          · refine r_aload_n 103 dX12_isLoot_102 rfl 1 rfl rfl ?_
            refine r_get 106 130 9 dX12_isLoot_103 rfl zl_130 (ce_130 G _) rfl inz12 (by decide) wf_X12_31 rfl ?_
            refine r_iload_n 107 dX12_isLoot_106 rfl 3 rfl rfl ?_
            refine r_iald 108 138 14 dX12_isLoot_107 rfl zl_138 (ce_138 G _) ?_
            refine r_iconst 109 dX12_isLoot_108 rfl zci_1 ?_
            refine r_icmp_ne 116 112 dX12_isLoot_109 (by decide) rfl ?_ ?_
            · refine r_iconst 117 dX12_isLoot_116 rfl zci_0 ?_
              refine r_istore_n 118 [(2, .int (0 : Int32)), (5, .int k9), (0, .ref (G.1 130)), (1, .int a1), (3, .int x3_7), (4, .int x4_8)] dX12_isLoot_117 rfl rfl (by decide) rfl ?_
              refine r_iinc 121 4 [(3, .int (x3_7 + (1 : Int32))), (2, .int (0 : Int32)), (5, .int k9), (0, .ref (G.1 130)), (1, .int a1), (4, .int x4_8)] dX12_isLoot_118 rfl rfl zci_1 (by decide) rfl ?_
              refine r_goto 12 dX12_isLoot_121 (by decide) ?_
              exact r_leaf [3, 4, 1, 0] (lv2 := [(0, .ref (G.1 130)), (1, .int a1), (2, .int (0 : Int32)), (3, .int (x3_7 + (1 : Int32)))]) rfl (fun h => h)
            · refine r_iconst 113 dX12_isLoot_112 rfl zci_1 ?_
              refine r_goto 117 dX12_isLoot_113 (by decide) ?_
              refine r_istore_n 118 [(2, .int (1 : Int32)), (5, .int k9), (0, .ref (G.1 130)), (1, .int a1), (3, .int x3_7), (4, .int x4_8)] dX12_isLoot_117 rfl rfl (by decide) rfl ?_
              refine r_iinc 121 4 [(3, .int (x3_7 + (1 : Int32))), (2, .int (1 : Int32)), (5, .int k9), (0, .ref (G.1 130)), (1, .int a1), (4, .int x4_8)] dX12_isLoot_118 rfl rfl zci_1 (by decide) rfl ?_
              refine r_goto 12 dX12_isLoot_121 (by decide) ?_
              exact r_leaf [3, 4, 1, 0] (lv2 := [(0, .ref (G.1 130)), (1, .int a1), (2, .int (1 : Int32)), (3, .int (x3_7 + (1 : Int32)))]) rfl (fun h => h)
        · refine r_iload 77 dX12_isLoot_75 rfl 4 rfl ?_
          refine r_if_ne 89 80 dX12_isLoot_77 (by decide) rfl ?_ ?_
          · refine r_iconst 90 dX12_isLoot_89 rfl zci_1 ?_
            refine r_goto 117 dX12_isLoot_90 (by decide) ?_
            refine r_istore_n 118 [(2, .int (1 : Int32)), (5, .int k9), (0, .ref (G.1 130)), (1, .int a1), (3, .int x3_7), (4, .int x4_8)] dX12_isLoot_117 rfl rfl (by decide) rfl ?_
            refine r_iinc 121 4 [(3, .int (x3_7 + (1 : Int32))), (2, .int (1 : Int32)), (5, .int k9), (0, .ref (G.1 130)), (1, .int a1), (4, .int x4_8)] dX12_isLoot_118 rfl rfl zci_1 (by decide) rfl ?_
            refine r_goto 12 dX12_isLoot_121 (by decide) ?_
            exact r_leaf [3, 4, 1, 0] (lv2 := [(0, .ref (G.1 130)), (1, .int a1), (2, .int (1 : Int32)), (3, .int (x3_7 + (1 : Int32)))]) rfl (fun h => h)
          · refine r_aload_n 81 dX12_isLoot_80 rfl 1 rfl rfl ?_
            refine r_get 84 130 4 dX12_isLoot_81 rfl zl_130 (ce_130 G _) rfl inz12 (by decide) wf_X12_16 rfl ?_
            refine r_iload_n 85 dX12_isLoot_84 rfl 3 rfl rfl ?_
            refine r_iald 86 133 14 dX12_isLoot_85 rfl zl_133 (ce_133 G _) ?_
            refine r_if_ne 93 89 dX12_isLoot_86 (by decide) rfl ?_ ?_
            · refine r_iconst 94 dX12_isLoot_93 rfl zci_0 ?_
              refine r_goto 117 dX12_isLoot_94 (by decide) ?_
              refine r_istore_n 118 [(2, .int (0 : Int32)), (5, .int k9), (0, .ref (G.1 130)), (1, .int a1), (3, .int x3_7), (4, .int x4_8)] dX12_isLoot_117 rfl rfl (by decide) rfl ?_
              refine r_iinc 121 4 [(3, .int (x3_7 + (1 : Int32))), (2, .int (0 : Int32)), (5, .int k9), (0, .ref (G.1 130)), (1, .int a1), (4, .int x4_8)] dX12_isLoot_118 rfl rfl zci_1 (by decide) rfl ?_
              refine r_goto 12 dX12_isLoot_121 (by decide) ?_
              exact r_leaf [3, 4, 1, 0] (lv2 := [(0, .ref (G.1 130)), (1, .int a1), (2, .int (0 : Int32)), (3, .int (x3_7 + (1 : Int32)))]) rfl (fun h => h)
            · refine r_iconst 90 dX12_isLoot_89 rfl zci_1 ?_
              refine r_goto 117 dX12_isLoot_90 (by decide) ?_
              refine r_istore_n 118 [(2, .int (1 : Int32)), (5, .int k9), (0, .ref (G.1 130)), (1, .int a1), (3, .int x3_7), (4, .int x4_8)] dX12_isLoot_117 rfl rfl (by decide) rfl ?_
              refine r_iinc 121 4 [(3, .int (x3_7 + (1 : Int32))), (2, .int (1 : Int32)), (5, .int k9), (0, .ref (G.1 130)), (1, .int a1), (4, .int x4_8)] dX12_isLoot_118 rfl rfl zci_1 (by decide) rfl ?_
              refine r_goto 12 dX12_isLoot_121 (by decide) ?_
              exact r_leaf [3, 4, 1, 0] (lv2 := [(0, .ref (G.1 130)), (1, .int a1), (2, .int (1 : Int32)), (3, .int (x3_7 + (1 : Int32)))]) rfl (fun h => h)
      have hJ52 : ∀ (x3_5 : Int32) (k6 : Int32), zR G l d "LoveLocksModel" cX12_isLoot 6 (some .boolean) (some (.int o)) w (Sum.elim (fun s2 => zA G l d "LoveLocksModel" cX12_isLoot 6 (some .boolean) (some (.int o)) w 12 [(0, .ref (G.1 130)), (1, .int a1), (2, .int s2.1), (3, .int s2.2)] [] w) (fun q3 => zA G l d "LoveLocksModel" cX12_isLoot 6 (some .boolean) (some (.int o)) w 124 [(2, .int q3)] [] w)) 52 [(0, .ref (G.1 130)), (1, .int a1), (3, .int x3_5)] [.int k6] w (f_X12_isLoot_J52 a1 w x3_5 k6) := by
        intro x3_5 k6
        rw [f_X12_isLoot_J52]
        refine r_istore 54 [(4, .int k6), (0, .ref (G.1 130)), (1, .int a1), (3, .int x3_5)] dX12_isLoot_52 rfl (by decide) rfl ?_
        refine r_iload_n 55 dX12_isLoot_54 rfl 2 rfl rfl ?_
        refine r_iload_n 56 dX12_isLoot_55 rfl 3 rfl rfl ?_
        refine r_ishr 57 dX12_isLoot_56 rfl ?_
        refine r_iconst 58 dX12_isLoot_57 rfl zci_1 ?_
        refine r_iand 59 dX12_isLoot_58 rfl ?_
        refine r_iconst 60 dX12_isLoot_59 rfl zci_1 ?_
        refine r_icmp_ne 67 63 dX12_isLoot_60 (by decide) rfl ?_ ?_
        · refine r_iconst 68 dX12_isLoot_67 rfl zci_0 ?_
          exact r_sub [1, 2, 3, 0] (lv2 := [(0, .ref (G.1 130)), (1, .int a1), (3, .int x3_5), (4, .int k6)]) rfl (hJ68 x3_5 k6 (0 : Int32))
        · refine r_iconst 64 dX12_isLoot_63 rfl zci_1 ?_
          refine r_goto 68 dX12_isLoot_64 (by decide) ?_
          exact r_sub [1, 2, 3, 0] (lv2 := [(0, .ref (G.1 130)), (1, .int a1), (3, .int x3_5), (4, .int k6)]) rfl (hJ68 x3_5 k6 (1 : Int32))
      have hJ51 : ∀ (x3_4 : Int32), zR G l d "LoveLocksModel" cX12_isLoot 6 (some .boolean) (some (.int o)) w (Sum.elim (fun s2 => zA G l d "LoveLocksModel" cX12_isLoot 6 (some .boolean) (some (.int o)) w 12 [(0, .ref (G.1 130)), (1, .int a1), (2, .int s2.1), (3, .int s2.2)] [] w) (fun q3 => zA G l d "LoveLocksModel" cX12_isLoot 6 (some .boolean) (some (.int o)) w 124 [(2, .int q3)] [] w)) 51 [(0, .ref (G.1 130)), (1, .int a1), (3, .int x3_4)] [] w (f_X12_isLoot_J51 a1 w x3_4) := by
        intro x3_4
        rw [f_X12_isLoot_J51]
        refine r_iconst 52 dX12_isLoot_51 rfl zci_0 ?_
        exact r_sub [0, 1, 2] (lv2 := [(0, .ref (G.1 130)), (1, .int a1), (3, .int x3_4)]) rfl (hJ52 x3_4 (0 : Int32))
      refine r_iload_n 13 dX12_isLoot_12 rfl 3 rfl rfl ?_
      refine r_aload_n 14 dX12_isLoot_13 rfl 0 rfl rfl ?_
      refine r_get 17 130 2 dX12_isLoot_14 rfl zl_130 (ce_130 G _) rfl inz12 (by decide) wf_X12_115 rfl ?_
      refine r_icmp_ge 124 20 dX12_isLoot_17 (by decide) rfl ?_ ?_
      · exact r_leaf [2] (lv2 := [(2, .int s2.1)]) rfl (fun h => h)
      · refine r_iload_n 21 dX12_isLoot_20 rfl 2 rfl rfl ?_
        refine r_if_eq 124 24 dX12_isLoot_21 (by decide) rfl ?_ ?_
        · exact r_leaf [2] (lv2 := [(2, .int s2.1)]) rfl (fun h => h)
        · refine r_aload_n 25 dX12_isLoot_24 rfl 0 rfl rfl ?_
          refine r_get 28 130 8 dX12_isLoot_25 rfl zl_130 (ce_130 G _) rfl inz12 (by decide) wf_X12_28 rfl ?_
          refine r_iload_n 29 dX12_isLoot_28 rfl 3 rfl rfl ?_
          refine r_iald 30 137 14 dX12_isLoot_29 rfl zl_137 (ce_137 G _) ?_
          refine r_if_lt 51 33 dX12_isLoot_30 (by decide) rfl ?_ ?_
          · exact r_sub [0, 1, 3] (lv2 := [(0, .ref (G.1 130)), (1, .int a1), (3, .int s2.2)]) rfl (hJ51 s2.2)
          · refine r_iload_n 34 dX12_isLoot_33 rfl 1 rfl rfl ?_
            refine r_aload_n 35 dX12_isLoot_34 rfl 0 rfl rfl ?_
            refine r_get 38 130 8 dX12_isLoot_35 rfl zl_130 (ce_130 G _) rfl inz12 (by decide) wf_X12_28 rfl ?_
            refine r_iload_n 39 dX12_isLoot_38 rfl 3 rfl rfl ?_
            refine r_iald 40 137 14 dX12_isLoot_39 rfl zl_137 (ce_137 G _) ?_
            refine r_ishr 41 dX12_isLoot_40 rfl ?_
            refine r_iconst 42 dX12_isLoot_41 rfl zci_1 ?_
            refine r_iand 43 dX12_isLoot_42 rfl ?_
            refine r_iconst 44 dX12_isLoot_43 rfl zci_1 ?_
            refine r_icmp_ne 51 47 dX12_isLoot_44 (by decide) rfl ?_ ?_
            · exact r_sub [0, 1, 3] (lv2 := [(0, .ref (G.1 130)), (1, .int a1), (3, .int s2.2)]) rfl (hJ51 s2.2)
            · refine r_iconst 48 dX12_isLoot_47 rfl zci_1 ?_
              refine r_goto 52 dX12_isLoot_48 (by decide) ?_
              exact r_sub [0, 1, 3] (lv2 := [(0, .ref (G.1 130)), (1, .int a1), (3, .int s2.2)]) rfl (hJ52 s2.2 (1 : Int32))
    · refine r_iload_n 125 dX12_isLoot_124 rfl 0 rfl rfl ?_
      refine r_gd (fun hz => ?_)
      exact r_zret dX12_isLoot_125 rfl (z_bo_n hz) z_ki
  refine r_iload_n 1 dX12_isLoot_0 rfl 1 rfl rfl ?_
  refine r_if_eq 8 4 dX12_isLoot_1 (by decide) rfl ?_ ?_
  · refine r_iconst 9 dX12_isLoot_8 rfl zci_0 ?_
    exact r_sub [0, 1] (lv2 := [(0, .ref (G.1 130)), (1, .int a1)]) rfl (hJ9 (0 : Int32))
  · refine r_iconst 5 dX12_isLoot_4 rfl zci_1 ?_
    refine r_goto 9 dX12_isLoot_5 (by decide) ?_
    exact r_sub [0, 1] (lv2 := [(0, .ref (G.1 130)), (1, .int a1)]) rfl (hJ9 (1 : Int32))
-- X12_stolen
def f_X12_stolen_L77 (w : ZW) (r6 : Int32) (a3 : Int32) (r5 : Int32) (s7 : Int32 × Int32 × Int32 × Int32) : Option ((Int32 × Int32 × Int32 × Int32) ⊕ (Int32 × Int32 × Int32)) :=
  if s7.2.2.2 ≤ 0 then
  some (.inr (s7.1, s7.2.1, s7.2.2.1))
else
  (f_X12_weigh w s7.2.2.2).bind fun r9 : Int32 =>
    if (r6 - r9) = a3 then
    (f_X12_isLoot w s7.2.2.2).bind fun r11 : Int32 =>
      if r11 = 0 then
      z_let ((s7.2.2.2 - (1 : Int32)) &&& r5) fun y12 =>
        some (.inl (s7.1, s7.2.1, s7.2.2.1, y12))
    else
      z_let ((s7.2.2.2 - (1 : Int32)) &&& r5) fun y13 =>
        some (.inl (s7.1 + (1 : Int32), s7.2.1 &&& s7.2.2.2, s7.2.2.1 ||| s7.2.2.2, y13))
  else
    z_let ((s7.2.2.2 - (1 : Int32)) &&& r5) fun y10 =>
      some (.inl (s7.1, s7.2.1, s7.2.2.1, y10))
def f_X12_stolen (w : ZW) (a1 : Int32) (a2 : Int32) (a3 : Int32) (a4 : Int32) : Option (Int32) :=
  (f_X12_isPanel w a1).bind fun r1 : Int32 =>
  if r1 = 0 then
  some (-1 : Int32)
else
  (f_X12_in a2.toInt64 (0 : Int64) (2 : Int64)).bind fun r2 : Int32 =>
    if r2 = 0 then
    some (-1 : Int32)
  else
    (f_X12_in a3.toInt64 (0 : Int64) (99999 : Int64)).bind fun r3 : Int32 =>
      if r3 = 0 then
      some (-1 : Int32)
    else
      (f_X12_in a4.toInt64 (0 : Int64) (2 : Int64)).bind fun r4 : Int32 =>
        if r4 = 0 then
        some (-1 : Int32)
      else
        (f_X12_hung w a1 a2).bind fun r5 : Int32 =>
          (f_X12_weigh w r5).bind fun r6 : Int32 =>
          (z_iter (f_X12_stolen_L77 w r6 a3 r5) z_fuel ((0 : Int32), r5, (0 : Int32), r5)).bind (fun q8 : Int32 × Int32 × Int32 =>
          if a4 = 0 then
          some q8.1
        else
          if q8.1 = 0 then
            some (-4 : Int32)
          else
            if a4 = (1 : Int32) then
              some q8.2.1
            else
              some q8.2.2)
set_option maxHeartbeats 4000000 in
set_option maxRecDepth 100000 in
theorem c_X12_stolen (G : ZG) (l : Launch) (d : Nat) (hd : 3 ≤ d) (w : ZW) (a1 : Int32) (a2 : Int32) (a3 : Int32) (a4 : Int32) : ∀ o, f_X12_stolen w a1 a2 a3 a4 = some o → zM G l d yX12_stolen cX12_stolen 11 (some .int) [.ref (G.1 130), .int a1, .int a2, .int a3, .int a4] w (some (.int o)) w := by
  intro o ho
  refine zM.of [(0, .ref (G.1 130)), (1, .int a1), (2, .int a2), (3, .int a3), (4, .int a4)] (by decide) (Nat.le_of_ble_eq_true rfl) rfl ?_
  refine (?_ : zR G l d "LoveLocksModel" cX12_stolen 11 (some .int) (some (.int o)) w (fun x => x = o) 0 [(0, .ref (G.1 130)), (1, .int a1), (2, .int a2), (3, .int a3), (4, .int a4)] [] w (f_X12_stolen w a1 a2 a3 a4)) o ho rfl
  rw [f_X12_stolen]
  refine r_aload_n 1 dX12_stolen_0 rfl 0 rfl rfl ?_
  refine r_iload_n 2 dX12_stolen_1 rfl 1 rfl rfl ?_
  refine r_callVi 5 1 (ko := 130) [.int a1] (st := []) dX12_stolen_2 rfl rfl (fun r h => c_X12_isPanel G l (d - 1) (by omega) w a1 r h) zl_130 (ce_130 G _) rfl rfl wc_X12_isPanel wz_X12 wl_X12_124 wi_X12_isPanel ws_X12_isPanel zd_X12_isPanel (by decide) (by omega) rfl (Nat.le_of_ble_eq_true rfl) (fun r1 => ?_)
  refine r_if_eq 45 8 dX12_stolen_5 (by decide) rfl ?_ ?_
  · refine r_iconst 46 dX12_stolen_45 rfl zci_m1 ?_
    exact r_iret dX12_stolen_46 rfl z_ki
  · refine r_iload_n 9 dX12_stolen_8 rfl 2 rfl rfl ?_
    refine r_i2l 10 dX12_stolen_9 rfl ?_
    refine r_lconst 11 dX12_stolen_10 rfl zcl_0 ?_
    refine r_ldc2 14 dX12_stolen_11 rfl wk_X12_128 ?_
    refine r_callSi 17 3 [.long a2.toInt64, .long (0 : Int64), .long (2 : Int64)] (st := []) dX12_stolen_14 rfl rfl (fun r h => c_X12_in G l (d - 1) (by omega) w a2.toInt64 (0 : Int64) (2 : Int64) r h) wc_X12_in wz_X12 wl_X12_111 wst_X12_in zd_X12_in (by decide) (by omega) rfl (Nat.le_of_ble_eq_true rfl) (fun r2 => ?_)
    refine r_if_eq 45 20 dX12_stolen_17 (by decide) rfl ?_ ?_
    · refine r_iconst 46 dX12_stolen_45 rfl zci_m1 ?_
      exact r_iret dX12_stolen_46 rfl z_ki
    · refine r_iload_n 21 dX12_stolen_20 rfl 3 rfl rfl ?_
      refine r_i2l 22 dX12_stolen_21 rfl ?_
      refine r_lconst 23 dX12_stolen_22 rfl zcl_0 ?_
      refine r_ldc2 26 dX12_stolen_23 rfl wk_X12_118 ?_
      refine r_callSi 29 3 [.long a3.toInt64, .long (0 : Int64), .long (99999 : Int64)] (st := []) dX12_stolen_26 rfl rfl (fun r h => c_X12_in G l (d - 1) (by omega) w a3.toInt64 (0 : Int64) (99999 : Int64) r h) wc_X12_in wz_X12 wl_X12_111 wst_X12_in zd_X12_in (by decide) (by omega) rfl (Nat.le_of_ble_eq_true rfl) (fun r3 => ?_)
      refine r_if_eq 45 32 dX12_stolen_29 (by decide) rfl ?_ ?_
      · refine r_iconst 46 dX12_stolen_45 rfl zci_m1 ?_
        exact r_iret dX12_stolen_46 rfl z_ki
      · refine r_iload 34 dX12_stolen_32 rfl 4 rfl ?_
        refine r_i2l 35 dX12_stolen_34 rfl ?_
        refine r_lconst 36 dX12_stolen_35 rfl zcl_0 ?_
        refine r_ldc2 39 dX12_stolen_36 rfl wk_X12_128 ?_
        refine r_callSi 42 3 [.long a4.toInt64, .long (0 : Int64), .long (2 : Int64)] (st := []) dX12_stolen_39 rfl rfl (fun r h => c_X12_in G l (d - 1) (by omega) w a4.toInt64 (0 : Int64) (2 : Int64) r h) wc_X12_in wz_X12 wl_X12_111 wst_X12_in zd_X12_in (by decide) (by omega) rfl (Nat.le_of_ble_eq_true rfl) (fun r4 => ?_)
        refine r_if_ne 47 45 dX12_stolen_42 (by decide) rfl ?_ ?_
        · refine r_aload_n 48 dX12_stolen_47 rfl 0 rfl rfl ?_
          refine r_iload_n 49 dX12_stolen_48 rfl 1 rfl rfl ?_
          refine r_iload_n 50 dX12_stolen_49 rfl 2 rfl rfl ?_
          refine r_callVi 53 2 (ko := 130) [.int a1, .int a2] (st := []) dX12_stolen_50 rfl rfl (fun r h => c_X12_hung G l (d - 1) (by omega) w a1 a2 r h) zl_130 (ce_130 G _) rfl rfl wc_X12_hung wz_X12 wl_X12_153 wi_X12_hung ws_X12_hung zd_X12_hung (by decide) (by omega) rfl (Nat.le_of_ble_eq_true rfl) (fun r5 => ?_)
          refine r_istore 55 [(5, .int r5), (0, .ref (G.1 130)), (1, .int a1), (2, .int a2), (3, .int a3), (4, .int a4)] dX12_stolen_53 rfl (by decide) rfl ?_
          refine r_aload_n 56 dX12_stolen_55 rfl 1 rfl rfl ?_
          refine r_iload 58 dX12_stolen_56 rfl 0 rfl ?_
          refine r_callVi 61 1 (ko := 130) [.int r5] (st := []) dX12_stolen_58 rfl rfl (fun r h => c_X12_weigh G l (d - 1) (by omega) w r5 r h) zl_130 (ce_130 G _) rfl rfl wc_X12_weigh wz_X12 wl_X12_145 wi_X12_weigh ws_X12_weigh zd_X12_weigh (by decide) (by omega) rfl (Nat.le_of_ble_eq_true rfl) (fun r6 => ?_)
          refine r_istore 63 [(6, .int r6), (5, .int r5), (0, .ref (G.1 130)), (1, .int a1), (2, .int a2), (3, .int a3), (4, .int a4)] dX12_stolen_61 rfl (by decide) rfl ?_
          refine r_iconst 64 dX12_stolen_63 rfl zci_0 ?_
          refine r_istore 66 [(7, .int (0 : Int32)), (6, .int r6), (5, .int r5), (0, .ref (G.1 130)), (1, .int a1), (2, .int a2), (3, .int a3), (4, .int a4)] dX12_stolen_64 rfl (by decide) rfl ?_
          refine r_iload 68 dX12_stolen_66 rfl 2 rfl ?_
          refine r_istore 70 [(8, .int r5), (7, .int (0 : Int32)), (6, .int r6), (5, .int r5), (0, .ref (G.1 130)), (1, .int a1), (2, .int a2), (3, .int a3), (4, .int a4)] dX12_stolen_68 rfl (by decide) rfl ?_
          refine r_iconst 71 dX12_stolen_70 rfl zci_0 ?_
          refine r_istore 73 [(9, .int (0 : Int32)), (8, .int r5), (7, .int (0 : Int32)), (6, .int r6), (5, .int r5), (0, .ref (G.1 130)), (1, .int a1), (2, .int a2), (3, .int a3), (4, .int a4)] dX12_stolen_71 rfl (by decide) rfl ?_
          refine r_iload 75 dX12_stolen_73 rfl 4 rfl ?_
          refine r_istore 77 [(10, .int r5), (9, .int (0 : Int32)), (8, .int r5), (7, .int (0 : Int32)), (6, .int r6), (5, .int r5), (0, .ref (G.1 130)), (1, .int a1), (2, .int a2), (3, .int a3), (4, .int a4)] dX12_stolen_75 rfl (by decide) rfl ?_
          refine r_loopE [6, 9, 10, 5, 4, 3, 2, 1, 0] (fun s7 => [(0, .ref (G.1 130)), (3, .int a3), (4, .int a4), (5, .int r5), (6, .int r6), (7, .int s7.1), (8, .int s7.2.1), (9, .int s7.2.2.1), (10, .int s7.2.2.2)]) (fun s7 => w) 133 (fun q8 => [(4, .int a4), (7, .int q8.1), (8, .int q8.2.1), (9, .int q8.2.2)]) (fun q8 => w) rfl rfl (fun s7 => ?_) (fun q8 => ?_)
          · rw [f_X12_stolen_L77]
            refine r_iload 79 dX12_stolen_77 rfl 8 rfl ?_
            refine r_if_le 133 82 dX12_stolen_79 (by decide) rfl ?_ ?_
            · exact r_leaf [2, 5, 6, 7] (lv2 := [(4, .int a4), (7, .int s7.1), (8, .int s7.2.1), (9, .int s7.2.2.1)]) rfl (fun h => h)
            · refine r_iload 84 dX12_stolen_82 rfl 4 rfl ?_
              refine r_aload_n 85 dX12_stolen_84 rfl 0 rfl rfl ?_
              refine r_iload 87 dX12_stolen_85 rfl 8 rfl ?_
              refine r_callVi 90 1 (ko := 130) [.int s7.2.2.2] (st := [.int r6]) dX12_stolen_87 rfl rfl (fun r h => c_X12_weigh G l (d - 1) (by omega) w s7.2.2.2 r h) zl_130 (ce_130 G _) rfl rfl wc_X12_weigh wz_X12 wl_X12_145 wi_X12_weigh ws_X12_weigh zd_X12_weigh (by decide) (by omega) rfl (Nat.le_of_ble_eq_true rfl) (fun r9 => ?_)
              refine r_isub 91 dX12_stolen_90 rfl ?_
              refine r_iload_n 92 dX12_stolen_91 rfl 1 rfl rfl ?_
              refine r_icmp_ne 121 95 dX12_stolen_92 (by decide) rfl ?_ ?_
              · refine r_iload 123 dX12_stolen_121 rfl 8 rfl ?_
                refine r_iconst 124 dX12_stolen_123 rfl zci_1 ?_
                refine r_isub 125 dX12_stolen_124 rfl ?_
                refine r_iload 127 dX12_stolen_125 rfl 3 rfl ?_
                refine r_iand 128 dX12_stolen_127 rfl ?_
                refine r_topi (fun y10 => ?_)
                refine r_istore 130 [(10, .int y10), (0, .ref (G.1 130)), (3, .int a3), (4, .int a4), (5, .int r5), (6, .int r6), (7, .int s7.1), (8, .int s7.2.1), (9, .int s7.2.2.1)] dX12_stolen_128 rfl (by decide) rfl ?_
                refine r_goto 77 dX12_stolen_130 (by decide) ?_
                exact r_leaf [1, 2, 3, 4, 5, 6, 7, 8, 0] (lv2 := [(0, .ref (G.1 130)), (3, .int a3), (4, .int a4), (5, .int r5), (6, .int r6), (7, .int s7.1), (8, .int s7.2.1), (9, .int s7.2.2.1), (10, .int y10)]) rfl (fun h => h)
              · refine r_aload_n 96 dX12_stolen_95 rfl 0 rfl rfl ?_
                refine r_iload 98 dX12_stolen_96 rfl 8 rfl ?_
                refine r_callVi 101 1 (ko := 130) [.int s7.2.2.2] (st := []) dX12_stolen_98 rfl rfl (fun r h => c_X12_isLoot G l (d - 1) (by omega) w s7.2.2.2 r h) zl_130 (ce_130 G _) rfl rfl wc_X12_isLoot wz_X12 wl_X12_302 wi_X12_isLoot ws_X12_isLoot zd_X12_isLoot (by decide) (by omega) rfl (Nat.le_of_ble_eq_true rfl) (fun r11 => ?_)
                refine r_if_eq 121 104 dX12_stolen_101 (by decide) rfl ?_ ?_
                · refine r_iload 123 dX12_stolen_121 rfl 8 rfl ?_
                  refine r_iconst 124 dX12_stolen_123 rfl zci_1 ?_
                  refine r_isub 125 dX12_stolen_124 rfl ?_
                  refine r_iload 127 dX12_stolen_125 rfl 3 rfl ?_
                  refine r_iand 128 dX12_stolen_127 rfl ?_
                  refine r_topi (fun y12 => ?_)
                  refine r_istore 130 [(10, .int y12), (0, .ref (G.1 130)), (3, .int a3), (4, .int a4), (5, .int r5), (6, .int r6), (7, .int s7.1), (8, .int s7.2.1), (9, .int s7.2.2.1)] dX12_stolen_128 rfl (by decide) rfl ?_
                  refine r_goto 77 dX12_stolen_130 (by decide) ?_
                  exact r_leaf [1, 2, 3, 4, 5, 6, 7, 8, 0] (lv2 := [(0, .ref (G.1 130)), (3, .int a3), (4, .int a4), (5, .int r5), (6, .int r6), (7, .int s7.1), (8, .int s7.2.1), (9, .int s7.2.2.1), (10, .int y12)]) rfl (fun h => h)
                · refine r_iinc 107 5 [(7, .int (s7.1 + (1 : Int32))), (0, .ref (G.1 130)), (3, .int a3), (4, .int a4), (5, .int r5), (6, .int r6), (8, .int s7.2.1), (9, .int s7.2.2.1), (10, .int s7.2.2.2)] dX12_stolen_104 rfl rfl zci_1 (by decide) rfl ?_
                  refine r_iload 109 dX12_stolen_107 rfl 6 rfl ?_
                  refine r_iload 111 dX12_stolen_109 rfl 8 rfl ?_
                  refine r_iand 112 dX12_stolen_111 rfl ?_
                  refine r_istore 114 [(8, .int (s7.2.1 &&& s7.2.2.2)), (7, .int (s7.1 + (1 : Int32))), (0, .ref (G.1 130)), (3, .int a3), (4, .int a4), (5, .int r5), (6, .int r6), (9, .int s7.2.2.1), (10, .int s7.2.2.2)] dX12_stolen_112 rfl (by decide) rfl ?_
                  refine r_iload 116 dX12_stolen_114 rfl 7 rfl ?_
                  refine r_iload 118 dX12_stolen_116 rfl 8 rfl ?_
                  refine r_ior 119 dX12_stolen_118 rfl ?_
                  refine r_istore 121 [(9, .int (s7.2.2.1 ||| s7.2.2.2)), (8, .int (s7.2.1 &&& s7.2.2.2)), (7, .int (s7.1 + (1 : Int32))), (0, .ref (G.1 130)), (3, .int a3), (4, .int a4), (5, .int r5), (6, .int r6), (10, .int s7.2.2.2)] dX12_stolen_119 rfl (by decide) rfl ?_
                  refine r_iload 123 dX12_stolen_121 rfl 8 rfl ?_
                  refine r_iconst 124 dX12_stolen_123 rfl zci_1 ?_
                  refine r_isub 125 dX12_stolen_124 rfl ?_
                  refine r_iload 127 dX12_stolen_125 rfl 6 rfl ?_
                  refine r_iand 128 dX12_stolen_127 rfl ?_
                  refine r_topi (fun y13 => ?_)
                  refine r_istore 130 [(10, .int y13), (9, .int (s7.2.2.1 ||| s7.2.2.2)), (8, .int (s7.2.1 &&& s7.2.2.2)), (7, .int (s7.1 + (1 : Int32))), (0, .ref (G.1 130)), (3, .int a3), (4, .int a4), (5, .int r5), (6, .int r6)] dX12_stolen_128 rfl (by decide) rfl ?_
                  refine r_goto 77 dX12_stolen_130 (by decide) ?_
                  exact r_leaf [4, 5, 6, 7, 8, 3, 2, 1, 0] (lv2 := [(0, .ref (G.1 130)), (3, .int a3), (4, .int a4), (5, .int r5), (6, .int r6), (7, .int (s7.1 + (1 : Int32))), (8, .int (s7.2.1 &&& s7.2.2.2)), (9, .int (s7.2.2.1 ||| s7.2.2.2)), (10, .int y13)]) rfl (fun h => h)
          · refine r_iload 135 dX12_stolen_133 rfl 0 rfl ?_
            refine r_if_ne 143 138 dX12_stolen_135 (by decide) rfl ?_ ?_
            · refine r_iload 145 dX12_stolen_143 rfl 1 rfl ?_
              refine r_if_ne 153 148 dX12_stolen_145 (by decide) rfl ?_ ?_
              · refine r_iload 155 dX12_stolen_153 rfl 0 rfl ?_
                refine r_iconst 156 dX12_stolen_155 rfl zci_1 ?_
                refine r_icmp_ne 164 159 dX12_stolen_156 (by decide) rfl ?_ ?_
                · refine r_iload 166 dX12_stolen_164 rfl 3 rfl ?_
                  exact r_iret dX12_stolen_166 rfl z_ki
                · refine r_iload 161 dX12_stolen_159 rfl 2 rfl ?_
                  refine r_goto 166 dX12_stolen_161 (by decide) ?_
                  exact r_iret dX12_stolen_166 rfl z_ki
              · refine r_bipush 150 dX12_stolen_148 rfl zcb_m4 ?_
                refine r_goto 166 dX12_stolen_150 (by decide) ?_
                exact r_iret dX12_stolen_166 rfl z_ki
            · refine r_iload 140 dX12_stolen_138 rfl 1 rfl ?_
              refine r_goto 166 dX12_stolen_140 (by decide) ?_
              exact r_iret dX12_stolen_166 rfl z_ki
        · refine r_iconst 46 dX12_stolen_45 rfl zci_m1 ?_
          exact r_iret dX12_stolen_46 rfl z_ki
-- X12_saves
def f_X12_saves_L2 (n0 : Nat) (a2 : Int32) (n1 : Nat) (b1 : Nat) (b0 : Nat) (s1 : Int32 × ZW) : Option ((Int32 × ZW) ⊕ (ZW)) :=
  if (Int32.ofNat n0) ≤ s1.1 then
  some (.inr s1.2)
else
  if z_in s1.1 n0 then
    if z_in (a2 + s1.1) n1 then
    z_let (z_upI s1.2 b1 (a2 + s1.1).toNatClampNeg (s1.2.1 b0 s1.1.toNatClampNeg)) fun w3 =>
    some (.inl (s1.1 + (1 : Int32), w3))
  else none
  else none
def f_X12_saves (w : ZW) (b0 : Nat) (n0 : Nat) (b1 : Nat) (n1 : Nat) (a2 : Int32) : Option (Int32 × ZW) :=
  (z_iter (f_X12_saves_L2 n0 a2 n1 b1 b0) z_fuel ((0 : Int32), w)).bind (fun q2 : ZW =>
  some (a2 + (Int32.ofNat n0), q2))
set_option maxHeartbeats 4000000 in
set_option maxRecDepth 100000 in
theorem c_X12_saves (G : ZG) (l : Launch) (d : Nat) (hd : 1 ≤ d) (w : ZW) (b0 : Nat) (n0 : Nat) (b1 : Nat) (n1 : Nat) (a2 : Int32) (ha_b0 : b0 < z_N) (hc_b0 : ∀ w, z_cell G w b0 = z_aI G n0 (w.1 b0)) (ha_b1 : b1 < z_N) (hc_b1 : ∀ w, z_cell G w b1 = z_aI G n1 (w.1 b1)) : ∀ o, f_X12_saves w b0 n0 b1 n1 a2 = some o → zM G l d yX12_saves cX12_saves 4 (some .int) [.ref (G.1 b0), .ref (G.1 b1), .int a2] w (some (.int o.1)) o.2 := by
  intro o ho
  refine zM.of [(0, .ref (G.1 b0)), (1, .ref (G.1 b1)), (2, .int a2)] (by decide) (Nat.le_of_ble_eq_true rfl) rfl ?_
  refine (?_ : zR G l d "LoveLocksModel" cX12_saves 4 (some .int) (some (.int o.1)) o.2 (fun x => x = o) 0 [(0, .ref (G.1 b0)), (1, .ref (G.1 b1)), (2, .int a2)] [] w (f_X12_saves w b0 n0 b1 n1 a2)) o ho rfl
  rw [f_X12_saves]
  refine r_iconst 1 dX12_saves_0 rfl zci_0 ?_
  refine r_istore_n 2 [(3, .int (0 : Int32)), (0, .ref (G.1 b0)), (1, .ref (G.1 b1)), (2, .int a2)] dX12_saves_1 rfl rfl (by decide) rfl ?_
  refine r_loopE [1, 2, 3, 0] (fun s1 => [(0, .ref (G.1 b0)), (1, .ref (G.1 b1)), (2, .int a2), (3, .int s1.1)]) (fun s1 => s1.2) 22 (fun q2 => [(0, .ref (G.1 b0)), (2, .int a2)]) (fun q2 => q2) rfl rfl (fun s1 => ?_) (fun q2 => ?_)
  · rw [f_X12_saves_L2]
    refine r_iload_n 3 dX12_saves_2 rfl 3 rfl rfl ?_
    refine r_aload_n 4 dX12_saves_3 rfl 0 rfl rfl ?_
    refine r_alen 5 b0 n0 dX12_saves_4 rfl ha_b0 (hc_b0 _) rfl ?_
    refine r_icmp_ge 22 8 dX12_saves_5 (by decide) rfl ?_ ?_
    · exact r_leaf [0, 2] (lv2 := [(0, .ref (G.1 b0)), (2, .int a2)]) rfl (fun h => h)
    · refine r_aload_n 9 dX12_saves_8 rfl 1 rfl rfl ?_
      refine r_iload_n 10 dX12_saves_9 rfl 2 rfl rfl ?_
      refine r_iload_n 11 dX12_saves_10 rfl 3 rfl rfl ?_
      refine r_iadd 12 dX12_saves_11 rfl ?_
      refine r_aload_n 13 dX12_saves_12 rfl 0 rfl rfl ?_
      refine r_iload_n 14 dX12_saves_13 rfl 3 rfl rfl ?_
      refine r_iald 15 b0 n0 dX12_saves_14 rfl ha_b0 (hc_b0 _) ?_
      refine r_iast 16 b1 n1 dX12_saves_15 rfl ha_b1 hc_b1 ?_
      refine r_topw (fun w3 => ?_)
      refine r_iinc 19 3 [(3, .int (s1.1 + (1 : Int32))), (0, .ref (G.1 b0)), (1, .ref (G.1 b1)), (2, .int a2)] dX12_saves_16 rfl rfl zci_1 (by decide) rfl ?_
      refine r_goto 2 dX12_saves_19 (by decide) ?_
      exact r_leaf [1, 2, 3, 0] (lv2 := [(0, .ref (G.1 b0)), (1, .ref (G.1 b1)), (2, .int a2), (3, .int (s1.1 + (1 : Int32)))]) rfl (fun h => h)
  · refine r_iload_n 23 dX12_saves_22 rfl 1 rfl rfl ?_
    refine r_aload_n 24 dX12_saves_23 rfl 0 rfl rfl ?_
    refine r_alen 25 b0 n0 dX12_saves_24 rfl ha_b0 (hc_b0 _) rfl ?_
    refine r_iadd 26 dX12_saves_25 rfl ?_
    exact r_iret dX12_saves_26 rfl z_kiw
-- X12_image
def f_X12_image (w : ZW) : Option (Int32 × ZW) :=
  (f_X12_saves w 131 18 157 520 (0 : Int32)).bind fun r1 : Int32 × ZW =>
  (f_X12_saves r1.2 132 14 157 520 r1.1).bind fun r2 : Int32 × ZW =>
  (f_X12_saves r2.2 133 14 157 520 r2.1).bind fun r3 : Int32 × ZW =>
  (f_X12_saves r3.2 134 14 157 520 r3.1).bind fun r4 : Int32 × ZW =>
  (f_X12_saves r4.2 135 14 157 520 r4.1).bind fun r5 : Int32 × ZW =>
  (f_X12_saves r5.2 136 14 157 520 r5.1).bind fun r6 : Int32 × ZW =>
  (f_X12_saves r6.2 137 14 157 520 r6.1).bind fun r7 : Int32 × ZW =>
  (f_X12_saves r7.2 138 14 157 520 r7.1).bind fun r8 : Int32 × ZW =>
  (f_X12_saves r8.2 139 36 157 520 r8.1).bind fun r9 : Int32 × ZW =>
  (f_X12_saves r9.2 141 48 157 520 r9.1).bind fun r10 : Int32 × ZW =>
  (f_X12_saves r10.2 142 8 157 520 r10.1).bind fun r11 : Int32 × ZW =>
  (f_X12_saves r11.2 143 168 157 520 r11.1).bind fun r12 : Int32 × ZW =>
  (f_X12_saves r12.2 144 14 157 520 r12.1).bind fun r13 : Int32 × ZW =>
  (f_X12_saves r13.2 145 14 157 520 r13.1).bind fun r14 : Int32 × ZW =>
  (f_X12_saves r14.2 149 6 157 520 r14.1).bind fun r15 : Int32 × ZW =>
  (f_X12_saves r15.2 150 6 157 520 r15.1).bind fun r16 : Int32 × ZW =>
  (f_X12_saves r16.2 151 6 157 520 r16.1).bind fun r17 : Int32 × ZW =>
  (f_X12_saves r17.2 153 12 157 520 r17.1).bind fun r18 : Int32 × ZW =>
  (f_X12_saves r18.2 154 12 157 520 r18.1).bind fun r19 : Int32 × ZW =>
  if z_in r19.1 520 then
  z_let (z_upI r19.2 157 r19.1.toNatClampNeg (r19.2.1 130 0)) fun w20 =>
  if z_in (r19.1 + (1 : Int32)) 520 then
  z_let (z_upI w20 157 (r19.1 + (1 : Int32)).toNatClampNeg (w20.1 130 2)) fun w21 =>
  if z_in (r19.1 + (2 : Int32)) 520 then
  z_let (z_upI w21 157 (r19.1 + (2 : Int32)).toNatClampNeg (w21.1 130 10)) fun w22 =>
  if z_in (r19.1 + (3 : Int32)) 520 then
  z_let (z_upI w22 157 (r19.1 + (3 : Int32)).toNatClampNeg (w22.1 130 16)) fun w23 =>
  if z_in (r19.1 + (4 : Int32)) 520 then
  z_let (z_upI w23 157 (r19.1 + (4 : Int32)).toNatClampNeg (w23.1 130 25)) fun w24 =>
  z_let (z_upI w24 130 37 (1 : Int32)) fun w25 =>
  some ((1 : Int32), w25)
else none
else none
else none
else none
else none
set_option maxHeartbeats 4000000 in
set_option maxRecDepth 100000 in
theorem c_X12_image (G : ZG) (l : Launch) (d : Nat) (hd : 2 ≤ d) (w : ZW) : ∀ o, f_X12_image w = some o → zM G l d yX12_image cX12_image 2 (some .int) [.ref (G.1 130)] w (some (.int o.1)) o.2 := by
  intro o ho
  refine zM.of [(0, .ref (G.1 130))] (by decide) (Nat.le_of_ble_eq_true rfl) rfl ?_
  refine (?_ : zR G l d "LoveLocksModel" cX12_image 2 (some .int) (some (.int o.1)) o.2 (fun x => x = o) 0 [(0, .ref (G.1 130))] [] w (f_X12_image w)) o ho rfl
  rw [f_X12_image]
  refine r_aload_n 1 dX12_image_0 rfl 0 rfl rfl ?_
  refine r_get 4 130 1 dX12_image_1 rfl zl_130 (ce_130 G _) rfl inz12 (by decide) wf_X12_7 rfl ?_
  refine r_aload_n 5 dX12_image_4 rfl 0 rfl rfl ?_
  refine r_get 8 130 36 dX12_image_5 rfl zl_130 (ce_130 G _) rfl inz12 (by decide) wf_X12_93 rfl ?_
  refine r_iconst 9 dX12_image_8 rfl zci_0 ?_
  refine r_callSiw 12 3 [.ref (G.1 131), .ref (G.1 157), .int (0 : Int32)] (st := []) dX12_image_9 rfl rfl (fun r h => c_X12_saves G l (d - 1) (by omega) w 131 18 157 520 (0 : Int32) zl_131 (ce_131 G) zl_157 (ce_157 G) r h) wc_X12_saves wz_X12 wl_X12_305 wst_X12_saves zd_X12_saves (by decide) (by omega) rfl (Nat.le_of_ble_eq_true rfl) (fun r1 => ?_)
  refine r_istore_n 13 [(1, .int r1.1), (0, .ref (G.1 130))] dX12_image_12 rfl rfl (by decide) rfl ?_
  refine r_aload_n 14 dX12_image_13 rfl 1 rfl rfl ?_
  refine r_get 17 130 3 dX12_image_14 rfl zl_130 (ce_130 G _) rfl inz12 (by decide) wf_X12_13 rfl ?_
  refine r_aload_n 18 dX12_image_17 rfl 1 rfl rfl ?_
  refine r_get 21 130 36 dX12_image_18 rfl zl_130 (ce_130 G _) rfl inz12 (by decide) wf_X12_93 rfl ?_
  refine r_iload_n 22 dX12_image_21 rfl 0 rfl rfl ?_
  refine r_callSiw 25 3 [.ref (G.1 132), .ref (G.1 157), .int r1.1] (st := []) dX12_image_22 rfl rfl (fun r h => c_X12_saves G l (d - 1) (by omega) r1.2 132 14 157 520 r1.1 zl_132 (ce_132 G) zl_157 (ce_157 G) r h) wc_X12_saves wz_X12 wl_X12_305 wst_X12_saves zd_X12_saves (by decide) (by omega) rfl (Nat.le_of_ble_eq_true rfl) (fun r2 => ?_)
  refine r_istore_n 26 [(1, .int r2.1), (0, .ref (G.1 130))] dX12_image_25 rfl rfl (by decide) rfl ?_
  refine r_aload_n 27 dX12_image_26 rfl 1 rfl rfl ?_
  refine r_get 30 130 4 dX12_image_27 rfl zl_130 (ce_130 G _) rfl inz12 (by decide) wf_X12_16 rfl ?_
  refine r_aload_n 31 dX12_image_30 rfl 1 rfl rfl ?_
  refine r_get 34 130 36 dX12_image_31 rfl zl_130 (ce_130 G _) rfl inz12 (by decide) wf_X12_93 rfl ?_
  refine r_iload_n 35 dX12_image_34 rfl 0 rfl rfl ?_
  refine r_callSiw 38 3 [.ref (G.1 133), .ref (G.1 157), .int r2.1] (st := []) dX12_image_35 rfl rfl (fun r h => c_X12_saves G l (d - 1) (by omega) r2.2 133 14 157 520 r2.1 zl_133 (ce_133 G) zl_157 (ce_157 G) r h) wc_X12_saves wz_X12 wl_X12_305 wst_X12_saves zd_X12_saves (by decide) (by omega) rfl (Nat.le_of_ble_eq_true rfl) (fun r3 => ?_)
  refine r_istore_n 39 [(1, .int r3.1), (0, .ref (G.1 130))] dX12_image_38 rfl rfl (by decide) rfl ?_
  refine r_aload_n 40 dX12_image_39 rfl 1 rfl rfl ?_
  refine r_get 43 130 5 dX12_image_40 rfl zl_130 (ce_130 G _) rfl inz12 (by decide) wf_X12_19 rfl ?_
  refine r_aload_n 44 dX12_image_43 rfl 1 rfl rfl ?_
  refine r_get 47 130 36 dX12_image_44 rfl zl_130 (ce_130 G _) rfl inz12 (by decide) wf_X12_93 rfl ?_
  refine r_iload_n 48 dX12_image_47 rfl 0 rfl rfl ?_
  refine r_callSiw 51 3 [.ref (G.1 134), .ref (G.1 157), .int r3.1] (st := []) dX12_image_48 rfl rfl (fun r h => c_X12_saves G l (d - 1) (by omega) r3.2 134 14 157 520 r3.1 zl_134 (ce_134 G) zl_157 (ce_157 G) r h) wc_X12_saves wz_X12 wl_X12_305 wst_X12_saves zd_X12_saves (by decide) (by omega) rfl (Nat.le_of_ble_eq_true rfl) (fun r4 => ?_)
  refine r_istore_n 52 [(1, .int r4.1), (0, .ref (G.1 130))] dX12_image_51 rfl rfl (by decide) rfl ?_
  refine r_aload_n 53 dX12_image_52 rfl 1 rfl rfl ?_
  refine r_get 56 130 6 dX12_image_53 rfl zl_130 (ce_130 G _) rfl inz12 (by decide) wf_X12_22 rfl ?_
  refine r_aload_n 57 dX12_image_56 rfl 1 rfl rfl ?_
  refine r_get 60 130 36 dX12_image_57 rfl zl_130 (ce_130 G _) rfl inz12 (by decide) wf_X12_93 rfl ?_
  refine r_iload_n 61 dX12_image_60 rfl 0 rfl rfl ?_
  refine r_callSiw 64 3 [.ref (G.1 135), .ref (G.1 157), .int r4.1] (st := []) dX12_image_61 rfl rfl (fun r h => c_X12_saves G l (d - 1) (by omega) r4.2 135 14 157 520 r4.1 zl_135 (ce_135 G) zl_157 (ce_157 G) r h) wc_X12_saves wz_X12 wl_X12_305 wst_X12_saves zd_X12_saves (by decide) (by omega) rfl (Nat.le_of_ble_eq_true rfl) (fun r5 => ?_)
  refine r_istore_n 65 [(1, .int r5.1), (0, .ref (G.1 130))] dX12_image_64 rfl rfl (by decide) rfl ?_
  refine r_aload_n 66 dX12_image_65 rfl 1 rfl rfl ?_
  refine r_get 69 130 7 dX12_image_66 rfl zl_130 (ce_130 G _) rfl inz12 (by decide) wf_X12_25 rfl ?_
  refine r_aload_n 70 dX12_image_69 rfl 1 rfl rfl ?_
  refine r_get 73 130 36 dX12_image_70 rfl zl_130 (ce_130 G _) rfl inz12 (by decide) wf_X12_93 rfl ?_
  refine r_iload_n 74 dX12_image_73 rfl 0 rfl rfl ?_
  refine r_callSiw 77 3 [.ref (G.1 136), .ref (G.1 157), .int r5.1] (st := []) dX12_image_74 rfl rfl (fun r h => c_X12_saves G l (d - 1) (by omega) r5.2 136 14 157 520 r5.1 zl_136 (ce_136 G) zl_157 (ce_157 G) r h) wc_X12_saves wz_X12 wl_X12_305 wst_X12_saves zd_X12_saves (by decide) (by omega) rfl (Nat.le_of_ble_eq_true rfl) (fun r6 => ?_)
  refine r_istore_n 78 [(1, .int r6.1), (0, .ref (G.1 130))] dX12_image_77 rfl rfl (by decide) rfl ?_
  refine r_aload_n 79 dX12_image_78 rfl 1 rfl rfl ?_
  refine r_get 82 130 8 dX12_image_79 rfl zl_130 (ce_130 G _) rfl inz12 (by decide) wf_X12_28 rfl ?_
  refine r_aload_n 83 dX12_image_82 rfl 1 rfl rfl ?_
  refine r_get 86 130 36 dX12_image_83 rfl zl_130 (ce_130 G _) rfl inz12 (by decide) wf_X12_93 rfl ?_
  refine r_iload_n 87 dX12_image_86 rfl 0 rfl rfl ?_
  refine r_callSiw 90 3 [.ref (G.1 137), .ref (G.1 157), .int r6.1] (st := []) dX12_image_87 rfl rfl (fun r h => c_X12_saves G l (d - 1) (by omega) r6.2 137 14 157 520 r6.1 zl_137 (ce_137 G) zl_157 (ce_157 G) r h) wc_X12_saves wz_X12 wl_X12_305 wst_X12_saves zd_X12_saves (by decide) (by omega) rfl (Nat.le_of_ble_eq_true rfl) (fun r7 => ?_)
  refine r_istore_n 91 [(1, .int r7.1), (0, .ref (G.1 130))] dX12_image_90 rfl rfl (by decide) rfl ?_
  refine r_aload_n 92 dX12_image_91 rfl 1 rfl rfl ?_
  refine r_get 95 130 9 dX12_image_92 rfl zl_130 (ce_130 G _) rfl inz12 (by decide) wf_X12_31 rfl ?_
  refine r_aload_n 96 dX12_image_95 rfl 1 rfl rfl ?_
  refine r_get 99 130 36 dX12_image_96 rfl zl_130 (ce_130 G _) rfl inz12 (by decide) wf_X12_93 rfl ?_
  refine r_iload_n 100 dX12_image_99 rfl 0 rfl rfl ?_
  refine r_callSiw 103 3 [.ref (G.1 138), .ref (G.1 157), .int r7.1] (st := []) dX12_image_100 rfl rfl (fun r h => c_X12_saves G l (d - 1) (by omega) r7.2 138 14 157 520 r7.1 zl_138 (ce_138 G) zl_157 (ce_157 G) r h) wc_X12_saves wz_X12 wl_X12_305 wst_X12_saves zd_X12_saves (by decide) (by omega) rfl (Nat.le_of_ble_eq_true rfl) (fun r8 => ?_)
  refine r_istore_n 104 [(1, .int r8.1), (0, .ref (G.1 130))] dX12_image_103 rfl rfl (by decide) rfl ?_
  refine r_aload_n 105 dX12_image_104 rfl 1 rfl rfl ?_
  refine r_get 108 130 11 dX12_image_105 rfl zl_130 (ce_130 G _) rfl inz12 (by decide) wf_X12_34 rfl ?_
  refine r_aload_n 109 dX12_image_108 rfl 1 rfl rfl ?_
  refine r_get 112 130 36 dX12_image_109 rfl zl_130 (ce_130 G _) rfl inz12 (by decide) wf_X12_93 rfl ?_
  refine r_iload_n 113 dX12_image_112 rfl 0 rfl rfl ?_
  refine r_callSiw 116 3 [.ref (G.1 139), .ref (G.1 157), .int r8.1] (st := []) dX12_image_113 rfl rfl (fun r h => c_X12_saves G l (d - 1) (by omega) r8.2 139 36 157 520 r8.1 zl_139 (ce_139 G) zl_157 (ce_157 G) r h) wc_X12_saves wz_X12 wl_X12_305 wst_X12_saves zd_X12_saves (by decide) (by omega) rfl (Nat.le_of_ble_eq_true rfl) (fun r9 => ?_)
  refine r_istore_n 117 [(1, .int r9.1), (0, .ref (G.1 130))] dX12_image_116 rfl rfl (by decide) rfl ?_
  refine r_aload_n 118 dX12_image_117 rfl 1 rfl rfl ?_
  refine r_get 121 130 17 dX12_image_118 rfl zl_130 (ce_130 G _) rfl inz12 (by decide) wf_X12_40 rfl ?_
  refine r_aload_n 122 dX12_image_121 rfl 1 rfl rfl ?_
  refine r_get 125 130 36 dX12_image_122 rfl zl_130 (ce_130 G _) rfl inz12 (by decide) wf_X12_93 rfl ?_
  refine r_iload_n 126 dX12_image_125 rfl 0 rfl rfl ?_
  refine r_callSiw 129 3 [.ref (G.1 141), .ref (G.1 157), .int r9.1] (st := []) dX12_image_126 rfl rfl (fun r h => c_X12_saves G l (d - 1) (by omega) r9.2 141 48 157 520 r9.1 zl_141 (ce_141 G) zl_157 (ce_157 G) r h) wc_X12_saves wz_X12 wl_X12_305 wst_X12_saves zd_X12_saves (by decide) (by omega) rfl (Nat.le_of_ble_eq_true rfl) (fun r10 => ?_)
  refine r_istore_n 130 [(1, .int r10.1), (0, .ref (G.1 130))] dX12_image_129 rfl rfl (by decide) rfl ?_
  refine r_aload_n 131 dX12_image_130 rfl 1 rfl rfl ?_
  refine r_get 134 130 18 dX12_image_131 rfl zl_130 (ce_130 G _) rfl inz12 (by decide) wf_X12_43 rfl ?_
  refine r_aload_n 135 dX12_image_134 rfl 1 rfl rfl ?_
  refine r_get 138 130 36 dX12_image_135 rfl zl_130 (ce_130 G _) rfl inz12 (by decide) wf_X12_93 rfl ?_
  refine r_iload_n 139 dX12_image_138 rfl 0 rfl rfl ?_
  refine r_callSiw 142 3 [.ref (G.1 142), .ref (G.1 157), .int r10.1] (st := []) dX12_image_139 rfl rfl (fun r h => c_X12_saves G l (d - 1) (by omega) r10.2 142 8 157 520 r10.1 zl_142 (ce_142 G) zl_157 (ce_157 G) r h) wc_X12_saves wz_X12 wl_X12_305 wst_X12_saves zd_X12_saves (by decide) (by omega) rfl (Nat.le_of_ble_eq_true rfl) (fun r11 => ?_)
  refine r_istore_n 143 [(1, .int r11.1), (0, .ref (G.1 130))] dX12_image_142 rfl rfl (by decide) rfl ?_
  refine r_aload_n 144 dX12_image_143 rfl 1 rfl rfl ?_
  refine r_get 147 130 19 dX12_image_144 rfl zl_130 (ce_130 G _) rfl inz12 (by decide) wf_X12_46 rfl ?_
  refine r_aload_n 148 dX12_image_147 rfl 1 rfl rfl ?_
  refine r_get 151 130 36 dX12_image_148 rfl zl_130 (ce_130 G _) rfl inz12 (by decide) wf_X12_93 rfl ?_
  refine r_iload_n 152 dX12_image_151 rfl 0 rfl rfl ?_
  refine r_callSiw 155 3 [.ref (G.1 143), .ref (G.1 157), .int r11.1] (st := []) dX12_image_152 rfl rfl (fun r h => c_X12_saves G l (d - 1) (by omega) r11.2 143 168 157 520 r11.1 zl_143 (ce_143 G) zl_157 (ce_157 G) r h) wc_X12_saves wz_X12 wl_X12_305 wst_X12_saves zd_X12_saves (by decide) (by omega) rfl (Nat.le_of_ble_eq_true rfl) (fun r12 => ?_)
  refine r_istore_n 156 [(1, .int r12.1), (0, .ref (G.1 130))] dX12_image_155 rfl rfl (by decide) rfl ?_
  refine r_aload_n 157 dX12_image_156 rfl 1 rfl rfl ?_
  refine r_get 160 130 20 dX12_image_157 rfl zl_130 (ce_130 G _) rfl inz12 (by decide) wf_X12_49 rfl ?_
  refine r_aload_n 161 dX12_image_160 rfl 1 rfl rfl ?_
  refine r_get 164 130 36 dX12_image_161 rfl zl_130 (ce_130 G _) rfl inz12 (by decide) wf_X12_93 rfl ?_
  refine r_iload_n 165 dX12_image_164 rfl 0 rfl rfl ?_
  refine r_callSiw 168 3 [.ref (G.1 144), .ref (G.1 157), .int r12.1] (st := []) dX12_image_165 rfl rfl (fun r h => c_X12_saves G l (d - 1) (by omega) r12.2 144 14 157 520 r12.1 zl_144 (ce_144 G) zl_157 (ce_157 G) r h) wc_X12_saves wz_X12 wl_X12_305 wst_X12_saves zd_X12_saves (by decide) (by omega) rfl (Nat.le_of_ble_eq_true rfl) (fun r13 => ?_)
  refine r_istore_n 169 [(1, .int r13.1), (0, .ref (G.1 130))] dX12_image_168 rfl rfl (by decide) rfl ?_
  refine r_aload_n 170 dX12_image_169 rfl 1 rfl rfl ?_
  refine r_get 173 130 21 dX12_image_170 rfl zl_130 (ce_130 G _) rfl inz12 (by decide) wf_X12_52 rfl ?_
  refine r_aload_n 174 dX12_image_173 rfl 1 rfl rfl ?_
  refine r_get 177 130 36 dX12_image_174 rfl zl_130 (ce_130 G _) rfl inz12 (by decide) wf_X12_93 rfl ?_
  refine r_iload_n 178 dX12_image_177 rfl 0 rfl rfl ?_
  refine r_callSiw 181 3 [.ref (G.1 145), .ref (G.1 157), .int r13.1] (st := []) dX12_image_178 rfl rfl (fun r h => c_X12_saves G l (d - 1) (by omega) r13.2 145 14 157 520 r13.1 zl_145 (ce_145 G) zl_157 (ce_157 G) r h) wc_X12_saves wz_X12 wl_X12_305 wst_X12_saves zd_X12_saves (by decide) (by omega) rfl (Nat.le_of_ble_eq_true rfl) (fun r14 => ?_)
  refine r_istore_n 182 [(1, .int r14.1), (0, .ref (G.1 130))] dX12_image_181 rfl rfl (by decide) rfl ?_
  refine r_aload_n 183 dX12_image_182 rfl 1 rfl rfl ?_
  refine r_get 186 130 26 dX12_image_183 rfl zl_130 (ce_130 G _) rfl inz12 (by decide) wf_X12_69 rfl ?_
  refine r_aload_n 187 dX12_image_186 rfl 1 rfl rfl ?_
  refine r_get 190 130 36 dX12_image_187 rfl zl_130 (ce_130 G _) rfl inz12 (by decide) wf_X12_93 rfl ?_
  refine r_iload_n 191 dX12_image_190 rfl 0 rfl rfl ?_
  refine r_callSiw 194 3 [.ref (G.1 149), .ref (G.1 157), .int r14.1] (st := []) dX12_image_191 rfl rfl (fun r h => c_X12_saves G l (d - 1) (by omega) r14.2 149 6 157 520 r14.1 zl_149 (ce_149 G) zl_157 (ce_157 G) r h) wc_X12_saves wz_X12 wl_X12_305 wst_X12_saves zd_X12_saves (by decide) (by omega) rfl (Nat.le_of_ble_eq_true rfl) (fun r15 => ?_)
  refine r_istore_n 195 [(1, .int r15.1), (0, .ref (G.1 130))] dX12_image_194 rfl rfl (by decide) rfl ?_
  refine r_aload_n 196 dX12_image_195 rfl 1 rfl rfl ?_
  refine r_get 199 130 27 dX12_image_196 rfl zl_130 (ce_130 G _) rfl inz12 (by decide) wf_X12_72 rfl ?_
  refine r_aload_n 200 dX12_image_199 rfl 1 rfl rfl ?_
  refine r_get 203 130 36 dX12_image_200 rfl zl_130 (ce_130 G _) rfl inz12 (by decide) wf_X12_93 rfl ?_
  refine r_iload_n 204 dX12_image_203 rfl 0 rfl rfl ?_
  refine r_callSiw 207 3 [.ref (G.1 150), .ref (G.1 157), .int r15.1] (st := []) dX12_image_204 rfl rfl (fun r h => c_X12_saves G l (d - 1) (by omega) r15.2 150 6 157 520 r15.1 zl_150 (ce_150 G) zl_157 (ce_157 G) r h) wc_X12_saves wz_X12 wl_X12_305 wst_X12_saves zd_X12_saves (by decide) (by omega) rfl (Nat.le_of_ble_eq_true rfl) (fun r16 => ?_)
  refine r_istore_n 208 [(1, .int r16.1), (0, .ref (G.1 130))] dX12_image_207 rfl rfl (by decide) rfl ?_
  refine r_aload_n 209 dX12_image_208 rfl 1 rfl rfl ?_
  refine r_get 212 130 28 dX12_image_209 rfl zl_130 (ce_130 G _) rfl inz12 (by decide) wf_X12_75 rfl ?_
  refine r_aload_n 213 dX12_image_212 rfl 1 rfl rfl ?_
  refine r_get 216 130 36 dX12_image_213 rfl zl_130 (ce_130 G _) rfl inz12 (by decide) wf_X12_93 rfl ?_
  refine r_iload_n 217 dX12_image_216 rfl 0 rfl rfl ?_
  refine r_callSiw 220 3 [.ref (G.1 151), .ref (G.1 157), .int r16.1] (st := []) dX12_image_217 rfl rfl (fun r h => c_X12_saves G l (d - 1) (by omega) r16.2 151 6 157 520 r16.1 zl_151 (ce_151 G) zl_157 (ce_157 G) r h) wc_X12_saves wz_X12 wl_X12_305 wst_X12_saves zd_X12_saves (by decide) (by omega) rfl (Nat.le_of_ble_eq_true rfl) (fun r17 => ?_)
  refine r_istore_n 221 [(1, .int r17.1), (0, .ref (G.1 130))] dX12_image_220 rfl rfl (by decide) rfl ?_
  refine r_aload_n 222 dX12_image_221 rfl 1 rfl rfl ?_
  refine r_get 225 130 30 dX12_image_222 rfl zl_130 (ce_130 G _) rfl inz12 (by decide) wf_X12_81 rfl ?_
  refine r_aload_n 226 dX12_image_225 rfl 1 rfl rfl ?_
  refine r_get 229 130 36 dX12_image_226 rfl zl_130 (ce_130 G _) rfl inz12 (by decide) wf_X12_93 rfl ?_
  refine r_iload_n 230 dX12_image_229 rfl 0 rfl rfl ?_
  refine r_callSiw 233 3 [.ref (G.1 153), .ref (G.1 157), .int r17.1] (st := []) dX12_image_230 rfl rfl (fun r h => c_X12_saves G l (d - 1) (by omega) r17.2 153 12 157 520 r17.1 zl_153 (ce_153 G) zl_157 (ce_157 G) r h) wc_X12_saves wz_X12 wl_X12_305 wst_X12_saves zd_X12_saves (by decide) (by omega) rfl (Nat.le_of_ble_eq_true rfl) (fun r18 => ?_)
  refine r_istore_n 234 [(1, .int r18.1), (0, .ref (G.1 130))] dX12_image_233 rfl rfl (by decide) rfl ?_
  refine r_aload_n 235 dX12_image_234 rfl 1 rfl rfl ?_
  refine r_get 238 130 31 dX12_image_235 rfl zl_130 (ce_130 G _) rfl inz12 (by decide) wf_X12_84 rfl ?_
  refine r_aload_n 239 dX12_image_238 rfl 1 rfl rfl ?_
  refine r_get 242 130 36 dX12_image_239 rfl zl_130 (ce_130 G _) rfl inz12 (by decide) wf_X12_93 rfl ?_
  refine r_iload_n 243 dX12_image_242 rfl 0 rfl rfl ?_
  refine r_callSiw 246 3 [.ref (G.1 154), .ref (G.1 157), .int r18.1] (st := []) dX12_image_243 rfl rfl (fun r h => c_X12_saves G l (d - 1) (by omega) r18.2 154 12 157 520 r18.1 zl_154 (ce_154 G) zl_157 (ce_157 G) r h) wc_X12_saves wz_X12 wl_X12_305 wst_X12_saves zd_X12_saves (by decide) (by omega) rfl (Nat.le_of_ble_eq_true rfl) (fun r19 => ?_)
  refine r_istore_n 247 [(1, .int r19.1), (0, .ref (G.1 130))] dX12_image_246 rfl rfl (by decide) rfl ?_
  refine r_aload_n 248 dX12_image_247 rfl 1 rfl rfl ?_
  refine r_get 251 130 36 dX12_image_248 rfl zl_130 (ce_130 G _) rfl inz12 (by decide) wf_X12_93 rfl ?_
  refine r_iload_n 252 dX12_image_251 rfl 0 rfl rfl ?_
  refine r_aload_n 253 dX12_image_252 rfl 1 rfl rfl ?_
  refine r_get 256 130 0 dX12_image_253 rfl zl_130 (ce_130 G _) rfl inz12 (by decide) wf_X12_108 rfl ?_
  refine r_iast 257 157 520 dX12_image_256 rfl zl_157 (ce_157 G) ?_
  refine r_topw (fun w20 => ?_)
  refine r_aload_n 258 dX12_image_257 rfl 1 rfl rfl ?_
  refine r_get 261 130 36 dX12_image_258 rfl zl_130 (ce_130 G _) rfl inz12 (by decide) wf_X12_93 rfl ?_
  refine r_iload_n 262 dX12_image_261 rfl 0 rfl rfl ?_
  refine r_iconst 263 dX12_image_262 rfl zci_1 ?_
  refine r_iadd 264 dX12_image_263 rfl ?_
  refine r_aload_n 265 dX12_image_264 rfl 1 rfl rfl ?_
  refine r_get 268 130 2 dX12_image_265 rfl zl_130 (ce_130 G _) rfl inz12 (by decide) wf_X12_115 rfl ?_
  refine r_iast 269 157 520 dX12_image_268 rfl zl_157 (ce_157 G) ?_
  refine r_topw (fun w21 => ?_)
  refine r_aload_n 270 dX12_image_269 rfl 1 rfl rfl ?_
  refine r_get 273 130 36 dX12_image_270 rfl zl_130 (ce_130 G _) rfl inz12 (by decide) wf_X12_93 rfl ?_
  refine r_iload_n 274 dX12_image_273 rfl 0 rfl rfl ?_
  refine r_iconst 275 dX12_image_274 rfl zci_2 ?_
  refine r_iadd 276 dX12_image_275 rfl ?_
  refine r_aload_n 277 dX12_image_276 rfl 1 rfl rfl ?_
  refine r_get 280 130 10 dX12_image_277 rfl zl_130 (ce_130 G _) rfl inz12 (by decide) wf_X12_172 rfl ?_
  refine r_iast 281 157 520 dX12_image_280 rfl zl_157 (ce_157 G) ?_
  refine r_topw (fun w22 => ?_)
  refine r_aload_n 282 dX12_image_281 rfl 1 rfl rfl ?_
  refine r_get 285 130 36 dX12_image_282 rfl zl_130 (ce_130 G _) rfl inz12 (by decide) wf_X12_93 rfl ?_
  refine r_iload_n 286 dX12_image_285 rfl 0 rfl rfl ?_
  refine r_iconst 287 dX12_image_286 rfl zci_3 ?_
  refine r_iadd 288 dX12_image_287 rfl ?_
  refine r_aload_n 289 dX12_image_288 rfl 1 rfl rfl ?_
  refine r_get 292 130 16 dX12_image_289 rfl zl_130 (ce_130 G _) rfl inz12 (by decide) wf_X12_175 rfl ?_
  refine r_iast 293 157 520 dX12_image_292 rfl zl_157 (ce_157 G) ?_
  refine r_topw (fun w23 => ?_)
  refine r_aload_n 294 dX12_image_293 rfl 1 rfl rfl ?_
  refine r_get 297 130 36 dX12_image_294 rfl zl_130 (ce_130 G _) rfl inz12 (by decide) wf_X12_93 rfl ?_
  refine r_iload_n 298 dX12_image_297 rfl 0 rfl rfl ?_
  refine r_iconst 299 dX12_image_298 rfl zci_4 ?_
  refine r_iadd 300 dX12_image_299 rfl ?_
  refine r_aload_n 301 dX12_image_300 rfl 1 rfl rfl ?_
  refine r_get 304 130 25 dX12_image_301 rfl zl_130 (ce_130 G _) rfl inz12 (by decide) wf_X12_65 rfl ?_
  refine r_iast 305 157 520 dX12_image_304 rfl zl_157 (ce_157 G) ?_
  refine r_topw (fun w24 => ?_)
  refine r_aload_n 306 dX12_image_305 rfl 1 rfl rfl ?_
  refine r_iconst 307 dX12_image_306 rfl zci_1 ?_
  refine r_putz 310 130 37 dX12_image_307 rfl zl_130 (ce_130 G _) rfl inz12 tyX12_ok nmX12 (by decide) wf_X12_309 rfl rfl rfl rfl (Nat.le_of_ble_eq_true rfl) rfl ?_
  refine r_topw (fun w25 => ?_)
  refine r_iconst 311 dX12_image_310 rfl zci_1 ?_
  exact r_iret dX12_image_311 rfl z_kiw
-- X12_gives
def f_X12_gives_L2 (n2 : Nat) (a1 : Int32) (n0 : Nat) (b2 : Nat) (b0 : Nat) (s1 : Int32 × ZW) : Option ((Int32 × ZW) ⊕ (ZW)) :=
  if (Int32.ofNat n2) ≤ s1.1 then
  some (.inr s1.2)
else
  if z_in (a1 + s1.1) n0 then
    if z_in s1.1 n2 then
    z_let (z_upI s1.2 b2 s1.1.toNatClampNeg (s1.2.1 b0 (a1 + s1.1).toNatClampNeg)) fun w3 =>
    some (.inl (s1.1 + (1 : Int32), w3))
  else none
  else none
def f_X12_gives (w : ZW) (b0 : Nat) (n0 : Nat) (a1 : Int32) (b2 : Nat) (n2 : Nat) : Option (Int32 × ZW) :=
  (z_iter (f_X12_gives_L2 n2 a1 n0 b2 b0) z_fuel ((0 : Int32), w)).bind (fun q2 : ZW =>
  some (a1 + (Int32.ofNat n2), q2))
set_option maxHeartbeats 4000000 in
set_option maxRecDepth 100000 in
theorem c_X12_gives (G : ZG) (l : Launch) (d : Nat) (hd : 1 ≤ d) (w : ZW) (b0 : Nat) (n0 : Nat) (a1 : Int32) (b2 : Nat) (n2 : Nat) (ha_b0 : b0 < z_N) (hc_b0 : ∀ w, z_cell G w b0 = z_aI G n0 (w.1 b0)) (ha_b2 : b2 < z_N) (hc_b2 : ∀ w, z_cell G w b2 = z_aI G n2 (w.1 b2)) : ∀ o, f_X12_gives w b0 n0 a1 b2 n2 = some o → zM G l d yX12_gives cX12_gives 4 (some .int) [.ref (G.1 b0), .int a1, .ref (G.1 b2)] w (some (.int o.1)) o.2 := by
  intro o ho
  refine zM.of [(0, .ref (G.1 b0)), (1, .int a1), (2, .ref (G.1 b2))] (by decide) (Nat.le_of_ble_eq_true rfl) rfl ?_
  refine (?_ : zR G l d "LoveLocksModel" cX12_gives 4 (some .int) (some (.int o.1)) o.2 (fun x => x = o) 0 [(0, .ref (G.1 b0)), (1, .int a1), (2, .ref (G.1 b2))] [] w (f_X12_gives w b0 n0 a1 b2 n2)) o ho rfl
  rw [f_X12_gives]
  refine r_iconst 1 dX12_gives_0 rfl zci_0 ?_
  refine r_istore_n 2 [(3, .int (0 : Int32)), (0, .ref (G.1 b0)), (1, .int a1), (2, .ref (G.1 b2))] dX12_gives_1 rfl rfl (by decide) rfl ?_
  refine r_loopE [1, 2, 3, 0] (fun s1 => [(0, .ref (G.1 b0)), (1, .int a1), (2, .ref (G.1 b2)), (3, .int s1.1)]) (fun s1 => s1.2) 22 (fun q2 => [(1, .int a1), (2, .ref (G.1 b2))]) (fun q2 => q2) rfl rfl (fun s1 => ?_) (fun q2 => ?_)
  · rw [f_X12_gives_L2]
    refine r_iload_n 3 dX12_gives_2 rfl 3 rfl rfl ?_
    refine r_aload_n 4 dX12_gives_3 rfl 2 rfl rfl ?_
    refine r_alen 5 b2 n2 dX12_gives_4 rfl ha_b2 (hc_b2 _) rfl ?_
    refine r_icmp_ge 22 8 dX12_gives_5 (by decide) rfl ?_ ?_
    · exact r_leaf [1, 2] (lv2 := [(1, .int a1), (2, .ref (G.1 b2))]) rfl (fun h => h)
    · refine r_aload_n 9 dX12_gives_8 rfl 2 rfl rfl ?_
      refine r_iload_n 10 dX12_gives_9 rfl 3 rfl rfl ?_
      refine r_aload_n 11 dX12_gives_10 rfl 0 rfl rfl ?_
      refine r_iload_n 12 dX12_gives_11 rfl 1 rfl rfl ?_
      refine r_iload_n 13 dX12_gives_12 rfl 3 rfl rfl ?_
      refine r_iadd 14 dX12_gives_13 rfl ?_
      refine r_iald 15 b0 n0 dX12_gives_14 rfl ha_b0 (hc_b0 _) ?_
      refine r_iast 16 b2 n2 dX12_gives_15 rfl ha_b2 hc_b2 ?_
      refine r_topw (fun w3 => ?_)
      refine r_iinc 19 3 [(3, .int (s1.1 + (1 : Int32))), (0, .ref (G.1 b0)), (1, .int a1), (2, .ref (G.1 b2))] dX12_gives_16 rfl rfl zci_1 (by decide) rfl ?_
      refine r_goto 2 dX12_gives_19 (by decide) ?_
      exact r_leaf [1, 2, 3, 0] (lv2 := [(0, .ref (G.1 b0)), (1, .int a1), (2, .ref (G.1 b2)), (3, .int (s1.1 + (1 : Int32)))]) rfl (fun h => h)
  · refine r_iload_n 23 dX12_gives_22 rfl 0 rfl rfl ?_
    refine r_aload_n 24 dX12_gives_23 rfl 1 rfl rfl ?_
    refine r_alen 25 b2 n2 dX12_gives_24 rfl ha_b2 (hc_b2 _) rfl ?_
    refine r_iadd 26 dX12_gives_25 rfl ?_
    exact r_iret dX12_gives_26 rfl z_kiw
-- X12_restore
def f_X12_restore (w : ZW) : Option (Int32 × ZW) :=
  if (w.1 130 37) = 0 then
  some ((-4 : Int32), w)
else
  (f_X12_gives w 157 520 (0 : Int32) 131 18).bind fun r1 : Int32 × ZW =>
    (f_X12_gives r1.2 157 520 r1.1 132 14).bind fun r2 : Int32 × ZW =>
    (f_X12_gives r2.2 157 520 r2.1 133 14).bind fun r3 : Int32 × ZW =>
    (f_X12_gives r3.2 157 520 r3.1 134 14).bind fun r4 : Int32 × ZW =>
    (f_X12_gives r4.2 157 520 r4.1 135 14).bind fun r5 : Int32 × ZW =>
    (f_X12_gives r5.2 157 520 r5.1 136 14).bind fun r6 : Int32 × ZW =>
    (f_X12_gives r6.2 157 520 r6.1 137 14).bind fun r7 : Int32 × ZW =>
    (f_X12_gives r7.2 157 520 r7.1 138 14).bind fun r8 : Int32 × ZW =>
    (f_X12_gives r8.2 157 520 r8.1 139 36).bind fun r9 : Int32 × ZW =>
    (f_X12_gives r9.2 157 520 r9.1 141 48).bind fun r10 : Int32 × ZW =>
    (f_X12_gives r10.2 157 520 r10.1 142 8).bind fun r11 : Int32 × ZW =>
    (f_X12_gives r11.2 157 520 r11.1 143 168).bind fun r12 : Int32 × ZW =>
    (f_X12_gives r12.2 157 520 r12.1 144 14).bind fun r13 : Int32 × ZW =>
    (f_X12_gives r13.2 157 520 r13.1 145 14).bind fun r14 : Int32 × ZW =>
    (f_X12_gives r14.2 157 520 r14.1 149 6).bind fun r15 : Int32 × ZW =>
    (f_X12_gives r15.2 157 520 r15.1 150 6).bind fun r16 : Int32 × ZW =>
    (f_X12_gives r16.2 157 520 r16.1 151 6).bind fun r17 : Int32 × ZW =>
    (f_X12_gives r17.2 157 520 r17.1 153 12).bind fun r18 : Int32 × ZW =>
    (f_X12_gives r18.2 157 520 r18.1 154 12).bind fun r19 : Int32 × ZW =>
    if z_in r19.1 520 then
    z_let (z_upI r19.2 130 0 (r19.2.1 157 r19.1.toNatClampNeg)) fun w20 =>
    if z_in (r19.1 + (1 : Int32)) 520 then
    z_let (z_upI w20 130 2 (w20.1 157 (r19.1 + (1 : Int32)).toNatClampNeg)) fun w21 =>
    if z_in (r19.1 + (2 : Int32)) 520 then
    z_let (z_upI w21 130 10 (w21.1 157 (r19.1 + (2 : Int32)).toNatClampNeg)) fun w22 =>
    if z_in (r19.1 + (3 : Int32)) 520 then
    z_let (z_upI w22 130 16 (w22.1 157 (r19.1 + (3 : Int32)).toNatClampNeg)) fun w23 =>
    if z_in (r19.1 + (4 : Int32)) 520 then
    z_let (z_upI w23 130 25 (w23.1 157 (r19.1 + (4 : Int32)).toNatClampNeg)) fun w24 =>
    some ((1 : Int32), w24)
  else none
  else none
  else none
  else none
  else none
set_option maxHeartbeats 4000000 in
set_option maxRecDepth 100000 in
theorem c_X12_restore (G : ZG) (l : Launch) (d : Nat) (hd : 2 ≤ d) (w : ZW) : ∀ o, f_X12_restore w = some o → zM G l d yX12_restore cX12_restore 2 (some .int) [.ref (G.1 130)] w (some (.int o.1)) o.2 := by
  intro o ho
  refine zM.of [(0, .ref (G.1 130))] (by decide) (Nat.le_of_ble_eq_true rfl) rfl ?_
  refine (?_ : zR G l d "LoveLocksModel" cX12_restore 2 (some .int) (some (.int o.1)) o.2 (fun x => x = o) 0 [(0, .ref (G.1 130))] [] w (f_X12_restore w)) o ho rfl
  rw [f_X12_restore]
  refine r_aload_n 1 dX12_restore_0 rfl 0 rfl rfl ?_
  refine r_get 4 130 37 dX12_restore_1 rfl zl_130 (ce_130 G _) rfl inz12 (by decide) wf_X12_309 rfl ?_
  refine r_if_ne 10 7 dX12_restore_4 (by decide) rfl ?_ ?_
  · refine r_aload_n 11 dX12_restore_10 rfl 0 rfl rfl ?_
    refine r_get 14 130 36 dX12_restore_11 rfl zl_130 (ce_130 G _) rfl inz12 (by decide) wf_X12_93 rfl ?_
    refine r_iconst 15 dX12_restore_14 rfl zci_0 ?_
    refine r_aload_n 16 dX12_restore_15 rfl 0 rfl rfl ?_
    refine r_get 19 130 1 dX12_restore_16 rfl zl_130 (ce_130 G _) rfl inz12 (by decide) wf_X12_7 rfl ?_
    refine r_callSiw 22 3 [.ref (G.1 157), .int (0 : Int32), .ref (G.1 131)] (st := []) dX12_restore_19 rfl rfl (fun r h => c_X12_gives G l (d - 1) (by omega) w 157 520 (0 : Int32) 131 18 zl_157 (ce_157 G) zl_131 (ce_131 G) r h) wc_X12_gives wz_X12 wl_X12_312 wst_X12_gives zd_X12_gives (by decide) (by omega) rfl (Nat.le_of_ble_eq_true rfl) (fun r1 => ?_)
    refine r_istore_n 23 [(1, .int r1.1), (0, .ref (G.1 130))] dX12_restore_22 rfl rfl (by decide) rfl ?_
    refine r_aload_n 24 dX12_restore_23 rfl 1 rfl rfl ?_
    refine r_get 27 130 36 dX12_restore_24 rfl zl_130 (ce_130 G _) rfl inz12 (by decide) wf_X12_93 rfl ?_
    refine r_iload_n 28 dX12_restore_27 rfl 0 rfl rfl ?_
    refine r_aload_n 29 dX12_restore_28 rfl 1 rfl rfl ?_
    refine r_get 32 130 3 dX12_restore_29 rfl zl_130 (ce_130 G _) rfl inz12 (by decide) wf_X12_13 rfl ?_
    refine r_callSiw 35 3 [.ref (G.1 157), .int r1.1, .ref (G.1 132)] (st := []) dX12_restore_32 rfl rfl (fun r h => c_X12_gives G l (d - 1) (by omega) r1.2 157 520 r1.1 132 14 zl_157 (ce_157 G) zl_132 (ce_132 G) r h) wc_X12_gives wz_X12 wl_X12_312 wst_X12_gives zd_X12_gives (by decide) (by omega) rfl (Nat.le_of_ble_eq_true rfl) (fun r2 => ?_)
    refine r_istore_n 36 [(1, .int r2.1), (0, .ref (G.1 130))] dX12_restore_35 rfl rfl (by decide) rfl ?_
    refine r_aload_n 37 dX12_restore_36 rfl 1 rfl rfl ?_
    refine r_get 40 130 36 dX12_restore_37 rfl zl_130 (ce_130 G _) rfl inz12 (by decide) wf_X12_93 rfl ?_
    refine r_iload_n 41 dX12_restore_40 rfl 0 rfl rfl ?_
    refine r_aload_n 42 dX12_restore_41 rfl 1 rfl rfl ?_
    refine r_get 45 130 4 dX12_restore_42 rfl zl_130 (ce_130 G _) rfl inz12 (by decide) wf_X12_16 rfl ?_
    refine r_callSiw 48 3 [.ref (G.1 157), .int r2.1, .ref (G.1 133)] (st := []) dX12_restore_45 rfl rfl (fun r h => c_X12_gives G l (d - 1) (by omega) r2.2 157 520 r2.1 133 14 zl_157 (ce_157 G) zl_133 (ce_133 G) r h) wc_X12_gives wz_X12 wl_X12_312 wst_X12_gives zd_X12_gives (by decide) (by omega) rfl (Nat.le_of_ble_eq_true rfl) (fun r3 => ?_)
    refine r_istore_n 49 [(1, .int r3.1), (0, .ref (G.1 130))] dX12_restore_48 rfl rfl (by decide) rfl ?_
    refine r_aload_n 50 dX12_restore_49 rfl 1 rfl rfl ?_
    refine r_get 53 130 36 dX12_restore_50 rfl zl_130 (ce_130 G _) rfl inz12 (by decide) wf_X12_93 rfl ?_
    refine r_iload_n 54 dX12_restore_53 rfl 0 rfl rfl ?_
    refine r_aload_n 55 dX12_restore_54 rfl 1 rfl rfl ?_
    refine r_get 58 130 5 dX12_restore_55 rfl zl_130 (ce_130 G _) rfl inz12 (by decide) wf_X12_19 rfl ?_
    refine r_callSiw 61 3 [.ref (G.1 157), .int r3.1, .ref (G.1 134)] (st := []) dX12_restore_58 rfl rfl (fun r h => c_X12_gives G l (d - 1) (by omega) r3.2 157 520 r3.1 134 14 zl_157 (ce_157 G) zl_134 (ce_134 G) r h) wc_X12_gives wz_X12 wl_X12_312 wst_X12_gives zd_X12_gives (by decide) (by omega) rfl (Nat.le_of_ble_eq_true rfl) (fun r4 => ?_)
    refine r_istore_n 62 [(1, .int r4.1), (0, .ref (G.1 130))] dX12_restore_61 rfl rfl (by decide) rfl ?_
    refine r_aload_n 63 dX12_restore_62 rfl 1 rfl rfl ?_
    refine r_get 66 130 36 dX12_restore_63 rfl zl_130 (ce_130 G _) rfl inz12 (by decide) wf_X12_93 rfl ?_
    refine r_iload_n 67 dX12_restore_66 rfl 0 rfl rfl ?_
    refine r_aload_n 68 dX12_restore_67 rfl 1 rfl rfl ?_
    refine r_get 71 130 6 dX12_restore_68 rfl zl_130 (ce_130 G _) rfl inz12 (by decide) wf_X12_22 rfl ?_
    refine r_callSiw 74 3 [.ref (G.1 157), .int r4.1, .ref (G.1 135)] (st := []) dX12_restore_71 rfl rfl (fun r h => c_X12_gives G l (d - 1) (by omega) r4.2 157 520 r4.1 135 14 zl_157 (ce_157 G) zl_135 (ce_135 G) r h) wc_X12_gives wz_X12 wl_X12_312 wst_X12_gives zd_X12_gives (by decide) (by omega) rfl (Nat.le_of_ble_eq_true rfl) (fun r5 => ?_)
    refine r_istore_n 75 [(1, .int r5.1), (0, .ref (G.1 130))] dX12_restore_74 rfl rfl (by decide) rfl ?_
    refine r_aload_n 76 dX12_restore_75 rfl 1 rfl rfl ?_
    refine r_get 79 130 36 dX12_restore_76 rfl zl_130 (ce_130 G _) rfl inz12 (by decide) wf_X12_93 rfl ?_
    refine r_iload_n 80 dX12_restore_79 rfl 0 rfl rfl ?_
    refine r_aload_n 81 dX12_restore_80 rfl 1 rfl rfl ?_
    refine r_get 84 130 7 dX12_restore_81 rfl zl_130 (ce_130 G _) rfl inz12 (by decide) wf_X12_25 rfl ?_
    refine r_callSiw 87 3 [.ref (G.1 157), .int r5.1, .ref (G.1 136)] (st := []) dX12_restore_84 rfl rfl (fun r h => c_X12_gives G l (d - 1) (by omega) r5.2 157 520 r5.1 136 14 zl_157 (ce_157 G) zl_136 (ce_136 G) r h) wc_X12_gives wz_X12 wl_X12_312 wst_X12_gives zd_X12_gives (by decide) (by omega) rfl (Nat.le_of_ble_eq_true rfl) (fun r6 => ?_)
    refine r_istore_n 88 [(1, .int r6.1), (0, .ref (G.1 130))] dX12_restore_87 rfl rfl (by decide) rfl ?_
    refine r_aload_n 89 dX12_restore_88 rfl 1 rfl rfl ?_
    refine r_get 92 130 36 dX12_restore_89 rfl zl_130 (ce_130 G _) rfl inz12 (by decide) wf_X12_93 rfl ?_
    refine r_iload_n 93 dX12_restore_92 rfl 0 rfl rfl ?_
    refine r_aload_n 94 dX12_restore_93 rfl 1 rfl rfl ?_
    refine r_get 97 130 8 dX12_restore_94 rfl zl_130 (ce_130 G _) rfl inz12 (by decide) wf_X12_28 rfl ?_
    refine r_callSiw 100 3 [.ref (G.1 157), .int r6.1, .ref (G.1 137)] (st := []) dX12_restore_97 rfl rfl (fun r h => c_X12_gives G l (d - 1) (by omega) r6.2 157 520 r6.1 137 14 zl_157 (ce_157 G) zl_137 (ce_137 G) r h) wc_X12_gives wz_X12 wl_X12_312 wst_X12_gives zd_X12_gives (by decide) (by omega) rfl (Nat.le_of_ble_eq_true rfl) (fun r7 => ?_)
    refine r_istore_n 101 [(1, .int r7.1), (0, .ref (G.1 130))] dX12_restore_100 rfl rfl (by decide) rfl ?_
    refine r_aload_n 102 dX12_restore_101 rfl 1 rfl rfl ?_
    refine r_get 105 130 36 dX12_restore_102 rfl zl_130 (ce_130 G _) rfl inz12 (by decide) wf_X12_93 rfl ?_
    refine r_iload_n 106 dX12_restore_105 rfl 0 rfl rfl ?_
    refine r_aload_n 107 dX12_restore_106 rfl 1 rfl rfl ?_
    refine r_get 110 130 9 dX12_restore_107 rfl zl_130 (ce_130 G _) rfl inz12 (by decide) wf_X12_31 rfl ?_
    refine r_callSiw 113 3 [.ref (G.1 157), .int r7.1, .ref (G.1 138)] (st := []) dX12_restore_110 rfl rfl (fun r h => c_X12_gives G l (d - 1) (by omega) r7.2 157 520 r7.1 138 14 zl_157 (ce_157 G) zl_138 (ce_138 G) r h) wc_X12_gives wz_X12 wl_X12_312 wst_X12_gives zd_X12_gives (by decide) (by omega) rfl (Nat.le_of_ble_eq_true rfl) (fun r8 => ?_)
    refine r_istore_n 114 [(1, .int r8.1), (0, .ref (G.1 130))] dX12_restore_113 rfl rfl (by decide) rfl ?_
    refine r_aload_n 115 dX12_restore_114 rfl 1 rfl rfl ?_
    refine r_get 118 130 36 dX12_restore_115 rfl zl_130 (ce_130 G _) rfl inz12 (by decide) wf_X12_93 rfl ?_
    refine r_iload_n 119 dX12_restore_118 rfl 0 rfl rfl ?_
    refine r_aload_n 120 dX12_restore_119 rfl 1 rfl rfl ?_
    refine r_get 123 130 11 dX12_restore_120 rfl zl_130 (ce_130 G _) rfl inz12 (by decide) wf_X12_34 rfl ?_
    refine r_callSiw 126 3 [.ref (G.1 157), .int r8.1, .ref (G.1 139)] (st := []) dX12_restore_123 rfl rfl (fun r h => c_X12_gives G l (d - 1) (by omega) r8.2 157 520 r8.1 139 36 zl_157 (ce_157 G) zl_139 (ce_139 G) r h) wc_X12_gives wz_X12 wl_X12_312 wst_X12_gives zd_X12_gives (by decide) (by omega) rfl (Nat.le_of_ble_eq_true rfl) (fun r9 => ?_)
    refine r_istore_n 127 [(1, .int r9.1), (0, .ref (G.1 130))] dX12_restore_126 rfl rfl (by decide) rfl ?_
    refine r_aload_n 128 dX12_restore_127 rfl 1 rfl rfl ?_
    refine r_get 131 130 36 dX12_restore_128 rfl zl_130 (ce_130 G _) rfl inz12 (by decide) wf_X12_93 rfl ?_
    refine r_iload_n 132 dX12_restore_131 rfl 0 rfl rfl ?_
    refine r_aload_n 133 dX12_restore_132 rfl 1 rfl rfl ?_
    refine r_get 136 130 17 dX12_restore_133 rfl zl_130 (ce_130 G _) rfl inz12 (by decide) wf_X12_40 rfl ?_
    refine r_callSiw 139 3 [.ref (G.1 157), .int r9.1, .ref (G.1 141)] (st := []) dX12_restore_136 rfl rfl (fun r h => c_X12_gives G l (d - 1) (by omega) r9.2 157 520 r9.1 141 48 zl_157 (ce_157 G) zl_141 (ce_141 G) r h) wc_X12_gives wz_X12 wl_X12_312 wst_X12_gives zd_X12_gives (by decide) (by omega) rfl (Nat.le_of_ble_eq_true rfl) (fun r10 => ?_)
    refine r_istore_n 140 [(1, .int r10.1), (0, .ref (G.1 130))] dX12_restore_139 rfl rfl (by decide) rfl ?_
    refine r_aload_n 141 dX12_restore_140 rfl 1 rfl rfl ?_
    refine r_get 144 130 36 dX12_restore_141 rfl zl_130 (ce_130 G _) rfl inz12 (by decide) wf_X12_93 rfl ?_
    refine r_iload_n 145 dX12_restore_144 rfl 0 rfl rfl ?_
    refine r_aload_n 146 dX12_restore_145 rfl 1 rfl rfl ?_
    refine r_get 149 130 18 dX12_restore_146 rfl zl_130 (ce_130 G _) rfl inz12 (by decide) wf_X12_43 rfl ?_
    refine r_callSiw 152 3 [.ref (G.1 157), .int r10.1, .ref (G.1 142)] (st := []) dX12_restore_149 rfl rfl (fun r h => c_X12_gives G l (d - 1) (by omega) r10.2 157 520 r10.1 142 8 zl_157 (ce_157 G) zl_142 (ce_142 G) r h) wc_X12_gives wz_X12 wl_X12_312 wst_X12_gives zd_X12_gives (by decide) (by omega) rfl (Nat.le_of_ble_eq_true rfl) (fun r11 => ?_)
    refine r_istore_n 153 [(1, .int r11.1), (0, .ref (G.1 130))] dX12_restore_152 rfl rfl (by decide) rfl ?_
    refine r_aload_n 154 dX12_restore_153 rfl 1 rfl rfl ?_
    refine r_get 157 130 36 dX12_restore_154 rfl zl_130 (ce_130 G _) rfl inz12 (by decide) wf_X12_93 rfl ?_
    refine r_iload_n 158 dX12_restore_157 rfl 0 rfl rfl ?_
    refine r_aload_n 159 dX12_restore_158 rfl 1 rfl rfl ?_
    refine r_get 162 130 19 dX12_restore_159 rfl zl_130 (ce_130 G _) rfl inz12 (by decide) wf_X12_46 rfl ?_
    refine r_callSiw 165 3 [.ref (G.1 157), .int r11.1, .ref (G.1 143)] (st := []) dX12_restore_162 rfl rfl (fun r h => c_X12_gives G l (d - 1) (by omega) r11.2 157 520 r11.1 143 168 zl_157 (ce_157 G) zl_143 (ce_143 G) r h) wc_X12_gives wz_X12 wl_X12_312 wst_X12_gives zd_X12_gives (by decide) (by omega) rfl (Nat.le_of_ble_eq_true rfl) (fun r12 => ?_)
    refine r_istore_n 166 [(1, .int r12.1), (0, .ref (G.1 130))] dX12_restore_165 rfl rfl (by decide) rfl ?_
    refine r_aload_n 167 dX12_restore_166 rfl 1 rfl rfl ?_
    refine r_get 170 130 36 dX12_restore_167 rfl zl_130 (ce_130 G _) rfl inz12 (by decide) wf_X12_93 rfl ?_
    refine r_iload_n 171 dX12_restore_170 rfl 0 rfl rfl ?_
    refine r_aload_n 172 dX12_restore_171 rfl 1 rfl rfl ?_
    refine r_get 175 130 20 dX12_restore_172 rfl zl_130 (ce_130 G _) rfl inz12 (by decide) wf_X12_49 rfl ?_
    refine r_callSiw 178 3 [.ref (G.1 157), .int r12.1, .ref (G.1 144)] (st := []) dX12_restore_175 rfl rfl (fun r h => c_X12_gives G l (d - 1) (by omega) r12.2 157 520 r12.1 144 14 zl_157 (ce_157 G) zl_144 (ce_144 G) r h) wc_X12_gives wz_X12 wl_X12_312 wst_X12_gives zd_X12_gives (by decide) (by omega) rfl (Nat.le_of_ble_eq_true rfl) (fun r13 => ?_)
    refine r_istore_n 179 [(1, .int r13.1), (0, .ref (G.1 130))] dX12_restore_178 rfl rfl (by decide) rfl ?_
    refine r_aload_n 180 dX12_restore_179 rfl 1 rfl rfl ?_
    refine r_get 183 130 36 dX12_restore_180 rfl zl_130 (ce_130 G _) rfl inz12 (by decide) wf_X12_93 rfl ?_
    refine r_iload_n 184 dX12_restore_183 rfl 0 rfl rfl ?_
    refine r_aload_n 185 dX12_restore_184 rfl 1 rfl rfl ?_
    refine r_get 188 130 21 dX12_restore_185 rfl zl_130 (ce_130 G _) rfl inz12 (by decide) wf_X12_52 rfl ?_
    refine r_callSiw 191 3 [.ref (G.1 157), .int r13.1, .ref (G.1 145)] (st := []) dX12_restore_188 rfl rfl (fun r h => c_X12_gives G l (d - 1) (by omega) r13.2 157 520 r13.1 145 14 zl_157 (ce_157 G) zl_145 (ce_145 G) r h) wc_X12_gives wz_X12 wl_X12_312 wst_X12_gives zd_X12_gives (by decide) (by omega) rfl (Nat.le_of_ble_eq_true rfl) (fun r14 => ?_)
    refine r_istore_n 192 [(1, .int r14.1), (0, .ref (G.1 130))] dX12_restore_191 rfl rfl (by decide) rfl ?_
    refine r_aload_n 193 dX12_restore_192 rfl 1 rfl rfl ?_
    refine r_get 196 130 36 dX12_restore_193 rfl zl_130 (ce_130 G _) rfl inz12 (by decide) wf_X12_93 rfl ?_
    refine r_iload_n 197 dX12_restore_196 rfl 0 rfl rfl ?_
    refine r_aload_n 198 dX12_restore_197 rfl 1 rfl rfl ?_
    refine r_get 201 130 26 dX12_restore_198 rfl zl_130 (ce_130 G _) rfl inz12 (by decide) wf_X12_69 rfl ?_
    refine r_callSiw 204 3 [.ref (G.1 157), .int r14.1, .ref (G.1 149)] (st := []) dX12_restore_201 rfl rfl (fun r h => c_X12_gives G l (d - 1) (by omega) r14.2 157 520 r14.1 149 6 zl_157 (ce_157 G) zl_149 (ce_149 G) r h) wc_X12_gives wz_X12 wl_X12_312 wst_X12_gives zd_X12_gives (by decide) (by omega) rfl (Nat.le_of_ble_eq_true rfl) (fun r15 => ?_)
    refine r_istore_n 205 [(1, .int r15.1), (0, .ref (G.1 130))] dX12_restore_204 rfl rfl (by decide) rfl ?_
    refine r_aload_n 206 dX12_restore_205 rfl 1 rfl rfl ?_
    refine r_get 209 130 36 dX12_restore_206 rfl zl_130 (ce_130 G _) rfl inz12 (by decide) wf_X12_93 rfl ?_
    refine r_iload_n 210 dX12_restore_209 rfl 0 rfl rfl ?_
    refine r_aload_n 211 dX12_restore_210 rfl 1 rfl rfl ?_
    refine r_get 214 130 27 dX12_restore_211 rfl zl_130 (ce_130 G _) rfl inz12 (by decide) wf_X12_72 rfl ?_
    refine r_callSiw 217 3 [.ref (G.1 157), .int r15.1, .ref (G.1 150)] (st := []) dX12_restore_214 rfl rfl (fun r h => c_X12_gives G l (d - 1) (by omega) r15.2 157 520 r15.1 150 6 zl_157 (ce_157 G) zl_150 (ce_150 G) r h) wc_X12_gives wz_X12 wl_X12_312 wst_X12_gives zd_X12_gives (by decide) (by omega) rfl (Nat.le_of_ble_eq_true rfl) (fun r16 => ?_)
    refine r_istore_n 218 [(1, .int r16.1), (0, .ref (G.1 130))] dX12_restore_217 rfl rfl (by decide) rfl ?_
    refine r_aload_n 219 dX12_restore_218 rfl 1 rfl rfl ?_
    refine r_get 222 130 36 dX12_restore_219 rfl zl_130 (ce_130 G _) rfl inz12 (by decide) wf_X12_93 rfl ?_
    refine r_iload_n 223 dX12_restore_222 rfl 0 rfl rfl ?_
    refine r_aload_n 224 dX12_restore_223 rfl 1 rfl rfl ?_
    refine r_get 227 130 28 dX12_restore_224 rfl zl_130 (ce_130 G _) rfl inz12 (by decide) wf_X12_75 rfl ?_
    refine r_callSiw 230 3 [.ref (G.1 157), .int r16.1, .ref (G.1 151)] (st := []) dX12_restore_227 rfl rfl (fun r h => c_X12_gives G l (d - 1) (by omega) r16.2 157 520 r16.1 151 6 zl_157 (ce_157 G) zl_151 (ce_151 G) r h) wc_X12_gives wz_X12 wl_X12_312 wst_X12_gives zd_X12_gives (by decide) (by omega) rfl (Nat.le_of_ble_eq_true rfl) (fun r17 => ?_)
    refine r_istore_n 231 [(1, .int r17.1), (0, .ref (G.1 130))] dX12_restore_230 rfl rfl (by decide) rfl ?_
    refine r_aload_n 232 dX12_restore_231 rfl 1 rfl rfl ?_
    refine r_get 235 130 36 dX12_restore_232 rfl zl_130 (ce_130 G _) rfl inz12 (by decide) wf_X12_93 rfl ?_
    refine r_iload_n 236 dX12_restore_235 rfl 0 rfl rfl ?_
    refine r_aload_n 237 dX12_restore_236 rfl 1 rfl rfl ?_
    refine r_get 240 130 30 dX12_restore_237 rfl zl_130 (ce_130 G _) rfl inz12 (by decide) wf_X12_81 rfl ?_
    refine r_callSiw 243 3 [.ref (G.1 157), .int r17.1, .ref (G.1 153)] (st := []) dX12_restore_240 rfl rfl (fun r h => c_X12_gives G l (d - 1) (by omega) r17.2 157 520 r17.1 153 12 zl_157 (ce_157 G) zl_153 (ce_153 G) r h) wc_X12_gives wz_X12 wl_X12_312 wst_X12_gives zd_X12_gives (by decide) (by omega) rfl (Nat.le_of_ble_eq_true rfl) (fun r18 => ?_)
    refine r_istore_n 244 [(1, .int r18.1), (0, .ref (G.1 130))] dX12_restore_243 rfl rfl (by decide) rfl ?_
    refine r_aload_n 245 dX12_restore_244 rfl 1 rfl rfl ?_
    refine r_get 248 130 36 dX12_restore_245 rfl zl_130 (ce_130 G _) rfl inz12 (by decide) wf_X12_93 rfl ?_
    refine r_iload_n 249 dX12_restore_248 rfl 0 rfl rfl ?_
    refine r_aload_n 250 dX12_restore_249 rfl 1 rfl rfl ?_
    refine r_get 253 130 31 dX12_restore_250 rfl zl_130 (ce_130 G _) rfl inz12 (by decide) wf_X12_84 rfl ?_
    refine r_callSiw 256 3 [.ref (G.1 157), .int r18.1, .ref (G.1 154)] (st := []) dX12_restore_253 rfl rfl (fun r h => c_X12_gives G l (d - 1) (by omega) r18.2 157 520 r18.1 154 12 zl_157 (ce_157 G) zl_154 (ce_154 G) r h) wc_X12_gives wz_X12 wl_X12_312 wst_X12_gives zd_X12_gives (by decide) (by omega) rfl (Nat.le_of_ble_eq_true rfl) (fun r19 => ?_)
    refine r_istore_n 257 [(1, .int r19.1), (0, .ref (G.1 130))] dX12_restore_256 rfl rfl (by decide) rfl ?_
    refine r_aload_n 258 dX12_restore_257 rfl 1 rfl rfl ?_
    refine r_aload_n 259 dX12_restore_258 rfl 1 rfl rfl ?_
    refine r_get 262 130 36 dX12_restore_259 rfl zl_130 (ce_130 G _) rfl inz12 (by decide) wf_X12_93 rfl ?_
    refine r_iload_n 263 dX12_restore_262 rfl 0 rfl rfl ?_
    refine r_iald 264 157 520 dX12_restore_263 rfl zl_157 (ce_157 G _) ?_
    refine r_puti 267 130 0 dX12_restore_264 rfl zl_130 (ce_130 G _) rfl inz12 tyX12_ok nmX12 (by decide) wf_X12_108 rfl rfl (Nat.le_of_ble_eq_true rfl) rfl ?_
    refine r_topw (fun w20 => ?_)
    refine r_aload_n 268 dX12_restore_267 rfl 1 rfl rfl ?_
    refine r_aload_n 269 dX12_restore_268 rfl 1 rfl rfl ?_
    refine r_get 272 130 36 dX12_restore_269 rfl zl_130 (ce_130 G _) rfl inz12 (by decide) wf_X12_93 rfl ?_
    refine r_iload_n 273 dX12_restore_272 rfl 0 rfl rfl ?_
    refine r_iconst 274 dX12_restore_273 rfl zci_1 ?_
    refine r_iadd 275 dX12_restore_274 rfl ?_
    refine r_iald 276 157 520 dX12_restore_275 rfl zl_157 (ce_157 G _) ?_
    refine r_puti 279 130 2 dX12_restore_276 rfl zl_130 (ce_130 G _) rfl inz12 tyX12_ok nmX12 (by decide) wf_X12_115 rfl rfl (Nat.le_of_ble_eq_true rfl) rfl ?_
    refine r_topw (fun w21 => ?_)
    refine r_aload_n 280 dX12_restore_279 rfl 1 rfl rfl ?_
    refine r_aload_n 281 dX12_restore_280 rfl 1 rfl rfl ?_
    refine r_get 284 130 36 dX12_restore_281 rfl zl_130 (ce_130 G _) rfl inz12 (by decide) wf_X12_93 rfl ?_
    refine r_iload_n 285 dX12_restore_284 rfl 0 rfl rfl ?_
    refine r_iconst 286 dX12_restore_285 rfl zci_2 ?_
    refine r_iadd 287 dX12_restore_286 rfl ?_
    refine r_iald 288 157 520 dX12_restore_287 rfl zl_157 (ce_157 G _) ?_
    refine r_puti 291 130 10 dX12_restore_288 rfl zl_130 (ce_130 G _) rfl inz12 tyX12_ok nmX12 (by decide) wf_X12_172 rfl rfl (Nat.le_of_ble_eq_true rfl) rfl ?_
    refine r_topw (fun w22 => ?_)
    refine r_aload_n 292 dX12_restore_291 rfl 1 rfl rfl ?_
    refine r_aload_n 293 dX12_restore_292 rfl 1 rfl rfl ?_
    refine r_get 296 130 36 dX12_restore_293 rfl zl_130 (ce_130 G _) rfl inz12 (by decide) wf_X12_93 rfl ?_
    refine r_iload_n 297 dX12_restore_296 rfl 0 rfl rfl ?_
    refine r_iconst 298 dX12_restore_297 rfl zci_3 ?_
    refine r_iadd 299 dX12_restore_298 rfl ?_
    refine r_iald 300 157 520 dX12_restore_299 rfl zl_157 (ce_157 G _) ?_
    refine r_puti 303 130 16 dX12_restore_300 rfl zl_130 (ce_130 G _) rfl inz12 tyX12_ok nmX12 (by decide) wf_X12_175 rfl rfl (Nat.le_of_ble_eq_true rfl) rfl ?_
    refine r_topw (fun w23 => ?_)
    refine r_aload_n 304 dX12_restore_303 rfl 1 rfl rfl ?_
    refine r_aload_n 305 dX12_restore_304 rfl 1 rfl rfl ?_
    refine r_get 308 130 36 dX12_restore_305 rfl zl_130 (ce_130 G _) rfl inz12 (by decide) wf_X12_93 rfl ?_
    refine r_iload_n 309 dX12_restore_308 rfl 0 rfl rfl ?_
    refine r_iconst 310 dX12_restore_309 rfl zci_4 ?_
    refine r_iadd 311 dX12_restore_310 rfl ?_
    refine r_iald 312 157 520 dX12_restore_311 rfl zl_157 (ce_157 G _) ?_
    refine r_puti 315 130 25 dX12_restore_312 rfl zl_130 (ce_130 G _) rfl inz12 tyX12_ok nmX12 (by decide) wf_X12_65 rfl rfl (Nat.le_of_ble_eq_true rfl) rfl ?_
    refine r_topw (fun w24 => ?_)
    refine r_iconst 316 dX12_restore_315 rfl zci_1 ?_
    exact r_iret dX12_restore_316 rfl z_kiw
  · refine r_bipush 9 dX12_restore_7 rfl zcb_m4 ?_
    exact r_iret dX12_restore_9 rfl z_kiw
-- X12_sheet
def f_X12_sheet_L46 (a1 : Int32) (s5 : Int32 × ZW) : Option ((Int32 × ZW) ⊕ (ZW)) :=
  if (24 : Int32) ≤ s5.1 then
  some (.inr s5.2)
else
  if z_in (((24 : Int32) * a1) + s5.1) 96 then
    z_let (z_upI s5.2 160 (((24 : Int32) * a1) + s5.1).toNatClampNeg (0 : Int32)) fun w7 =>
    some (.inl (s5.1 + (1 : Int32), w7))
  else none
def f_X12_sheet (w : ZW) (a1 : Int32) (a2 : Int32) (a3 : Int32) : Option (Int32 × ZW) :=
  (f_X12_isSheet a1).bind fun r1 : Int32 =>
  if r1 = 0 then
  some ((-1 : Int32), w)
else
  (f_X12_isLane a2).bind fun r2 : Int32 =>
    if r2 = 0 then
    some ((-1 : Int32), w)
  else
    if a3 ≤ (24 : Int32) then
      if 0 ≤ a3 then
        if z_in a1 4 then
          z_let (z_upI w 158 a1.toNatClampNeg a2) fun w3 =>
          if z_in a1 4 then
          z_let (z_upI w3 159 a1.toNatClampNeg a3) fun w4 =>
          (z_iter (f_X12_sheet_L46 a1) z_fuel ((0 : Int32), w4)).bind (fun q6 : ZW =>
          some (a3, q6))
        else none
        else none
      else
        some ((-14 : Int32), w)
    else
      some ((-1 : Int32), w)
set_option maxHeartbeats 4000000 in
set_option maxRecDepth 100000 in
theorem c_X12_sheet (G : ZG) (l : Launch) (d : Nat) (hd : 3 ≤ d) (w : ZW) (a1 : Int32) (a2 : Int32) (a3 : Int32) : ∀ o, f_X12_sheet w a1 a2 a3 = some o → zM G l d yX12_sheet cX12_sheet 5 (some .int) [.ref (G.1 130), .int a1, .int a2, .int a3] w (some (.int o.1)) o.2 := by
  intro o ho
  refine zM.of [(0, .ref (G.1 130)), (1, .int a1), (2, .int a2), (3, .int a3)] (by decide) (Nat.le_of_ble_eq_true rfl) rfl ?_
  refine (?_ : zR G l d "LoveLocksModel" cX12_sheet 5 (some .int) (some (.int o.1)) o.2 (fun x => x = o) 0 [(0, .ref (G.1 130)), (1, .int a1), (2, .int a2), (3, .int a3)] [] w (f_X12_sheet w a1 a2 a3)) o ho rfl
  rw [f_X12_sheet]
  refine r_iload_n 1 dX12_sheet_0 rfl 1 rfl rfl ?_
  refine r_callSi 4 1 [.int a1] (st := []) dX12_sheet_1 rfl rfl (fun r h => c_X12_isSheet G l (d - 1) (by omega) w a1 r h) wc_X12_isSheet wz_X12 wl_X12_272 wst_X12_isSheet zd_X12_isSheet (by decide) (by omega) rfl (Nat.le_of_ble_eq_true rfl) (fun r1 => ?_)
  refine r_if_eq 20 7 dX12_sheet_4 (by decide) rfl ?_ ?_
  · refine r_iconst 21 dX12_sheet_20 rfl zci_m1 ?_
    exact r_iret dX12_sheet_21 rfl z_kiw
  · refine r_iload_n 8 dX12_sheet_7 rfl 2 rfl rfl ?_
    refine r_callSi 11 1 [.int a2] (st := []) dX12_sheet_8 rfl rfl (fun r h => c_X12_isLane G l (d - 1) (by omega) w a2 r h) wc_X12_isLane wz_X12 wl_X12_275 wst_X12_isLane zd_X12_isLane (by decide) (by omega) rfl (Nat.le_of_ble_eq_true rfl) (fun r2 => ?_)
    refine r_if_eq 20 14 dX12_sheet_11 (by decide) rfl ?_ ?_
    · refine r_iconst 21 dX12_sheet_20 rfl zci_m1 ?_
      exact r_iret dX12_sheet_21 rfl z_kiw
    · refine r_iload_n 15 dX12_sheet_14 rfl 3 rfl rfl ?_
      refine r_bipush 17 dX12_sheet_15 rfl zcb_24 ?_
      refine r_icmp_le 22 20 dX12_sheet_17 (by decide) rfl ?_ ?_
      · refine r_iload_n 23 dX12_sheet_22 rfl 3 rfl rfl ?_
        refine r_if_ge 29 26 dX12_sheet_23 (by decide) rfl ?_ ?_
        · refine r_aload_n 30 dX12_sheet_29 rfl 0 rfl rfl ?_
          refine r_get 33 130 38 dX12_sheet_30 rfl zl_130 (ce_130 G _) rfl inz12 (by decide) wf_X12_96 rfl ?_
          refine r_iload_n 34 dX12_sheet_33 rfl 1 rfl rfl ?_
          refine r_iload_n 35 dX12_sheet_34 rfl 2 rfl rfl ?_
          refine r_iast 36 158 4 dX12_sheet_35 rfl zl_158 (ce_158 G) ?_
          refine r_topw (fun w3 => ?_)
          refine r_aload_n 37 dX12_sheet_36 rfl 0 rfl rfl ?_
          refine r_get 40 130 39 dX12_sheet_37 rfl zl_130 (ce_130 G _) rfl inz12 (by decide) wf_X12_99 rfl ?_
          refine r_iload_n 41 dX12_sheet_40 rfl 1 rfl rfl ?_
          refine r_iload_n 42 dX12_sheet_41 rfl 3 rfl rfl ?_
          refine r_iast 43 159 4 dX12_sheet_42 rfl zl_159 (ce_159 G) ?_
          refine r_topw (fun w4 => ?_)
          refine r_iconst 44 dX12_sheet_43 rfl zci_0 ?_
          refine r_istore 46 [(4, .int (0 : Int32)), (0, .ref (G.1 130)), (1, .int a1), (2, .int a2), (3, .int a3)] dX12_sheet_44 rfl (by decide) rfl ?_
          refine r_loopE [1, 2, 4, 0] (fun s5 => [(0, .ref (G.1 130)), (1, .int a1), (3, .int a3), (4, .int s5.1)]) (fun s5 => s5.2) 72 (fun q6 => [(3, .int a3)]) (fun q6 => q6) rfl rfl (fun s5 => ?_) (fun q6 => ?_)
          · rw [f_X12_sheet_L46]
            refine r_iload 48 dX12_sheet_46 rfl 3 rfl ?_
            refine r_bipush 50 dX12_sheet_48 rfl zcb_24 ?_
            refine r_icmp_ge 72 53 dX12_sheet_50 (by decide) rfl ?_ ?_
            · exact r_leaf [2] (lv2 := [(3, .int a3)]) rfl (fun h => h)
            · refine r_aload_n 54 dX12_sheet_53 rfl 0 rfl rfl ?_
              refine r_get 57 130 40 dX12_sheet_54 rfl zl_130 (ce_130 G _) rfl inz12 (by decide) wf_X12_102 rfl ?_
              refine r_bipush 59 dX12_sheet_57 rfl zcb_24 ?_
              refine r_iload_n 60 dX12_sheet_59 rfl 1 rfl rfl ?_
              refine r_imul 61 dX12_sheet_60 rfl ?_
              refine r_iload 63 dX12_sheet_61 rfl 3 rfl ?_
              refine r_iadd 64 dX12_sheet_63 rfl ?_
              refine r_iconst 65 dX12_sheet_64 rfl zci_0 ?_
              refine r_iast 66 160 96 dX12_sheet_65 rfl zl_160 (ce_160 G) ?_
              refine r_topw (fun w7 => ?_)
              refine r_iinc 69 3 [(4, .int (s5.1 + (1 : Int32))), (0, .ref (G.1 130)), (1, .int a1), (3, .int a3)] dX12_sheet_66 rfl rfl zci_1 (by decide) rfl ?_
              refine r_goto 46 dX12_sheet_69 (by decide) ?_
              exact r_leaf [1, 2, 3, 0] (lv2 := [(0, .ref (G.1 130)), (1, .int a1), (3, .int a3), (4, .int (s5.1 + (1 : Int32)))]) rfl (fun h => h)
          · refine r_iload_n 73 dX12_sheet_72 rfl 0 rfl rfl ?_
            exact r_iret dX12_sheet_73 rfl z_kiw
        · refine r_bipush 28 dX12_sheet_26 rfl zcb_m14 ?_
          exact r_iret dX12_sheet_28 rfl z_kiw
      · refine r_iconst 21 dX12_sheet_20 rfl zci_m1 ?_
        exact r_iret dX12_sheet_21 rfl z_kiw
-- X12_drop
def f_X12_drop (w : ZW) (a1 : Int32) : Option (Int32 × ZW) :=
  (f_X12_isSheet a1).bind fun r1 : Int32 =>
  if r1 = 0 then
  some ((-1 : Int32), w)
else
  if z_in a1 4 then
    if 0 ≤ (w.1 158 a1.toNatClampNeg) then
    if z_in a1 4 then
      z_let (z_upI w 158 a1.toNatClampNeg (-1 : Int32)) fun w2 =>
      if z_in a1 4 then
      some (w2.1 159 a1.toNatClampNeg, w2)
    else none
    else none
  else
    some ((-11 : Int32), w)
  else none
set_option maxHeartbeats 4000000 in
set_option maxRecDepth 100000 in
theorem c_X12_drop (G : ZG) (l : Launch) (d : Nat) (hd : 3 ≤ d) (w : ZW) (a1 : Int32) : ∀ o, f_X12_drop w a1 = some o → zM G l d yX12_drop cX12_drop 2 (some .int) [.ref (G.1 130), .int a1] w (some (.int o.1)) o.2 := by
  intro o ho
  refine zM.of [(0, .ref (G.1 130)), (1, .int a1)] (by decide) (Nat.le_of_ble_eq_true rfl) rfl ?_
  refine (?_ : zR G l d "LoveLocksModel" cX12_drop 2 (some .int) (some (.int o.1)) o.2 (fun x => x = o) 0 [(0, .ref (G.1 130)), (1, .int a1)] [] w (f_X12_drop w a1)) o ho rfl
  rw [f_X12_drop]
  refine r_iload_n 1 dX12_drop_0 rfl 1 rfl rfl ?_
  refine r_callSi 4 1 [.int a1] (st := []) dX12_drop_1 rfl rfl (fun r h => c_X12_isSheet G l (d - 1) (by omega) w a1 r h) wc_X12_isSheet wz_X12 wl_X12_272 wst_X12_isSheet zd_X12_isSheet (by decide) (by omega) rfl (Nat.le_of_ble_eq_true rfl) (fun r1 => ?_)
  refine r_if_ne 9 7 dX12_drop_4 (by decide) rfl ?_ ?_
  · refine r_aload_n 10 dX12_drop_9 rfl 0 rfl rfl ?_
    refine r_get 13 130 38 dX12_drop_10 rfl zl_130 (ce_130 G _) rfl inz12 (by decide) wf_X12_96 rfl ?_
    refine r_iload_n 14 dX12_drop_13 rfl 1 rfl rfl ?_
    refine r_iald 15 158 4 dX12_drop_14 rfl zl_158 (ce_158 G _) ?_
    refine r_if_ge 21 18 dX12_drop_15 (by decide) rfl ?_ ?_
    · refine r_aload_n 22 dX12_drop_21 rfl 0 rfl rfl ?_
      refine r_get 25 130 38 dX12_drop_22 rfl zl_130 (ce_130 G _) rfl inz12 (by decide) wf_X12_96 rfl ?_
      refine r_iload_n 26 dX12_drop_25 rfl 1 rfl rfl ?_
      refine r_iconst 27 dX12_drop_26 rfl zci_m1 ?_
      refine r_iast 28 158 4 dX12_drop_27 rfl zl_158 (ce_158 G) ?_
      refine r_topw (fun w2 => ?_)
      refine r_aload_n 29 dX12_drop_28 rfl 0 rfl rfl ?_
      refine r_get 32 130 39 dX12_drop_29 rfl zl_130 (ce_130 G _) rfl inz12 (by decide) wf_X12_99 rfl ?_
      refine r_iload_n 33 dX12_drop_32 rfl 1 rfl rfl ?_
      refine r_iald 34 159 4 dX12_drop_33 rfl zl_159 (ce_159 G _) ?_
      exact r_iret dX12_drop_34 rfl z_kiw
    · refine r_bipush 20 dX12_drop_18 rfl zcb_m11 ?_
      exact r_iret dX12_drop_20 rfl z_kiw
  · refine r_iconst 8 dX12_drop_7 rfl zci_m1 ?_
    exact r_iret dX12_drop_8 rfl z_kiw
-- X12_item
def f_X12_item (w : ZW) (a1 : Int32) (a2 : Int32) (a3 : Int32) (a4 : Int32) : Option (Int32 × ZW) :=
  (f_X12_isSheet a1).bind fun r1 : Int32 =>
  if r1 = 0 then
  some ((-1 : Int32), w)
else
  (f_X12_isLane a2).bind fun r2 : Int32 =>
    if r2 = 0 then
    some ((-1 : Int32), w)
  else
    (f_X12_finds w a1 a2 a3 (1 : Int32)).bind fun r3 : Int32 =>
      if 0 ≤ r3 then
      if a2 = 0 then
        if z_in (((24 : Int32) * a1) + a3) 96 then
          z_let (z_upI w 160 (((24 : Int32) * a1) + a3).toNatClampNeg a4.toInt8.toInt32) fun w6 =>
          some ((1 : Int32), w6)
        else none
      else
        if a2 = (1 : Int32) then
          if z_in (((24 : Int32) * a1) + a3) 96 then
            z_let (z_upI w 160 (((24 : Int32) * a1) + a3).toNatClampNeg a4.toInt16.toInt32) fun w5 =>
            some ((1 : Int32), w5)
          else none
        else
          if z_in (((24 : Int32) * a1) + a3) 96 then
            z_let (z_upI w 160 (((24 : Int32) * a1) + a3).toNatClampNeg a4) fun w4 =>
            some ((1 : Int32), w4)
          else none
    else
      some (r3, w)
set_option maxHeartbeats 4000000 in
set_option maxRecDepth 100000 in
theorem c_X12_item (G : ZG) (l : Launch) (d : Nat) (hd : 3 ≤ d) (w : ZW) (a1 : Int32) (a2 : Int32) (a3 : Int32) (a4 : Int32) : ∀ o, f_X12_item w a1 a2 a3 a4 = some o → zM G l d yX12_item cX12_item 6 (some .int) [.ref (G.1 130), .int a1, .int a2, .int a3, .int a4] w (some (.int o.1)) o.2 := by
  intro o ho
  refine zM.of [(0, .ref (G.1 130)), (1, .int a1), (2, .int a2), (3, .int a3), (4, .int a4)] (by decide) (Nat.le_of_ble_eq_true rfl) rfl ?_
  refine (?_ : zR G l d "LoveLocksModel" cX12_item 6 (some .int) (some (.int o.1)) o.2 (fun x => x = o) 0 [(0, .ref (G.1 130)), (1, .int a1), (2, .int a2), (3, .int a3), (4, .int a4)] [] w (f_X12_item w a1 a2 a3 a4)) o ho rfl
  rw [f_X12_item]
  refine r_iload_n 1 dX12_item_0 rfl 1 rfl rfl ?_
  refine r_callSi 4 1 [.int a1] (st := []) dX12_item_1 rfl rfl (fun r h => c_X12_isSheet G l (d - 1) (by omega) w a1 r h) wc_X12_isSheet wz_X12 wl_X12_272 wst_X12_isSheet zd_X12_isSheet (by decide) (by omega) rfl (Nat.le_of_ble_eq_true rfl) (fun r1 => ?_)
  refine r_if_eq 14 7 dX12_item_4 (by decide) rfl ?_ ?_
  · refine r_iconst 15 dX12_item_14 rfl zci_m1 ?_
    exact r_iret dX12_item_15 rfl z_kiw
  · refine r_iload_n 8 dX12_item_7 rfl 2 rfl rfl ?_
    refine r_callSi 11 1 [.int a2] (st := []) dX12_item_8 rfl rfl (fun r h => c_X12_isLane G l (d - 1) (by omega) w a2 r h) wc_X12_isLane wz_X12 wl_X12_275 wst_X12_isLane zd_X12_isLane (by decide) (by omega) rfl (Nat.le_of_ble_eq_true rfl) (fun r2 => ?_)
    refine r_if_ne 16 14 dX12_item_11 (by decide) rfl ?_ ?_
    · refine r_aload_n 17 dX12_item_16 rfl 0 rfl rfl ?_
      refine r_iload_n 18 dX12_item_17 rfl 1 rfl rfl ?_
      refine r_iload_n 19 dX12_item_18 rfl 2 rfl rfl ?_
      refine r_iload_n 20 dX12_item_19 rfl 3 rfl rfl ?_
      refine r_iconst 21 dX12_item_20 rfl zci_1 ?_
      refine r_callVi 24 4 (ko := 130) [.int a1, .int a2, .int a3, .int (1 : Int32)] (st := []) dX12_item_21 rfl rfl (fun r h => c_X12_finds G l (d - 1) (by omega) w a1 a2 a3 (1 : Int32) r h) zl_130 (ce_130 G _) rfl rfl wc_X12_finds wz_X12 wl_X12_280 wi_X12_finds ws_X12_finds zd_X12_finds (by decide) (by omega) rfl (Nat.le_of_ble_eq_true rfl) (fun r3 => ?_)
      refine r_istore 26 [(5, .int r3), (0, .ref (G.1 130)), (1, .int a1), (2, .int a2), (3, .int a3), (4, .int a4)] dX12_item_24 rfl (by decide) rfl ?_
      refine r_iload 28 dX12_item_26 rfl 0 rfl ?_
      refine r_if_ge 34 31 dX12_item_28 (by decide) rfl ?_ ?_
      · refine r_aload_n 35 dX12_item_34 rfl 1 rfl rfl ?_
        refine r_get 38 130 40 dX12_item_35 rfl zl_130 (ce_130 G _) rfl inz12 (by decide) wf_X12_102 rfl ?_
        refine r_bipush 40 dX12_item_38 rfl zcb_24 ?_
        refine r_iload_n 41 dX12_item_40 rfl 2 rfl rfl ?_
        refine r_imul 42 dX12_item_41 rfl ?_
        refine r_iload_n 43 dX12_item_42 rfl 4 rfl rfl ?_
        refine r_iadd 44 dX12_item_43 rfl ?_
        refine r_iload_n 45 dX12_item_44 rfl 3 rfl rfl ?_
        refine r_if_ne 54 48 dX12_item_45 (by decide) rfl ?_ ?_
        · refine r_iload_n 55 dX12_item_54 rfl 3 rfl rfl ?_
          refine r_iconst 56 dX12_item_55 rfl zci_1 ?_
          refine r_icmp_ne 65 59 dX12_item_56 (by decide) rfl ?_ ?_
          · refine r_iload 67 dX12_item_65 rfl 5 rfl ?_
            refine r_iast 68 160 96 dX12_item_67 rfl zl_160 (ce_160 G) ?_
            refine r_topw (fun w4 => ?_)
            refine r_iconst 69 dX12_item_68 rfl zci_1 ?_
            exact r_iret dX12_item_69 rfl z_kiw
          · refine r_iload 61 dX12_item_59 rfl 5 rfl ?_
            refine r_i2s 62 dX12_item_61 rfl ?_
            refine r_goto 67 dX12_item_62 (by decide) ?_
            refine r_iast 68 160 96 dX12_item_67 rfl zl_160 (ce_160 G) ?_
            refine r_topw (fun w5 => ?_)
            refine r_iconst 69 dX12_item_68 rfl zci_1 ?_
            exact r_iret dX12_item_69 rfl z_kiw
        · refine r_iload 50 dX12_item_48 rfl 5 rfl ?_
          refine r_i2b 51 dX12_item_50 rfl ?_
          refine r_goto 67 dX12_item_51 (by decide) ?_
          refine r_iast 68 160 96 dX12_item_67 rfl zl_160 (ce_160 G) ?_
          refine r_topw (fun w6 => ?_)
          refine r_iconst 69 dX12_item_68 rfl zci_1 ?_
          exact r_iret dX12_item_69 rfl z_kiw
      · refine r_iload 33 dX12_item_31 rfl 0 rfl ?_
        exact r_iret dX12_item_33 rfl z_kiw
    · refine r_iconst 15 dX12_item_14 rfl zci_m1 ?_
      exact r_iret dX12_item_15 rfl z_kiw
-- X12_copy
def f_X12_copy_L101 (a5 : Int32) (a1 : Int32) (a2 : Int32) (s5 : Int32 × ZW) : Option ((Int32 × ZW) ⊕ (ZW)) :=
  if a5 ≤ s5.1 then
  some (.inr s5.2)
else
  if z_in ((((24 : Int32) * a1) + a2) + s5.1) 96 then
    if z_in s5.1 24 then
    z_let (z_upI s5.2 161 s5.1.toNatClampNeg (s5.2.1 160 ((((24 : Int32) * a1) + a2) + s5.1).toNatClampNeg)) fun w7 =>
    some (.inl (s5.1 + (1 : Int32), w7))
  else none
  else none
def f_X12_copy_L138 (a5 : Int32) (a3 : Int32) (a4 : Int32) (s8 : Int32 × ZW) : Option ((Int32 × ZW) ⊕ (ZW)) :=
  if a5 ≤ s8.1 then
  some (.inr s8.2)
else
  if z_in s8.1 24 then
    if z_in ((((24 : Int32) * a3) + a4) + s8.1) 96 then
    z_let (z_upI s8.2 160 ((((24 : Int32) * a3) + a4) + s8.1).toNatClampNeg (s8.2.1 161 s8.1.toNatClampNeg)) fun w10 =>
    some (.inl (s8.1 + (1 : Int32), w10))
  else none
  else none
def f_X12_copy (w : ZW) (a1 : Int32) (a2 : Int32) (a3 : Int32) (a4 : Int32) (a5 : Int32) : Option (Int32 × ZW) :=
  (f_X12_isSheet a1).bind fun r1 : Int32 =>
  if r1 = 0 then
  some ((-1 : Int32), w)
else
  (f_X12_isSheet a3).bind fun r2 : Int32 =>
    if r2 = 0 then
    some ((-1 : Int32), w)
  else
    if z_in a1 4 then
      if (w.1 158 a1.toNatClampNeg) < 0 then
      some ((-11 : Int32), w)
    else
      if z_in a3 4 then
        if 0 ≤ (w.1 158 a3.toNatClampNeg) then
        if z_in a1 4 then
          if z_in a3 4 then
          if (w.1 158 a1.toNatClampNeg) = (w.1 158 a3.toNatClampNeg) then
          if a5 < 0 then
            some ((-13 : Int32), w)
          else
            if z_in a1 4 then
              (f_X12_finds w a1 (w.1 158 a1.toNatClampNeg) a2 a5).bind fun r3 : Int32 =>
              if r3 < 0 then
              some ((-13 : Int32), w)
            else
              if z_in a3 4 then
                (f_X12_finds w a3 (w.1 158 a3.toNatClampNeg) a4 a5).bind fun r4 : Int32 =>
                if 0 ≤ r4 then
                (z_iter (f_X12_copy_L101 a5 a1 a2) z_fuel ((0 : Int32), w)).bind (fun q6 : ZW =>
                  (z_iter (f_X12_copy_L138 a5 a3 a4) z_fuel ((0 : Int32), q6)).bind (fun q9 : ZW =>
                  some (a5, q9)))
              else
                some ((-13 : Int32), w)
              else none
            else none
        else
          some ((-12 : Int32), w)
        else none
        else none
      else
        some ((-11 : Int32), w)
      else none
    else none
set_option maxHeartbeats 4000000 in
set_option maxRecDepth 100000 in
theorem c_X12_copy (G : ZG) (l : Launch) (d : Nat) (hd : 3 ≤ d) (w : ZW) (a1 : Int32) (a2 : Int32) (a3 : Int32) (a4 : Int32) (a5 : Int32) : ∀ o, f_X12_copy w a1 a2 a3 a4 a5 = some o → zM G l d yX12_copy cX12_copy 7 (some .int) [.ref (G.1 130), .int a1, .int a2, .int a3, .int a4, .int a5] w (some (.int o.1)) o.2 := by
  intro o ho
  refine zM.of [(0, .ref (G.1 130)), (1, .int a1), (2, .int a2), (3, .int a3), (4, .int a4), (5, .int a5)] (by decide) (Nat.le_of_ble_eq_true rfl) rfl ?_
  refine (?_ : zR G l d "LoveLocksModel" cX12_copy 7 (some .int) (some (.int o.1)) o.2 (fun x => x = o) 0 [(0, .ref (G.1 130)), (1, .int a1), (2, .int a2), (3, .int a3), (4, .int a4), (5, .int a5)] [] w (f_X12_copy w a1 a2 a3 a4 a5)) o ho rfl
  rw [f_X12_copy]
  refine r_iload_n 1 dX12_copy_0 rfl 1 rfl rfl ?_
  refine r_callSi 4 1 [.int a1] (st := []) dX12_copy_1 rfl rfl (fun r h => c_X12_isSheet G l (d - 1) (by omega) w a1 r h) wc_X12_isSheet wz_X12 wl_X12_272 wst_X12_isSheet zd_X12_isSheet (by decide) (by omega) rfl (Nat.le_of_ble_eq_true rfl) (fun r1 => ?_)
  refine r_if_eq 14 7 dX12_copy_4 (by decide) rfl ?_ ?_
  · refine r_iconst 15 dX12_copy_14 rfl zci_m1 ?_
    exact r_iret dX12_copy_15 rfl z_kiw
  · refine r_iload_n 8 dX12_copy_7 rfl 3 rfl rfl ?_
    refine r_callSi 11 1 [.int a3] (st := []) dX12_copy_8 rfl rfl (fun r h => c_X12_isSheet G l (d - 1) (by omega) w a3 r h) wc_X12_isSheet wz_X12 wl_X12_272 wst_X12_isSheet zd_X12_isSheet (by decide) (by omega) rfl (Nat.le_of_ble_eq_true rfl) (fun r2 => ?_)
    refine r_if_ne 16 14 dX12_copy_11 (by decide) rfl ?_ ?_
    · refine r_aload_n 17 dX12_copy_16 rfl 0 rfl rfl ?_
      refine r_get 20 130 38 dX12_copy_17 rfl zl_130 (ce_130 G _) rfl inz12 (by decide) wf_X12_96 rfl ?_
      refine r_iload_n 21 dX12_copy_20 rfl 1 rfl rfl ?_
      refine r_iald 22 158 4 dX12_copy_21 rfl zl_158 (ce_158 G _) ?_
      refine r_if_lt 34 25 dX12_copy_22 (by decide) rfl ?_ ?_
      · refine r_bipush 36 dX12_copy_34 rfl zcb_m11 ?_
        exact r_iret dX12_copy_36 rfl z_kiw
      · refine r_aload_n 26 dX12_copy_25 rfl 0 rfl rfl ?_
        refine r_get 29 130 38 dX12_copy_26 rfl zl_130 (ce_130 G _) rfl inz12 (by decide) wf_X12_96 rfl ?_
        refine r_iload_n 30 dX12_copy_29 rfl 3 rfl rfl ?_
        refine r_iald 31 158 4 dX12_copy_30 rfl zl_158 (ce_158 G _) ?_
        refine r_if_ge 37 34 dX12_copy_31 (by decide) rfl ?_ ?_
        · refine r_aload_n 38 dX12_copy_37 rfl 0 rfl rfl ?_
          refine r_get 41 130 38 dX12_copy_38 rfl zl_130 (ce_130 G _) rfl inz12 (by decide) wf_X12_96 rfl ?_
          refine r_iload_n 42 dX12_copy_41 rfl 1 rfl rfl ?_
          refine r_iald 43 158 4 dX12_copy_42 rfl zl_158 (ce_158 G _) ?_
          refine r_aload_n 44 dX12_copy_43 rfl 0 rfl rfl ?_
          refine r_get 47 130 38 dX12_copy_44 rfl zl_130 (ce_130 G _) rfl inz12 (by decide) wf_X12_96 rfl ?_
          refine r_iload_n 48 dX12_copy_47 rfl 3 rfl rfl ?_
          refine r_iald 49 158 4 dX12_copy_48 rfl zl_158 (ce_158 G _) ?_
          refine r_icmp_eq 55 52 dX12_copy_49 (by decide) rfl ?_ ?_
          · refine r_iload 57 dX12_copy_55 rfl 5 rfl ?_
            refine r_if_lt 95 60 dX12_copy_57 (by decide) rfl ?_ ?_
            · refine r_bipush 97 dX12_copy_95 rfl zcb_m13 ?_
              exact r_iret dX12_copy_97 rfl z_kiw
            · refine r_aload_n 61 dX12_copy_60 rfl 0 rfl rfl ?_
              refine r_iload_n 62 dX12_copy_61 rfl 1 rfl rfl ?_
              refine r_aload_n 63 dX12_copy_62 rfl 0 rfl rfl ?_
              refine r_get 66 130 38 dX12_copy_63 rfl zl_130 (ce_130 G _) rfl inz12 (by decide) wf_X12_96 rfl ?_
              refine r_iload_n 67 dX12_copy_66 rfl 1 rfl rfl ?_
              refine r_iald 68 158 4 dX12_copy_67 rfl zl_158 (ce_158 G _) ?_
              refine r_iload_n 69 dX12_copy_68 rfl 2 rfl rfl ?_
              refine r_iload 71 dX12_copy_69 rfl 5 rfl ?_
              refine r_callVi 74 4 (ko := 130) [.int a1, .int (w.1 158 a1.toNatClampNeg), .int a2, .int a5] (st := []) dX12_copy_71 rfl rfl (fun r h => c_X12_finds G l (d - 1) (by omega) w a1 (w.1 158 a1.toNatClampNeg) a2 a5 r h) zl_130 (ce_130 G _) rfl rfl wc_X12_finds wz_X12 wl_X12_280 wi_X12_finds ws_X12_finds zd_X12_finds (by decide) (by omega) rfl (Nat.le_of_ble_eq_true rfl) (fun r3 => ?_)
              refine r_if_lt 95 77 dX12_copy_74 (by decide) rfl ?_ ?_
              · refine r_bipush 97 dX12_copy_95 rfl zcb_m13 ?_
                exact r_iret dX12_copy_97 rfl z_kiw
              · refine r_aload_n 78 dX12_copy_77 rfl 0 rfl rfl ?_
                refine r_iload_n 79 dX12_copy_78 rfl 3 rfl rfl ?_
                refine r_aload_n 80 dX12_copy_79 rfl 0 rfl rfl ?_
                refine r_get 83 130 38 dX12_copy_80 rfl zl_130 (ce_130 G _) rfl inz12 (by decide) wf_X12_96 rfl ?_
                refine r_iload_n 84 dX12_copy_83 rfl 3 rfl rfl ?_
                refine r_iald 85 158 4 dX12_copy_84 rfl zl_158 (ce_158 G _) ?_
                refine r_iload 87 dX12_copy_85 rfl 4 rfl ?_
                refine r_iload 89 dX12_copy_87 rfl 5 rfl ?_
                refine r_callVi 92 4 (ko := 130) [.int a3, .int (w.1 158 a3.toNatClampNeg), .int a4, .int a5] (st := []) dX12_copy_89 rfl rfl (fun r h => c_X12_finds G l (d - 1) (by omega) w a3 (w.1 158 a3.toNatClampNeg) a4 a5 r h) zl_130 (ce_130 G _) rfl rfl wc_X12_finds wz_X12 wl_X12_280 wi_X12_finds ws_X12_finds zd_X12_finds (by decide) (by omega) rfl (Nat.le_of_ble_eq_true rfl) (fun r4 => ?_)
                refine r_if_ge 98 95 dX12_copy_92 (by decide) rfl ?_ ?_
                · refine r_iconst 99 dX12_copy_98 rfl zci_0 ?_
                  refine r_istore 101 [(6, .int (0 : Int32)), (0, .ref (G.1 130)), (1, .int a1), (2, .int a2), (3, .int a3), (4, .int a4), (5, .int a5)] dX12_copy_99 rfl (by decide) rfl ?_
                  refine r_loopE [1, 2, 3, 4, 5, 6, 0] (fun s5 => [(0, .ref (G.1 130)), (1, .int a1), (2, .int a2), (3, .int a3), (4, .int a4), (5, .int a5), (6, .int s5.1)]) (fun s5 => s5.2) 135 (fun q6 => [(0, .ref (G.1 130)), (3, .int a3), (4, .int a4), (5, .int a5)]) (fun q6 => q6) rfl rfl (fun s5 => ?_) (fun q6 => ?_)
                  · rw [f_X12_copy_L101]
                    refine r_iload 103 dX12_copy_101 rfl 6 rfl ?_
                    refine r_iload 105 dX12_copy_103 rfl 5 rfl ?_
                    refine r_icmp_ge 135 108 dX12_copy_105 (by decide) rfl ?_ ?_
                    · exact r_leaf [0, 3, 4, 5] (lv2 := [(0, .ref (G.1 130)), (3, .int a3), (4, .int a4), (5, .int a5)]) rfl (fun h => h)
                    · refine r_aload_n 109 dX12_copy_108 rfl 0 rfl rfl ?_
                      refine r_get 112 130 41 dX12_copy_109 rfl zl_130 (ce_130 G _) rfl inz12 (by decide) wf_X12_105 rfl ?_
                      refine r_iload 114 dX12_copy_112 rfl 6 rfl ?_
                      refine r_aload_n 115 dX12_copy_114 rfl 0 rfl rfl ?_
                      refine r_get 118 130 40 dX12_copy_115 rfl zl_130 (ce_130 G _) rfl inz12 (by decide) wf_X12_102 rfl ?_
                      refine r_bipush 120 dX12_copy_118 rfl zcb_24 ?_
                      refine r_iload_n 121 dX12_copy_120 rfl 1 rfl rfl ?_
                      refine r_imul 122 dX12_copy_121 rfl ?_
                      refine r_iload_n 123 dX12_copy_122 rfl 2 rfl rfl ?_
                      refine r_iadd 124 dX12_copy_123 rfl ?_
                      refine r_iload 126 dX12_copy_124 rfl 6 rfl ?_
                      refine r_iadd 127 dX12_copy_126 rfl ?_
                      refine r_iald 128 160 96 dX12_copy_127 rfl zl_160 (ce_160 G _) ?_
                      refine r_iast 129 161 24 dX12_copy_128 rfl zl_161 (ce_161 G) ?_
                      refine r_topw (fun w7 => ?_)
                      refine r_iinc 132 6 [(6, .int (s5.1 + (1 : Int32))), (0, .ref (G.1 130)), (1, .int a1), (2, .int a2), (3, .int a3), (4, .int a4), (5, .int a5)] dX12_copy_129 rfl rfl zci_1 (by decide) rfl ?_
                      refine r_goto 101 dX12_copy_132 (by decide) ?_
                      exact r_leaf [1, 2, 3, 4, 5, 6, 0] (lv2 := [(0, .ref (G.1 130)), (1, .int a1), (2, .int a2), (3, .int a3), (4, .int a4), (5, .int a5), (6, .int (s5.1 + (1 : Int32)))]) rfl (fun h => h)
                  · refine r_iconst 136 dX12_copy_135 rfl zci_0 ?_
                    refine r_istore 138 [(6, .int (0 : Int32)), (0, .ref (G.1 130)), (3, .int a3), (4, .int a4), (5, .int a5)] dX12_copy_136 rfl (by decide) rfl ?_
                    refine r_loopE [1, 2, 3, 4, 0] (fun s8 => [(0, .ref (G.1 130)), (3, .int a3), (4, .int a4), (5, .int a5), (6, .int s8.1)]) (fun s8 => s8.2) 173 (fun q9 => [(5, .int a5)]) (fun q9 => q9) rfl rfl (fun s8 => ?_) (fun q9 => ?_)
                    · rw [f_X12_copy_L138]
                      refine r_iload 140 dX12_copy_138 rfl 4 rfl ?_
                      refine r_iload 142 dX12_copy_140 rfl 3 rfl ?_
                      refine r_icmp_ge 173 145 dX12_copy_142 (by decide) rfl ?_ ?_
                      · exact r_leaf [3] (lv2 := [(5, .int a5)]) rfl (fun h => h)
                      · refine r_aload_n 146 dX12_copy_145 rfl 0 rfl rfl ?_
                        refine r_get 149 130 40 dX12_copy_146 rfl zl_130 (ce_130 G _) rfl inz12 (by decide) wf_X12_102 rfl ?_
                        refine r_bipush 151 dX12_copy_149 rfl zcb_24 ?_
                        refine r_iload_n 152 dX12_copy_151 rfl 1 rfl rfl ?_
                        refine r_imul 153 dX12_copy_152 rfl ?_
                        refine r_iload 155 dX12_copy_153 rfl 2 rfl ?_
                        refine r_iadd 156 dX12_copy_155 rfl ?_
                        refine r_iload 158 dX12_copy_156 rfl 4 rfl ?_
                        refine r_iadd 159 dX12_copy_158 rfl ?_
                        refine r_aload_n 160 dX12_copy_159 rfl 0 rfl rfl ?_
                        refine r_get 163 130 41 dX12_copy_160 rfl zl_130 (ce_130 G _) rfl inz12 (by decide) wf_X12_105 rfl ?_
                        refine r_iload 165 dX12_copy_163 rfl 4 rfl ?_
                        refine r_iald 166 161 24 dX12_copy_165 rfl zl_161 (ce_161 G _) ?_
                        refine r_iast 167 160 96 dX12_copy_166 rfl zl_160 (ce_160 G) ?_
                        refine r_topw (fun w10 => ?_)
                        refine r_iinc 170 4 [(6, .int (s8.1 + (1 : Int32))), (0, .ref (G.1 130)), (3, .int a3), (4, .int a4), (5, .int a5)] dX12_copy_167 rfl rfl zci_1 (by decide) rfl ?_
                        refine r_goto 138 dX12_copy_170 (by decide) ?_
                        exact r_leaf [1, 2, 3, 4, 0] (lv2 := [(0, .ref (G.1 130)), (3, .int a3), (4, .int a4), (5, .int a5), (6, .int (s8.1 + (1 : Int32)))]) rfl (fun h => h)
                    · refine r_iload 175 dX12_copy_173 rfl 0 rfl ?_
                      exact r_iret dX12_copy_175 rfl z_kiw
                · refine r_bipush 97 dX12_copy_95 rfl zcb_m13 ?_
                  exact r_iret dX12_copy_97 rfl z_kiw
          · refine r_bipush 54 dX12_copy_52 rfl zcb_m12 ?_
            exact r_iret dX12_copy_54 rfl z_kiw
        · refine r_bipush 36 dX12_copy_34 rfl zcb_m11 ?_
          exact r_iret dX12_copy_36 rfl z_kiw
    · refine r_iconst 15 dX12_copy_14 rfl zci_m1 ?_
      exact r_iret dX12_copy_15 rfl z_kiw
