def f_law2_L265 (v3_22 : Int32) (s1039 : Int32 × ZW) : Option ((Int32 × ZW) ⊕ (ZW)) :=
  if v3_22 ≤ s1039.1 then
  some (.inr s1039.2)
else
  (f_X11_told s1039.2 s1039.1 (6 : Int32)).bind fun r1041 : Int32 =>
    if z_in s1039.1 9 then
    z_let (z_upI s1039.2 131 s1039.1.toNatClampNeg r1041) fun w1042 =>
    some (.inl (s1039.1 + (1 : Int32), w1042))
  else none
def f_law2_J398 (w1054 : ZW) (x17_1060 : Int32) (k1061 : Int32) : Option ((Int32 × Int32) ⊕ (Int32)) :=
  if z_in (((6 : Int32) * x17_1060) + (5 : Int32)) 64 then
  z_let (w1054.1 130 (((6 : Int32) * x17_1060) + (5 : Int32)).toNatClampNeg) fun y1062 =>
  some (.inl (k1061, y1062))
else none
def f_law2_J393 (w1054 : ZW) (x17_1059 : Int32) : Option ((Int32 × Int32) ⊕ (Int32)) :=
  f_law2_J398 w1054 x17_1059 (1 : Int32)
def f_law2_L376 (s1055 : Int32 × Int32) (w1054 : ZW) (s1057 : Int32 × Int32) : Option ((Int32 × Int32) ⊕ (Int32)) :=
  if s1057.2 < 0 then
  some (.inr s1057.1)
else
  if s1057.1 = 0 then
    if s1057.2 = s1055.2 then
      f_law2_J393 w1054 s1057.2
    else
      f_law2_J398 w1054 s1057.2 (0 : Int32)
  else
    f_law2_J393 w1054 s1057.2
def f_law2_J438 (x15_1064 : Int32) (k1065 : Int32) (k1066 : Int32) (k1067 : Int32) : Option ((Int32 × Int32) ⊕ (Int32)) :=
  if k1067 = (k1066 + k1065) then
  some (.inl ((1 : Int32), x15_1064 + (1 : Int32)))
else
  some (.inl ((0 : Int32), x15_1064 + (1 : Int32)))
def f_law2_L358 (x3_1049 : Int32) (w1054 : ZW) (x11_1051 : Int32) (x12_1052 : Int32) (s1055 : Int32 × Int32) : Option ((Int32 × Int32) ⊕ (Int32)) :=
  if x3_1049 ≤ s1055.2 then
  some (.inr s1055.1)
else
  if s1055.1 = 0 then
    some (.inr s1055.1)
  else
    (z_iter (f_law2_L376 s1055 w1054) z_fuel ((0 : Int32), x11_1051)).bind (fun q1058 : Int32 =>
      (f_X11_told w1054 s1055.2 (6 : Int32)).bind fun r1063 : Int32 =>
      if z_in s1055.2 9 then
      if q1058 = 0 then
      f_law2_J438 s1055.2 (0 : Int32) (w1054.1 131 s1055.2.toNatClampNeg) r1063
    else
      f_law2_J438 s1055.2 x12_1052 (w1054.1 131 s1055.2.toNatClampNeg) r1063
    else none)
def f_law2_J580 (w1079 : ZW) (x16_1086 : Int32) (k1087 : Int32) (k1088 : Int32) (k1089 : Int32) : Option ((Int32 × Int32) ⊕ (Int32)) :=
  if (k1088 * k1087) < k1089 then
  some (.inl ((0 : Int32), x16_1086 + (1 : Int32)))
else
  (f_X11_told w1079 x16_1086 (5 : Int32)).bind fun r1090 : Int32 =>
    if r1090 < 0 then
    some (.inl ((1 : Int32), x16_1086 + (1 : Int32)))
  else
    (f_X11_told w1079 x16_1086 (5 : Int32)).bind fun r1091 : Int32 =>
      (f_X11_told w1079 r1091 (7 : Int32)).bind fun r1092 : Int32 =>
      if r1092 = 0 then
      some (.inl ((1 : Int32), x16_1086 + (1 : Int32)))
    else
      some (.inl ((0 : Int32), x16_1086 + (1 : Int32)))
def f_law2_L507 (x3_1076 : Int32) (w1079 : ZW) (s1080 : Int32 × Int32) : Option ((Int32 × Int32) ⊕ (Int32)) :=
  if x3_1076 < s1080.2 then
  some (.inr s1080.1)
else
  if s1080.1 = 0 then
    some (.inr s1080.1)
  else
    (f_X11_told w1079 s1080.2 (7 : Int32)).bind fun r1082 : Int32 =>
      if r1082 = (1 : Int32) then
      (f_X11_told w1079 s1080.2 (6 : Int32)).bind fun r1093 : Int32 =>
        if r1093 = 0 then
        some (.inl ((1 : Int32), s1080.2 + (1 : Int32)))
      else
        some (.inl ((0 : Int32), s1080.2 + (1 : Int32)))
    else
      (f_X11_told w1079 s1080.2 (6 : Int32)).bind fun r1083 : Int32 =>
        (f_X11_told w1079 s1080.2 (0 : Int32)).bind fun r1084 : Int32 =>
        (f_X11_told w1079 s1080.2 (1 : Int32)).bind fun r1085 : Int32 =>
        if r1085 = 0 then
        f_law2_J580 w1079 s1080.2 (5 : Int32) r1084 r1083
      else
        f_law2_J580 w1079 s1080.2 (9 : Int32) r1084 r1083
def f_law2_L626 (s1098 : Int32 × Int32 × ZW) : Option ((Int32 × Int32 × ZW) ⊕ (Int32 × ZW)) :=
  if (4 : Int32) ≤ s1098.2.1 then
  some (.inr (s1098.1, s1098.2.2))
else
  if s1098.1 = 0 then
    some (.inr (s1098.1, s1098.2.2))
  else
    (f_X11_type s1098.2.2 ((65 : Int64) + s1098.2.1.toInt64) (1 : Int32)).bind fun r1100 : Int32 × ZW =>
      if r1100.1 = (1 : Int32) then
      (f_X11_person r1100.2).bind fun r1101 : Int32 × ZW =>
        if r1101.1 = s1098.2.1 then
        some (.inl ((1 : Int32), s1098.2.1 + (1 : Int32), r1101.2))
      else
        some (.inl ((0 : Int32), s1098.2.1 + (1 : Int32), r1101.2))
    else
      some (.inl ((0 : Int32), s1098.2.1 + (1 : Int32), r1100.2))
def f_law2_J845 (x18_1128 : Int32) (x22_1129 : Int64) (k1130 : Int32) (w1131 : ZW) : Option ((Int32 × Int64 × Int32 × ZW) ⊕ (Int32 × Int64 × ZW)) :=
  if k1130 = 0 then
  some (.inl ((0 : Int32), x22_1129, x18_1128 + (1 : Int32), w1131))
else
  (f_X11_image w1131).bind fun r1132 : Int32 × ZW =>
    if r1132.1 = (1 : Int32) then
    (f_X11_type r1132.2 (4139839 : Int64) (3 : Int32)).bind fun r1133 : Int32 × ZW =>
      if r1133.1 = (3 : Int32) then
      (f_X11_letters r1133.2 x18_1128).bind fun r1134 : Int32 × ZW =>
        if r1134.1 = (2 : Int32) then
        (f_X11_ways r1134.2).bind fun r1135 : Int64 × ZW =>
          if (lg_cmp r1135.1 x22_1129) < 0 then
          some (.inl ((0 : Int32), x22_1129, x18_1128 + (1 : Int32), r1135.2))
        else
          (f_X11_readings r1135.2 x18_1128).bind fun r1136 : Int32 =>
            if r1136 = (6 : Int32) then
            (f_X11_restore r1135.2).bind fun r1137 : Int32 × ZW =>
              if r1137.1 = (1 : Int32) then
              (f_X11_ways r1137.2).bind fun r1138 : Int64 × ZW =>
                if (lg_cmp r1138.1 x22_1129) = 0 then
                some (.inl ((1 : Int32), x22_1129, x18_1128 + (1 : Int32), r1138.2))
              else
                some (.inl ((0 : Int32), x22_1129, x18_1128 + (1 : Int32), r1138.2))
            else
              some (.inl ((0 : Int32), x22_1129, x18_1128 + (1 : Int32), r1137.2))
          else
            some (.inl ((0 : Int32), x22_1129, x18_1128 + (1 : Int32), r1135.2))
      else
        some (.inl ((0 : Int32), x22_1129, x18_1128 + (1 : Int32), r1134.2))
    else
      some (.inl ((0 : Int32), x22_1129, x18_1128 + (1 : Int32), r1133.2))
  else
    some (.inl ((0 : Int32), x22_1129, x18_1128 + (1 : Int32), r1132.2))
def f_law2_J844 (x18_1125 : Int32) (x22_1126 : Int64) (w1127 : ZW) : Option ((Int32 × Int64 × Int32 × ZW) ⊕ (Int32 × Int64 × ZW)) :=
  f_law2_J845 x18_1125 x22_1126 (0 : Int32) w1127
def f_law2_J804 (x16_1120 : Int64) (x18_1121 : Int32) (k1122 : Int32) (w1123 : ZW) : Option ((Int32 × Int64 × Int32 × ZW) ⊕ (Int32 × Int64 × ZW)) :=
  (f_X11_ways w1123).bind fun r1124 : Int64 × ZW =>
  if k1122 = 0 then
  f_law2_J844 x18_1121 r1124.1 r1124.2
else
  (f_X11_readings r1124.2 x18_1121).bind fun r1139 : Int32 =>
    if 0 < (lg_cmp r1124.1 (x16_1120 * r1139.toInt64)) then
    f_law2_J844 x18_1121 r1124.1 r1124.2
  else
    if (lg_cmp r1124.1 (0 : Int64)) < 0 then
      f_law2_J844 x18_1121 r1124.1 r1124.2
    else
      f_law2_J845 x18_1121 r1124.1 (1 : Int32) r1124.2
def f_law2_J803 (x16_1117 : Int64) (x18_1118 : Int32) (w1119 : ZW) : Option ((Int32 × Int64 × Int32 × ZW) ⊕ (Int32 × Int64 × ZW)) :=
  f_law2_J804 x16_1117 x18_1118 (0 : Int32) w1119
def f_law2_J753 (x16_1111 : Int64) (x18_1112 : Int32) (x21_1113 : Int32) (k1114 : Int64) (w1115 : ZW) : Option ((Int32 × Int64 × Int32 × ZW) ⊕ (Int32 × Int64 × ZW)) :=
  (f_X11_type w1115 k1114 (1 : Int32)).bind fun r1116 : Int32 × ZW =>
  if r1116.1 = (1 : Int32) then
  (f_X11_type r1116.2 (43 : Int64) (1 : Int32)).bind fun r1140 : Int32 × ZW =>
    if r1140.1 = (2 : Int32) then
    (f_X11_type r1140.2 ((65 : Int64) + x21_1113.toInt64) (1 : Int32)).bind fun r1141 : Int32 × ZW =>
      if r1141.1 = (3 : Int32) then
      (f_X11_letters r1141.2 x18_1112).bind fun r1142 : Int32 × ZW =>
        if r1142.1 = (2 : Int32) then
        f_law2_J804 x16_1111 x18_1112 (1 : Int32) r1142.2
      else
        f_law2_J803 x16_1111 x18_1112 r1142.2
    else
      f_law2_J803 x16_1111 x18_1112 r1141.2
  else
    f_law2_J803 x16_1111 x18_1112 r1140.2
else
  f_law2_J803 x16_1111 x18_1112 r1116.2
def f_law2_L681 (x3_1102 : Int32) (xs : Nat → Int32) (len : Nat) (s1106 : Int32 × Int64 × Int32 × ZW) : Option ((Int32 × Int64 × Int32 × ZW) ⊕ (Int32 × Int64 × ZW)) :=
  if x3_1102 ≤ s1106.2.2.1 then
  some (.inr (s1106.1, s1106.2.1, s1106.2.2.2))
else
  if (4 : Int32) ≤ s1106.2.2.1 then
    some (.inr (s1106.1, s1106.2.1, s1106.2.2.2))
  else
    if s1106.1 = 0 then
      some (.inr (s1106.1, s1106.2.1, s1106.2.2.2))
    else
      (f_L_cell xs len ((9 : Int32) + s1106.2.2.1)).bind fun r1108 : Int32 =>
        z_let (r1108 - r1108 / (4 : Int32) * (4 : Int32)) fun y1109 =>
        z_let (((y1109 + (1 : Int32)) + ((r1108 >>> ((2 : Int32) &&& 31)) - (r1108 >>> ((2 : Int32) &&& 31)) / (3 : Int32) * (3 : Int32))) - ((y1109 + (1 : Int32)) + ((r1108 >>> ((2 : Int32) &&& 31)) - (r1108 >>> ((2 : Int32) &&& 31)) / (3 : Int32) * (3 : Int32))) / (4 : Int32) * (4 : Int32)) fun y1110 =>
        if ((r1108 >>> ((4 : Int32) &&& 31)) &&& (1 : Int32)) = 0 then
        f_law2_J753 s1106.2.1 s1106.2.2.1 y1110 (63 : Int64) s1106.2.2.2
      else
        f_law2_J753 s1106.2.1 s1106.2.2.1 y1110 ((65 : Int64) + y1109.toInt64) s1106.2.2.2
def f_law2_L980 (s1151 : Int32 × Int32) (r1150 : Int32 × ZW) (s1153 : Int32 × Int32) : Option ((Int32 × Int32) ⊕ (Int32)) :=
  if s1151.2 ≤ s1153.2 then
  some (.inr s1153.1)
else
  if s1153.1 = 0 then
    some (.inl ((0 : Int32), s1153.2 + (1 : Int32)))
  else
    if ((r1150.1 >>> (s1151.2 &&& 31)) &&& (1 : Int32)) = 0 then
      some (.inl ((1 : Int32), s1153.2 + (1 : Int32)))
    else
      if ((r1150.1 >>> (s1153.2 &&& 31)) &&& (1 : Int32)) = 0 then
        some (.inl ((1 : Int32), s1153.2 + (1 : Int32)))
      else
        if z_in (((6 : Int32) * s1151.2) + (2 : Int32)) 64 then
          if z_in (((6 : Int32) * s1153.2) + (2 : Int32)) 64 then
          if (r1150.2.1 130 (((6 : Int32) * s1151.2) + (2 : Int32)).toNatClampNeg) = (r1150.2.1 130 (((6 : Int32) * s1153.2) + (2 : Int32)).toNatClampNeg) then
          some (.inl ((0 : Int32), s1153.2 + (1 : Int32)))
        else
          some (.inl ((1 : Int32), s1153.2 + (1 : Int32)))
        else none
        else none
def f_law2_L971 (x3_1143 : Int32) (r1150 : Int32 × ZW) (s1151 : Int32 × Int32) : Option ((Int32 × Int32) ⊕ (Int32)) :=
  if x3_1143 ≤ s1151.2 then
  some (.inr s1151.1)
else
  (z_iter (f_law2_L980 s1151 r1150) z_fuel (s1151.1, (0 : Int32))).bind (fun q1154 : Int32 =>
    some (.inl (q1154, s1151.2 + (1 : Int32))))
def f_law2_L941 (x16_1146 : Int64) (x3_1143 : Int32) (s1148 : Int32 × Int32 × ZW) : Option ((Int32 × Int32 × ZW) ⊕ (Int32 × ZW)) :=
  if (4 : Int32) ≤ s1148.2.1 then
  some (.inr (s1148.1, s1148.2.2))
else
  if s1148.1 = 0 then
    some (.inr (s1148.1, s1148.2.2))
  else
    if (lg_cmp x16_1146 (0 : Int64)) ≤ 0 then
      some (.inr (s1148.1, s1148.2.2))
    else
      (f_X11_where s1148.2.2 s1148.2.1 (1 : Int32)).bind fun r1150 : Int32 × ZW =>
        (z_iter (f_law2_L971 x3_1143 r1150) z_fuel (s1148.1, (0 : Int32))).bind (fun q1152 : Int32 =>
        if q1152 = 0 then
        some (.inl ((0 : Int32), s1148.2.1 + (1 : Int32), r1150.2))
      else
        (f_X11_where r1150.2 s1148.2.1 (0 : Int32)).bind fun r1155 : Int32 × ZW =>
          if (r1150.1 &&& (r1155.1 ^^^ (-1 : Int32))) = 0 then
          some (.inl ((1 : Int32), s1148.2.1 + (1 : Int32), r1155.2))
        else
          some (.inl ((0 : Int32), s1148.2.1 + (1 : Int32), r1155.2)))
def f_law2_L1088 (x5_1158 : Int32) (xs : Nat → Int32) (len : Nat) (s1160 : Int32 × Int32 × ZW) : Option ((Int32 × Int32 × ZW) ⊕ (Int32 × ZW)) :=
  if x5_1158 ≤ s1160.2.1 then
  some (.inr (s1160.1, s1160.2.2))
else
  if s1160.1 = 0 then
    some (.inr (s1160.1, s1160.2.2))
  else
    (f_L_cell xs len (13 : Int32)).bind fun r1162 : Int32 =>
      (f_X11_risk s1160.2.2 s1160.2.1 (0 : Int32) ((r1162 >>> (((4 : Int32) * s1160.2.1) &&& 31)) - (r1162 >>> (((4 : Int32) * s1160.2.1) &&& 31)) / (100 : Int32) * (100 : Int32))).bind fun r1163 : Int32 × ZW =>
      if r1163.1 = 0 then
      (f_L_cell xs len (14 : Int32)).bind fun r1164 : Int32 =>
        (f_X11_risk r1163.2 s1160.2.1 (1 : Int32) ((r1164 >>> (((3 : Int32) * s1160.2.1) &&& 31)) - (r1164 >>> (((3 : Int32) * s1160.2.1) &&& 31)) / (10 : Int32) * (10 : Int32))).bind fun r1165 : Int32 × ZW =>
        if r1165.1 = 0 then
        some (.inl ((1 : Int32), s1160.2.1 + (1 : Int32), r1165.2))
      else
        some (.inl ((0 : Int32), s1160.2.1 + (1 : Int32), r1165.2))
    else
      some (.inl ((0 : Int32), s1160.2.1 + (1 : Int32), r1163.2))
def f_law2_L1264 (x3_1183 : Int32) (w1185 : ZW) (xs : Nat → Int32) (len : Nat) (s1186 : Int32 × Int32) : Option ((Int32 × Int32) ⊕ (Int32)) :=
  if x3_1183 ≤ s1186.2 then
  some (.inr s1186.1)
else
  (f_X11_told w1185 s1186.2 (7 : Int32)).bind fun r1188 : Int32 =>
    if r1188 = 0 then
    (f_L_cell xs len (15 : Int32)).bind fun r1189 : Int32 =>
      if ((r1189 >>> (s1186.2 &&& 31)) &&& (1 : Int32)) = (1 : Int32) then
      z_let (s1186.1 ||| ((1 : Int32) <<< (s1186.2 &&& 31))) fun y1190 =>
        some (.inl (y1190, s1186.2 + (1 : Int32)))
    else
      some (.inl (s1186.1 ||| (0 : Int32), s1186.2 + (1 : Int32)))
  else
    some (.inl (s1186.1 ||| (0 : Int32), s1186.2 + (1 : Int32)))
def f_law2_L1339 (k1194 : Int32) (s1196 : Int32 × Int32) : Option ((Int32 × Int32) ⊕ (Int32)) :=
  if k1194 ≤ s1196.2 then
  some (.inr s1196.1)
else
  some (.inl (s1196.1 * (2 : Int32), s1196.2 + (1 : Int32)))
def f_law2_J1331 (x4_1192 : Int32) (x20_1193 : Int32) (k1194 : Int32) (w1195 : ZW) : Option (Int32) :=
  (z_iter (f_law2_L1339 k1194) z_fuel ((1 : Int32), (0 : Int32))).bind (fun q1197 : Int32 =>
  if x4_1192 = 0 then
  some (0 : Int32)
else
  if k1194 < 0 then
    some (1 : Int32)
  else
    (f_L_size x20_1193).bind fun r1198 : Int32 =>
      if q1197 < r1198 then
      some (0 : Int32)
    else
      (f_L_size x20_1193).bind fun r1199 : Int32 =>
        if r1199 ≤ k1194 then
        some (0 : Int32)
      else
        some (1 : Int32))
def f_law2_J1256 (xs : Nat → Int32) (len : Nat) (x3_1183 : Int32) (k1184 : Int32) (w1185 : ZW) : Option (Int32) :=
  (z_iter (f_law2_L1264 x3_1183 w1185 xs len) z_fuel ((0 : Int32), (0 : Int32))).bind (fun q1187 : Int32 =>
  if q1187 = 0 then
  f_law2_J1331 k1184 q1187 (-4 : Int32) w1185
else
  (f_X11_needed w1185 q1187).bind fun r1191 : Int32 × ZW =>
    f_law2_J1331 k1184 q1187 r1191.1 r1191.2)
def f_law2_J1255 (xs : Nat → Int32) (len : Nat) (x3_1181 : Int32) (w1182 : ZW) : Option (Int32) :=
  f_law2_J1256 xs len x3_1181 (0 : Int32) w1182
def f_law2_J1218 (xs : Nat → Int32) (len : Nat) (x3_1177 : Int32) (k1178 : Int32) (w1179 : ZW) : Option (Int32) :=
  (f_X11_order w1179 (-1 : Int32)).bind fun r1180 : Int32 × ZW =>
  if k1178 = 0 then
  f_law2_J1255 xs len x3_1177 r1180.2
else
  (f_X11_nightly r1180.2 (3 : Int32)).bind fun r1200 : Int32 × ZW =>
    if r1200.1 = (2 : Int32) then
    (f_X11_order r1200.2 (-1 : Int32)).bind fun r1201 : Int32 × ZW =>
      if r1180.1 < r1201.1 then
      f_law2_J1255 xs len x3_1177 r1201.2
    else
      f_law2_J1256 xs len x3_1177 (1 : Int32) r1201.2
  else
    f_law2_J1255 xs len x3_1177 r1200.2
def f_law2_J1217 (xs : Nat → Int32) (len : Nat) (x3_1175 : Int32) (w1176 : ZW) : Option (Int32) :=
  f_law2_J1218 xs len x3_1175 (0 : Int32) w1176
def f_law2_J1180 (xs : Nat → Int32) (len : Nat) (x3_1171 : Int32) (k1172 : Int32) (w1173 : ZW) : Option (Int32) :=
  (f_X11_order w1173 (-1 : Int32)).bind fun r1174 : Int32 × ZW =>
  if k1172 = 0 then
  f_law2_J1217 xs len x3_1171 r1174.2
else
  (f_X11_nightly r1174.2 (2 : Int32)).bind fun r1202 : Int32 × ZW =>
    if r1202.1 = (1 : Int32) then
    (f_X11_order r1202.2 (-1 : Int32)).bind fun r1203 : Int32 × ZW =>
      if r1174.1 < r1203.1 then
      f_law2_J1217 xs len x3_1171 r1203.2
    else
      f_law2_J1218 xs len x3_1171 (1 : Int32) r1203.2
  else
    f_law2_J1217 xs len x3_1171 r1202.2
def f_law2_J1179 (xs : Nat → Int32) (len : Nat) (x3_1169 : Int32) (w1170 : ZW) : Option (Int32) :=
  f_law2_J1180 xs len x3_1169 (0 : Int32) w1170
def f_law2_J1161 (xs : Nat → Int32) (len : Nat) (x3_1166 : Int32) (x4_1167 : Int32) (w1168 : ZW) : Option (Int32) :=
  if x4_1167 = 0 then
  f_law2_J1179 xs len x3_1166 w1168
else
  (f_X11_nightly w1168 (1 : Int32)).bind fun r1204 : Int32 × ZW =>
    if r1204.1 = (2 : Int32) then
    f_law2_J1180 xs len x3_1166 (1 : Int32) r1204.2
  else
    f_law2_J1179 xs len x3_1166 r1204.2
def f_law2_J1085 (xs : Nat → Int32) (len : Nat) (x3_1156 : Int32) (x4_1157 : Int32) (x5_1158 : Int32) (w1159 : ZW) : Option (Int32) :=
  (z_iter (f_law2_L1088 x5_1158 xs len) z_fuel (x4_1157, (0 : Int32), w1159)).bind (fun q1161 : Int32 × ZW =>
  f_law2_J1161 xs len x3_1156 q1161.1 q1161.2)
def f_law2_J938 (xs : Nat → Int32) (len : Nat) (x3_1143 : Int32) (x4_1144 : Int32) (x5_1145 : Int32) (x16_1146 : Int64) (w1147 : ZW) : Option (Int32) :=
  (z_iter (f_law2_L941 x16_1146 x3_1143) z_fuel (x4_1144, (0 : Int32), w1147)).bind (fun q1149 : Int32 × ZW =>
  f_law2_J1085 xs len x3_1143 q1149.1 x5_1145 q1149.2)
def f_law2_J675 (xs : Nat → Int32) (len : Nat) (x3_1102 : Int32) (x4_1103 : Int32) (x5_1104 : Int32) (w1105 : ZW) : Option (Int32) :=
  (z_iter (f_law2_L681 x3_1102 xs len) z_fuel (x4_1103, (1 : Int64), (0 : Int32), w1105)).bind (fun q1107 : Int32 × Int64 × ZW =>
  f_law2_J938 xs len x3_1102 q1107.1 x5_1104 q1107.2.1 q1107.2.2)
def f_law2_J623 (xs : Nat → Int32) (len : Nat) (x3_1094 : Int32) (x4_1095 : Int32) (x5_1096 : Int32) (w1097 : ZW) : Option (Int32) :=
  (z_iter (f_law2_L626) z_fuel (x4_1095, (0 : Int32), w1097)).bind (fun q1099 : Int32 × ZW =>
  f_law2_J675 xs len x3_1094 q1099.1 x5_1096 q1099.2)
def f_law2_J502 (xs : Nat → Int32) (len : Nat) (x3_1076 : Int32) (x5_1077 : Int32) (k1078 : Int32) (w1079 : ZW) : Option (Int32) :=
  (z_iter (f_law2_L507 x3_1076 w1079) z_fuel (k1078, (0 : Int32))).bind (fun q1081 : Int32 =>
  f_law2_J623 xs len x3_1076 q1081 x5_1077 w1079)
def f_law2_J501 (xs : Nat → Int32) (len : Nat) (x3_1073 : Int32) (x5_1074 : Int32) (w1075 : ZW) : Option (Int32) :=
  f_law2_J502 xs len x3_1073 x5_1074 (0 : Int32) w1075
def f_law2_J455 (xs : Nat → Int32) (len : Nat) (x3_1068 : Int32) (x4_1069 : Int32) (x5_1070 : Int32) (w1071 : ZW) : Option (Int32) :=
  (f_X11_giveWay w1071).bind fun r1072 : Int32 × ZW =>
  if x4_1069 = 0 then
  f_law2_J501 xs len x3_1068 x5_1070 r1072.2
else
  if r1072.1 < 0 then
    f_law2_J501 xs len x3_1068 x5_1070 r1072.2
  else
    (f_X11_count r1072.2 (2 : Int32)).bind fun r1205 : Int32 =>
      if r1205 = r1072.1 then
      (f_X11_over r1072.2).bind fun r1206 : Int32 =>
        if r1206 = (-4 : Int32) then
        (f_X11_giveWay r1072.2).bind fun r1207 : Int32 × ZW =>
          if r1207.1 = 0 then
          f_law2_J502 xs len x3_1068 x5_1070 (1 : Int32) r1207.2
        else
          f_law2_J501 xs len x3_1068 x5_1070 r1207.2
      else
        f_law2_J501 xs len x3_1068 x5_1070 r1072.2
    else
      f_law2_J501 xs len x3_1068 x5_1070 r1072.2
def f_law2_J353 (xs : Nat → Int32) (len : Nat) (x3_1049 : Int32) (x5_1050 : Int32) (x11_1051 : Int32) (x12_1052 : Int32) (k1053 : Int32) (w1054 : ZW) : Option (Int32) :=
  (z_iter (f_law2_L358 x3_1049 w1054 x11_1051 x12_1052) z_fuel (k1053, (0 : Int32))).bind (fun q1056 : Int32 =>
  f_law2_J455 xs len x3_1049 q1056 x5_1050 w1054)
def f_law2_J352 (xs : Nat → Int32) (len : Nat) (x3_1044 : Int32) (x5_1045 : Int32) (x11_1046 : Int32) (x12_1047 : Int32) (w1048 : ZW) : Option (Int32) :=
  f_law2_J353 xs len x3_1044 x5_1045 x11_1046 x12_1047 (0 : Int32) w1048
def f_law2 (xs : Nat → Int32) (len : Nat) (w27 : ZW) (v3_22 : Int32) (v4_23 : Int32) (v5_24 : Int32) (v11_25 : Int32) (v12_26 : Int32) : Option Int32 :=
  (z_iter (f_law2_L265 v3_22) z_fuel ((0 : Int32), w27)).bind (fun q1040 : ZW =>
  if z_in (((6 : Int32) * v11_25) + (3 : Int32)) 64 then
  (f_X11_load q1040 (q1040.1 130 (((6 : Int32) * v11_25) + (3 : Int32)).toNatClampNeg) (3 : Int32)).bind fun r1043 : Int32 =>
  if v4_23 = 0 then
  f_law2_J352 xs len v3_22 v5_24 v11_25 v12_26 q1040
else
  (f_X11_hangOn q1040 v11_25 v12_26 (1 : Int32) (7 : Int32)).bind fun r1208 : Int32 × ZW =>
    if r1208.1 = v3_22 then
    if z_in (((6 : Int32) * v11_25) + (3 : Int32)) 64 then
      (f_X11_load r1208.2 (r1208.2.1 130 (((6 : Int32) * v11_25) + (3 : Int32)).toNatClampNeg) (3 : Int32)).bind fun r1209 : Int32 =>
      if r1209 = (r1043 + v12_26) then
      f_law2_J353 xs len v3_22 v5_24 v11_25 v12_26 (1 : Int32) r1208.2
    else
      f_law2_J352 xs len v3_22 v5_24 v11_25 v12_26 r1208.2
    else none
  else
    f_law2_J352 xs len v3_22 v5_24 v11_25 v12_26 r1208.2
else none)
set_option maxHeartbeats 40000000 in
set_option maxRecDepth 100000 in
theorem c_law2 (G : ZG) (l : Launch) (len : Nat) (xs : Nat → Int32) (zc zs : Nat) (hzc : zc ≤ 600000) (hzs : zs ≤ 7302250) (hxs : z_x G = xs) (hlen : z_l G = len) (he : z_e G = 1) (w27 : ZW) (v3_22 : Int32) (v4_23 : Int32) (v5_24 : Int32) (v11_25 : Int32) (v12_26 : Int32) (ho : f_law2 xs len w27 v3_22 v4_23 v5_24 v11_25 v12_26 = some 1) : zLA G l "LoveLocksLaw" cL_law zc zs 260 [(0, .ref (z_b G)), (1, .ref (G.1 0)), (2, .ref (G.1 130)), (3, .int v3_22), (4, .int v4_23), (5, .int v5_24), (11, .int v11_25), (12, .int v12_26)] [.ref (G.1 131)] w27 := by
  refine (?_ : zLR G l "LoveLocksLaw" cL_law zc zs (fun x : Int32 => x = 1) 260 [(0, .ref (z_b G)), (1, .ref (G.1 0)), (2, .ref (G.1 130)), (3, .int v3_22), (4, .int v4_23), (5, .int v5_24), (11, .int v11_25), (12, .int v12_26)] [.ref (G.1 131)] w27 (f_law2 xs len w27 v3_22 v4_23 v5_24 v11_25 v12_26)) 1 ho rfl
  rw [f_law2]
  have hJ1331 : ∀ (x4_1192 : Int32) (x20_1193 : Int32) (k1194 : Int32) (w1195 : ZW), zLR G l "LoveLocksLaw" cL_law zc zs (fun x : Int32 => x = 1) 1331 [(4, .int x4_1192), (20, .int x20_1193)] [.int k1194] w1195 (f_law2_J1331 x4_1192 x20_1193 k1194 w1195) := by
    intro x4_1192 x20_1193 k1194 w1195
    rw [f_law2_J1331]
    refine q_istore 1333 [(21, .int k1194), (4, .int x4_1192), (20, .int x20_1193)] dL_law_1331 rfl (by decide) rfl ?_
    refine q_iconst 1334 dL_law_1333 rfl zci_1 ?_
    refine q_istore 1336 [(22, .int (1 : Int32)), (21, .int k1194), (4, .int x4_1192), (20, .int x20_1193)] dL_law_1334 rfl (by decide) rfl ?_
    refine q_iconst 1337 dL_law_1336 rfl zci_0 ?_
    refine q_istore 1339 [(23, .int (0 : Int32)), (22, .int (1 : Int32)), (21, .int k1194), (4, .int x4_1192), (20, .int x20_1193)] dL_law_1337 rfl (by decide) rfl ?_
    refine q_loopE [3, 4, 2, 1, 0] (fun s1196 => [(4, .int x4_1192), (20, .int x20_1193), (21, .int k1194), (22, .int s1196.1), (23, .int s1196.2)]) (fun s1196 => w1195) 1358 (fun q1197 => [(4, .int x4_1192), (20, .int x20_1193), (21, .int k1194), (22, .int q1197)]) (fun q1197 => w1195) rfl rfl (fun s1196 => ?_) (fun q1197 => ?_)
    · rw [f_law2_L1339]
      refine q_iload 1341 dL_law_1339 rfl 4 rfl ?_
      refine q_iload 1343 dL_law_1341 rfl 2 rfl ?_
      refine q_icmp_ge 1358 1346 dL_law_1343 (by decide) rfl ?_ ?_
      · exact q_leaf [0, 1, 2, 3] (lv2 := [(4, .int x4_1192), (20, .int x20_1193), (21, .int k1194), (22, .int s1196.1)]) rfl (fun h => h)
      · refine q_iload 1348 dL_law_1346 rfl 3 rfl ?_
        refine q_iconst 1349 dL_law_1348 rfl zci_2 ?_
        refine q_imul 1350 dL_law_1349 rfl ?_
        refine q_istore 1352 [(22, .int (s1196.1 * (2 : Int32))), (4, .int x4_1192), (20, .int x20_1193), (21, .int k1194), (23, .int s1196.2)] dL_law_1350 rfl (by decide) rfl ?_
        refine q_iinc 1355 4 [(23, .int (s1196.2 + (1 : Int32))), (22, .int (s1196.1 * (2 : Int32))), (4, .int x4_1192), (20, .int x20_1193), (21, .int k1194)] dL_law_1352 rfl rfl zci_1 (by decide) rfl ?_
        refine q_goto 1339 dL_law_1355 (by decide) ?_
        exact q_leaf [2, 3, 4, 1, 0] (lv2 := [(4, .int x4_1192), (20, .int x20_1193), (21, .int k1194), (22, .int (s1196.1 * (2 : Int32))), (23, .int (s1196.2 + (1 : Int32)))]) rfl (fun h => h)
    · refine q_iload 1360 dL_law_1358 rfl 0 rfl ?_
      refine q_if_eq 1392 1363 dL_law_1360 (by decide) rfl ?_ ?_
      · refine q_iconst 1393 dL_law_1392 rfl zci_0 ?_
        exact q_iret rfl hzc hzs dL_law_1393 (fun h => h)
      · refine q_iload 1365 dL_law_1363 rfl 2 rfl ?_
        refine q_if_lt 1388 1368 dL_law_1365 (by decide) rfl ?_ ?_
        · refine q_iconst 1389 dL_law_1388 rfl zci_1 ?_
          refine q_goto 1393 dL_law_1389 (by decide) ?_
          exact q_iret rfl hzc hzs dL_law_1393 (fun h => h)
        · refine q_iload 1370 dL_law_1368 rfl 3 rfl ?_
          refine q_iload 1372 dL_law_1370 rfl 1 rfl ?_
          refine q_callSi 1375 1 [.int x20_1193] (st := [.int q1197]) hzc hzs dL_law_1372 rfl rfl (fun r h => c_L_size G l 60 (by decide) w1195 x20_1193 r h) wc_L_size wz_L wl_L_113 wst_L_size zd_L_size (by decide) (by decide) rfl (Nat.le_of_ble_eq_true rfl) (fun r1198 => ?_)
          refine q_icmp_lt 1392 1378 dL_law_1375 (by decide) rfl ?_ ?_
          · refine q_iconst 1393 dL_law_1392 rfl zci_0 ?_
            exact q_iret rfl hzc hzs dL_law_1393 (fun h => h)
          · refine q_iload 1380 dL_law_1378 rfl 2 rfl ?_
            refine q_iload 1382 dL_law_1380 rfl 1 rfl ?_
            refine q_callSi 1385 1 [.int x20_1193] (st := [.int k1194]) hzc hzs dL_law_1382 rfl rfl (fun r h => c_L_size G l 60 (by decide) w1195 x20_1193 r h) wc_L_size wz_L wl_L_113 wst_L_size zd_L_size (by decide) (by decide) rfl (Nat.le_of_ble_eq_true rfl) (fun r1199 => ?_)
            refine q_icmp_ge 1392 1388 dL_law_1385 (by decide) rfl ?_ ?_
            · refine q_iconst 1393 dL_law_1392 rfl zci_0 ?_
              exact q_iret rfl hzc hzs dL_law_1393 (fun h => h)
            · refine q_iconst 1389 dL_law_1388 rfl zci_1 ?_
              refine q_goto 1393 dL_law_1389 (by decide) ?_
              exact q_iret rfl hzc hzs dL_law_1393 (fun h => h)
  have hJ1256 : ∀ (x3_1183 : Int32) (k1184 : Int32) (w1185 : ZW), zLR G l "LoveLocksLaw" cL_law zc zs (fun x : Int32 => x = 1) 1256 [(0, .ref (z_b G)), (1, .ref (G.1 0)), (3, .int x3_1183)] [.int k1184] w1185 (f_law2_J1256 xs len x3_1183 k1184 w1185) := by
    intro x3_1183 k1184 w1185
    rw [f_law2_J1256]
    refine q_istore 1258 [(4, .int k1184), (0, .ref (z_b G)), (1, .ref (G.1 0)), (3, .int x3_1183)] dL_law_1256 rfl (by decide) rfl ?_
    refine q_iconst 1259 dL_law_1258 rfl zci_0 ?_
    refine q_istore 1261 [(20, .int (0 : Int32)), (4, .int k1184), (0, .ref (z_b G)), (1, .ref (G.1 0)), (3, .int x3_1183)] dL_law_1259 rfl (by decide) rfl ?_
    refine q_iconst 1262 dL_law_1261 rfl zci_0 ?_
    refine q_istore 1264 [(21, .int (0 : Int32)), (20, .int (0 : Int32)), (4, .int k1184), (0, .ref (z_b G)), (1, .ref (G.1 0)), (3, .int x3_1183)] dL_law_1262 rfl (by decide) rfl ?_
    refine q_loopE [3, 4, 5, 2, 1, 0] (fun s1186 => [(0, .ref (z_b G)), (1, .ref (G.1 0)), (3, .int x3_1183), (4, .int k1184), (20, .int s1186.1), (21, .int s1186.2)]) (fun s1186 => w1185) 1315 (fun q1187 => [(1, .ref (G.1 0)), (4, .int k1184), (20, .int q1187)]) (fun q1187 => w1185) rfl rfl (fun s1186 => ?_) (fun q1187 => ?_)
    · rw [f_law2_L1264]
      refine q_iload 1266 dL_law_1264 rfl 5 rfl ?_
      refine q_iload_n 1267 dL_law_1266 rfl 2 rfl rfl ?_
      refine q_icmp_ge 1315 1270 dL_law_1267 (by decide) rfl ?_ ?_
      · exact q_leaf [1, 3, 4] (lv2 := [(1, .ref (G.1 0)), (4, .int k1184), (20, .int s1186.1)]) rfl (fun h => h)
      · refine q_iload 1272 dL_law_1270 rfl 4 rfl ?_
        refine q_aload_n 1273 dL_law_1272 rfl 1 rfl rfl ?_
        refine q_iload 1275 dL_law_1273 rfl 5 rfl ?_
        refine q_bipush 1277 dL_law_1275 rfl zcb_7 ?_
        refine q_callVi 1280 2 (ko := 0) [.int s1186.2, .int (7 : Int32)] (st := [.int s1186.1]) hzc hzs dL_law_1277 rfl rfl (fun r h => c_X11_told G l 60 (by decide) w1185 s1186.2 (7 : Int32) r h) zl_0 (ce_0 G _) rfl rfl wc_X11_told wz_X11 wl_L_53 wi_X11_told ws_X11_told zd_X11_told (by decide) (by decide) rfl (Nat.le_of_ble_eq_true rfl) (fun r1188 => ?_)
        refine q_if_ne 1305 1283 dL_law_1280 (by decide) rfl ?_ ?_
        · refine q_iconst 1306 dL_law_1305 rfl zci_0 ?_
          refine q_ior 1307 dL_law_1306 rfl ?_
          refine q_istore 1309 [(20, .int (s1186.1 ||| (0 : Int32))), (0, .ref (z_b G)), (1, .ref (G.1 0)), (3, .int x3_1183), (4, .int k1184), (21, .int s1186.2)] dL_law_1307 rfl (by decide) rfl ?_
          refine q_iinc 1312 5 [(21, .int (s1186.2 + (1 : Int32))), (20, .int (s1186.1 ||| (0 : Int32))), (0, .ref (z_b G)), (1, .ref (G.1 0)), (3, .int x3_1183), (4, .int k1184)] dL_law_1309 rfl rfl zci_1 (by decide) rfl ?_
          refine q_goto 1264 dL_law_1312 (by decide) ?_
          exact q_leaf [2, 3, 4, 5, 1, 0] (lv2 := [(0, .ref (z_b G)), (1, .ref (G.1 0)), (3, .int x3_1183), (4, .int k1184), (20, .int (s1186.1 ||| (0 : Int32))), (21, .int (s1186.2 + (1 : Int32)))]) rfl (fun h => h)
        · refine q_aload_n 1284 dL_law_1283 rfl 0 rfl rfl ?_
          refine q_bipush 1286 dL_law_1284 rfl zcb_15 ?_
          refine q_callSi 1289 2 [.ref (z_b G), .int (15 : Int32)] (st := [.int s1186.1]) hzc hzs dL_law_1286 rfl rfl (fun r h => c_L_cell G l 60 (by decide) w1185 xs len (15 : Int32) hxs hlen r h) wc_L_cell wz_L wl_L_9 wst_L_cell zd_L_cell (by decide) (by decide) rfl (Nat.le_of_ble_eq_true rfl) (fun r1189 => ?_)
          refine q_iload 1291 dL_law_1289 rfl 5 rfl ?_
          refine q_ishr 1292 dL_law_1291 rfl ?_
          refine q_iconst 1293 dL_law_1292 rfl zci_1 ?_
          refine q_iand 1294 dL_law_1293 rfl ?_
          refine q_iconst 1295 dL_law_1294 rfl zci_1 ?_
          refine q_icmp_ne 1305 1298 dL_law_1295 (by decide) rfl ?_ ?_
          · refine q_iconst 1306 dL_law_1305 rfl zci_0 ?_
            refine q_ior 1307 dL_law_1306 rfl ?_
            refine q_istore 1309 [(20, .int (s1186.1 ||| (0 : Int32))), (0, .ref (z_b G)), (1, .ref (G.1 0)), (3, .int x3_1183), (4, .int k1184), (21, .int s1186.2)] dL_law_1307 rfl (by decide) rfl ?_
            refine q_iinc 1312 5 [(21, .int (s1186.2 + (1 : Int32))), (20, .int (s1186.1 ||| (0 : Int32))), (0, .ref (z_b G)), (1, .ref (G.1 0)), (3, .int x3_1183), (4, .int k1184)] dL_law_1309 rfl rfl zci_1 (by decide) rfl ?_
            refine q_goto 1264 dL_law_1312 (by decide) ?_
            exact q_leaf [2, 3, 4, 5, 1, 0] (lv2 := [(0, .ref (z_b G)), (1, .ref (G.1 0)), (3, .int x3_1183), (4, .int k1184), (20, .int (s1186.1 ||| (0 : Int32))), (21, .int (s1186.2 + (1 : Int32)))]) rfl (fun h => h)
          · refine q_iconst 1299 dL_law_1298 rfl zci_1 ?_
            refine q_iload 1301 dL_law_1299 rfl 5 rfl ?_
            refine q_ishl 1302 dL_law_1301 rfl ?_
            refine q_goto 1306 dL_law_1302 (by decide) ?_
            refine q_ior 1307 dL_law_1306 rfl ?_
            refine q_topi (fun y1190 => ?_)
            refine q_istore 1309 [(20, .int y1190), (0, .ref (z_b G)), (1, .ref (G.1 0)), (3, .int x3_1183), (4, .int k1184), (21, .int s1186.2)] dL_law_1307 rfl (by decide) rfl ?_
            refine q_iinc 1312 5 [(21, .int (s1186.2 + (1 : Int32))), (20, .int y1190), (0, .ref (z_b G)), (1, .ref (G.1 0)), (3, .int x3_1183), (4, .int k1184)] dL_law_1309 rfl rfl zci_1 (by decide) rfl ?_
            refine q_goto 1264 dL_law_1312 (by decide) ?_
            exact q_leaf [2, 3, 4, 5, 1, 0] (lv2 := [(0, .ref (z_b G)), (1, .ref (G.1 0)), (3, .int x3_1183), (4, .int k1184), (20, .int y1190), (21, .int (s1186.2 + (1 : Int32)))]) rfl (fun h => h)
    · refine q_iload 1317 dL_law_1315 rfl 2 rfl ?_
      refine q_if_ne 1325 1320 dL_law_1317 (by decide) rfl ?_ ?_
      · refine q_aload_n 1326 dL_law_1325 rfl 0 rfl rfl ?_
        refine q_iload 1328 dL_law_1326 rfl 2 rfl ?_
        refine q_callViw 1331 1 (ko := 0) [.int q1187] (st := []) hzc hzs dL_law_1328 rfl rfl (fun r h => c_X11_needed G l 60 (by decide) w1185 q1187 r h) zl_0 (ce_0 G _) rfl rfl wc_X11_needed wz_X11 wl_L_110 wi_X11_needed ws_X11_needed zd_X11_needed (by decide) (by decide) rfl (Nat.le_of_ble_eq_true rfl) (fun r1191 => ?_)
        exact q_sub [1, 2] (lv2 := [(4, .int k1184), (20, .int q1187)]) rfl (hJ1331 k1184 q1187 r1191.1 r1191.2)
      · refine q_bipush 1322 dL_law_1320 rfl zcb_m4 ?_
        refine q_goto 1331 dL_law_1322 (by decide) ?_
        exact q_sub [1, 2] (lv2 := [(4, .int k1184), (20, .int q1187)]) rfl (hJ1331 k1184 q1187 (-4 : Int32) w1185)
  have hJ1255 : ∀ (x3_1181 : Int32) (w1182 : ZW), zLR G l "LoveLocksLaw" cL_law zc zs (fun x : Int32 => x = 1) 1255 [(0, .ref (z_b G)), (1, .ref (G.1 0)), (3, .int x3_1181)] [] w1182 (f_law2_J1255 xs len x3_1181 w1182) := by
    intro x3_1181 w1182
    rw [f_law2_J1255]
    refine q_iconst 1256 dL_law_1255 rfl zci_0 ?_
    exact q_sub [0, 1, 2] (lv2 := [(0, .ref (z_b G)), (1, .ref (G.1 0)), (3, .int x3_1181)]) rfl (hJ1256 x3_1181 (0 : Int32) w1182)
  have hJ1218 : ∀ (x3_1177 : Int32) (k1178 : Int32) (w1179 : ZW), zLR G l "LoveLocksLaw" cL_law zc zs (fun x : Int32 => x = 1) 1218 [(0, .ref (z_b G)), (1, .ref (G.1 0)), (3, .int x3_1177)] [.int k1178] w1179 (f_law2_J1218 xs len x3_1177 k1178 w1179) := by
    intro x3_1177 k1178 w1179
    rw [f_law2_J1218]
    refine q_istore 1220 [(4, .int k1178), (0, .ref (z_b G)), (1, .ref (G.1 0)), (3, .int x3_1177)] dL_law_1218 rfl (by decide) rfl ?_
    refine q_aload_n 1221 dL_law_1220 rfl 2 rfl rfl ?_
    refine q_iconst 1222 dL_law_1221 rfl zci_m1 ?_
    refine q_callViw 1225 1 (ko := 0) [.int (-1 : Int32)] (st := []) hzc hzs dL_law_1222 rfl rfl (fun r h => c_X11_order G l 60 (by decide) w1179 (-1 : Int32) r h) zl_0 (ce_0 G _) rfl rfl wc_X11_order wz_X11 wl_L_107 wi_X11_order ws_X11_order zd_X11_order (by decide) (by decide) rfl (Nat.le_of_ble_eq_true rfl) (fun r1180 => ?_)
    refine q_istore 1227 [(19, .int r1180.1), (4, .int k1178), (0, .ref (z_b G)), (1, .ref (G.1 0)), (3, .int x3_1177)] dL_law_1225 rfl (by decide) rfl ?_
    refine q_iload 1229 dL_law_1227 rfl 1 rfl ?_
    refine q_if_eq 1255 1232 dL_law_1229 (by decide) rfl ?_ ?_
    · exact q_sub [2, 3, 4] (lv2 := [(0, .ref (z_b G)), (1, .ref (G.1 0)), (3, .int x3_1177)]) rfl (hJ1255 x3_1177 r1180.2)
    · refine q_aload_n 1233 dL_law_1232 rfl 3 rfl rfl ?_
      refine q_iconst 1234 dL_law_1233 rfl zci_3 ?_
      refine q_callViw 1237 1 (ko := 0) [.int (3 : Int32)] (st := []) hzc hzs dL_law_1234 rfl rfl (fun r h => c_X11_nightly G l 60 (by decide) r1180.2 (3 : Int32) r h) zl_0 (ce_0 G _) rfl rfl wc_X11_nightly wz_X11 wl_L_104 wi_X11_nightly ws_X11_nightly zd_X11_nightly (by decide) (by decide) rfl (Nat.le_of_ble_eq_true rfl) (fun r1200 => ?_)
      refine q_iconst 1238 dL_law_1237 rfl zci_2 ?_
      refine q_icmp_ne 1255 1241 dL_law_1238 (by decide) rfl ?_ ?_
      · exact q_sub [2, 3, 4] (lv2 := [(0, .ref (z_b G)), (1, .ref (G.1 0)), (3, .int x3_1177)]) rfl (hJ1255 x3_1177 r1200.2)
      · refine q_aload_n 1242 dL_law_1241 rfl 3 rfl rfl ?_
        refine q_iconst 1243 dL_law_1242 rfl zci_m1 ?_
        refine q_callViw 1246 1 (ko := 0) [.int (-1 : Int32)] (st := []) hzc hzs dL_law_1243 rfl rfl (fun r h => c_X11_order G l 60 (by decide) r1200.2 (-1 : Int32) r h) zl_0 (ce_0 G _) rfl rfl wc_X11_order wz_X11 wl_L_107 wi_X11_order ws_X11_order zd_X11_order (by decide) (by decide) rfl (Nat.le_of_ble_eq_true rfl) (fun r1201 => ?_)
        refine q_iload 1248 dL_law_1246 rfl 0 rfl ?_
        refine q_icmp_gt 1255 1251 dL_law_1248 (by decide) rfl ?_ ?_
        · exact q_sub [2, 3, 4] (lv2 := [(0, .ref (z_b G)), (1, .ref (G.1 0)), (3, .int x3_1177)]) rfl (hJ1255 x3_1177 r1201.2)
        · refine q_iconst 1252 dL_law_1251 rfl zci_1 ?_
          refine q_goto 1256 dL_law_1252 (by decide) ?_
          exact q_sub [2, 3, 4] (lv2 := [(0, .ref (z_b G)), (1, .ref (G.1 0)), (3, .int x3_1177)]) rfl (hJ1256 x3_1177 (1 : Int32) r1201.2)
  have hJ1217 : ∀ (x3_1175 : Int32) (w1176 : ZW), zLR G l "LoveLocksLaw" cL_law zc zs (fun x : Int32 => x = 1) 1217 [(0, .ref (z_b G)), (1, .ref (G.1 0)), (3, .int x3_1175)] [] w1176 (f_law2_J1217 xs len x3_1175 w1176) := by
    intro x3_1175 w1176
    rw [f_law2_J1217]
    refine q_iconst 1218 dL_law_1217 rfl zci_0 ?_
    exact q_sub [0, 1, 2] (lv2 := [(0, .ref (z_b G)), (1, .ref (G.1 0)), (3, .int x3_1175)]) rfl (hJ1218 x3_1175 (0 : Int32) w1176)
  have hJ1180 : ∀ (x3_1171 : Int32) (k1172 : Int32) (w1173 : ZW), zLR G l "LoveLocksLaw" cL_law zc zs (fun x : Int32 => x = 1) 1180 [(0, .ref (z_b G)), (1, .ref (G.1 0)), (3, .int x3_1171)] [.int k1172] w1173 (f_law2_J1180 xs len x3_1171 k1172 w1173) := by
    intro x3_1171 k1172 w1173
    rw [f_law2_J1180]
    refine q_istore 1182 [(4, .int k1172), (0, .ref (z_b G)), (1, .ref (G.1 0)), (3, .int x3_1171)] dL_law_1180 rfl (by decide) rfl ?_
    refine q_aload_n 1183 dL_law_1182 rfl 2 rfl rfl ?_
    refine q_iconst 1184 dL_law_1183 rfl zci_m1 ?_
    refine q_callViw 1187 1 (ko := 0) [.int (-1 : Int32)] (st := []) hzc hzs dL_law_1184 rfl rfl (fun r h => c_X11_order G l 60 (by decide) w1173 (-1 : Int32) r h) zl_0 (ce_0 G _) rfl rfl wc_X11_order wz_X11 wl_L_107 wi_X11_order ws_X11_order zd_X11_order (by decide) (by decide) rfl (Nat.le_of_ble_eq_true rfl) (fun r1174 => ?_)
    refine q_istore 1189 [(18, .int r1174.1), (4, .int k1172), (0, .ref (z_b G)), (1, .ref (G.1 0)), (3, .int x3_1171)] dL_law_1187 rfl (by decide) rfl ?_
    refine q_iload 1191 dL_law_1189 rfl 1 rfl ?_
    refine q_if_eq 1217 1194 dL_law_1191 (by decide) rfl ?_ ?_
    · exact q_sub [2, 3, 4] (lv2 := [(0, .ref (z_b G)), (1, .ref (G.1 0)), (3, .int x3_1171)]) rfl (hJ1217 x3_1171 r1174.2)
    · refine q_aload_n 1195 dL_law_1194 rfl 3 rfl rfl ?_
      refine q_iconst 1196 dL_law_1195 rfl zci_2 ?_
      refine q_callViw 1199 1 (ko := 0) [.int (2 : Int32)] (st := []) hzc hzs dL_law_1196 rfl rfl (fun r h => c_X11_nightly G l 60 (by decide) r1174.2 (2 : Int32) r h) zl_0 (ce_0 G _) rfl rfl wc_X11_nightly wz_X11 wl_L_104 wi_X11_nightly ws_X11_nightly zd_X11_nightly (by decide) (by decide) rfl (Nat.le_of_ble_eq_true rfl) (fun r1202 => ?_)
      refine q_iconst 1200 dL_law_1199 rfl zci_1 ?_
      refine q_icmp_ne 1217 1203 dL_law_1200 (by decide) rfl ?_ ?_
      · exact q_sub [2, 3, 4] (lv2 := [(0, .ref (z_b G)), (1, .ref (G.1 0)), (3, .int x3_1171)]) rfl (hJ1217 x3_1171 r1202.2)
      · refine q_aload_n 1204 dL_law_1203 rfl 3 rfl rfl ?_
        refine q_iconst 1205 dL_law_1204 rfl zci_m1 ?_
        refine q_callViw 1208 1 (ko := 0) [.int (-1 : Int32)] (st := []) hzc hzs dL_law_1205 rfl rfl (fun r h => c_X11_order G l 60 (by decide) r1202.2 (-1 : Int32) r h) zl_0 (ce_0 G _) rfl rfl wc_X11_order wz_X11 wl_L_107 wi_X11_order ws_X11_order zd_X11_order (by decide) (by decide) rfl (Nat.le_of_ble_eq_true rfl) (fun r1203 => ?_)
        refine q_iload 1210 dL_law_1208 rfl 0 rfl ?_
        refine q_icmp_gt 1217 1213 dL_law_1210 (by decide) rfl ?_ ?_
        · exact q_sub [2, 3, 4] (lv2 := [(0, .ref (z_b G)), (1, .ref (G.1 0)), (3, .int x3_1171)]) rfl (hJ1217 x3_1171 r1203.2)
        · refine q_iconst 1214 dL_law_1213 rfl zci_1 ?_
          refine q_goto 1218 dL_law_1214 (by decide) ?_
          exact q_sub [2, 3, 4] (lv2 := [(0, .ref (z_b G)), (1, .ref (G.1 0)), (3, .int x3_1171)]) rfl (hJ1218 x3_1171 (1 : Int32) r1203.2)
  have hJ1179 : ∀ (x3_1169 : Int32) (w1170 : ZW), zLR G l "LoveLocksLaw" cL_law zc zs (fun x : Int32 => x = 1) 1179 [(0, .ref (z_b G)), (1, .ref (G.1 0)), (3, .int x3_1169)] [] w1170 (f_law2_J1179 xs len x3_1169 w1170) := by
    intro x3_1169 w1170
    rw [f_law2_J1179]
    refine q_iconst 1180 dL_law_1179 rfl zci_0 ?_
    exact q_sub [0, 1, 2] (lv2 := [(0, .ref (z_b G)), (1, .ref (G.1 0)), (3, .int x3_1169)]) rfl (hJ1180 x3_1169 (0 : Int32) w1170)
  have hJ1161 : ∀ (x3_1166 : Int32) (x4_1167 : Int32) (w1168 : ZW), zLR G l "LoveLocksLaw" cL_law zc zs (fun x : Int32 => x = 1) 1161 [(0, .ref (z_b G)), (1, .ref (G.1 0)), (3, .int x3_1166), (4, .int x4_1167)] [] w1168 (f_law2_J1161 xs len x3_1166 x4_1167 w1168) := by
    intro x3_1166 x4_1167 w1168
    rw [f_law2_J1161]
    refine q_iload 1163 dL_law_1161 rfl 3 rfl ?_
    refine q_if_eq 1179 1166 dL_law_1163 (by decide) rfl ?_ ?_
    · exact q_sub [0, 1, 2] (lv2 := [(0, .ref (z_b G)), (1, .ref (G.1 0)), (3, .int x3_1166)]) rfl (hJ1179 x3_1166 w1168)
    · refine q_aload_n 1167 dL_law_1166 rfl 1 rfl rfl ?_
      refine q_iconst 1168 dL_law_1167 rfl zci_1 ?_
      refine q_callViw 1171 1 (ko := 0) [.int (1 : Int32)] (st := []) hzc hzs dL_law_1168 rfl rfl (fun r h => c_X11_nightly G l 60 (by decide) w1168 (1 : Int32) r h) zl_0 (ce_0 G _) rfl rfl wc_X11_nightly wz_X11 wl_L_104 wi_X11_nightly ws_X11_nightly zd_X11_nightly (by decide) (by decide) rfl (Nat.le_of_ble_eq_true rfl) (fun r1204 => ?_)
      refine q_iconst 1172 dL_law_1171 rfl zci_2 ?_
      refine q_icmp_ne 1179 1175 dL_law_1172 (by decide) rfl ?_ ?_
      · exact q_sub [0, 1, 2] (lv2 := [(0, .ref (z_b G)), (1, .ref (G.1 0)), (3, .int x3_1166)]) rfl (hJ1179 x3_1166 r1204.2)
      · refine q_iconst 1176 dL_law_1175 rfl zci_1 ?_
        refine q_goto 1180 dL_law_1176 (by decide) ?_
        exact q_sub [0, 1, 2] (lv2 := [(0, .ref (z_b G)), (1, .ref (G.1 0)), (3, .int x3_1166)]) rfl (hJ1180 x3_1166 (1 : Int32) r1204.2)
  have hJ1085 : ∀ (x3_1156 : Int32) (x4_1157 : Int32) (x5_1158 : Int32) (w1159 : ZW), zLR G l "LoveLocksLaw" cL_law zc zs (fun x : Int32 => x = 1) 1085 [(0, .ref (z_b G)), (1, .ref (G.1 0)), (3, .int x3_1156), (4, .int x4_1157), (5, .int x5_1158)] [] w1159 (f_law2_J1085 xs len x3_1156 x4_1157 x5_1158 w1159) := by
    intro x3_1156 x4_1157 x5_1158 w1159
    rw [f_law2_J1085]
    refine q_iconst 1086 dL_law_1085 rfl zci_0 ?_
    refine q_istore 1088 [(18, .int (0 : Int32)), (0, .ref (z_b G)), (1, .ref (G.1 0)), (3, .int x3_1156), (4, .int x4_1157), (5, .int x5_1158)] dL_law_1086 rfl (by decide) rfl ?_
    refine q_loopE [1, 2, 3, 4, 5, 0] (fun s1160 => [(0, .ref (z_b G)), (1, .ref (G.1 0)), (3, .int x3_1156), (4, .int s1160.1), (5, .int x5_1158), (18, .int s1160.2.1)]) (fun s1160 => s1160.2.2) 1161 (fun q1161 => [(0, .ref (z_b G)), (1, .ref (G.1 0)), (3, .int x3_1156), (4, .int q1161.1)]) (fun q1161 => q1161.2) rfl rfl (fun s1160 => ?_) (fun q1161 => ?_)
    · rw [f_law2_L1088]
      refine q_iload 1090 dL_law_1088 rfl 5 rfl ?_
      refine q_iload 1092 dL_law_1090 rfl 4 rfl ?_
      refine q_icmp_ge 1161 1095 dL_law_1092 (by decide) rfl ?_ ?_
      · exact q_leaf [0, 1, 2, 3] (lv2 := [(0, .ref (z_b G)), (1, .ref (G.1 0)), (3, .int x3_1156), (4, .int s1160.1)]) rfl (fun h => h)
      · refine q_iload 1097 dL_law_1095 rfl 3 rfl ?_
        refine q_if_eq 1161 1100 dL_law_1097 (by decide) rfl ?_ ?_
        · exact q_leaf [0, 1, 2, 3] (lv2 := [(0, .ref (z_b G)), (1, .ref (G.1 0)), (3, .int x3_1156), (4, .int s1160.1)]) rfl (fun h => h)
        · refine q_aload_n 1101 dL_law_1100 rfl 1 rfl rfl ?_
          refine q_iload 1103 dL_law_1101 rfl 5 rfl ?_
          refine q_iconst 1104 dL_law_1103 rfl zci_0 ?_
          refine q_aload_n 1105 dL_law_1104 rfl 0 rfl rfl ?_
          refine q_bipush 1107 dL_law_1105 rfl zcb_13 ?_
          refine q_callSi 1110 2 [.ref (z_b G), .int (13 : Int32)] (st := [.int (0 : Int32), .int s1160.2.1, .ref (G.1 0)]) hzc hzs dL_law_1107 rfl rfl (fun r h => c_L_cell G l 60 (by decide) s1160.2.2 xs len (13 : Int32) hxs hlen r h) wc_L_cell wz_L wl_L_9 wst_L_cell zd_L_cell (by decide) (by decide) rfl (Nat.le_of_ble_eq_true rfl) (fun r1162 => ?_)
          refine q_iconst 1111 dL_law_1110 rfl zci_4 ?_
          refine q_iload 1113 dL_law_1111 rfl 5 rfl ?_
          refine q_imul 1114 dL_law_1113 rfl ?_
          refine q_ishr 1115 dL_law_1114 rfl ?_
          refine q_bipush 1117 dL_law_1115 rfl zcb_100 ?_
          refine q_irem 1118 dL_law_1117 rfl (by decide) ?_
          refine q_callViw 1121 3 (ko := 0) [.int s1160.2.1, .int (0 : Int32), .int ((r1162 >>> (((4 : Int32) * s1160.2.1) &&& 31)) - (r1162 >>> (((4 : Int32) * s1160.2.1) &&& 31)) / (100 : Int32) * (100 : Int32))] (st := []) hzc hzs dL_law_1118 rfl rfl (fun r h => c_X11_risk G l 60 (by decide) s1160.2.2 s1160.2.1 (0 : Int32) ((r1162 >>> (((4 : Int32) * s1160.2.1) &&& 31)) - (r1162 >>> (((4 : Int32) * s1160.2.1) &&& 31)) / (100 : Int32) * (100 : Int32)) r h) zl_0 (ce_0 G _) rfl rfl wc_X11_risk wz_X11 wl_L_101 wi_X11_risk ws_X11_risk zd_X11_risk (by decide) (by decide) rfl (Nat.le_of_ble_eq_true rfl) (fun r1163 => ?_)
          refine q_if_ne 1152 1124 dL_law_1121 (by decide) rfl ?_ ?_
          · refine q_iconst 1153 dL_law_1152 rfl zci_0 ?_
            refine q_istore 1155 [(4, .int (0 : Int32)), (0, .ref (z_b G)), (1, .ref (G.1 0)), (3, .int x3_1156), (5, .int x5_1158), (18, .int s1160.2.1)] dL_law_1153 rfl (by decide) rfl ?_
            refine q_iinc 1158 5 [(18, .int (s1160.2.1 + (1 : Int32))), (4, .int (0 : Int32)), (0, .ref (z_b G)), (1, .ref (G.1 0)), (3, .int x3_1156), (5, .int x5_1158)] dL_law_1155 rfl rfl zci_1 (by decide) rfl ?_
            refine q_goto 1088 dL_law_1158 (by decide) ?_
            exact q_leaf [2, 3, 4, 1, 5, 0] (lv2 := [(0, .ref (z_b G)), (1, .ref (G.1 0)), (3, .int x3_1156), (4, .int (0 : Int32)), (5, .int x5_1158), (18, .int (s1160.2.1 + (1 : Int32)))]) rfl (fun h => h)
          · refine q_aload_n 1125 dL_law_1124 rfl 1 rfl rfl ?_
            refine q_iload 1127 dL_law_1125 rfl 5 rfl ?_
            refine q_iconst 1128 dL_law_1127 rfl zci_1 ?_
            refine q_aload_n 1129 dL_law_1128 rfl 0 rfl rfl ?_
            refine q_bipush 1131 dL_law_1129 rfl zcb_14 ?_
            refine q_callSi 1134 2 [.ref (z_b G), .int (14 : Int32)] (st := [.int (1 : Int32), .int s1160.2.1, .ref (G.1 0)]) hzc hzs dL_law_1131 rfl rfl (fun r h => c_L_cell G l 60 (by decide) r1163.2 xs len (14 : Int32) hxs hlen r h) wc_L_cell wz_L wl_L_9 wst_L_cell zd_L_cell (by decide) (by decide) rfl (Nat.le_of_ble_eq_true rfl) (fun r1164 => ?_)
            refine q_iconst 1135 dL_law_1134 rfl zci_3 ?_
            refine q_iload 1137 dL_law_1135 rfl 5 rfl ?_
            refine q_imul 1138 dL_law_1137 rfl ?_
            refine q_ishr 1139 dL_law_1138 rfl ?_
            refine q_bipush 1141 dL_law_1139 rfl zcb_10 ?_
            refine q_irem 1142 dL_law_1141 rfl (by decide) ?_
            refine q_callViw 1145 3 (ko := 0) [.int s1160.2.1, .int (1 : Int32), .int ((r1164 >>> (((3 : Int32) * s1160.2.1) &&& 31)) - (r1164 >>> (((3 : Int32) * s1160.2.1) &&& 31)) / (10 : Int32) * (10 : Int32))] (st := []) hzc hzs dL_law_1142 rfl rfl (fun r h => c_X11_risk G l 60 (by decide) r1163.2 s1160.2.1 (1 : Int32) ((r1164 >>> (((3 : Int32) * s1160.2.1) &&& 31)) - (r1164 >>> (((3 : Int32) * s1160.2.1) &&& 31)) / (10 : Int32) * (10 : Int32)) r h) zl_0 (ce_0 G _) rfl rfl wc_X11_risk wz_X11 wl_L_101 wi_X11_risk ws_X11_risk zd_X11_risk (by decide) (by decide) rfl (Nat.le_of_ble_eq_true rfl) (fun r1165 => ?_)
            refine q_if_ne 1152 1148 dL_law_1145 (by decide) rfl ?_ ?_
            · refine q_iconst 1153 dL_law_1152 rfl zci_0 ?_
              refine q_istore 1155 [(4, .int (0 : Int32)), (0, .ref (z_b G)), (1, .ref (G.1 0)), (3, .int x3_1156), (5, .int x5_1158), (18, .int s1160.2.1)] dL_law_1153 rfl (by decide) rfl ?_
              refine q_iinc 1158 5 [(18, .int (s1160.2.1 + (1 : Int32))), (4, .int (0 : Int32)), (0, .ref (z_b G)), (1, .ref (G.1 0)), (3, .int x3_1156), (5, .int x5_1158)] dL_law_1155 rfl rfl zci_1 (by decide) rfl ?_
              refine q_goto 1088 dL_law_1158 (by decide) ?_
              exact q_leaf [2, 3, 4, 1, 5, 0] (lv2 := [(0, .ref (z_b G)), (1, .ref (G.1 0)), (3, .int x3_1156), (4, .int (0 : Int32)), (5, .int x5_1158), (18, .int (s1160.2.1 + (1 : Int32)))]) rfl (fun h => h)
            · refine q_iconst 1149 dL_law_1148 rfl zci_1 ?_
              refine q_goto 1153 dL_law_1149 (by decide) ?_
              refine q_istore 1155 [(4, .int (1 : Int32)), (0, .ref (z_b G)), (1, .ref (G.1 0)), (3, .int x3_1156), (5, .int x5_1158), (18, .int s1160.2.1)] dL_law_1153 rfl (by decide) rfl ?_
              refine q_iinc 1158 5 [(18, .int (s1160.2.1 + (1 : Int32))), (4, .int (1 : Int32)), (0, .ref (z_b G)), (1, .ref (G.1 0)), (3, .int x3_1156), (5, .int x5_1158)] dL_law_1155 rfl rfl zci_1 (by decide) rfl ?_
              refine q_goto 1088 dL_law_1158 (by decide) ?_
              exact q_leaf [2, 3, 4, 1, 5, 0] (lv2 := [(0, .ref (z_b G)), (1, .ref (G.1 0)), (3, .int x3_1156), (4, .int (1 : Int32)), (5, .int x5_1158), (18, .int (s1160.2.1 + (1 : Int32)))]) rfl (fun h => h)
    · exact q_sub [0, 1, 2, 3] (lv2 := [(0, .ref (z_b G)), (1, .ref (G.1 0)), (3, .int x3_1156), (4, .int q1161.1)]) rfl (hJ1161 x3_1156 q1161.1 q1161.2)
  have hJ938 : ∀ (x3_1143 : Int32) (x4_1144 : Int32) (x5_1145 : Int32) (x16_1146 : Int64) (w1147 : ZW), zLR G l "LoveLocksLaw" cL_law zc zs (fun x : Int32 => x = 1) 938 [(0, .ref (z_b G)), (1, .ref (G.1 0)), (2, .ref (G.1 130)), (3, .int x3_1143), (4, .int x4_1144), (5, .int x5_1145), (16, .long x16_1146)] [] w1147 (f_law2_J938 xs len x3_1143 x4_1144 x5_1145 x16_1146 w1147) := by
    intro x3_1143 x4_1144 x5_1145 x16_1146 w1147
    rw [f_law2_J938]
    refine q_iconst 939 dL_law_938 rfl zci_0 ?_
    refine q_istore 941 [(18, .int (0 : Int32)), (0, .ref (z_b G)), (1, .ref (G.1 0)), (2, .ref (G.1 130)), (3, .int x3_1143), (4, .int x4_1144), (5, .int x5_1145), (16, .long x16_1146)] dL_law_939 rfl (by decide) rfl ?_
    refine q_loopE [1, 2, 3, 4, 5, 6, 7, 0] (fun s1148 => [(0, .ref (z_b G)), (1, .ref (G.1 0)), (2, .ref (G.1 130)), (3, .int x3_1143), (4, .int s1148.1), (5, .int x5_1145), (16, .long x16_1146), (18, .int s1148.2.1)]) (fun s1148 => s1148.2.2) 1085 (fun q1149 => [(0, .ref (z_b G)), (1, .ref (G.1 0)), (3, .int x3_1143), (4, .int q1149.1), (5, .int x5_1145)]) (fun q1149 => q1149.2) rfl rfl (fun s1148 => ?_) (fun q1149 => ?_)
    · rw [f_law2_L941]
      refine q_iload 943 dL_law_941 rfl 7 rfl ?_
      refine q_iconst 944 dL_law_943 rfl zci_4 ?_
      refine q_icmp_ge 1085 947 dL_law_944 (by decide) rfl ?_ ?_
      · exact q_leaf [0, 1, 3, 4, 5] (lv2 := [(0, .ref (z_b G)), (1, .ref (G.1 0)), (3, .int x3_1143), (4, .int s1148.1), (5, .int x5_1145)]) rfl (fun h => h)
      · refine q_iload 949 dL_law_947 rfl 4 rfl ?_
        refine q_if_eq 1085 952 dL_law_949 (by decide) rfl ?_ ?_
        · exact q_leaf [0, 1, 3, 4, 5] (lv2 := [(0, .ref (z_b G)), (1, .ref (G.1 0)), (3, .int x3_1143), (4, .int s1148.1), (5, .int x5_1145)]) rfl (fun h => h)
        · refine q_lload 954 dL_law_952 rfl 6 rfl ?_
          refine q_lconst 955 dL_law_954 rfl zcl_0 ?_
          refine q_lcmp 956 dL_law_955 rfl ?_
          refine q_if_le 1085 959 dL_law_956 (by decide) rfl ?_ ?_
          · exact q_leaf [0, 1, 3, 4, 5] (lv2 := [(0, .ref (z_b G)), (1, .ref (G.1 0)), (3, .int x3_1143), (4, .int s1148.1), (5, .int x5_1145)]) rfl (fun h => h)
          · refine q_aload_n 960 dL_law_959 rfl 1 rfl rfl ?_
            refine q_iload 962 dL_law_960 rfl 7 rfl ?_
            refine q_iconst 963 dL_law_962 rfl zci_1 ?_
            refine q_callViw 966 2 (ko := 0) [.int s1148.2.1, .int (1 : Int32)] (st := []) hzc hzs dL_law_963 rfl rfl (fun r h => c_X11_where G l 60 (by decide) s1148.2.2 s1148.2.1 (1 : Int32) r h) zl_0 (ce_0 G _) rfl rfl wc_X11_where wz_X11 wl_L_98 wi_X11_where ws_X11_where zd_X11_where (by decide) (by decide) rfl (Nat.le_of_ble_eq_true rfl) (fun r1150 => ?_)
            refine q_istore 968 [(19, .int r1150.1), (0, .ref (z_b G)), (1, .ref (G.1 0)), (2, .ref (G.1 130)), (3, .int x3_1143), (4, .int s1148.1), (5, .int x5_1145), (16, .long x16_1146), (18, .int s1148.2.1)] dL_law_966 rfl (by decide) rfl ?_
            refine q_iconst 969 dL_law_968 rfl zci_0 ?_
            refine q_istore 971 [(20, .int (0 : Int32)), (19, .int r1150.1), (0, .ref (z_b G)), (1, .ref (G.1 0)), (2, .ref (G.1 130)), (3, .int x3_1143), (4, .int s1148.1), (5, .int x5_1145), (16, .long x16_1146), (18, .int s1148.2.1)] dL_law_969 rfl (by decide) rfl ?_
            refine q_loopE [2, 3, 4, 5, 6, 7, 8, 9, 1, 0] (fun s1151 => [(0, .ref (z_b G)), (1, .ref (G.1 0)), (2, .ref (G.1 130)), (3, .int x3_1143), (4, .int s1151.1), (5, .int x5_1145), (16, .long x16_1146), (18, .int s1148.2.1), (19, .int r1150.1), (20, .int s1151.2)]) (fun s1151 => r1150.2) 1052 (fun q1152 => [(0, .ref (z_b G)), (1, .ref (G.1 0)), (2, .ref (G.1 130)), (3, .int x3_1143), (4, .int q1152), (5, .int x5_1145), (16, .long x16_1146), (18, .int s1148.2.1), (19, .int r1150.1)]) (fun q1152 => r1150.2) rfl rfl (fun s1151 => ?_) (fun q1152 => ?_)
            · rw [f_law2_L971]
              refine q_iload 973 dL_law_971 rfl 9 rfl ?_
              refine q_iload_n 974 dL_law_973 rfl 3 rfl rfl ?_
              refine q_icmp_ge 1052 977 dL_law_974 (by decide) rfl ?_ ?_
              · exact q_leaf [0, 1, 2, 3, 4, 5, 6, 7, 8] (lv2 := [(0, .ref (z_b G)), (1, .ref (G.1 0)), (2, .ref (G.1 130)), (3, .int x3_1143), (4, .int s1151.1), (5, .int x5_1145), (16, .long x16_1146), (18, .int s1148.2.1), (19, .int r1150.1)]) rfl (fun h => h)
              · refine q_iconst 978 dL_law_977 rfl zci_0 ?_
                refine q_istore 980 [(21, .int (0 : Int32)), (0, .ref (z_b G)), (1, .ref (G.1 0)), (2, .ref (G.1 130)), (3, .int x3_1143), (4, .int s1151.1), (5, .int x5_1145), (16, .long x16_1146), (18, .int s1148.2.1), (19, .int r1150.1), (20, .int s1151.2)] dL_law_978 rfl (by decide) rfl ?_
                refine q_loopE [1, 2, 3, 4, 5, 6, 7, 8, 9, 10, 0] (fun s1153 => [(0, .ref (z_b G)), (1, .ref (G.1 0)), (2, .ref (G.1 130)), (3, .int x3_1143), (4, .int s1153.1), (5, .int x5_1145), (16, .long x16_1146), (18, .int s1148.2.1), (19, .int r1150.1), (20, .int s1151.2), (21, .int s1153.2)]) (fun s1153 => r1150.2) 1046 (fun q1154 => [(0, .ref (z_b G)), (1, .ref (G.1 0)), (2, .ref (G.1 130)), (3, .int x3_1143), (4, .int q1154), (5, .int x5_1145), (16, .long x16_1146), (18, .int s1148.2.1), (19, .int r1150.1), (20, .int s1151.2)]) (fun q1154 => r1150.2) rfl rfl (fun s1153 => ?_) (fun q1154 => ?_)
                · rw [f_law2_L980]
                  refine q_iload 982 dL_law_980 rfl 10 rfl ?_
                  refine q_iload 984 dL_law_982 rfl 9 rfl ?_
                  refine q_icmp_ge 1046 987 dL_law_984 (by decide) rfl ?_ ?_
                  · exact q_leaf [0, 1, 2, 3, 4, 5, 6, 7, 8, 9] (lv2 := [(0, .ref (z_b G)), (1, .ref (G.1 0)), (2, .ref (G.1 130)), (3, .int x3_1143), (4, .int s1153.1), (5, .int x5_1145), (16, .long x16_1146), (18, .int s1148.2.1), (19, .int r1150.1), (20, .int s1151.2)]) rfl (fun h => h)
                  · refine q_iload 989 dL_law_987 rfl 4 rfl ?_
                    refine q_if_eq 1037 992 dL_law_989 (by decide) rfl ?_ ?_
                    · refine q_iconst 1038 dL_law_1037 rfl zci_0 ?_
                      refine q_istore 1040 [(4, .int (0 : Int32)), (0, .ref (z_b G)), (1, .ref (G.1 0)), (2, .ref (G.1 130)), (3, .int x3_1143), (5, .int x5_1145), (16, .long x16_1146), (18, .int s1148.2.1), (19, .int r1150.1), (20, .int s1151.2), (21, .int s1153.2)] dL_law_1038 rfl (by decide) rfl ?_
                      refine q_iinc 1043 10 [(21, .int (s1153.2 + (1 : Int32))), (4, .int (0 : Int32)), (0, .ref (z_b G)), (1, .ref (G.1 0)), (2, .ref (G.1 130)), (3, .int x3_1143), (5, .int x5_1145), (16, .long x16_1146), (18, .int s1148.2.1), (19, .int r1150.1), (20, .int s1151.2)] dL_law_1040 rfl rfl zci_1 (by decide) rfl ?_
                      refine q_goto 980 dL_law_1043 (by decide) ?_
                      exact q_leaf [2, 3, 4, 5, 1, 6, 7, 8, 9, 10, 0] (lv2 := [(0, .ref (z_b G)), (1, .ref (G.1 0)), (2, .ref (G.1 130)), (3, .int x3_1143), (4, .int (0 : Int32)), (5, .int x5_1145), (16, .long x16_1146), (18, .int s1148.2.1), (19, .int r1150.1), (20, .int s1151.2), (21, .int (s1153.2 + (1 : Int32)))]) rfl (fun h => h)
                    · refine q_iload 994 dL_law_992 rfl 8 rfl ?_
                      refine q_iload 996 dL_law_994 rfl 9 rfl ?_
                      refine q_ishr 997 dL_law_996 rfl ?_
                      refine q_iconst 998 dL_law_997 rfl zci_1 ?_
                      refine q_iand 999 dL_law_998 rfl ?_
                      refine q_if_eq 1033 1002 dL_law_999 (by decide) rfl ?_ ?_
                      · refine q_iconst 1034 dL_law_1033 rfl zci_1 ?_
                        refine q_goto 1038 dL_law_1034 (by decide) ?_
                        refine q_istore 1040 [(4, .int (1 : Int32)), (0, .ref (z_b G)), (1, .ref (G.1 0)), (2, .ref (G.1 130)), (3, .int x3_1143), (5, .int x5_1145), (16, .long x16_1146), (18, .int s1148.2.1), (19, .int r1150.1), (20, .int s1151.2), (21, .int s1153.2)] dL_law_1038 rfl (by decide) rfl ?_
                        refine q_iinc 1043 10 [(21, .int (s1153.2 + (1 : Int32))), (4, .int (1 : Int32)), (0, .ref (z_b G)), (1, .ref (G.1 0)), (2, .ref (G.1 130)), (3, .int x3_1143), (5, .int x5_1145), (16, .long x16_1146), (18, .int s1148.2.1), (19, .int r1150.1), (20, .int s1151.2)] dL_law_1040 rfl rfl zci_1 (by decide) rfl ?_
                        refine q_goto 980 dL_law_1043 (by decide) ?_
                        exact q_leaf [2, 3, 4, 5, 1, 6, 7, 8, 9, 10, 0] (lv2 := [(0, .ref (z_b G)), (1, .ref (G.1 0)), (2, .ref (G.1 130)), (3, .int x3_1143), (4, .int (1 : Int32)), (5, .int x5_1145), (16, .long x16_1146), (18, .int s1148.2.1), (19, .int r1150.1), (20, .int s1151.2), (21, .int (s1153.2 + (1 : Int32)))]) rfl (fun h => h)
                      · refine q_iload 1004 dL_law_1002 rfl 8 rfl ?_
                        refine q_iload 1006 dL_law_1004 rfl 10 rfl ?_
                        refine q_ishr 1007 dL_law_1006 rfl ?_
                        refine q_iconst 1008 dL_law_1007 rfl zci_1 ?_
                        refine q_iand 1009 dL_law_1008 rfl ?_
                        refine q_if_eq 1033 1012 dL_law_1009 (by decide) rfl ?_ ?_
                        · refine q_iconst 1034 dL_law_1033 rfl zci_1 ?_
                          refine q_goto 1038 dL_law_1034 (by decide) ?_
                          refine q_istore 1040 [(4, .int (1 : Int32)), (0, .ref (z_b G)), (1, .ref (G.1 0)), (2, .ref (G.1 130)), (3, .int x3_1143), (5, .int x5_1145), (16, .long x16_1146), (18, .int s1148.2.1), (19, .int r1150.1), (20, .int s1151.2), (21, .int s1153.2)] dL_law_1038 rfl (by decide) rfl ?_
                          refine q_iinc 1043 10 [(21, .int (s1153.2 + (1 : Int32))), (4, .int (1 : Int32)), (0, .ref (z_b G)), (1, .ref (G.1 0)), (2, .ref (G.1 130)), (3, .int x3_1143), (5, .int x5_1145), (16, .long x16_1146), (18, .int s1148.2.1), (19, .int r1150.1), (20, .int s1151.2)] dL_law_1040 rfl rfl zci_1 (by decide) rfl ?_
                          refine q_goto 980 dL_law_1043 (by decide) ?_
                          exact q_leaf [2, 3, 4, 5, 1, 6, 7, 8, 9, 10, 0] (lv2 := [(0, .ref (z_b G)), (1, .ref (G.1 0)), (2, .ref (G.1 130)), (3, .int x3_1143), (4, .int (1 : Int32)), (5, .int x5_1145), (16, .long x16_1146), (18, .int s1148.2.1), (19, .int r1150.1), (20, .int s1151.2), (21, .int (s1153.2 + (1 : Int32)))]) rfl (fun h => h)
                        · refine q_aload_n 1013 dL_law_1012 rfl 2 rfl rfl ?_
                          refine q_bipush 1015 dL_law_1013 rfl zcb_6 ?_
                          refine q_iload 1017 dL_law_1015 rfl 9 rfl ?_
                          refine q_imul 1018 dL_law_1017 rfl ?_
                          refine q_iconst 1019 dL_law_1018 rfl zci_2 ?_
                          refine q_iadd 1020 dL_law_1019 rfl ?_
                          refine q_iald 1021 130 64 dL_law_1020 rfl zl_130 (ce_130 G _) ?_
                          refine q_aload_n 1022 dL_law_1021 rfl 2 rfl rfl ?_
                          refine q_bipush 1024 dL_law_1022 rfl zcb_6 ?_
                          refine q_iload 1026 dL_law_1024 rfl 10 rfl ?_
                          refine q_imul 1027 dL_law_1026 rfl ?_
                          refine q_iconst 1028 dL_law_1027 rfl zci_2 ?_
                          refine q_iadd 1029 dL_law_1028 rfl ?_
                          refine q_iald 1030 130 64 dL_law_1029 rfl zl_130 (ce_130 G _) ?_
                          refine q_icmp_eq 1037 1033 dL_law_1030 (by decide) rfl ?_ ?_
                          · refine q_iconst 1038 dL_law_1037 rfl zci_0 ?_
                            refine q_istore 1040 [(4, .int (0 : Int32)), (0, .ref (z_b G)), (1, .ref (G.1 0)), (2, .ref (G.1 130)), (3, .int x3_1143), (5, .int x5_1145), (16, .long x16_1146), (18, .int s1148.2.1), (19, .int r1150.1), (20, .int s1151.2), (21, .int s1153.2)] dL_law_1038 rfl (by decide) rfl ?_
                            refine q_iinc 1043 10 [(21, .int (s1153.2 + (1 : Int32))), (4, .int (0 : Int32)), (0, .ref (z_b G)), (1, .ref (G.1 0)), (2, .ref (G.1 130)), (3, .int x3_1143), (5, .int x5_1145), (16, .long x16_1146), (18, .int s1148.2.1), (19, .int r1150.1), (20, .int s1151.2)] dL_law_1040 rfl rfl zci_1 (by decide) rfl ?_
                            refine q_goto 980 dL_law_1043 (by decide) ?_
                            exact q_leaf [2, 3, 4, 5, 1, 6, 7, 8, 9, 10, 0] (lv2 := [(0, .ref (z_b G)), (1, .ref (G.1 0)), (2, .ref (G.1 130)), (3, .int x3_1143), (4, .int (0 : Int32)), (5, .int x5_1145), (16, .long x16_1146), (18, .int s1148.2.1), (19, .int r1150.1), (20, .int s1151.2), (21, .int (s1153.2 + (1 : Int32)))]) rfl (fun h => h)
                          · refine q_iconst 1034 dL_law_1033 rfl zci_1 ?_
                            refine q_goto 1038 dL_law_1034 (by decide) ?_
                            refine q_istore 1040 [(4, .int (1 : Int32)), (0, .ref (z_b G)), (1, .ref (G.1 0)), (2, .ref (G.1 130)), (3, .int x3_1143), (5, .int x5_1145), (16, .long x16_1146), (18, .int s1148.2.1), (19, .int r1150.1), (20, .int s1151.2), (21, .int s1153.2)] dL_law_1038 rfl (by decide) rfl ?_
                            refine q_iinc 1043 10 [(21, .int (s1153.2 + (1 : Int32))), (4, .int (1 : Int32)), (0, .ref (z_b G)), (1, .ref (G.1 0)), (2, .ref (G.1 130)), (3, .int x3_1143), (5, .int x5_1145), (16, .long x16_1146), (18, .int s1148.2.1), (19, .int r1150.1), (20, .int s1151.2)] dL_law_1040 rfl rfl zci_1 (by decide) rfl ?_
                            refine q_goto 980 dL_law_1043 (by decide) ?_
                            exact q_leaf [2, 3, 4, 5, 1, 6, 7, 8, 9, 10, 0] (lv2 := [(0, .ref (z_b G)), (1, .ref (G.1 0)), (2, .ref (G.1 130)), (3, .int x3_1143), (4, .int (1 : Int32)), (5, .int x5_1145), (16, .long x16_1146), (18, .int s1148.2.1), (19, .int r1150.1), (20, .int s1151.2), (21, .int (s1153.2 + (1 : Int32)))]) rfl (fun h => h)
                · refine q_iinc 1049 9 [(20, .int (s1151.2 + (1 : Int32))), (0, .ref (z_b G)), (1, .ref (G.1 0)), (2, .ref (G.1 130)), (3, .int x3_1143), (4, .int q1154), (5, .int x5_1145), (16, .long x16_1146), (18, .int s1148.2.1), (19, .int r1150.1)] dL_law_1046 rfl rfl zci_1 (by decide) rfl ?_
                  refine q_goto 971 dL_law_1049 (by decide) ?_
                  exact q_leaf [1, 2, 3, 4, 5, 6, 7, 8, 9, 0] (lv2 := [(0, .ref (z_b G)), (1, .ref (G.1 0)), (2, .ref (G.1 130)), (3, .int x3_1143), (4, .int q1154), (5, .int x5_1145), (16, .long x16_1146), (18, .int s1148.2.1), (19, .int r1150.1), (20, .int (s1151.2 + (1 : Int32)))]) rfl (fun h => h)
            · refine q_iload 1054 dL_law_1052 rfl 4 rfl ?_
              refine q_if_eq 1076 1057 dL_law_1054 (by decide) rfl ?_ ?_
              · refine q_iconst 1077 dL_law_1076 rfl zci_0 ?_
                refine q_istore 1079 [(4, .int (0 : Int32)), (0, .ref (z_b G)), (1, .ref (G.1 0)), (2, .ref (G.1 130)), (3, .int x3_1143), (5, .int x5_1145), (16, .long x16_1146), (18, .int s1148.2.1), (19, .int r1150.1)] dL_law_1077 rfl (by decide) rfl ?_
                refine q_iinc 1082 7 [(18, .int (s1148.2.1 + (1 : Int32))), (4, .int (0 : Int32)), (0, .ref (z_b G)), (1, .ref (G.1 0)), (2, .ref (G.1 130)), (3, .int x3_1143), (5, .int x5_1145), (16, .long x16_1146), (19, .int r1150.1)] dL_law_1079 rfl rfl zci_1 (by decide) rfl ?_
                refine q_goto 941 dL_law_1082 (by decide) ?_
                exact q_leaf [2, 3, 4, 5, 1, 6, 7, 0] (lv2 := [(0, .ref (z_b G)), (1, .ref (G.1 0)), (2, .ref (G.1 130)), (3, .int x3_1143), (4, .int (0 : Int32)), (5, .int x5_1145), (16, .long x16_1146), (18, .int (s1148.2.1 + (1 : Int32)))]) rfl (fun h => h)
              · refine q_iload 1059 dL_law_1057 rfl 8 rfl ?_
                refine q_aload_n 1060 dL_law_1059 rfl 1 rfl rfl ?_
                refine q_iload 1062 dL_law_1060 rfl 7 rfl ?_
                refine q_iconst 1063 dL_law_1062 rfl zci_0 ?_
                refine q_callViw 1066 2 (ko := 0) [.int s1148.2.1, .int (0 : Int32)] (st := [.int r1150.1]) hzc hzs dL_law_1063 rfl rfl (fun r h => c_X11_where G l 60 (by decide) r1150.2 s1148.2.1 (0 : Int32) r h) zl_0 (ce_0 G _) rfl rfl wc_X11_where wz_X11 wl_L_98 wi_X11_where ws_X11_where zd_X11_where (by decide) (by decide) rfl (Nat.le_of_ble_eq_true rfl) (fun r1155 => ?_)
                refine q_iconst 1067 dL_law_1066 rfl zci_m1 ?_
                refine q_ixor 1068 dL_law_1067 rfl ?_
                refine q_iand 1069 dL_law_1068 rfl ?_
                refine q_if_ne 1076 1072 dL_law_1069 (by decide) rfl ?_ ?_
                · refine q_iconst 1077 dL_law_1076 rfl zci_0 ?_
                  refine q_istore 1079 [(4, .int (0 : Int32)), (0, .ref (z_b G)), (1, .ref (G.1 0)), (2, .ref (G.1 130)), (3, .int x3_1143), (5, .int x5_1145), (16, .long x16_1146), (18, .int s1148.2.1), (19, .int r1150.1)] dL_law_1077 rfl (by decide) rfl ?_
                  refine q_iinc 1082 7 [(18, .int (s1148.2.1 + (1 : Int32))), (4, .int (0 : Int32)), (0, .ref (z_b G)), (1, .ref (G.1 0)), (2, .ref (G.1 130)), (3, .int x3_1143), (5, .int x5_1145), (16, .long x16_1146), (19, .int r1150.1)] dL_law_1079 rfl rfl zci_1 (by decide) rfl ?_
                  refine q_goto 941 dL_law_1082 (by decide) ?_
                  exact q_leaf [2, 3, 4, 5, 1, 6, 7, 0] (lv2 := [(0, .ref (z_b G)), (1, .ref (G.1 0)), (2, .ref (G.1 130)), (3, .int x3_1143), (4, .int (0 : Int32)), (5, .int x5_1145), (16, .long x16_1146), (18, .int (s1148.2.1 + (1 : Int32)))]) rfl (fun h => h)
                · refine q_iconst 1073 dL_law_1072 rfl zci_1 ?_
                  refine q_goto 1077 dL_law_1073 (by decide) ?_
                  refine q_istore 1079 [(4, .int (1 : Int32)), (0, .ref (z_b G)), (1, .ref (G.1 0)), (2, .ref (G.1 130)), (3, .int x3_1143), (5, .int x5_1145), (16, .long x16_1146), (18, .int s1148.2.1), (19, .int r1150.1)] dL_law_1077 rfl (by decide) rfl ?_
                  refine q_iinc 1082 7 [(18, .int (s1148.2.1 + (1 : Int32))), (4, .int (1 : Int32)), (0, .ref (z_b G)), (1, .ref (G.1 0)), (2, .ref (G.1 130)), (3, .int x3_1143), (5, .int x5_1145), (16, .long x16_1146), (19, .int r1150.1)] dL_law_1079 rfl rfl zci_1 (by decide) rfl ?_
                  refine q_goto 941 dL_law_1082 (by decide) ?_
                  exact q_leaf [2, 3, 4, 5, 1, 6, 7, 0] (lv2 := [(0, .ref (z_b G)), (1, .ref (G.1 0)), (2, .ref (G.1 130)), (3, .int x3_1143), (4, .int (1 : Int32)), (5, .int x5_1145), (16, .long x16_1146), (18, .int (s1148.2.1 + (1 : Int32)))]) rfl (fun h => h)
    · exact q_sub [0, 1, 2, 3, 4] (lv2 := [(0, .ref (z_b G)), (1, .ref (G.1 0)), (3, .int x3_1143), (4, .int q1149.1), (5, .int x5_1145)]) rfl (hJ1085 x3_1143 q1149.1 x5_1145 q1149.2)
  have hJ675 : ∀ (x3_1102 : Int32) (x4_1103 : Int32) (x5_1104 : Int32) (w1105 : ZW), zLR G l "LoveLocksLaw" cL_law zc zs (fun x : Int32 => x = 1) 675 [(0, .ref (z_b G)), (1, .ref (G.1 0)), (2, .ref (G.1 130)), (3, .int x3_1102), (4, .int x4_1103), (5, .int x5_1104)] [] w1105 (f_law2_J675 xs len x3_1102 x4_1103 x5_1104 w1105) := by
    intro x3_1102 x4_1103 x5_1104 w1105
    rw [f_law2_J675]
    refine q_lconst 676 dL_law_675 rfl zcl_1 ?_
    refine q_lstore 678 [(16, .long (1 : Int64)), (0, .ref (z_b G)), (1, .ref (G.1 0)), (2, .ref (G.1 130)), (3, .int x3_1102), (4, .int x4_1103), (5, .int x5_1104)] dL_law_676 rfl (by decide) rfl ?_
    refine q_iconst 679 dL_law_678 rfl zci_0 ?_
    refine q_istore 681 [(18, .int (0 : Int32)), (16, .long (1 : Int64)), (0, .ref (z_b G)), (1, .ref (G.1 0)), (2, .ref (G.1 130)), (3, .int x3_1102), (4, .int x4_1103), (5, .int x5_1104)] dL_law_679 rfl (by decide) rfl ?_
    refine q_loopE [2, 3, 4, 5, 6, 7, 1, 0] (fun s1106 => [(0, .ref (z_b G)), (1, .ref (G.1 0)), (2, .ref (G.1 130)), (3, .int x3_1102), (4, .int s1106.1), (5, .int x5_1104), (16, .long s1106.2.1), (18, .int s1106.2.2.1)]) (fun s1106 => s1106.2.2.2) 938 (fun q1107 => [(0, .ref (z_b G)), (1, .ref (G.1 0)), (2, .ref (G.1 130)), (3, .int x3_1102), (4, .int q1107.1), (5, .int x5_1104), (16, .long q1107.2.1)]) (fun q1107 => q1107.2.2) rfl rfl (fun s1106 => ?_) (fun q1107 => ?_)
    · rw [f_law2_L681]
      have hJ845 : ∀ (x18_1128 : Int32) (x22_1129 : Int64) (k1130 : Int32) (w1131 : ZW), zLR G l "LoveLocksLaw" cL_law zc zs (Sum.elim (fun s1106 => zLA G l "LoveLocksLaw" cL_law zc zs 681 [(0, .ref (z_b G)), (1, .ref (G.1 0)), (2, .ref (G.1 130)), (3, .int x3_1102), (4, .int s1106.1), (5, .int x5_1104), (16, .long s1106.2.1), (18, .int s1106.2.2.1)] [] s1106.2.2.2) (fun q1107 => zLA G l "LoveLocksLaw" cL_law zc zs 938 [(0, .ref (z_b G)), (1, .ref (G.1 0)), (2, .ref (G.1 130)), (3, .int x3_1102), (4, .int q1107.1), (5, .int x5_1104), (16, .long q1107.2.1)] [] q1107.2.2)) 845 [(0, .ref (z_b G)), (1, .ref (G.1 0)), (2, .ref (G.1 130)), (3, .int x3_1102), (5, .int x5_1104), (18, .int x18_1128), (22, .long x22_1129)] [.int k1130] w1131 (f_law2_J845 x18_1128 x22_1129 k1130 w1131) := by
        intro x18_1128 x22_1129 k1130 w1131
        rw [f_law2_J845]
        refine q_istore 847 [(4, .int k1130), (0, .ref (z_b G)), (1, .ref (G.1 0)), (2, .ref (G.1 130)), (3, .int x3_1102), (5, .int x5_1104), (18, .int x18_1128), (22, .long x22_1129)] dL_law_845 rfl (by decide) rfl ?_
        refine q_iload 849 dL_law_847 rfl 0 rfl ?_
        refine q_if_eq 925 852 dL_law_849 (by decide) rfl ?_ ?_
        · refine q_iconst 926 dL_law_925 rfl zci_0 ?_
          refine q_istore 928 [(4, .int (0 : Int32)), (0, .ref (z_b G)), (1, .ref (G.1 0)), (2, .ref (G.1 130)), (3, .int x3_1102), (5, .int x5_1104), (18, .int x18_1128), (22, .long x22_1129)] dL_law_926 rfl (by decide) rfl ?_
          refine q_lload 930 dL_law_928 rfl 7 rfl ?_
          refine q_lstore 932 [(16, .long x22_1129), (4, .int (0 : Int32)), (0, .ref (z_b G)), (1, .ref (G.1 0)), (2, .ref (G.1 130)), (3, .int x3_1102), (5, .int x5_1104), (18, .int x18_1128), (22, .long x22_1129)] dL_law_930 rfl (by decide) rfl ?_
          refine q_iinc 935 7 [(18, .int (x18_1128 + (1 : Int32))), (16, .long x22_1129), (4, .int (0 : Int32)), (0, .ref (z_b G)), (1, .ref (G.1 0)), (2, .ref (G.1 130)), (3, .int x3_1102), (5, .int x5_1104), (22, .long x22_1129)] dL_law_932 rfl rfl zci_1 (by decide) rfl ?_
          refine q_goto 681 dL_law_935 (by decide) ?_
          exact q_leaf [3, 4, 5, 6, 2, 7, 1, 0] (lv2 := [(0, .ref (z_b G)), (1, .ref (G.1 0)), (2, .ref (G.1 130)), (3, .int x3_1102), (4, .int (0 : Int32)), (5, .int x5_1104), (16, .long x22_1129), (18, .int (x18_1128 + (1 : Int32)))]) rfl (fun h => h)
        · refine q_aload_n 853 dL_law_852 rfl 2 rfl rfl ?_
          refine q_callViw 856 0 (ko := 0) [] (st := []) hzc hzs dL_law_853 rfl rfl (fun r h => c_X11_image G l 60 (by decide) w1131 r h) zl_0 (ce_0 G _) rfl rfl wc_X11_image wz_X11 wl_L_90 wi_X11_image ws_X11_image zd_X11_image (by decide) (by decide) rfl (Nat.le_of_ble_eq_true rfl) (fun r1132 => ?_)
          refine q_iconst 857 dL_law_856 rfl zci_1 ?_
          refine q_icmp_ne 925 860 dL_law_857 (by decide) rfl ?_ ?_
          · refine q_iconst 926 dL_law_925 rfl zci_0 ?_
            refine q_istore 928 [(4, .int (0 : Int32)), (0, .ref (z_b G)), (1, .ref (G.1 0)), (2, .ref (G.1 130)), (3, .int x3_1102), (5, .int x5_1104), (18, .int x18_1128), (22, .long x22_1129)] dL_law_926 rfl (by decide) rfl ?_
            refine q_lload 930 dL_law_928 rfl 7 rfl ?_
            refine q_lstore 932 [(16, .long x22_1129), (4, .int (0 : Int32)), (0, .ref (z_b G)), (1, .ref (G.1 0)), (2, .ref (G.1 130)), (3, .int x3_1102), (5, .int x5_1104), (18, .int x18_1128), (22, .long x22_1129)] dL_law_930 rfl (by decide) rfl ?_
            refine q_iinc 935 7 [(18, .int (x18_1128 + (1 : Int32))), (16, .long x22_1129), (4, .int (0 : Int32)), (0, .ref (z_b G)), (1, .ref (G.1 0)), (2, .ref (G.1 130)), (3, .int x3_1102), (5, .int x5_1104), (22, .long x22_1129)] dL_law_932 rfl rfl zci_1 (by decide) rfl ?_
            refine q_goto 681 dL_law_935 (by decide) ?_
            exact q_leaf [3, 4, 5, 6, 2, 7, 1, 0] (lv2 := [(0, .ref (z_b G)), (1, .ref (G.1 0)), (2, .ref (G.1 130)), (3, .int x3_1102), (4, .int (0 : Int32)), (5, .int x5_1104), (16, .long x22_1129), (18, .int (x18_1128 + (1 : Int32)))]) rfl (fun h => h)
          · refine q_aload_n 861 dL_law_860 rfl 2 rfl rfl ?_
            refine q_ldc2 864 dL_law_861 rfl wk_L_93 ?_
            refine q_iconst 865 dL_law_864 rfl zci_3 ?_
            refine q_callViw 868 2 (ko := 0) [.long (4139839 : Int64), .int (3 : Int32)] (st := []) hzc hzs dL_law_865 rfl rfl (fun r h => c_X11_type G l 60 (by decide) r1132.2 (4139839 : Int64) (3 : Int32) r h) zl_0 (ce_0 G _) rfl rfl wc_X11_type wz_X11 wl_L_69 wi_X11_type ws_X11_type zd_X11_type (by decide) (by decide) rfl (Nat.le_of_ble_eq_true rfl) (fun r1133 => ?_)
            refine q_iconst 869 dL_law_868 rfl zci_3 ?_
            refine q_icmp_ne 925 872 dL_law_869 (by decide) rfl ?_ ?_
            · refine q_iconst 926 dL_law_925 rfl zci_0 ?_
              refine q_istore 928 [(4, .int (0 : Int32)), (0, .ref (z_b G)), (1, .ref (G.1 0)), (2, .ref (G.1 130)), (3, .int x3_1102), (5, .int x5_1104), (18, .int x18_1128), (22, .long x22_1129)] dL_law_926 rfl (by decide) rfl ?_
              refine q_lload 930 dL_law_928 rfl 7 rfl ?_
              refine q_lstore 932 [(16, .long x22_1129), (4, .int (0 : Int32)), (0, .ref (z_b G)), (1, .ref (G.1 0)), (2, .ref (G.1 130)), (3, .int x3_1102), (5, .int x5_1104), (18, .int x18_1128), (22, .long x22_1129)] dL_law_930 rfl (by decide) rfl ?_
              refine q_iinc 935 7 [(18, .int (x18_1128 + (1 : Int32))), (16, .long x22_1129), (4, .int (0 : Int32)), (0, .ref (z_b G)), (1, .ref (G.1 0)), (2, .ref (G.1 130)), (3, .int x3_1102), (5, .int x5_1104), (22, .long x22_1129)] dL_law_932 rfl rfl zci_1 (by decide) rfl ?_
              refine q_goto 681 dL_law_935 (by decide) ?_
              exact q_leaf [3, 4, 5, 6, 2, 7, 1, 0] (lv2 := [(0, .ref (z_b G)), (1, .ref (G.1 0)), (2, .ref (G.1 130)), (3, .int x3_1102), (4, .int (0 : Int32)), (5, .int x5_1104), (16, .long x22_1129), (18, .int (x18_1128 + (1 : Int32)))]) rfl (fun h => h)
            · refine q_aload_n 873 dL_law_872 rfl 2 rfl rfl ?_
              refine q_iload 875 dL_law_873 rfl 6 rfl ?_
              refine q_callViw 878 1 (ko := 0) [.int x18_1128] (st := []) hzc hzs dL_law_875 rfl rfl (fun r h => c_X11_letters G l 60 (by decide) r1133.2 x18_1128 r h) zl_0 (ce_0 G _) rfl rfl wc_X11_letters wz_X11 wl_L_80 wi_X11_letters ws_X11_letters zd_X11_letters (by decide) (by decide) rfl (Nat.le_of_ble_eq_true rfl) (fun r1134 => ?_)
              refine q_iconst 879 dL_law_878 rfl zci_2 ?_
              refine q_icmp_ne 925 882 dL_law_879 (by decide) rfl ?_ ?_
              · refine q_iconst 926 dL_law_925 rfl zci_0 ?_
                refine q_istore 928 [(4, .int (0 : Int32)), (0, .ref (z_b G)), (1, .ref (G.1 0)), (2, .ref (G.1 130)), (3, .int x3_1102), (5, .int x5_1104), (18, .int x18_1128), (22, .long x22_1129)] dL_law_926 rfl (by decide) rfl ?_
                refine q_lload 930 dL_law_928 rfl 7 rfl ?_
                refine q_lstore 932 [(16, .long x22_1129), (4, .int (0 : Int32)), (0, .ref (z_b G)), (1, .ref (G.1 0)), (2, .ref (G.1 130)), (3, .int x3_1102), (5, .int x5_1104), (18, .int x18_1128), (22, .long x22_1129)] dL_law_930 rfl (by decide) rfl ?_
                refine q_iinc 935 7 [(18, .int (x18_1128 + (1 : Int32))), (16, .long x22_1129), (4, .int (0 : Int32)), (0, .ref (z_b G)), (1, .ref (G.1 0)), (2, .ref (G.1 130)), (3, .int x3_1102), (5, .int x5_1104), (22, .long x22_1129)] dL_law_932 rfl rfl zci_1 (by decide) rfl ?_
                refine q_goto 681 dL_law_935 (by decide) ?_
                exact q_leaf [3, 4, 5, 6, 2, 7, 1, 0] (lv2 := [(0, .ref (z_b G)), (1, .ref (G.1 0)), (2, .ref (G.1 130)), (3, .int x3_1102), (4, .int (0 : Int32)), (5, .int x5_1104), (16, .long x22_1129), (18, .int (x18_1128 + (1 : Int32)))]) rfl (fun h => h)
              · refine q_aload_n 883 dL_law_882 rfl 2 rfl rfl ?_
                refine q_callVjw 886 0 (ko := 0) [] (st := []) hzc hzs dL_law_883 rfl rfl (fun r h => c_X11_ways G l 60 (by decide) r1134.2 r h) zl_0 (ce_0 G _) rfl rfl wc_X11_ways wz_X11 wl_L_83 wi_X11_ways ws_X11_ways zd_X11_ways (by decide) (by decide) rfl (Nat.le_of_ble_eq_true rfl) (fun r1135 => ?_)
                refine q_lload 888 dL_law_886 rfl 7 rfl ?_
                refine q_lcmp 889 dL_law_888 rfl ?_
                refine q_if_lt 925 892 dL_law_889 (by decide) rfl ?_ ?_
                · refine q_iconst 926 dL_law_925 rfl zci_0 ?_
                  refine q_istore 928 [(4, .int (0 : Int32)), (0, .ref (z_b G)), (1, .ref (G.1 0)), (2, .ref (G.1 130)), (3, .int x3_1102), (5, .int x5_1104), (18, .int x18_1128), (22, .long x22_1129)] dL_law_926 rfl (by decide) rfl ?_
                  refine q_lload 930 dL_law_928 rfl 7 rfl ?_
                  refine q_lstore 932 [(16, .long x22_1129), (4, .int (0 : Int32)), (0, .ref (z_b G)), (1, .ref (G.1 0)), (2, .ref (G.1 130)), (3, .int x3_1102), (5, .int x5_1104), (18, .int x18_1128), (22, .long x22_1129)] dL_law_930 rfl (by decide) rfl ?_
                  refine q_iinc 935 7 [(18, .int (x18_1128 + (1 : Int32))), (16, .long x22_1129), (4, .int (0 : Int32)), (0, .ref (z_b G)), (1, .ref (G.1 0)), (2, .ref (G.1 130)), (3, .int x3_1102), (5, .int x5_1104), (22, .long x22_1129)] dL_law_932 rfl rfl zci_1 (by decide) rfl ?_
                  refine q_goto 681 dL_law_935 (by decide) ?_
                  exact q_leaf [3, 4, 5, 6, 2, 7, 1, 0] (lv2 := [(0, .ref (z_b G)), (1, .ref (G.1 0)), (2, .ref (G.1 130)), (3, .int x3_1102), (4, .int (0 : Int32)), (5, .int x5_1104), (16, .long x22_1129), (18, .int (x18_1128 + (1 : Int32)))]) rfl (fun h => h)
                · refine q_aload_n 893 dL_law_892 rfl 2 rfl rfl ?_
                  refine q_iload 895 dL_law_893 rfl 6 rfl ?_
                  refine q_callVi 898 1 (ko := 0) [.int x18_1128] (st := []) hzc hzs dL_law_895 rfl rfl (fun r h => c_X11_readings G l 60 (by decide) r1135.2 x18_1128 r h) zl_0 (ce_0 G _) rfl rfl wc_X11_readings wz_X11 wl_L_87 wi_X11_readings ws_X11_readings zd_X11_readings (by decide) (by decide) rfl (Nat.le_of_ble_eq_true rfl) (fun r1136 => ?_)
                  refine q_bipush 900 dL_law_898 rfl zcb_6 ?_
                  refine q_icmp_ne 925 903 dL_law_900 (by decide) rfl ?_ ?_
                  · refine q_iconst 926 dL_law_925 rfl zci_0 ?_
                    refine q_istore 928 [(4, .int (0 : Int32)), (0, .ref (z_b G)), (1, .ref (G.1 0)), (2, .ref (G.1 130)), (3, .int x3_1102), (5, .int x5_1104), (18, .int x18_1128), (22, .long x22_1129)] dL_law_926 rfl (by decide) rfl ?_
                    refine q_lload 930 dL_law_928 rfl 7 rfl ?_
                    refine q_lstore 932 [(16, .long x22_1129), (4, .int (0 : Int32)), (0, .ref (z_b G)), (1, .ref (G.1 0)), (2, .ref (G.1 130)), (3, .int x3_1102), (5, .int x5_1104), (18, .int x18_1128), (22, .long x22_1129)] dL_law_930 rfl (by decide) rfl ?_
                    refine q_iinc 935 7 [(18, .int (x18_1128 + (1 : Int32))), (16, .long x22_1129), (4, .int (0 : Int32)), (0, .ref (z_b G)), (1, .ref (G.1 0)), (2, .ref (G.1 130)), (3, .int x3_1102), (5, .int x5_1104), (22, .long x22_1129)] dL_law_932 rfl rfl zci_1 (by decide) rfl ?_
                    refine q_goto 681 dL_law_935 (by decide) ?_
                    exact q_leaf [3, 4, 5, 6, 2, 7, 1, 0] (lv2 := [(0, .ref (z_b G)), (1, .ref (G.1 0)), (2, .ref (G.1 130)), (3, .int x3_1102), (4, .int (0 : Int32)), (5, .int x5_1104), (16, .long x22_1129), (18, .int (x18_1128 + (1 : Int32)))]) rfl (fun h => h)
                  · refine q_aload_n 904 dL_law_903 rfl 2 rfl rfl ?_
                    refine q_callViw 907 0 (ko := 0) [] (st := []) hzc hzs dL_law_904 rfl rfl (fun r h => c_X11_restore G l 60 (by decide) r1135.2 r h) zl_0 (ce_0 G _) rfl rfl wc_X11_restore wz_X11 wl_L_95 wi_X11_restore ws_X11_restore zd_X11_restore (by decide) (by decide) rfl (Nat.le_of_ble_eq_true rfl) (fun r1137 => ?_)
                    refine q_iconst 908 dL_law_907 rfl zci_1 ?_
                    refine q_icmp_ne 925 911 dL_law_908 (by decide) rfl ?_ ?_
                    · refine q_iconst 926 dL_law_925 rfl zci_0 ?_
                      refine q_istore 928 [(4, .int (0 : Int32)), (0, .ref (z_b G)), (1, .ref (G.1 0)), (2, .ref (G.1 130)), (3, .int x3_1102), (5, .int x5_1104), (18, .int x18_1128), (22, .long x22_1129)] dL_law_926 rfl (by decide) rfl ?_
                      refine q_lload 930 dL_law_928 rfl 7 rfl ?_
                      refine q_lstore 932 [(16, .long x22_1129), (4, .int (0 : Int32)), (0, .ref (z_b G)), (1, .ref (G.1 0)), (2, .ref (G.1 130)), (3, .int x3_1102), (5, .int x5_1104), (18, .int x18_1128), (22, .long x22_1129)] dL_law_930 rfl (by decide) rfl ?_
                      refine q_iinc 935 7 [(18, .int (x18_1128 + (1 : Int32))), (16, .long x22_1129), (4, .int (0 : Int32)), (0, .ref (z_b G)), (1, .ref (G.1 0)), (2, .ref (G.1 130)), (3, .int x3_1102), (5, .int x5_1104), (22, .long x22_1129)] dL_law_932 rfl rfl zci_1 (by decide) rfl ?_
                      refine q_goto 681 dL_law_935 (by decide) ?_
                      exact q_leaf [3, 4, 5, 6, 2, 7, 1, 0] (lv2 := [(0, .ref (z_b G)), (1, .ref (G.1 0)), (2, .ref (G.1 130)), (3, .int x3_1102), (4, .int (0 : Int32)), (5, .int x5_1104), (16, .long x22_1129), (18, .int (x18_1128 + (1 : Int32)))]) rfl (fun h => h)
                    · refine q_aload_n 912 dL_law_911 rfl 2 rfl rfl ?_
                      refine q_callVjw 915 0 (ko := 0) [] (st := []) hzc hzs dL_law_912 rfl rfl (fun r h => c_X11_ways G l 60 (by decide) r1137.2 r h) zl_0 (ce_0 G _) rfl rfl wc_X11_ways wz_X11 wl_L_83 wi_X11_ways ws_X11_ways zd_X11_ways (by decide) (by decide) rfl (Nat.le_of_ble_eq_true rfl) (fun r1138 => ?_)
                      refine q_lload 917 dL_law_915 rfl 7 rfl ?_
                      refine q_lcmp 918 dL_law_917 rfl ?_
                      refine q_if_ne 925 921 dL_law_918 (by decide) rfl ?_ ?_
                      · refine q_iconst 926 dL_law_925 rfl zci_0 ?_
                        refine q_istore 928 [(4, .int (0 : Int32)), (0, .ref (z_b G)), (1, .ref (G.1 0)), (2, .ref (G.1 130)), (3, .int x3_1102), (5, .int x5_1104), (18, .int x18_1128), (22, .long x22_1129)] dL_law_926 rfl (by decide) rfl ?_
                        refine q_lload 930 dL_law_928 rfl 7 rfl ?_
                        refine q_lstore 932 [(16, .long x22_1129), (4, .int (0 : Int32)), (0, .ref (z_b G)), (1, .ref (G.1 0)), (2, .ref (G.1 130)), (3, .int x3_1102), (5, .int x5_1104), (18, .int x18_1128), (22, .long x22_1129)] dL_law_930 rfl (by decide) rfl ?_
                        refine q_iinc 935 7 [(18, .int (x18_1128 + (1 : Int32))), (16, .long x22_1129), (4, .int (0 : Int32)), (0, .ref (z_b G)), (1, .ref (G.1 0)), (2, .ref (G.1 130)), (3, .int x3_1102), (5, .int x5_1104), (22, .long x22_1129)] dL_law_932 rfl rfl zci_1 (by decide) rfl ?_
                        refine q_goto 681 dL_law_935 (by decide) ?_
                        exact q_leaf [3, 4, 5, 6, 2, 7, 1, 0] (lv2 := [(0, .ref (z_b G)), (1, .ref (G.1 0)), (2, .ref (G.1 130)), (3, .int x3_1102), (4, .int (0 : Int32)), (5, .int x5_1104), (16, .long x22_1129), (18, .int (x18_1128 + (1 : Int32)))]) rfl (fun h => h)
                      · refine q_iconst 922 dL_law_921 rfl zci_1 ?_
                        refine q_goto 926 dL_law_922 (by decide) ?_
                        refine q_istore 928 [(4, .int (1 : Int32)), (0, .ref (z_b G)), (1, .ref (G.1 0)), (2, .ref (G.1 130)), (3, .int x3_1102), (5, .int x5_1104), (18, .int x18_1128), (22, .long x22_1129)] dL_law_926 rfl (by decide) rfl ?_
                        refine q_lload 930 dL_law_928 rfl 7 rfl ?_
                        refine q_lstore 932 [(16, .long x22_1129), (4, .int (1 : Int32)), (0, .ref (z_b G)), (1, .ref (G.1 0)), (2, .ref (G.1 130)), (3, .int x3_1102), (5, .int x5_1104), (18, .int x18_1128), (22, .long x22_1129)] dL_law_930 rfl (by decide) rfl ?_
                        refine q_iinc 935 7 [(18, .int (x18_1128 + (1 : Int32))), (16, .long x22_1129), (4, .int (1 : Int32)), (0, .ref (z_b G)), (1, .ref (G.1 0)), (2, .ref (G.1 130)), (3, .int x3_1102), (5, .int x5_1104), (22, .long x22_1129)] dL_law_932 rfl rfl zci_1 (by decide) rfl ?_
                        refine q_goto 681 dL_law_935 (by decide) ?_
                        exact q_leaf [3, 4, 5, 6, 2, 7, 1, 0] (lv2 := [(0, .ref (z_b G)), (1, .ref (G.1 0)), (2, .ref (G.1 130)), (3, .int x3_1102), (4, .int (1 : Int32)), (5, .int x5_1104), (16, .long x22_1129), (18, .int (x18_1128 + (1 : Int32)))]) rfl (fun h => h)
      have hJ844 : ∀ (x18_1125 : Int32) (x22_1126 : Int64) (w1127 : ZW), zLR G l "LoveLocksLaw" cL_law zc zs (Sum.elim (fun s1106 => zLA G l "LoveLocksLaw" cL_law zc zs 681 [(0, .ref (z_b G)), (1, .ref (G.1 0)), (2, .ref (G.1 130)), (3, .int x3_1102), (4, .int s1106.1), (5, .int x5_1104), (16, .long s1106.2.1), (18, .int s1106.2.2.1)] [] s1106.2.2.2) (fun q1107 => zLA G l "LoveLocksLaw" cL_law zc zs 938 [(0, .ref (z_b G)), (1, .ref (G.1 0)), (2, .ref (G.1 130)), (3, .int x3_1102), (4, .int q1107.1), (5, .int x5_1104), (16, .long q1107.2.1)] [] q1107.2.2)) 844 [(0, .ref (z_b G)), (1, .ref (G.1 0)), (2, .ref (G.1 130)), (3, .int x3_1102), (5, .int x5_1104), (18, .int x18_1125), (22, .long x22_1126)] [] w1127 (f_law2_J844 x18_1125 x22_1126 w1127) := by
        intro x18_1125 x22_1126 w1127
        rw [f_law2_J844]
        refine q_iconst 845 dL_law_844 rfl zci_0 ?_
        exact q_sub [0, 1, 2, 3, 4, 5, 6] (lv2 := [(0, .ref (z_b G)), (1, .ref (G.1 0)), (2, .ref (G.1 130)), (3, .int x3_1102), (5, .int x5_1104), (18, .int x18_1125), (22, .long x22_1126)]) rfl (hJ845 x18_1125 x22_1126 (0 : Int32) w1127)
      have hJ804 : ∀ (x16_1120 : Int64) (x18_1121 : Int32) (k1122 : Int32) (w1123 : ZW), zLR G l "LoveLocksLaw" cL_law zc zs (Sum.elim (fun s1106 => zLA G l "LoveLocksLaw" cL_law zc zs 681 [(0, .ref (z_b G)), (1, .ref (G.1 0)), (2, .ref (G.1 130)), (3, .int x3_1102), (4, .int s1106.1), (5, .int x5_1104), (16, .long s1106.2.1), (18, .int s1106.2.2.1)] [] s1106.2.2.2) (fun q1107 => zLA G l "LoveLocksLaw" cL_law zc zs 938 [(0, .ref (z_b G)), (1, .ref (G.1 0)), (2, .ref (G.1 130)), (3, .int x3_1102), (4, .int q1107.1), (5, .int x5_1104), (16, .long q1107.2.1)] [] q1107.2.2)) 804 [(0, .ref (z_b G)), (1, .ref (G.1 0)), (2, .ref (G.1 130)), (3, .int x3_1102), (5, .int x5_1104), (16, .long x16_1120), (18, .int x18_1121)] [.int k1122] w1123 (f_law2_J804 x16_1120 x18_1121 k1122 w1123) := by
        intro x16_1120 x18_1121 k1122 w1123
        rw [f_law2_J804]
        refine q_istore 806 [(4, .int k1122), (0, .ref (z_b G)), (1, .ref (G.1 0)), (2, .ref (G.1 130)), (3, .int x3_1102), (5, .int x5_1104), (16, .long x16_1120), (18, .int x18_1121)] dL_law_804 rfl (by decide) rfl ?_
        refine q_aload_n 807 dL_law_806 rfl 2 rfl rfl ?_
        refine q_callVjw 810 0 (ko := 0) [] (st := []) hzc hzs dL_law_807 rfl rfl (fun r h => c_X11_ways G l 60 (by decide) w1123 r h) zl_0 (ce_0 G _) rfl rfl wc_X11_ways wz_X11 wl_L_83 wi_X11_ways ws_X11_ways zd_X11_ways (by decide) (by decide) rfl (Nat.le_of_ble_eq_true rfl) (fun r1124 => ?_)
        refine q_lstore 812 [(22, .long r1124.1), (4, .int k1122), (0, .ref (z_b G)), (1, .ref (G.1 0)), (2, .ref (G.1 130)), (3, .int x3_1102), (5, .int x5_1104), (16, .long x16_1120), (18, .int x18_1121)] dL_law_810 rfl (by decide) rfl ?_
        refine q_iload 814 dL_law_812 rfl 1 rfl ?_
        refine q_if_eq 844 817 dL_law_814 (by decide) rfl ?_ ?_
        · exact q_sub [2, 3, 4, 5, 6, 8, 0] (lv2 := [(0, .ref (z_b G)), (1, .ref (G.1 0)), (2, .ref (G.1 130)), (3, .int x3_1102), (5, .int x5_1104), (18, .int x18_1121), (22, .long r1124.1)]) rfl (hJ844 x18_1121 r1124.1 r1124.2)
        · refine q_lload 819 dL_law_817 rfl 0 rfl ?_
          refine q_lload 821 dL_law_819 rfl 7 rfl ?_
          refine q_aload_n 822 dL_law_821 rfl 3 rfl rfl ?_
          refine q_iload 824 dL_law_822 rfl 8 rfl ?_
          refine q_callVi 827 1 (ko := 0) [.int x18_1121] (st := [.long x16_1120, .long r1124.1]) hzc hzs dL_law_824 rfl rfl (fun r h => c_X11_readings G l 60 (by decide) r1124.2 x18_1121 r h) zl_0 (ce_0 G _) rfl rfl wc_X11_readings wz_X11 wl_L_87 wi_X11_readings ws_X11_readings zd_X11_readings (by decide) (by decide) rfl (Nat.le_of_ble_eq_true rfl) (fun r1139 => ?_)
          refine q_i2l 828 dL_law_827 rfl ?_
          refine q_lmul 829 dL_law_828 rfl ?_
          refine q_lcmp 830 dL_law_829 rfl ?_
          refine q_if_gt 844 833 dL_law_830 (by decide) rfl ?_ ?_
          · exact q_sub [2, 3, 4, 5, 6, 8, 0] (lv2 := [(0, .ref (z_b G)), (1, .ref (G.1 0)), (2, .ref (G.1 130)), (3, .int x3_1102), (5, .int x5_1104), (18, .int x18_1121), (22, .long r1124.1)]) rfl (hJ844 x18_1121 r1124.1 r1124.2)
          · refine q_lload 835 dL_law_833 rfl 0 rfl ?_
            refine q_lconst 836 dL_law_835 rfl zcl_0 ?_
            refine q_lcmp 837 dL_law_836 rfl ?_
            refine q_if_lt 844 840 dL_law_837 (by decide) rfl ?_ ?_
            · exact q_sub [2, 3, 4, 5, 6, 8, 0] (lv2 := [(0, .ref (z_b G)), (1, .ref (G.1 0)), (2, .ref (G.1 130)), (3, .int x3_1102), (5, .int x5_1104), (18, .int x18_1121), (22, .long r1124.1)]) rfl (hJ844 x18_1121 r1124.1 r1124.2)
            · refine q_iconst 841 dL_law_840 rfl zci_1 ?_
              refine q_goto 845 dL_law_841 (by decide) ?_
              exact q_sub [2, 3, 4, 5, 6, 8, 0] (lv2 := [(0, .ref (z_b G)), (1, .ref (G.1 0)), (2, .ref (G.1 130)), (3, .int x3_1102), (5, .int x5_1104), (18, .int x18_1121), (22, .long r1124.1)]) rfl (hJ845 x18_1121 r1124.1 (1 : Int32) r1124.2)
      have hJ803 : ∀ (x16_1117 : Int64) (x18_1118 : Int32) (w1119 : ZW), zLR G l "LoveLocksLaw" cL_law zc zs (Sum.elim (fun s1106 => zLA G l "LoveLocksLaw" cL_law zc zs 681 [(0, .ref (z_b G)), (1, .ref (G.1 0)), (2, .ref (G.1 130)), (3, .int x3_1102), (4, .int s1106.1), (5, .int x5_1104), (16, .long s1106.2.1), (18, .int s1106.2.2.1)] [] s1106.2.2.2) (fun q1107 => zLA G l "LoveLocksLaw" cL_law zc zs 938 [(0, .ref (z_b G)), (1, .ref (G.1 0)), (2, .ref (G.1 130)), (3, .int x3_1102), (4, .int q1107.1), (5, .int x5_1104), (16, .long q1107.2.1)] [] q1107.2.2)) 803 [(0, .ref (z_b G)), (1, .ref (G.1 0)), (2, .ref (G.1 130)), (3, .int x3_1102), (5, .int x5_1104), (16, .long x16_1117), (18, .int x18_1118)] [] w1119 (f_law2_J803 x16_1117 x18_1118 w1119) := by
        intro x16_1117 x18_1118 w1119
        rw [f_law2_J803]
        refine q_iconst 804 dL_law_803 rfl zci_0 ?_
        exact q_sub [0, 1, 2, 3, 4, 5, 6] (lv2 := [(0, .ref (z_b G)), (1, .ref (G.1 0)), (2, .ref (G.1 130)), (3, .int x3_1102), (5, .int x5_1104), (16, .long x16_1117), (18, .int x18_1118)]) rfl (hJ804 x16_1117 x18_1118 (0 : Int32) w1119)
      have hJ753 : ∀ (x16_1111 : Int64) (x18_1112 : Int32) (x21_1113 : Int32) (k1114 : Int64) (w1115 : ZW), zLR G l "LoveLocksLaw" cL_law zc zs (Sum.elim (fun s1106 => zLA G l "LoveLocksLaw" cL_law zc zs 681 [(0, .ref (z_b G)), (1, .ref (G.1 0)), (2, .ref (G.1 130)), (3, .int x3_1102), (4, .int s1106.1), (5, .int x5_1104), (16, .long s1106.2.1), (18, .int s1106.2.2.1)] [] s1106.2.2.2) (fun q1107 => zLA G l "LoveLocksLaw" cL_law zc zs 938 [(0, .ref (z_b G)), (1, .ref (G.1 0)), (2, .ref (G.1 130)), (3, .int x3_1102), (4, .int q1107.1), (5, .int x5_1104), (16, .long q1107.2.1)] [] q1107.2.2)) 753 [(0, .ref (z_b G)), (1, .ref (G.1 0)), (2, .ref (G.1 130)), (3, .int x3_1102), (5, .int x5_1104), (16, .long x16_1111), (18, .int x18_1112), (21, .int x21_1113)] [.long k1114, .ref (G.1 0)] w1115 (f_law2_J753 x16_1111 x18_1112 x21_1113 k1114 w1115) := by
        intro x16_1111 x18_1112 x21_1113 k1114 w1115
        rw [f_law2_J753]
        refine q_iconst 754 dL_law_753 rfl zci_1 ?_
        refine q_callViw 757 2 (ko := 0) [.long k1114, .int (1 : Int32)] (st := []) hzc hzs dL_law_754 rfl rfl (fun r h => c_X11_type G l 60 (by decide) w1115 k1114 (1 : Int32) r h) zl_0 (ce_0 G _) rfl rfl wc_X11_type wz_X11 wl_L_69 wi_X11_type ws_X11_type zd_X11_type (by decide) (by decide) rfl (Nat.le_of_ble_eq_true rfl) (fun r1116 => ?_)
        refine q_iconst 758 dL_law_757 rfl zci_1 ?_
        refine q_icmp_ne 803 761 dL_law_758 (by decide) rfl ?_ ?_
        · exact q_sub [0, 1, 2, 3, 4, 5, 6] (lv2 := [(0, .ref (z_b G)), (1, .ref (G.1 0)), (2, .ref (G.1 130)), (3, .int x3_1102), (5, .int x5_1104), (16, .long x16_1111), (18, .int x18_1112)]) rfl (hJ803 x16_1111 x18_1112 r1116.2)
        · refine q_aload_n 762 dL_law_761 rfl 1 rfl rfl ?_
          refine q_ldc2 765 dL_law_762 rfl wk_L_78 ?_
          refine q_iconst 766 dL_law_765 rfl zci_1 ?_
          refine q_callViw 769 2 (ko := 0) [.long (43 : Int64), .int (1 : Int32)] (st := []) hzc hzs dL_law_766 rfl rfl (fun r h => c_X11_type G l 60 (by decide) r1116.2 (43 : Int64) (1 : Int32) r h) zl_0 (ce_0 G _) rfl rfl wc_X11_type wz_X11 wl_L_69 wi_X11_type ws_X11_type zd_X11_type (by decide) (by decide) rfl (Nat.le_of_ble_eq_true rfl) (fun r1140 => ?_)
          refine q_iconst 770 dL_law_769 rfl zci_2 ?_
          refine q_icmp_ne 803 773 dL_law_770 (by decide) rfl ?_ ?_
          · exact q_sub [0, 1, 2, 3, 4, 5, 6] (lv2 := [(0, .ref (z_b G)), (1, .ref (G.1 0)), (2, .ref (G.1 130)), (3, .int x3_1102), (5, .int x5_1104), (16, .long x16_1111), (18, .int x18_1112)]) rfl (hJ803 x16_1111 x18_1112 r1140.2)
          · refine q_aload_n 774 dL_law_773 rfl 1 rfl rfl ?_
            refine q_ldc2 777 dL_law_774 rfl wk_L_67 ?_
            refine q_iload 779 dL_law_777 rfl 7 rfl ?_
            refine q_i2l 780 dL_law_779 rfl ?_
            refine q_ladd 781 dL_law_780 rfl ?_
            refine q_iconst 782 dL_law_781 rfl zci_1 ?_
            refine q_callViw 785 2 (ko := 0) [.long ((65 : Int64) + x21_1113.toInt64), .int (1 : Int32)] (st := []) hzc hzs dL_law_782 rfl rfl (fun r h => c_X11_type G l 60 (by decide) r1140.2 ((65 : Int64) + x21_1113.toInt64) (1 : Int32) r h) zl_0 (ce_0 G _) rfl rfl wc_X11_type wz_X11 wl_L_69 wi_X11_type ws_X11_type zd_X11_type (by decide) (by decide) rfl (Nat.le_of_ble_eq_true rfl) (fun r1141 => ?_)
            refine q_iconst 786 dL_law_785 rfl zci_3 ?_
            refine q_icmp_ne 803 789 dL_law_786 (by decide) rfl ?_ ?_
            · exact q_sub [0, 1, 2, 3, 4, 5, 6] (lv2 := [(0, .ref (z_b G)), (1, .ref (G.1 0)), (2, .ref (G.1 130)), (3, .int x3_1102), (5, .int x5_1104), (16, .long x16_1111), (18, .int x18_1112)]) rfl (hJ803 x16_1111 x18_1112 r1141.2)
            · refine q_aload_n 790 dL_law_789 rfl 1 rfl rfl ?_
              refine q_iload 792 dL_law_790 rfl 6 rfl ?_
              refine q_callViw 795 1 (ko := 0) [.int x18_1112] (st := []) hzc hzs dL_law_792 rfl rfl (fun r h => c_X11_letters G l 60 (by decide) r1141.2 x18_1112 r h) zl_0 (ce_0 G _) rfl rfl wc_X11_letters wz_X11 wl_L_80 wi_X11_letters ws_X11_letters zd_X11_letters (by decide) (by decide) rfl (Nat.le_of_ble_eq_true rfl) (fun r1142 => ?_)
              refine q_iconst 796 dL_law_795 rfl zci_2 ?_
              refine q_icmp_ne 803 799 dL_law_796 (by decide) rfl ?_ ?_
              · exact q_sub [0, 1, 2, 3, 4, 5, 6] (lv2 := [(0, .ref (z_b G)), (1, .ref (G.1 0)), (2, .ref (G.1 130)), (3, .int x3_1102), (5, .int x5_1104), (16, .long x16_1111), (18, .int x18_1112)]) rfl (hJ803 x16_1111 x18_1112 r1142.2)
              · refine q_iconst 800 dL_law_799 rfl zci_1 ?_
                refine q_goto 804 dL_law_800 (by decide) ?_
                exact q_sub [0, 1, 2, 3, 4, 5, 6] (lv2 := [(0, .ref (z_b G)), (1, .ref (G.1 0)), (2, .ref (G.1 130)), (3, .int x3_1102), (5, .int x5_1104), (16, .long x16_1111), (18, .int x18_1112)]) rfl (hJ804 x16_1111 x18_1112 (1 : Int32) r1142.2)
      refine q_iload 683 dL_law_681 rfl 7 rfl ?_
      refine q_iload_n 684 dL_law_683 rfl 3 rfl rfl ?_
      refine q_icmp_ge 938 687 dL_law_684 (by decide) rfl ?_ ?_
      · exact q_leaf [0, 1, 2, 3, 4, 5, 6] (lv2 := [(0, .ref (z_b G)), (1, .ref (G.1 0)), (2, .ref (G.1 130)), (3, .int x3_1102), (4, .int s1106.1), (5, .int x5_1104), (16, .long s1106.2.1)]) rfl (fun h => h)
      · refine q_iload 689 dL_law_687 rfl 7 rfl ?_
        refine q_iconst 690 dL_law_689 rfl zci_4 ?_
        refine q_icmp_ge 938 693 dL_law_690 (by decide) rfl ?_ ?_
        · exact q_leaf [0, 1, 2, 3, 4, 5, 6] (lv2 := [(0, .ref (z_b G)), (1, .ref (G.1 0)), (2, .ref (G.1 130)), (3, .int x3_1102), (4, .int s1106.1), (5, .int x5_1104), (16, .long s1106.2.1)]) rfl (fun h => h)
        · refine q_iload 695 dL_law_693 rfl 4 rfl ?_
          refine q_if_eq 938 698 dL_law_695 (by decide) rfl ?_ ?_
          · exact q_leaf [0, 1, 2, 3, 4, 5, 6] (lv2 := [(0, .ref (z_b G)), (1, .ref (G.1 0)), (2, .ref (G.1 130)), (3, .int x3_1102), (4, .int s1106.1), (5, .int x5_1104), (16, .long s1106.2.1)]) rfl (fun h => h)
          · refine q_aload_n 699 dL_law_698 rfl 0 rfl rfl ?_
            refine q_bipush 701 dL_law_699 rfl zcb_9 ?_
            refine q_iload 703 dL_law_701 rfl 7 rfl ?_
            refine q_iadd 704 dL_law_703 rfl ?_
            refine q_callSi 707 2 [.ref (z_b G), .int ((9 : Int32) + s1106.2.2.1)] (st := []) hzc hzs dL_law_704 rfl rfl (fun r h => c_L_cell G l 60 (by decide) s1106.2.2.2 xs len ((9 : Int32) + s1106.2.2.1) hxs hlen r h) wc_L_cell wz_L wl_L_9 wst_L_cell zd_L_cell (by decide) (by decide) rfl (Nat.le_of_ble_eq_true rfl) (fun r1108 => ?_)
            refine q_istore 709 [(19, .int r1108), (0, .ref (z_b G)), (1, .ref (G.1 0)), (2, .ref (G.1 130)), (3, .int x3_1102), (4, .int s1106.1), (5, .int x5_1104), (16, .long s1106.2.1), (18, .int s1106.2.2.1)] dL_law_707 rfl (by decide) rfl ?_
            refine q_iload 711 dL_law_709 rfl 0 rfl ?_
            refine q_iconst 712 dL_law_711 rfl zci_4 ?_
            refine q_irem 713 dL_law_712 rfl (by decide) ?_
            refine q_topi (fun y1109 => ?_)
            refine q_istore 715 [(20, .int y1109), (19, .int r1108), (0, .ref (z_b G)), (1, .ref (G.1 0)), (2, .ref (G.1 130)), (3, .int x3_1102), (4, .int s1106.1), (5, .int x5_1104), (16, .long s1106.2.1), (18, .int s1106.2.2.1)] dL_law_713 rfl (by decide) rfl ?_
            refine q_iload 717 dL_law_715 rfl 0 rfl ?_
            refine q_iconst 718 dL_law_717 rfl zci_1 ?_
            refine q_iadd 719 dL_law_718 rfl ?_
            refine q_iload 721 dL_law_719 rfl 1 rfl ?_
            refine q_iconst 722 dL_law_721 rfl zci_2 ?_
            refine q_ishr 723 dL_law_722 rfl ?_
            refine q_iconst 724 dL_law_723 rfl zci_3 ?_
            refine q_irem 725 dL_law_724 rfl (by decide) ?_
            refine q_iadd 726 dL_law_725 rfl ?_
            refine q_iconst 727 dL_law_726 rfl zci_4 ?_
            refine q_irem 728 dL_law_727 rfl (by decide) ?_
            refine q_topi (fun y1110 => ?_)
            refine q_istore 730 [(21, .int y1110), (20, .int y1109), (19, .int r1108), (0, .ref (z_b G)), (1, .ref (G.1 0)), (2, .ref (G.1 130)), (3, .int x3_1102), (4, .int s1106.1), (5, .int x5_1104), (16, .long s1106.2.1), (18, .int s1106.2.2.1)] dL_law_728 rfl (by decide) rfl ?_
            refine q_aload_n 731 dL_law_730 rfl 4 rfl rfl ?_
            refine q_iload 733 dL_law_731 rfl 2 rfl ?_
            refine q_iconst 734 dL_law_733 rfl zci_4 ?_
            refine q_ishr 735 dL_law_734 rfl ?_
            refine q_iconst 736 dL_law_735 rfl zci_1 ?_
            refine q_iand 737 dL_law_736 rfl ?_
            refine q_if_ne 746 740 dL_law_737 (by decide) rfl ?_ ?_
            · refine q_ldc2 749 dL_law_746 rfl wk_L_67 ?_
              refine q_iload 751 dL_law_749 rfl 1 rfl ?_
              refine q_i2l 752 dL_law_751 rfl ?_
              refine q_ladd 753 dL_law_752 rfl ?_
              exact q_sub [3, 4, 5, 6, 8, 9, 10, 0] (lv2 := [(0, .ref (z_b G)), (1, .ref (G.1 0)), (2, .ref (G.1 130)), (3, .int x3_1102), (5, .int x5_1104), (16, .long s1106.2.1), (18, .int s1106.2.2.1), (21, .int y1110)]) rfl (hJ753 s1106.2.1 s1106.2.2.1 y1110 ((65 : Int64) + y1109.toInt64) s1106.2.2.2)
            · refine q_ldc2 743 dL_law_740 rfl wk_L_76 ?_
              refine q_goto 753 dL_law_743 (by decide) ?_
              exact q_sub [3, 4, 5, 6, 8, 9, 10, 0] (lv2 := [(0, .ref (z_b G)), (1, .ref (G.1 0)), (2, .ref (G.1 130)), (3, .int x3_1102), (5, .int x5_1104), (16, .long s1106.2.1), (18, .int s1106.2.2.1), (21, .int y1110)]) rfl (hJ753 s1106.2.1 s1106.2.2.1 y1110 (63 : Int64) s1106.2.2.2)
    · exact q_sub [0, 1, 2, 3, 4, 5, 6] (lv2 := [(0, .ref (z_b G)), (1, .ref (G.1 0)), (2, .ref (G.1 130)), (3, .int x3_1102), (4, .int q1107.1), (5, .int x5_1104), (16, .long q1107.2.1)]) rfl (hJ938 x3_1102 q1107.1 x5_1104 q1107.2.1 q1107.2.2)
  have hJ623 : ∀ (x3_1094 : Int32) (x4_1095 : Int32) (x5_1096 : Int32) (w1097 : ZW), zLR G l "LoveLocksLaw" cL_law zc zs (fun x : Int32 => x = 1) 623 [(0, .ref (z_b G)), (1, .ref (G.1 0)), (2, .ref (G.1 130)), (3, .int x3_1094), (4, .int x4_1095), (5, .int x5_1096)] [] w1097 (f_law2_J623 xs len x3_1094 x4_1095 x5_1096 w1097) := by
    intro x3_1094 x4_1095 x5_1096 w1097
    rw [f_law2_J623]
    refine q_iconst 624 dL_law_623 rfl zci_0 ?_
    refine q_istore 626 [(16, .int (0 : Int32)), (0, .ref (z_b G)), (1, .ref (G.1 0)), (2, .ref (G.1 130)), (3, .int x3_1094), (4, .int x4_1095), (5, .int x5_1096)] dL_law_624 rfl (by decide) rfl ?_
    refine q_loopE [1, 2, 3, 4, 5, 6, 0] (fun s1098 => [(0, .ref (z_b G)), (1, .ref (G.1 0)), (2, .ref (G.1 130)), (3, .int x3_1094), (4, .int s1098.1), (5, .int x5_1096), (16, .int s1098.2.1)]) (fun s1098 => s1098.2.2) 675 (fun q1099 => [(0, .ref (z_b G)), (1, .ref (G.1 0)), (2, .ref (G.1 130)), (3, .int x3_1094), (4, .int q1099.1), (5, .int x5_1096)]) (fun q1099 => q1099.2) rfl rfl (fun s1098 => ?_) (fun q1099 => ?_)
    · rw [f_law2_L626]
      refine q_iload 628 dL_law_626 rfl 6 rfl ?_
      refine q_iconst 629 dL_law_628 rfl zci_4 ?_
      refine q_icmp_ge 675 632 dL_law_629 (by decide) rfl ?_ ?_
      · exact q_leaf [0, 1, 2, 3, 4, 5] (lv2 := [(0, .ref (z_b G)), (1, .ref (G.1 0)), (2, .ref (G.1 130)), (3, .int x3_1094), (4, .int s1098.1), (5, .int x5_1096)]) rfl (fun h => h)
      · refine q_iload 634 dL_law_632 rfl 4 rfl ?_
        refine q_if_eq 675 637 dL_law_634 (by decide) rfl ?_ ?_
        · exact q_leaf [0, 1, 2, 3, 4, 5] (lv2 := [(0, .ref (z_b G)), (1, .ref (G.1 0)), (2, .ref (G.1 130)), (3, .int x3_1094), (4, .int s1098.1), (5, .int x5_1096)]) rfl (fun h => h)
        · refine q_aload_n 638 dL_law_637 rfl 1 rfl rfl ?_
          refine q_ldc2 641 dL_law_638 rfl wk_L_67 ?_
          refine q_iload 643 dL_law_641 rfl 6 rfl ?_
          refine q_i2l 644 dL_law_643 rfl ?_
          refine q_ladd 645 dL_law_644 rfl ?_
          refine q_iconst 646 dL_law_645 rfl zci_1 ?_
          refine q_callViw 649 2 (ko := 0) [.long ((65 : Int64) + s1098.2.1.toInt64), .int (1 : Int32)] (st := []) hzc hzs dL_law_646 rfl rfl (fun r h => c_X11_type G l 60 (by decide) s1098.2.2 ((65 : Int64) + s1098.2.1.toInt64) (1 : Int32) r h) zl_0 (ce_0 G _) rfl rfl wc_X11_type wz_X11 wl_L_69 wi_X11_type ws_X11_type zd_X11_type (by decide) (by decide) rfl (Nat.le_of_ble_eq_true rfl) (fun r1100 => ?_)
          refine q_iconst 650 dL_law_649 rfl zci_1 ?_
          refine q_icmp_ne 666 653 dL_law_650 (by decide) rfl ?_ ?_
          · refine q_iconst 667 dL_law_666 rfl zci_0 ?_
            refine q_istore 669 [(4, .int (0 : Int32)), (0, .ref (z_b G)), (1, .ref (G.1 0)), (2, .ref (G.1 130)), (3, .int x3_1094), (5, .int x5_1096), (16, .int s1098.2.1)] dL_law_667 rfl (by decide) rfl ?_
            refine q_iinc 672 6 [(16, .int (s1098.2.1 + (1 : Int32))), (4, .int (0 : Int32)), (0, .ref (z_b G)), (1, .ref (G.1 0)), (2, .ref (G.1 130)), (3, .int x3_1094), (5, .int x5_1096)] dL_law_669 rfl rfl zci_1 (by decide) rfl ?_
            refine q_goto 626 dL_law_672 (by decide) ?_
            exact q_leaf [2, 3, 4, 5, 1, 6, 0] (lv2 := [(0, .ref (z_b G)), (1, .ref (G.1 0)), (2, .ref (G.1 130)), (3, .int x3_1094), (4, .int (0 : Int32)), (5, .int x5_1096), (16, .int (s1098.2.1 + (1 : Int32)))]) rfl (fun h => h)
          · refine q_aload_n 654 dL_law_653 rfl 1 rfl rfl ?_
            refine q_callViw 657 0 (ko := 0) [] (st := []) hzc hzs dL_law_654 rfl rfl (fun r h => c_X11_person G l 60 (by decide) r1100.2 r h) zl_0 (ce_0 G _) rfl rfl wc_X11_person wz_X11 wl_L_73 wi_X11_person ws_X11_person zd_X11_person (by decide) (by decide) rfl (Nat.le_of_ble_eq_true rfl) (fun r1101 => ?_)
            refine q_iload 659 dL_law_657 rfl 6 rfl ?_
            refine q_icmp_ne 666 662 dL_law_659 (by decide) rfl ?_ ?_
            · refine q_iconst 667 dL_law_666 rfl zci_0 ?_
              refine q_istore 669 [(4, .int (0 : Int32)), (0, .ref (z_b G)), (1, .ref (G.1 0)), (2, .ref (G.1 130)), (3, .int x3_1094), (5, .int x5_1096), (16, .int s1098.2.1)] dL_law_667 rfl (by decide) rfl ?_
              refine q_iinc 672 6 [(16, .int (s1098.2.1 + (1 : Int32))), (4, .int (0 : Int32)), (0, .ref (z_b G)), (1, .ref (G.1 0)), (2, .ref (G.1 130)), (3, .int x3_1094), (5, .int x5_1096)] dL_law_669 rfl rfl zci_1 (by decide) rfl ?_
              refine q_goto 626 dL_law_672 (by decide) ?_
              exact q_leaf [2, 3, 4, 5, 1, 6, 0] (lv2 := [(0, .ref (z_b G)), (1, .ref (G.1 0)), (2, .ref (G.1 130)), (3, .int x3_1094), (4, .int (0 : Int32)), (5, .int x5_1096), (16, .int (s1098.2.1 + (1 : Int32)))]) rfl (fun h => h)
            · refine q_iconst 663 dL_law_662 rfl zci_1 ?_
              refine q_goto 667 dL_law_663 (by decide) ?_
              refine q_istore 669 [(4, .int (1 : Int32)), (0, .ref (z_b G)), (1, .ref (G.1 0)), (2, .ref (G.1 130)), (3, .int x3_1094), (5, .int x5_1096), (16, .int s1098.2.1)] dL_law_667 rfl (by decide) rfl ?_
              refine q_iinc 672 6 [(16, .int (s1098.2.1 + (1 : Int32))), (4, .int (1 : Int32)), (0, .ref (z_b G)), (1, .ref (G.1 0)), (2, .ref (G.1 130)), (3, .int x3_1094), (5, .int x5_1096)] dL_law_669 rfl rfl zci_1 (by decide) rfl ?_
              refine q_goto 626 dL_law_672 (by decide) ?_
              exact q_leaf [2, 3, 4, 5, 1, 6, 0] (lv2 := [(0, .ref (z_b G)), (1, .ref (G.1 0)), (2, .ref (G.1 130)), (3, .int x3_1094), (4, .int (1 : Int32)), (5, .int x5_1096), (16, .int (s1098.2.1 + (1 : Int32)))]) rfl (fun h => h)
    · exact q_sub [0, 1, 2, 3, 4, 5] (lv2 := [(0, .ref (z_b G)), (1, .ref (G.1 0)), (2, .ref (G.1 130)), (3, .int x3_1094), (4, .int q1099.1), (5, .int x5_1096)]) rfl (hJ675 x3_1094 q1099.1 x5_1096 q1099.2)
  have hJ502 : ∀ (x3_1076 : Int32) (x5_1077 : Int32) (k1078 : Int32) (w1079 : ZW), zLR G l "LoveLocksLaw" cL_law zc zs (fun x : Int32 => x = 1) 502 [(0, .ref (z_b G)), (1, .ref (G.1 0)), (2, .ref (G.1 130)), (3, .int x3_1076), (5, .int x5_1077)] [.int k1078] w1079 (f_law2_J502 xs len x3_1076 x5_1077 k1078 w1079) := by
    intro x3_1076 x5_1077 k1078 w1079
    rw [f_law2_J502]
    refine q_istore 504 [(4, .int k1078), (0, .ref (z_b G)), (1, .ref (G.1 0)), (2, .ref (G.1 130)), (3, .int x3_1076), (5, .int x5_1077)] dL_law_502 rfl (by decide) rfl ?_
    refine q_iconst 505 dL_law_504 rfl zci_0 ?_
    refine q_istore 507 [(16, .int (0 : Int32)), (4, .int k1078), (0, .ref (z_b G)), (1, .ref (G.1 0)), (2, .ref (G.1 130)), (3, .int x3_1076), (5, .int x5_1077)] dL_law_505 rfl (by decide) rfl ?_
    refine q_loopE [2, 3, 4, 5, 1, 6, 0] (fun s1080 => [(0, .ref (z_b G)), (1, .ref (G.1 0)), (2, .ref (G.1 130)), (3, .int x3_1076), (4, .int s1080.1), (5, .int x5_1077), (16, .int s1080.2)]) (fun s1080 => w1079) 623 (fun q1081 => [(0, .ref (z_b G)), (1, .ref (G.1 0)), (2, .ref (G.1 130)), (3, .int x3_1076), (4, .int q1081), (5, .int x5_1077)]) (fun q1081 => w1079) rfl rfl (fun s1080 => ?_) (fun q1081 => ?_)
    · rw [f_law2_L507]
      have hJ580 : ∀ (x16_1086 : Int32) (k1087 : Int32) (k1088 : Int32) (k1089 : Int32), zLR G l "LoveLocksLaw" cL_law zc zs (Sum.elim (fun s1080 => zLA G l "LoveLocksLaw" cL_law zc zs 507 [(0, .ref (z_b G)), (1, .ref (G.1 0)), (2, .ref (G.1 130)), (3, .int x3_1076), (4, .int s1080.1), (5, .int x5_1077), (16, .int s1080.2)] [] w1079) (fun q1081 => zLA G l "LoveLocksLaw" cL_law zc zs 623 [(0, .ref (z_b G)), (1, .ref (G.1 0)), (2, .ref (G.1 130)), (3, .int x3_1076), (4, .int q1081), (5, .int x5_1077)] [] w1079)) 580 [(0, .ref (z_b G)), (1, .ref (G.1 0)), (2, .ref (G.1 130)), (3, .int x3_1076), (5, .int x5_1077), (16, .int x16_1086)] [.int k1087, .int k1088, .int k1089] w1079 (f_law2_J580 w1079 x16_1086 k1087 k1088 k1089) := by
        intro x16_1086 k1087 k1088 k1089
        rw [f_law2_J580]
        refine q_imul 581 dL_law_580 rfl ?_
        refine q_icmp_gt 614 584 dL_law_581 (by decide) rfl ?_ ?_
        · refine q_iconst 615 dL_law_614 rfl zci_0 ?_
          refine q_istore 617 [(4, .int (0 : Int32)), (0, .ref (z_b G)), (1, .ref (G.1 0)), (2, .ref (G.1 130)), (3, .int x3_1076), (5, .int x5_1077), (16, .int x16_1086)] dL_law_615 rfl (by decide) rfl ?_
          refine q_iinc 620 6 [(16, .int (x16_1086 + (1 : Int32))), (4, .int (0 : Int32)), (0, .ref (z_b G)), (1, .ref (G.1 0)), (2, .ref (G.1 130)), (3, .int x3_1076), (5, .int x5_1077)] dL_law_617 rfl rfl zci_1 (by decide) rfl ?_
          refine q_goto 507 dL_law_620 (by decide) ?_
          exact q_leaf [2, 3, 4, 5, 1, 6, 0] (lv2 := [(0, .ref (z_b G)), (1, .ref (G.1 0)), (2, .ref (G.1 130)), (3, .int x3_1076), (4, .int (0 : Int32)), (5, .int x5_1077), (16, .int (x16_1086 + (1 : Int32)))]) rfl (fun h => h)
        · refine q_aload_n 585 dL_law_584 rfl 1 rfl rfl ?_
          refine q_iload 587 dL_law_585 rfl 5 rfl ?_
          refine q_iconst 588 dL_law_587 rfl zci_5 ?_
          refine q_callVi 591 2 (ko := 0) [.int x16_1086, .int (5 : Int32)] (st := []) hzc hzs dL_law_588 rfl rfl (fun r h => c_X11_told G l 60 (by decide) w1079 x16_1086 (5 : Int32) r h) zl_0 (ce_0 G _) rfl rfl wc_X11_told wz_X11 wl_L_53 wi_X11_told ws_X11_told zd_X11_told (by decide) (by decide) rfl (Nat.le_of_ble_eq_true rfl) (fun r1090 => ?_)
          refine q_if_lt 610 594 dL_law_591 (by decide) rfl ?_ ?_
          · refine q_iconst 611 dL_law_610 rfl zci_1 ?_
            refine q_goto 615 dL_law_611 (by decide) ?_
            refine q_istore 617 [(4, .int (1 : Int32)), (0, .ref (z_b G)), (1, .ref (G.1 0)), (2, .ref (G.1 130)), (3, .int x3_1076), (5, .int x5_1077), (16, .int x16_1086)] dL_law_615 rfl (by decide) rfl ?_
            refine q_iinc 620 6 [(16, .int (x16_1086 + (1 : Int32))), (4, .int (1 : Int32)), (0, .ref (z_b G)), (1, .ref (G.1 0)), (2, .ref (G.1 130)), (3, .int x3_1076), (5, .int x5_1077)] dL_law_617 rfl rfl zci_1 (by decide) rfl ?_
            refine q_goto 507 dL_law_620 (by decide) ?_
            exact q_leaf [2, 3, 4, 5, 1, 6, 0] (lv2 := [(0, .ref (z_b G)), (1, .ref (G.1 0)), (2, .ref (G.1 130)), (3, .int x3_1076), (4, .int (1 : Int32)), (5, .int x5_1077), (16, .int (x16_1086 + (1 : Int32)))]) rfl (fun h => h)
          · refine q_aload_n 595 dL_law_594 rfl 1 rfl rfl ?_
            refine q_aload_n 596 dL_law_595 rfl 1 rfl rfl ?_
            refine q_iload 598 dL_law_596 rfl 5 rfl ?_
            refine q_iconst 599 dL_law_598 rfl zci_5 ?_
            refine q_callVi 602 2 (ko := 0) [.int x16_1086, .int (5 : Int32)] (st := [.ref (G.1 0)]) hzc hzs dL_law_599 rfl rfl (fun r h => c_X11_told G l 60 (by decide) w1079 x16_1086 (5 : Int32) r h) zl_0 (ce_0 G _) rfl rfl wc_X11_told wz_X11 wl_L_53 wi_X11_told ws_X11_told zd_X11_told (by decide) (by decide) rfl (Nat.le_of_ble_eq_true rfl) (fun r1091 => ?_)
            refine q_bipush 604 dL_law_602 rfl zcb_7 ?_
            refine q_callVi 607 2 (ko := 0) [.int r1091, .int (7 : Int32)] (st := []) hzc hzs dL_law_604 rfl rfl (fun r h => c_X11_told G l 60 (by decide) w1079 r1091 (7 : Int32) r h) zl_0 (ce_0 G _) rfl rfl wc_X11_told wz_X11 wl_L_53 wi_X11_told ws_X11_told zd_X11_told (by decide) (by decide) rfl (Nat.le_of_ble_eq_true rfl) (fun r1092 => ?_)
            refine q_if_ne 614 610 dL_law_607 (by decide) rfl ?_ ?_
            · refine q_iconst 615 dL_law_614 rfl zci_0 ?_
              refine q_istore 617 [(4, .int (0 : Int32)), (0, .ref (z_b G)), (1, .ref (G.1 0)), (2, .ref (G.1 130)), (3, .int x3_1076), (5, .int x5_1077), (16, .int x16_1086)] dL_law_615 rfl (by decide) rfl ?_
              refine q_iinc 620 6 [(16, .int (x16_1086 + (1 : Int32))), (4, .int (0 : Int32)), (0, .ref (z_b G)), (1, .ref (G.1 0)), (2, .ref (G.1 130)), (3, .int x3_1076), (5, .int x5_1077)] dL_law_617 rfl rfl zci_1 (by decide) rfl ?_
              refine q_goto 507 dL_law_620 (by decide) ?_
              exact q_leaf [2, 3, 4, 5, 1, 6, 0] (lv2 := [(0, .ref (z_b G)), (1, .ref (G.1 0)), (2, .ref (G.1 130)), (3, .int x3_1076), (4, .int (0 : Int32)), (5, .int x5_1077), (16, .int (x16_1086 + (1 : Int32)))]) rfl (fun h => h)
            · refine q_iconst 611 dL_law_610 rfl zci_1 ?_
              refine q_goto 615 dL_law_611 (by decide) ?_
              refine q_istore 617 [(4, .int (1 : Int32)), (0, .ref (z_b G)), (1, .ref (G.1 0)), (2, .ref (G.1 130)), (3, .int x3_1076), (5, .int x5_1077), (16, .int x16_1086)] dL_law_615 rfl (by decide) rfl ?_
              refine q_iinc 620 6 [(16, .int (x16_1086 + (1 : Int32))), (4, .int (1 : Int32)), (0, .ref (z_b G)), (1, .ref (G.1 0)), (2, .ref (G.1 130)), (3, .int x3_1076), (5, .int x5_1077)] dL_law_617 rfl rfl zci_1 (by decide) rfl ?_
              refine q_goto 507 dL_law_620 (by decide) ?_
              exact q_leaf [2, 3, 4, 5, 1, 6, 0] (lv2 := [(0, .ref (z_b G)), (1, .ref (G.1 0)), (2, .ref (G.1 130)), (3, .int x3_1076), (4, .int (1 : Int32)), (5, .int x5_1077), (16, .int (x16_1086 + (1 : Int32)))]) rfl (fun h => h)
      refine q_iload 509 dL_law_507 rfl 6 rfl ?_
      refine q_iload_n 510 dL_law_509 rfl 3 rfl rfl ?_
      refine q_icmp_gt 623 513 dL_law_510 (by decide) rfl ?_ ?_
      · exact q_leaf [0, 1, 2, 3, 4, 5] (lv2 := [(0, .ref (z_b G)), (1, .ref (G.1 0)), (2, .ref (G.1 130)), (3, .int x3_1076), (4, .int s1080.1), (5, .int x5_1077)]) rfl (fun h => h)
      · refine q_iload 515 dL_law_513 rfl 4 rfl ?_
        refine q_if_eq 623 518 dL_law_515 (by decide) rfl ?_ ?_
        · exact q_leaf [0, 1, 2, 3, 4, 5] (lv2 := [(0, .ref (z_b G)), (1, .ref (G.1 0)), (2, .ref (G.1 130)), (3, .int x3_1076), (4, .int s1080.1), (5, .int x5_1077)]) rfl (fun h => h)
        · refine q_aload_n 519 dL_law_518 rfl 1 rfl rfl ?_
          refine q_iload 521 dL_law_519 rfl 6 rfl ?_
          refine q_bipush 523 dL_law_521 rfl zcb_7 ?_
          refine q_callVi 526 2 (ko := 0) [.int s1080.2, .int (7 : Int32)] (st := []) hzc hzs dL_law_523 rfl rfl (fun r h => c_X11_told G l 60 (by decide) w1079 s1080.2 (7 : Int32) r h) zl_0 (ce_0 G _) rfl rfl wc_X11_told wz_X11 wl_L_53 wi_X11_told ws_X11_told zd_X11_told (by decide) (by decide) rfl (Nat.le_of_ble_eq_true rfl) (fun r1082 => ?_)
          refine q_iconst 527 dL_law_526 rfl zci_1 ?_
          refine q_icmp_ne 549 530 dL_law_527 (by decide) rfl ?_ ?_
          · refine q_aload_n 550 dL_law_549 rfl 1 rfl rfl ?_
            refine q_iload 552 dL_law_550 rfl 6 rfl ?_
            refine q_bipush 554 dL_law_552 rfl zcb_6 ?_
            refine q_callVi 557 2 (ko := 0) [.int s1080.2, .int (6 : Int32)] (st := []) hzc hzs dL_law_554 rfl rfl (fun r h => c_X11_told G l 60 (by decide) w1079 s1080.2 (6 : Int32) r h) zl_0 (ce_0 G _) rfl rfl wc_X11_told wz_X11 wl_L_53 wi_X11_told ws_X11_told zd_X11_told (by decide) (by decide) rfl (Nat.le_of_ble_eq_true rfl) (fun r1083 => ?_)
            refine q_aload_n 558 dL_law_557 rfl 1 rfl rfl ?_
            refine q_iload 560 dL_law_558 rfl 6 rfl ?_
            refine q_iconst 561 dL_law_560 rfl zci_0 ?_
            refine q_callVi 564 2 (ko := 0) [.int s1080.2, .int (0 : Int32)] (st := [.int r1083]) hzc hzs dL_law_561 rfl rfl (fun r h => c_X11_told G l 60 (by decide) w1079 s1080.2 (0 : Int32) r h) zl_0 (ce_0 G _) rfl rfl wc_X11_told wz_X11 wl_L_53 wi_X11_told ws_X11_told zd_X11_told (by decide) (by decide) rfl (Nat.le_of_ble_eq_true rfl) (fun r1084 => ?_)
            refine q_aload_n 565 dL_law_564 rfl 1 rfl rfl ?_
            refine q_iload 567 dL_law_565 rfl 6 rfl ?_
            refine q_iconst 568 dL_law_567 rfl zci_1 ?_
            refine q_callVi 571 2 (ko := 0) [.int s1080.2, .int (1 : Int32)] (st := [.int r1084, .int r1083]) hzc hzs dL_law_568 rfl rfl (fun r h => c_X11_told G l 60 (by decide) w1079 s1080.2 (1 : Int32) r h) zl_0 (ce_0 G _) rfl rfl wc_X11_told wz_X11 wl_L_53 wi_X11_told ws_X11_told zd_X11_told (by decide) (by decide) rfl (Nat.le_of_ble_eq_true rfl) (fun r1085 => ?_)
            refine q_if_ne 578 574 dL_law_571 (by decide) rfl ?_ ?_
            · refine q_bipush 580 dL_law_578 rfl zcb_9 ?_
              exact q_sub [0, 1, 2, 3, 5, 6] (lv2 := [(0, .ref (z_b G)), (1, .ref (G.1 0)), (2, .ref (G.1 130)), (3, .int x3_1076), (5, .int x5_1077), (16, .int s1080.2)]) rfl (hJ580 s1080.2 (9 : Int32) r1084 r1083)
            · refine q_iconst 575 dL_law_574 rfl zci_5 ?_
              refine q_goto 580 dL_law_575 (by decide) ?_
              exact q_sub [0, 1, 2, 3, 5, 6] (lv2 := [(0, .ref (z_b G)), (1, .ref (G.1 0)), (2, .ref (G.1 130)), (3, .int x3_1076), (5, .int x5_1077), (16, .int s1080.2)]) rfl (hJ580 s1080.2 (5 : Int32) r1084 r1083)
          · refine q_aload_n 531 dL_law_530 rfl 1 rfl rfl ?_
            refine q_iload 533 dL_law_531 rfl 6 rfl ?_
            refine q_bipush 535 dL_law_533 rfl zcb_6 ?_
            refine q_callVi 538 2 (ko := 0) [.int s1080.2, .int (6 : Int32)] (st := []) hzc hzs dL_law_535 rfl rfl (fun r h => c_X11_told G l 60 (by decide) w1079 s1080.2 (6 : Int32) r h) zl_0 (ce_0 G _) rfl rfl wc_X11_told wz_X11 wl_L_53 wi_X11_told ws_X11_told zd_X11_told (by decide) (by decide) rfl (Nat.le_of_ble_eq_true rfl) (fun r1093 => ?_)
            refine q_if_ne 545 541 dL_law_538 (by decide) rfl ?_ ?_
            · refine q_iconst 546 dL_law_545 rfl zci_0 ?_
              refine q_goto 615 dL_law_546 (by decide) ?_
              refine q_istore 617 [(4, .int (0 : Int32)), (0, .ref (z_b G)), (1, .ref (G.1 0)), (2, .ref (G.1 130)), (3, .int x3_1076), (5, .int x5_1077), (16, .int s1080.2)] dL_law_615 rfl (by decide) rfl ?_
              refine q_iinc 620 6 [(16, .int (s1080.2 + (1 : Int32))), (4, .int (0 : Int32)), (0, .ref (z_b G)), (1, .ref (G.1 0)), (2, .ref (G.1 130)), (3, .int x3_1076), (5, .int x5_1077)] dL_law_617 rfl rfl zci_1 (by decide) rfl ?_
              refine q_goto 507 dL_law_620 (by decide) ?_
              exact q_leaf [2, 3, 4, 5, 1, 6, 0] (lv2 := [(0, .ref (z_b G)), (1, .ref (G.1 0)), (2, .ref (G.1 130)), (3, .int x3_1076), (4, .int (0 : Int32)), (5, .int x5_1077), (16, .int (s1080.2 + (1 : Int32)))]) rfl (fun h => h)
            · refine q_iconst 542 dL_law_541 rfl zci_1 ?_
              refine q_goto 615 dL_law_542 (by decide) ?_
              refine q_istore 617 [(4, .int (1 : Int32)), (0, .ref (z_b G)), (1, .ref (G.1 0)), (2, .ref (G.1 130)), (3, .int x3_1076), (5, .int x5_1077), (16, .int s1080.2)] dL_law_615 rfl (by decide) rfl ?_
              refine q_iinc 620 6 [(16, .int (s1080.2 + (1 : Int32))), (4, .int (1 : Int32)), (0, .ref (z_b G)), (1, .ref (G.1 0)), (2, .ref (G.1 130)), (3, .int x3_1076), (5, .int x5_1077)] dL_law_617 rfl rfl zci_1 (by decide) rfl ?_
              refine q_goto 507 dL_law_620 (by decide) ?_
              exact q_leaf [2, 3, 4, 5, 1, 6, 0] (lv2 := [(0, .ref (z_b G)), (1, .ref (G.1 0)), (2, .ref (G.1 130)), (3, .int x3_1076), (4, .int (1 : Int32)), (5, .int x5_1077), (16, .int (s1080.2 + (1 : Int32)))]) rfl (fun h => h)
    · exact q_sub [0, 1, 2, 3, 4, 5] (lv2 := [(0, .ref (z_b G)), (1, .ref (G.1 0)), (2, .ref (G.1 130)), (3, .int x3_1076), (4, .int q1081), (5, .int x5_1077)]) rfl (hJ623 x3_1076 q1081 x5_1077 w1079)
  have hJ501 : ∀ (x3_1073 : Int32) (x5_1074 : Int32) (w1075 : ZW), zLR G l "LoveLocksLaw" cL_law zc zs (fun x : Int32 => x = 1) 501 [(0, .ref (z_b G)), (1, .ref (G.1 0)), (2, .ref (G.1 130)), (3, .int x3_1073), (5, .int x5_1074)] [] w1075 (f_law2_J501 xs len x3_1073 x5_1074 w1075) := by
    intro x3_1073 x5_1074 w1075
    rw [f_law2_J501]
    refine q_iconst 502 dL_law_501 rfl zci_0 ?_
    exact q_sub [0, 1, 2, 3, 4] (lv2 := [(0, .ref (z_b G)), (1, .ref (G.1 0)), (2, .ref (G.1 130)), (3, .int x3_1073), (5, .int x5_1074)]) rfl (hJ502 x3_1073 x5_1074 (0 : Int32) w1075)
  have hJ455 : ∀ (x3_1068 : Int32) (x4_1069 : Int32) (x5_1070 : Int32) (w1071 : ZW), zLR G l "LoveLocksLaw" cL_law zc zs (fun x : Int32 => x = 1) 455 [(0, .ref (z_b G)), (1, .ref (G.1 0)), (2, .ref (G.1 130)), (3, .int x3_1068), (4, .int x4_1069), (5, .int x5_1070)] [] w1071 (f_law2_J455 xs len x3_1068 x4_1069 x5_1070 w1071) := by
    intro x3_1068 x4_1069 x5_1070 w1071
    rw [f_law2_J455]
    refine q_aload_n 456 dL_law_455 rfl 1 rfl rfl ?_
    refine q_callViw 459 0 (ko := 0) [] (st := []) hzc hzs dL_law_456 rfl rfl (fun r h => c_X11_giveWay G l 60 (by decide) w1071 r h) zl_0 (ce_0 G _) rfl rfl wc_X11_giveWay wz_X11 wl_L_56 wi_X11_giveWay ws_X11_giveWay zd_X11_giveWay (by decide) (by decide) rfl (Nat.le_of_ble_eq_true rfl) (fun r1072 => ?_)
    refine q_istore 461 [(15, .int r1072.1), (0, .ref (z_b G)), (1, .ref (G.1 0)), (2, .ref (G.1 130)), (3, .int x3_1068), (4, .int x4_1069), (5, .int x5_1070)] dL_law_459 rfl (by decide) rfl ?_
    refine q_iload 463 dL_law_461 rfl 5 rfl ?_
    refine q_if_eq 501 466 dL_law_463 (by decide) rfl ?_ ?_
    · exact q_sub [1, 2, 3, 4, 6] (lv2 := [(0, .ref (z_b G)), (1, .ref (G.1 0)), (2, .ref (G.1 130)), (3, .int x3_1068), (5, .int x5_1070)]) rfl (hJ501 x3_1068 x5_1070 r1072.2)
    · refine q_iload 468 dL_law_466 rfl 0 rfl ?_
      refine q_if_lt 501 471 dL_law_468 (by decide) rfl ?_ ?_
      · exact q_sub [1, 2, 3, 4, 6] (lv2 := [(0, .ref (z_b G)), (1, .ref (G.1 0)), (2, .ref (G.1 130)), (3, .int x3_1068), (5, .int x5_1070)]) rfl (hJ501 x3_1068 x5_1070 r1072.2)
      · refine q_aload_n 472 dL_law_471 rfl 2 rfl rfl ?_
        refine q_iconst 473 dL_law_472 rfl zci_2 ?_
        refine q_callVi 476 1 (ko := 0) [.int (2 : Int32)] (st := []) hzc hzs dL_law_473 rfl rfl (fun r h => c_X11_count G l 60 (by decide) r1072.2 (2 : Int32) r h) zl_0 (ce_0 G _) rfl rfl wc_X11_count wz_X11 wl_L_60 wi_X11_count ws_X11_count zd_X11_count (by decide) (by decide) rfl (Nat.le_of_ble_eq_true rfl) (fun r1205 => ?_)
        refine q_iload 478 dL_law_476 rfl 0 rfl ?_
        refine q_icmp_ne 501 481 dL_law_478 (by decide) rfl ?_ ?_
        · exact q_sub [1, 2, 3, 4, 6] (lv2 := [(0, .ref (z_b G)), (1, .ref (G.1 0)), (2, .ref (G.1 130)), (3, .int x3_1068), (5, .int x5_1070)]) rfl (hJ501 x3_1068 x5_1070 r1072.2)
        · refine q_aload_n 482 dL_law_481 rfl 2 rfl rfl ?_
          refine q_callVi 485 0 (ko := 0) [] (st := []) hzc hzs dL_law_482 rfl rfl (fun r h => c_X11_over G l 60 (by decide) r1072.2 r h) zl_0 (ce_0 G _) rfl rfl wc_X11_over wz_X11 wl_L_64 wi_X11_over ws_X11_over zd_X11_over (by decide) (by decide) rfl (Nat.le_of_ble_eq_true rfl) (fun r1206 => ?_)
          refine q_bipush 487 dL_law_485 rfl zcb_m4 ?_
          refine q_icmp_ne 501 490 dL_law_487 (by decide) rfl ?_ ?_
          · exact q_sub [1, 2, 3, 4, 6] (lv2 := [(0, .ref (z_b G)), (1, .ref (G.1 0)), (2, .ref (G.1 130)), (3, .int x3_1068), (5, .int x5_1070)]) rfl (hJ501 x3_1068 x5_1070 r1072.2)
          · refine q_aload_n 491 dL_law_490 rfl 2 rfl rfl ?_
            refine q_callViw 494 0 (ko := 0) [] (st := []) hzc hzs dL_law_491 rfl rfl (fun r h => c_X11_giveWay G l 60 (by decide) r1072.2 r h) zl_0 (ce_0 G _) rfl rfl wc_X11_giveWay wz_X11 wl_L_56 wi_X11_giveWay ws_X11_giveWay zd_X11_giveWay (by decide) (by decide) rfl (Nat.le_of_ble_eq_true rfl) (fun r1207 => ?_)
            refine q_if_ne 501 497 dL_law_494 (by decide) rfl ?_ ?_
            · exact q_sub [1, 2, 3, 4, 6] (lv2 := [(0, .ref (z_b G)), (1, .ref (G.1 0)), (2, .ref (G.1 130)), (3, .int x3_1068), (5, .int x5_1070)]) rfl (hJ501 x3_1068 x5_1070 r1207.2)
            · refine q_iconst 498 dL_law_497 rfl zci_1 ?_
              refine q_goto 502 dL_law_498 (by decide) ?_
              exact q_sub [1, 2, 3, 4, 6] (lv2 := [(0, .ref (z_b G)), (1, .ref (G.1 0)), (2, .ref (G.1 130)), (3, .int x3_1068), (5, .int x5_1070)]) rfl (hJ502 x3_1068 x5_1070 (1 : Int32) r1207.2)
  have hJ353 : ∀ (x3_1049 : Int32) (x5_1050 : Int32) (x11_1051 : Int32) (x12_1052 : Int32) (k1053 : Int32) (w1054 : ZW), zLR G l "LoveLocksLaw" cL_law zc zs (fun x : Int32 => x = 1) 353 [(0, .ref (z_b G)), (1, .ref (G.1 0)), (2, .ref (G.1 130)), (3, .int x3_1049), (5, .int x5_1050), (11, .int x11_1051), (12, .int x12_1052), (13, .ref (G.1 131))] [.int k1053] w1054 (f_law2_J353 xs len x3_1049 x5_1050 x11_1051 x12_1052 k1053 w1054) := by
    intro x3_1049 x5_1050 x11_1051 x12_1052 k1053 w1054
    rw [f_law2_J353]
    refine q_istore 355 [(4, .int k1053), (0, .ref (z_b G)), (1, .ref (G.1 0)), (2, .ref (G.1 130)), (3, .int x3_1049), (5, .int x5_1050), (11, .int x11_1051), (12, .int x12_1052), (13, .ref (G.1 131))] dL_law_353 rfl (by decide) rfl ?_
    refine q_iconst 356 dL_law_355 rfl zci_0 ?_
    refine q_istore 358 [(15, .int (0 : Int32)), (4, .int k1053), (0, .ref (z_b G)), (1, .ref (G.1 0)), (2, .ref (G.1 130)), (3, .int x3_1049), (5, .int x5_1050), (11, .int x11_1051), (12, .int x12_1052), (13, .ref (G.1 131))] dL_law_356 rfl (by decide) rfl ?_
    refine q_loopE [2, 3, 4, 5, 1, 6, 7, 8, 9, 0] (fun s1055 => [(0, .ref (z_b G)), (1, .ref (G.1 0)), (2, .ref (G.1 130)), (3, .int x3_1049), (4, .int s1055.1), (5, .int x5_1050), (11, .int x11_1051), (12, .int x12_1052), (13, .ref (G.1 131)), (15, .int s1055.2)]) (fun s1055 => w1054) 455 (fun q1056 => [(0, .ref (z_b G)), (1, .ref (G.1 0)), (2, .ref (G.1 130)), (3, .int x3_1049), (4, .int q1056), (5, .int x5_1050)]) (fun q1056 => w1054) rfl rfl (fun s1055 => ?_) (fun q1056 => ?_)
    · rw [f_law2_L358]
      have hJ438 : ∀ (x15_1064 : Int32) (k1065 : Int32) (k1066 : Int32) (k1067 : Int32), zLR G l "LoveLocksLaw" cL_law zc zs (Sum.elim (fun s1055 => zLA G l "LoveLocksLaw" cL_law zc zs 358 [(0, .ref (z_b G)), (1, .ref (G.1 0)), (2, .ref (G.1 130)), (3, .int x3_1049), (4, .int s1055.1), (5, .int x5_1050), (11, .int x11_1051), (12, .int x12_1052), (13, .ref (G.1 131)), (15, .int s1055.2)] [] w1054) (fun q1056 => zLA G l "LoveLocksLaw" cL_law zc zs 455 [(0, .ref (z_b G)), (1, .ref (G.1 0)), (2, .ref (G.1 130)), (3, .int x3_1049), (4, .int q1056), (5, .int x5_1050)] [] w1054)) 438 [(0, .ref (z_b G)), (1, .ref (G.1 0)), (2, .ref (G.1 130)), (3, .int x3_1049), (5, .int x5_1050), (11, .int x11_1051), (12, .int x12_1052), (13, .ref (G.1 131)), (15, .int x15_1064)] [.int k1065, .int k1066, .int k1067] w1054 (f_law2_J438 x15_1064 k1065 k1066 k1067) := by
        intro x15_1064 k1065 k1066 k1067
        rw [f_law2_J438]
        refine q_iadd 439 dL_law_438 rfl ?_
        refine q_icmp_ne 446 442 dL_law_439 (by decide) rfl ?_ ?_
        · refine q_iconst 447 dL_law_446 rfl zci_0 ?_
          refine q_istore 449 [(4, .int (0 : Int32)), (0, .ref (z_b G)), (1, .ref (G.1 0)), (2, .ref (G.1 130)), (3, .int x3_1049), (5, .int x5_1050), (11, .int x11_1051), (12, .int x12_1052), (13, .ref (G.1 131)), (15, .int x15_1064)] dL_law_447 rfl (by decide) rfl ?_
          refine q_iinc 452 9 [(15, .int (x15_1064 + (1 : Int32))), (4, .int (0 : Int32)), (0, .ref (z_b G)), (1, .ref (G.1 0)), (2, .ref (G.1 130)), (3, .int x3_1049), (5, .int x5_1050), (11, .int x11_1051), (12, .int x12_1052), (13, .ref (G.1 131))] dL_law_449 rfl rfl zci_1 (by decide) rfl ?_
          refine q_goto 358 dL_law_452 (by decide) ?_
          exact q_leaf [2, 3, 4, 5, 1, 6, 7, 8, 9, 0] (lv2 := [(0, .ref (z_b G)), (1, .ref (G.1 0)), (2, .ref (G.1 130)), (3, .int x3_1049), (4, .int (0 : Int32)), (5, .int x5_1050), (11, .int x11_1051), (12, .int x12_1052), (13, .ref (G.1 131)), (15, .int (x15_1064 + (1 : Int32)))]) rfl (fun h => h)
        · refine q_iconst 443 dL_law_442 rfl zci_1 ?_
          refine q_goto 447 dL_law_443 (by decide) ?_
          refine q_istore 449 [(4, .int (1 : Int32)), (0, .ref (z_b G)), (1, .ref (G.1 0)), (2, .ref (G.1 130)), (3, .int x3_1049), (5, .int x5_1050), (11, .int x11_1051), (12, .int x12_1052), (13, .ref (G.1 131)), (15, .int x15_1064)] dL_law_447 rfl (by decide) rfl ?_
          refine q_iinc 452 9 [(15, .int (x15_1064 + (1 : Int32))), (4, .int (1 : Int32)), (0, .ref (z_b G)), (1, .ref (G.1 0)), (2, .ref (G.1 130)), (3, .int x3_1049), (5, .int x5_1050), (11, .int x11_1051), (12, .int x12_1052), (13, .ref (G.1 131))] dL_law_449 rfl rfl zci_1 (by decide) rfl ?_
          refine q_goto 358 dL_law_452 (by decide) ?_
          exact q_leaf [2, 3, 4, 5, 1, 6, 7, 8, 9, 0] (lv2 := [(0, .ref (z_b G)), (1, .ref (G.1 0)), (2, .ref (G.1 130)), (3, .int x3_1049), (4, .int (1 : Int32)), (5, .int x5_1050), (11, .int x11_1051), (12, .int x12_1052), (13, .ref (G.1 131)), (15, .int (x15_1064 + (1 : Int32)))]) rfl (fun h => h)
      refine q_iload 360 dL_law_358 rfl 9 rfl ?_
      refine q_iload_n 361 dL_law_360 rfl 3 rfl rfl ?_
      refine q_icmp_ge 455 364 dL_law_361 (by decide) rfl ?_ ?_
      · exact q_leaf [0, 1, 2, 3, 4, 5] (lv2 := [(0, .ref (z_b G)), (1, .ref (G.1 0)), (2, .ref (G.1 130)), (3, .int x3_1049), (4, .int s1055.1), (5, .int x5_1050)]) rfl (fun h => h)
      · refine q_iload 366 dL_law_364 rfl 4 rfl ?_
        refine q_if_eq 455 369 dL_law_366 (by decide) rfl ?_ ?_
        · exact q_leaf [0, 1, 2, 3, 4, 5] (lv2 := [(0, .ref (z_b G)), (1, .ref (G.1 0)), (2, .ref (G.1 130)), (3, .int x3_1049), (4, .int s1055.1), (5, .int x5_1050)]) rfl (fun h => h)
        · refine q_iconst 370 dL_law_369 rfl zci_0 ?_
          refine q_istore 372 [(16, .int (0 : Int32)), (0, .ref (z_b G)), (1, .ref (G.1 0)), (2, .ref (G.1 130)), (3, .int x3_1049), (4, .int s1055.1), (5, .int x5_1050), (11, .int x11_1051), (12, .int x12_1052), (13, .ref (G.1 131)), (15, .int s1055.2)] dL_law_370 rfl (by decide) rfl ?_
          refine q_iload 374 dL_law_372 rfl 7 rfl ?_
          refine q_istore 376 [(17, .int x11_1051), (16, .int (0 : Int32)), (0, .ref (z_b G)), (1, .ref (G.1 0)), (2, .ref (G.1 130)), (3, .int x3_1049), (4, .int s1055.1), (5, .int x5_1050), (11, .int x11_1051), (12, .int x12_1052), (13, .ref (G.1 131)), (15, .int s1055.2)] dL_law_374 rfl (by decide) rfl ?_
          refine q_loopE [2, 3, 4, 5, 7, 8, 9, 10, 11, 1, 0] (fun s1057 => [(0, .ref (z_b G)), (1, .ref (G.1 0)), (2, .ref (G.1 130)), (3, .int x3_1049), (5, .int x5_1050), (11, .int x11_1051), (12, .int x12_1052), (13, .ref (G.1 131)), (15, .int s1055.2), (16, .int s1057.1), (17, .int s1057.2)]) (fun s1057 => w1054) 414 (fun q1058 => [(0, .ref (z_b G)), (1, .ref (G.1 0)), (2, .ref (G.1 130)), (3, .int x3_1049), (5, .int x5_1050), (11, .int x11_1051), (12, .int x12_1052), (13, .ref (G.1 131)), (15, .int s1055.2), (16, .int q1058)]) (fun q1058 => w1054) rfl rfl (fun s1057 => ?_) (fun q1058 => ?_)
          · rw [f_law2_L376]
            have hJ398 : ∀ (x17_1060 : Int32) (k1061 : Int32), zLR G l "LoveLocksLaw" cL_law zc zs (Sum.elim (fun s1057 => zLA G l "LoveLocksLaw" cL_law zc zs 376 [(0, .ref (z_b G)), (1, .ref (G.1 0)), (2, .ref (G.1 130)), (3, .int x3_1049), (5, .int x5_1050), (11, .int x11_1051), (12, .int x12_1052), (13, .ref (G.1 131)), (15, .int s1055.2), (16, .int s1057.1), (17, .int s1057.2)] [] w1054) (fun q1058 => zLA G l "LoveLocksLaw" cL_law zc zs 414 [(0, .ref (z_b G)), (1, .ref (G.1 0)), (2, .ref (G.1 130)), (3, .int x3_1049), (5, .int x5_1050), (11, .int x11_1051), (12, .int x12_1052), (13, .ref (G.1 131)), (15, .int s1055.2), (16, .int q1058)] [] w1054)) 398 [(0, .ref (z_b G)), (1, .ref (G.1 0)), (2, .ref (G.1 130)), (3, .int x3_1049), (5, .int x5_1050), (11, .int x11_1051), (12, .int x12_1052), (13, .ref (G.1 131)), (15, .int s1055.2), (17, .int x17_1060)] [.int k1061] w1054 (f_law2_J398 w1054 x17_1060 k1061) := by
              intro x17_1060 k1061
              rw [f_law2_J398]
              refine q_istore 400 [(16, .int k1061), (0, .ref (z_b G)), (1, .ref (G.1 0)), (2, .ref (G.1 130)), (3, .int x3_1049), (5, .int x5_1050), (11, .int x11_1051), (12, .int x12_1052), (13, .ref (G.1 131)), (15, .int s1055.2), (17, .int x17_1060)] dL_law_398 rfl (by decide) rfl ?_
              refine q_aload_n 401 dL_law_400 rfl 3 rfl rfl ?_
              refine q_bipush 403 dL_law_401 rfl zcb_6 ?_
              refine q_iload 405 dL_law_403 rfl 10 rfl ?_
              refine q_imul 406 dL_law_405 rfl ?_
              refine q_iconst 407 dL_law_406 rfl zci_5 ?_
              refine q_iadd 408 dL_law_407 rfl ?_
              refine q_iald 409 130 64 dL_law_408 rfl zl_130 (ce_130 G _) ?_
              refine q_topi (fun y1062 => ?_)
              refine q_istore 411 [(17, .int y1062), (16, .int k1061), (0, .ref (z_b G)), (1, .ref (G.1 0)), (2, .ref (G.1 130)), (3, .int x3_1049), (5, .int x5_1050), (11, .int x11_1051), (12, .int x12_1052), (13, .ref (G.1 131)), (15, .int s1055.2)] dL_law_409 rfl (by decide) rfl ?_
              refine q_goto 376 dL_law_411 (by decide) ?_
              exact q_leaf [2, 3, 4, 5, 6, 7, 8, 9, 10, 1, 0] (lv2 := [(0, .ref (z_b G)), (1, .ref (G.1 0)), (2, .ref (G.1 130)), (3, .int x3_1049), (5, .int x5_1050), (11, .int x11_1051), (12, .int x12_1052), (13, .ref (G.1 131)), (15, .int s1055.2), (16, .int k1061), (17, .int y1062)]) rfl (fun h => h)
            have hJ393 : ∀ (x17_1059 : Int32), zLR G l "LoveLocksLaw" cL_law zc zs (Sum.elim (fun s1057 => zLA G l "LoveLocksLaw" cL_law zc zs 376 [(0, .ref (z_b G)), (1, .ref (G.1 0)), (2, .ref (G.1 130)), (3, .int x3_1049), (5, .int x5_1050), (11, .int x11_1051), (12, .int x12_1052), (13, .ref (G.1 131)), (15, .int s1055.2), (16, .int s1057.1), (17, .int s1057.2)] [] w1054) (fun q1058 => zLA G l "LoveLocksLaw" cL_law zc zs 414 [(0, .ref (z_b G)), (1, .ref (G.1 0)), (2, .ref (G.1 130)), (3, .int x3_1049), (5, .int x5_1050), (11, .int x11_1051), (12, .int x12_1052), (13, .ref (G.1 131)), (15, .int s1055.2), (16, .int q1058)] [] w1054)) 393 [(0, .ref (z_b G)), (1, .ref (G.1 0)), (2, .ref (G.1 130)), (3, .int x3_1049), (5, .int x5_1050), (11, .int x11_1051), (12, .int x12_1052), (13, .ref (G.1 131)), (15, .int s1055.2), (17, .int x17_1059)] [] w1054 (f_law2_J393 w1054 x17_1059) := by
              intro x17_1059
              rw [f_law2_J393]
              refine q_iconst 394 dL_law_393 rfl zci_1 ?_
              refine q_goto 398 dL_law_394 (by decide) ?_
              exact q_sub [0, 1, 2, 3, 4, 5, 6, 7, 8, 9] (lv2 := [(0, .ref (z_b G)), (1, .ref (G.1 0)), (2, .ref (G.1 130)), (3, .int x3_1049), (5, .int x5_1050), (11, .int x11_1051), (12, .int x12_1052), (13, .ref (G.1 131)), (15, .int s1055.2), (17, .int x17_1059)]) rfl (hJ398 x17_1059 (1 : Int32))
            refine q_iload 378 dL_law_376 rfl 10 rfl ?_
            refine q_if_lt 414 381 dL_law_378 (by decide) rfl ?_ ?_
            · exact q_leaf [0, 1, 2, 3, 4, 5, 6, 7, 8, 9] (lv2 := [(0, .ref (z_b G)), (1, .ref (G.1 0)), (2, .ref (G.1 130)), (3, .int x3_1049), (5, .int x5_1050), (11, .int x11_1051), (12, .int x12_1052), (13, .ref (G.1 131)), (15, .int s1055.2), (16, .int s1057.1)]) rfl (fun h => h)
            · refine q_iload 383 dL_law_381 rfl 9 rfl ?_
              refine q_if_ne 393 386 dL_law_383 (by decide) rfl ?_ ?_
              · exact q_sub [0, 1, 2, 3, 4, 5, 6, 7, 8, 10] (lv2 := [(0, .ref (z_b G)), (1, .ref (G.1 0)), (2, .ref (G.1 130)), (3, .int x3_1049), (5, .int x5_1050), (11, .int x11_1051), (12, .int x12_1052), (13, .ref (G.1 131)), (15, .int s1055.2), (17, .int s1057.2)]) rfl (hJ393 s1057.2)
              · refine q_iload 388 dL_law_386 rfl 10 rfl ?_
                refine q_iload 390 dL_law_388 rfl 8 rfl ?_
                refine q_icmp_ne 397 393 dL_law_390 (by decide) rfl ?_ ?_
                · refine q_iconst 398 dL_law_397 rfl zci_0 ?_
                  exact q_sub [0, 1, 2, 3, 4, 5, 6, 7, 8, 10] (lv2 := [(0, .ref (z_b G)), (1, .ref (G.1 0)), (2, .ref (G.1 130)), (3, .int x3_1049), (5, .int x5_1050), (11, .int x11_1051), (12, .int x12_1052), (13, .ref (G.1 131)), (15, .int s1055.2), (17, .int s1057.2)]) rfl (hJ398 s1057.2 (0 : Int32))
                · exact q_sub [0, 1, 2, 3, 4, 5, 6, 7, 8, 10] (lv2 := [(0, .ref (z_b G)), (1, .ref (G.1 0)), (2, .ref (G.1 130)), (3, .int x3_1049), (5, .int x5_1050), (11, .int x11_1051), (12, .int x12_1052), (13, .ref (G.1 131)), (15, .int s1055.2), (17, .int s1057.2)]) rfl (hJ393 s1057.2)
          · refine q_aload_n 415 dL_law_414 rfl 1 rfl rfl ?_
            refine q_iload 417 dL_law_415 rfl 8 rfl ?_
            refine q_bipush 419 dL_law_417 rfl zcb_6 ?_
            refine q_callVi 422 2 (ko := 0) [.int s1055.2, .int (6 : Int32)] (st := []) hzc hzs dL_law_419 rfl rfl (fun r h => c_X11_told G l 60 (by decide) w1054 s1055.2 (6 : Int32) r h) zl_0 (ce_0 G _) rfl rfl wc_X11_told wz_X11 wl_L_53 wi_X11_told ws_X11_told zd_X11_told (by decide) (by decide) rfl (Nat.le_of_ble_eq_true rfl) (fun r1063 => ?_)
            refine q_aload 424 dL_law_422 rfl 7 rfl ?_
            refine q_iload 426 dL_law_424 rfl 8 rfl ?_
            refine q_iald 427 131 9 dL_law_426 rfl (zl_131 he) (ce_131 G _) ?_
            refine q_iload 429 dL_law_427 rfl 9 rfl ?_
            refine q_if_eq 437 432 dL_law_429 (by decide) rfl ?_ ?_
            · refine q_iconst 438 dL_law_437 rfl zci_0 ?_
              exact q_sub [0, 1, 2, 3, 4, 5, 6, 7, 8] (lv2 := [(0, .ref (z_b G)), (1, .ref (G.1 0)), (2, .ref (G.1 130)), (3, .int x3_1049), (5, .int x5_1050), (11, .int x11_1051), (12, .int x12_1052), (13, .ref (G.1 131)), (15, .int s1055.2)]) rfl (hJ438 s1055.2 (0 : Int32) (w1054.1 131 s1055.2.toNatClampNeg) r1063)
            · refine q_iload 434 dL_law_432 rfl 6 rfl ?_
              refine q_goto 438 dL_law_434 (by decide) ?_
              exact q_sub [0, 1, 2, 3, 4, 5, 6, 7, 8] (lv2 := [(0, .ref (z_b G)), (1, .ref (G.1 0)), (2, .ref (G.1 130)), (3, .int x3_1049), (5, .int x5_1050), (11, .int x11_1051), (12, .int x12_1052), (13, .ref (G.1 131)), (15, .int s1055.2)]) rfl (hJ438 s1055.2 x12_1052 (w1054.1 131 s1055.2.toNatClampNeg) r1063)
    · exact q_sub [0, 1, 2, 3, 4, 5] (lv2 := [(0, .ref (z_b G)), (1, .ref (G.1 0)), (2, .ref (G.1 130)), (3, .int x3_1049), (4, .int q1056), (5, .int x5_1050)]) rfl (hJ455 x3_1049 q1056 x5_1050 w1054)
  have hJ352 : ∀ (x3_1044 : Int32) (x5_1045 : Int32) (x11_1046 : Int32) (x12_1047 : Int32) (w1048 : ZW), zLR G l "LoveLocksLaw" cL_law zc zs (fun x : Int32 => x = 1) 352 [(0, .ref (z_b G)), (1, .ref (G.1 0)), (2, .ref (G.1 130)), (3, .int x3_1044), (5, .int x5_1045), (11, .int x11_1046), (12, .int x12_1047), (13, .ref (G.1 131))] [] w1048 (f_law2_J352 xs len x3_1044 x5_1045 x11_1046 x12_1047 w1048) := by
    intro x3_1044 x5_1045 x11_1046 x12_1047 w1048
    rw [f_law2_J352]
    refine q_iconst 353 dL_law_352 rfl zci_0 ?_
    exact q_sub [0, 1, 2, 3, 4, 5, 6, 7] (lv2 := [(0, .ref (z_b G)), (1, .ref (G.1 0)), (2, .ref (G.1 130)), (3, .int x3_1044), (5, .int x5_1045), (11, .int x11_1046), (12, .int x12_1047), (13, .ref (G.1 131))]) rfl (hJ353 x3_1044 x5_1045 x11_1046 x12_1047 (0 : Int32) w1048)
  refine q_astore 262 [(13, .ref (G.1 131)), (0, .ref (z_b G)), (1, .ref (G.1 0)), (2, .ref (G.1 130)), (3, .int v3_22), (4, .int v4_23), (5, .int v5_24), (11, .int v11_25), (12, .int v12_26)] dL_law_260 rfl (by decide) rfl ?_
  refine q_iconst 263 dL_law_262 rfl zci_0 ?_
  refine q_istore 265 [(14, .int (0 : Int32)), (13, .ref (G.1 131)), (0, .ref (z_b G)), (1, .ref (G.1 0)), (2, .ref (G.1 130)), (3, .int v3_22), (4, .int v4_23), (5, .int v5_24), (11, .int v11_25), (12, .int v12_26)] dL_law_263 rfl (by decide) rfl ?_
  refine q_loopE [2, 3, 4, 5, 6, 7, 8, 9, 1, 0] (fun s1039 => [(0, .ref (z_b G)), (1, .ref (G.1 0)), (2, .ref (G.1 130)), (3, .int v3_22), (4, .int v4_23), (5, .int v5_24), (11, .int v11_25), (12, .int v12_26), (13, .ref (G.1 131)), (14, .int s1039.1)]) (fun s1039 => s1039.2) 290 (fun q1040 => [(0, .ref (z_b G)), (1, .ref (G.1 0)), (2, .ref (G.1 130)), (3, .int v3_22), (4, .int v4_23), (5, .int v5_24), (11, .int v11_25), (12, .int v12_26), (13, .ref (G.1 131))]) (fun q1040 => q1040) rfl rfl (fun s1039 => ?_) (fun q1040 => ?_)
  · rw [f_law2_L265]
    refine q_iload 267 dL_law_265 rfl 9 rfl ?_
    refine q_iload_n 268 dL_law_267 rfl 3 rfl rfl ?_
    refine q_icmp_ge 290 271 dL_law_268 (by decide) rfl ?_ ?_
    · exact q_leaf [0, 1, 2, 3, 4, 5, 6, 7, 8] (lv2 := [(0, .ref (z_b G)), (1, .ref (G.1 0)), (2, .ref (G.1 130)), (3, .int v3_22), (4, .int v4_23), (5, .int v5_24), (11, .int v11_25), (12, .int v12_26), (13, .ref (G.1 131))]) rfl (fun h => h)
    · refine q_aload 273 dL_law_271 rfl 8 rfl ?_
      refine q_iload 275 dL_law_273 rfl 9 rfl ?_
      refine q_aload_n 276 dL_law_275 rfl 1 rfl rfl ?_
      refine q_iload 278 dL_law_276 rfl 9 rfl ?_
      refine q_bipush 280 dL_law_278 rfl zcb_6 ?_
      refine q_callVi 283 2 (ko := 0) [.int s1039.1, .int (6 : Int32)] (st := [.int s1039.1, .ref (G.1 131)]) hzc hzs dL_law_280 rfl rfl (fun r h => c_X11_told G l 60 (by decide) s1039.2 s1039.1 (6 : Int32) r h) zl_0 (ce_0 G _) rfl rfl wc_X11_told wz_X11 wl_L_53 wi_X11_told ws_X11_told zd_X11_told (by decide) (by decide) rfl (Nat.le_of_ble_eq_true rfl) (fun r1041 => ?_)
      refine q_iast 284 131 9 dL_law_283 rfl (zl_131 he) (ce_131 G) ?_
      refine q_topw (fun w1042 => ?_)
      refine q_iinc 287 9 [(14, .int (s1039.1 + (1 : Int32))), (0, .ref (z_b G)), (1, .ref (G.1 0)), (2, .ref (G.1 130)), (3, .int v3_22), (4, .int v4_23), (5, .int v5_24), (11, .int v11_25), (12, .int v12_26), (13, .ref (G.1 131))] dL_law_284 rfl rfl zci_1 (by decide) rfl ?_
      refine q_goto 265 dL_law_287 (by decide) ?_
      exact q_leaf [1, 2, 3, 4, 5, 6, 7, 8, 9, 0] (lv2 := [(0, .ref (z_b G)), (1, .ref (G.1 0)), (2, .ref (G.1 130)), (3, .int v3_22), (4, .int v4_23), (5, .int v5_24), (11, .int v11_25), (12, .int v12_26), (13, .ref (G.1 131)), (14, .int (s1039.1 + (1 : Int32)))]) rfl (fun h => h)
  · refine q_aload_n 291 dL_law_290 rfl 1 rfl rfl ?_
    refine q_aload_n 292 dL_law_291 rfl 2 rfl rfl ?_
    refine q_bipush 294 dL_law_292 rfl zcb_6 ?_
    refine q_iload 296 dL_law_294 rfl 6 rfl ?_
    refine q_imul 297 dL_law_296 rfl ?_
    refine q_iconst 298 dL_law_297 rfl zci_3 ?_
    refine q_iadd 299 dL_law_298 rfl ?_
    refine q_iald 300 130 64 dL_law_299 rfl zl_130 (ce_130 G _) ?_
    refine q_iconst 301 dL_law_300 rfl zci_3 ?_
    refine q_callVi 304 2 (ko := 0) [.int (q1040.1 130 (((6 : Int32) * v11_25) + (3 : Int32)).toNatClampNeg), .int (3 : Int32)] (st := []) hzc hzs dL_law_301 rfl rfl (fun r h => c_X11_load G l 60 (by decide) q1040 (q1040.1 130 (((6 : Int32) * v11_25) + (3 : Int32)).toNatClampNeg) (3 : Int32) r h) zl_0 (ce_0 G _) rfl rfl wc_X11_load wz_X11 wl_L_42 wi_X11_load ws_X11_load zd_X11_load (by decide) (by decide) rfl (Nat.le_of_ble_eq_true rfl) (fun r1043 => ?_)
    refine q_istore 306 [(14, .int r1043), (0, .ref (z_b G)), (1, .ref (G.1 0)), (2, .ref (G.1 130)), (3, .int v3_22), (4, .int v4_23), (5, .int v5_24), (11, .int v11_25), (12, .int v12_26), (13, .ref (G.1 131))] dL_law_304 rfl (by decide) rfl ?_
    refine q_iload 308 dL_law_306 rfl 5 rfl ?_
    refine q_if_eq 352 311 dL_law_308 (by decide) rfl ?_ ?_
    · exact q_sub [1, 2, 3, 4, 6, 7, 8, 9] (lv2 := [(0, .ref (z_b G)), (1, .ref (G.1 0)), (2, .ref (G.1 130)), (3, .int v3_22), (5, .int v5_24), (11, .int v11_25), (12, .int v12_26), (13, .ref (G.1 131))]) rfl (hJ352 v3_22 v5_24 v11_25 v12_26 q1040)
    · refine q_aload_n 312 dL_law_311 rfl 2 rfl rfl ?_
      refine q_iload 314 dL_law_312 rfl 7 rfl ?_
      refine q_iload 316 dL_law_314 rfl 8 rfl ?_
      refine q_iconst 317 dL_law_316 rfl zci_1 ?_
      refine q_bipush 319 dL_law_317 rfl zcb_7 ?_
      refine q_callViw 322 4 (ko := 0) [.int v11_25, .int v12_26, .int (1 : Int32), .int (7 : Int32)] (st := []) hzc hzs dL_law_319 rfl rfl (fun r h => c_X11_hangOn G l 60 (by decide) q1040 v11_25 v12_26 (1 : Int32) (7 : Int32) r h) zl_0 (ce_0 G _) rfl rfl wc_X11_hangOn wz_X11 wl_L_25 wi_X11_hangOn ws_X11_hangOn zd_X11_hangOn (by decide) (by decide) rfl (Nat.le_of_ble_eq_true rfl) (fun r1208 => ?_)
      refine q_iload_n 323 dL_law_322 rfl 4 rfl rfl ?_
      refine q_icmp_ne 352 326 dL_law_323 (by decide) rfl ?_ ?_
      · exact q_sub [1, 2, 3, 4, 6, 7, 8, 9] (lv2 := [(0, .ref (z_b G)), (1, .ref (G.1 0)), (2, .ref (G.1 130)), (3, .int v3_22), (5, .int v5_24), (11, .int v11_25), (12, .int v12_26), (13, .ref (G.1 131))]) rfl (hJ352 v3_22 v5_24 v11_25 v12_26 r1208.2)
      · refine q_aload_n 327 dL_law_326 rfl 2 rfl rfl ?_
        refine q_aload_n 328 dL_law_327 rfl 3 rfl rfl ?_
        refine q_bipush 330 dL_law_328 rfl zcb_6 ?_
        refine q_iload 332 dL_law_330 rfl 7 rfl ?_
        refine q_imul 333 dL_law_332 rfl ?_
        refine q_iconst 334 dL_law_333 rfl zci_3 ?_
        refine q_iadd 335 dL_law_334 rfl ?_
        refine q_iald 336 130 64 dL_law_335 rfl zl_130 (ce_130 G _) ?_
        refine q_iconst 337 dL_law_336 rfl zci_3 ?_
        refine q_callVi 340 2 (ko := 0) [.int (r1208.2.1 130 (((6 : Int32) * v11_25) + (3 : Int32)).toNatClampNeg), .int (3 : Int32)] (st := []) hzc hzs dL_law_337 rfl rfl (fun r h => c_X11_load G l 60 (by decide) r1208.2 (r1208.2.1 130 (((6 : Int32) * v11_25) + (3 : Int32)).toNatClampNeg) (3 : Int32) r h) zl_0 (ce_0 G _) rfl rfl wc_X11_load wz_X11 wl_L_42 wi_X11_load ws_X11_load zd_X11_load (by decide) (by decide) rfl (Nat.le_of_ble_eq_true rfl) (fun r1209 => ?_)
        refine q_iload 342 dL_law_340 rfl 0 rfl ?_
        refine q_iload 344 dL_law_342 rfl 8 rfl ?_
        refine q_iadd 345 dL_law_344 rfl ?_
        refine q_icmp_ne 352 348 dL_law_345 (by decide) rfl ?_ ?_
        · exact q_sub [1, 2, 3, 4, 6, 7, 8, 9] (lv2 := [(0, .ref (z_b G)), (1, .ref (G.1 0)), (2, .ref (G.1 130)), (3, .int v3_22), (5, .int v5_24), (11, .int v11_25), (12, .int v12_26), (13, .ref (G.1 131))]) rfl (hJ352 v3_22 v5_24 v11_25 v12_26 r1208.2)
        · refine q_iconst 349 dL_law_348 rfl zci_1 ?_
          refine q_goto 353 dL_law_349 (by decide) ?_
          exact q_sub [1, 2, 3, 4, 6, 7, 8, 9] (lv2 := [(0, .ref (z_b G)), (1, .ref (G.1 0)), (2, .ref (G.1 130)), (3, .int v3_22), (5, .int v5_24), (11, .int v11_25), (12, .int v12_26), (13, .ref (G.1 131))]) rfl (hJ353 v3_22 v5_24 v11_25 v12_26 (1 : Int32) r1208.2)
