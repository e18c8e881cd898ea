def f_law_L18 (len : Nat) (xs : Nat → Int32) (s1 : Int32 × ZW) : Option ((Int32 × ZW) ⊕ ((Int32) ⊕ (ZW))) :=
  if ((Int32.ofNat len) - (6 : Int32)) < s1.1 then
  some (.inr (.inr s1.2))
else
  if z_in s1.1 len then
    if ((xs s1.1.toNatClampNeg) &&& (63 : Int32)) = (0 : Int32) then
    if z_in (s1.1 + (1 : Int32)) len then
      if z_in (s1.1 + (2 : Int32)) len then
      if z_in (s1.1 + (3 : Int32)) len then
      (f_X11_panel s1.2 (xs (s1.1 + (1 : Int32)).toNatClampNeg) (xs (s1.1 + (2 : Int32)).toNatClampNeg) (xs (s1.1 + (3 : Int32)).toNatClampNeg)).bind fun r3 : Int32 × ZW =>
      if z_in (s1.1 + (1 : Int32)) len then
      if z_in (s1.1 + (2 : Int32)) len then
      if z_in (s1.1 + (3 : Int32)) len then
      (f_X12_panel r3.2 (xs (s1.1 + (1 : Int32)).toNatClampNeg) (xs (s1.1 + (2 : Int32)).toNatClampNeg) (xs (s1.1 + (3 : Int32)).toNatClampNeg)).bind fun r4 : Int32 × ZW =>
      if r3.1 = r4.1 then
      some (.inl (s1.1 + (6 : Int32), r4.2))
    else
      some (.inr (.inl (0 : Int32)))
    else none
    else none
    else none
    else none
    else none
    else none
  else
    if ((xs s1.1.toNatClampNeg) &&& (63 : Int32)) = (1 : Int32) then
    if z_in (s1.1 + (1 : Int32)) len then
      if z_in (s1.1 + (2 : Int32)) len then
      if z_in (s1.1 + (3 : Int32)) len then
      if z_in (s1.1 + (4 : Int32)) len then
      if z_in (s1.1 + (5 : Int32)) len then
      (f_X11_hang s1.2 (xs (s1.1 + (1 : Int32)).toNatClampNeg) (xs (s1.1 + (2 : Int32)).toNatClampNeg) (xs (s1.1 + (3 : Int32)).toNatClampNeg) (xs (s1.1 + (4 : Int32)).toNatClampNeg) (xs (s1.1 + (5 : Int32)).toNatClampNeg)).bind fun r5 : Int32 × ZW =>
      if z_in (s1.1 + (1 : Int32)) len then
      if z_in (s1.1 + (2 : Int32)) len then
      if z_in (s1.1 + (3 : Int32)) len then
      if z_in (s1.1 + (4 : Int32)) len then
      if z_in (s1.1 + (5 : Int32)) len then
      (f_X12_hang r5.2 (xs (s1.1 + (1 : Int32)).toNatClampNeg) (xs (s1.1 + (2 : Int32)).toNatClampNeg) (xs (s1.1 + (3 : Int32)).toNatClampNeg) (xs (s1.1 + (4 : Int32)).toNatClampNeg) (xs (s1.1 + (5 : Int32)).toNatClampNeg)).bind fun r6 : Int32 × ZW =>
      if r5.1 = r6.1 then
      some (.inl (s1.1 + (6 : Int32), r6.2))
    else
      some (.inr (.inl (0 : Int32)))
    else none
    else none
    else none
    else none
    else none
    else none
    else none
    else none
    else none
    else none
  else
    if ((xs s1.1.toNatClampNeg) &&& (63 : Int32)) = (2 : Int32) then
    if z_in (s1.1 + (1 : Int32)) len then
      if z_in (s1.1 + (2 : Int32)) len then
      if z_in (s1.1 + (3 : Int32)) len then
      if z_in (s1.1 + (4 : Int32)) len then
      (f_X11_hangOn s1.2 (xs (s1.1 + (1 : Int32)).toNatClampNeg) (xs (s1.1 + (2 : Int32)).toNatClampNeg) (xs (s1.1 + (3 : Int32)).toNatClampNeg) (xs (s1.1 + (4 : Int32)).toNatClampNeg)).bind fun r7 : Int32 × ZW =>
      if z_in (s1.1 + (1 : Int32)) len then
      if z_in (s1.1 + (2 : Int32)) len then
      if z_in (s1.1 + (3 : Int32)) len then
      if z_in (s1.1 + (4 : Int32)) len then
      (f_X12_hangOn r7.2 (xs (s1.1 + (1 : Int32)).toNatClampNeg) (xs (s1.1 + (2 : Int32)).toNatClampNeg) (xs (s1.1 + (3 : Int32)).toNatClampNeg) (xs (s1.1 + (4 : Int32)).toNatClampNeg)).bind fun r8 : Int32 × ZW =>
      if r7.1 = r8.1 then
      some (.inl (s1.1 + (6 : Int32), r8.2))
    else
      some (.inr (.inl (0 : Int32)))
    else none
    else none
    else none
    else none
    else none
    else none
    else none
    else none
  else
    if ((xs s1.1.toNatClampNeg) &&& (63 : Int32)) = (3 : Int32) then
    if z_in (s1.1 + (1 : Int32)) len then
      if z_in (s1.1 + (2 : Int32)) len then
      (f_X11_told s1.2 (xs (s1.1 + (1 : Int32)).toNatClampNeg) (xs (s1.1 + (2 : Int32)).toNatClampNeg)).bind fun r9 : Int32 =>
      if z_in (s1.1 + (1 : Int32)) len then
      if z_in (s1.1 + (2 : Int32)) len then
      (f_X12_told s1.2 (xs (s1.1 + (1 : Int32)).toNatClampNeg) (xs (s1.1 + (2 : Int32)).toNatClampNeg)).bind fun r10 : Int32 =>
      if r9 = r10 then
      some (.inl (s1.1 + (6 : Int32), s1.2))
    else
      some (.inr (.inl (0 : Int32)))
    else none
    else none
    else none
    else none
  else
    if ((xs s1.1.toNatClampNeg) &&& (63 : Int32)) = (4 : Int32) then
    if z_in (s1.1 + (1 : Int32)) len then
      if z_in (s1.1 + (2 : Int32)) len then
      (f_X11_load s1.2 (xs (s1.1 + (1 : Int32)).toNatClampNeg) (xs (s1.1 + (2 : Int32)).toNatClampNeg)).bind fun r11 : Int32 =>
      if z_in (s1.1 + (1 : Int32)) len then
      if z_in (s1.1 + (2 : Int32)) len then
      (f_X12_load s1.2 (xs (s1.1 + (1 : Int32)).toNatClampNeg) (xs (s1.1 + (2 : Int32)).toNatClampNeg)).bind fun r12 : Int32 =>
      if r11 = r12 then
      some (.inl (s1.1 + (6 : Int32), s1.2))
    else
      some (.inr (.inl (0 : Int32)))
    else none
    else none
    else none
    else none
  else
    if ((xs s1.1.toNatClampNeg) &&& (63 : Int32)) = (5 : Int32) then
    if z_in (s1.1 + (1 : Int32)) len then
      if z_in (s1.1 + (2 : Int32)) len then
      (f_X11_on s1.2 (xs (s1.1 + (1 : Int32)).toNatClampNeg) (xs (s1.1 + (2 : Int32)).toNatClampNeg)).bind fun r13 : Int32 =>
      if z_in (s1.1 + (1 : Int32)) len then
      if z_in (s1.1 + (2 : Int32)) len then
      (f_X12_on s1.2 (xs (s1.1 + (1 : Int32)).toNatClampNeg) (xs (s1.1 + (2 : Int32)).toNatClampNeg)).bind fun r14 : Int32 =>
      if r13 = r14 then
      some (.inl (s1.1 + (6 : Int32), s1.2))
    else
      some (.inr (.inl (0 : Int32)))
    else none
    else none
    else none
    else none
  else
    if ((xs s1.1.toNatClampNeg) &&& (63 : Int32)) = (6 : Int32) then
    if z_in (s1.1 + (1 : Int32)) len then
      (f_X11_cut s1.2 (xs (s1.1 + (1 : Int32)).toNatClampNeg)).bind fun r15 : Int32 × ZW =>
      if z_in (s1.1 + (1 : Int32)) len then
      (f_X12_cut r15.2 (xs (s1.1 + (1 : Int32)).toNatClampNeg)).bind fun r16 : Int32 × ZW =>
      if r15.1 = r16.1 then
      some (.inl (s1.1 + (6 : Int32), r16.2))
    else
      some (.inr (.inl (0 : Int32)))
    else none
    else none
  else
    if ((xs s1.1.toNatClampNeg) &&& (63 : Int32)) = (7 : Int32) then
    (f_X11_over s1.2).bind fun r17 : Int32 =>
      (f_X12_over s1.2).bind fun r18 : Int32 =>
      if r17 = r18 then
      some (.inl (s1.1 + (6 : Int32), s1.2))
    else
      some (.inr (.inl (0 : Int32)))
  else
    if ((xs s1.1.toNatClampNeg) &&& (63 : Int32)) = (8 : Int32) then
    (f_X11_giveWay s1.2).bind fun r19 : Int32 × ZW =>
      (f_X12_giveWay r19.2).bind fun r20 : Int32 × ZW =>
      if r19.1 = r20.1 then
      some (.inl (s1.1 + (6 : Int32), r20.2))
    else
      some (.inr (.inl (0 : Int32)))
  else
    if ((xs s1.1.toNatClampNeg) &&& (63 : Int32)) = (9 : Int32) then
    if z_in (s1.1 + (1 : Int32)) len then
      (f_X11_count s1.2 (xs (s1.1 + (1 : Int32)).toNatClampNeg)).bind fun r21 : Int32 =>
      if z_in (s1.1 + (1 : Int32)) len then
      (f_X12_count s1.2 (xs (s1.1 + (1 : Int32)).toNatClampNeg)).bind fun r22 : Int32 =>
      if r21 = r22 then
      some (.inl (s1.1 + (6 : Int32), s1.2))
    else
      some (.inr (.inl (0 : Int32)))
    else none
    else none
  else
    if ((xs s1.1.toNatClampNeg) &&& (63 : Int32)) = (10 : Int32) then
    if z_in (s1.1 + (1 : Int32)) len then
      if z_in (s1.1 + (2 : Int32)) len then
      if z_in (s1.1 + (3 : Int32)) len then
      (f_X11_photo s1.2 (xs (s1.1 + (1 : Int32)).toNatClampNeg) (xs (s1.1 + (2 : Int32)).toNatClampNeg) (xs (s1.1 + (3 : Int32)).toNatClampNeg)).bind fun r23 : Int32 × ZW =>
      if z_in (s1.1 + (1 : Int32)) len then
      if z_in (s1.1 + (2 : Int32)) len then
      if z_in (s1.1 + (3 : Int32)) len then
      (f_X12_photo r23.2 (xs (s1.1 + (1 : Int32)).toNatClampNeg) (xs (s1.1 + (2 : Int32)).toNatClampNeg) (xs (s1.1 + (3 : Int32)).toNatClampNeg)).bind fun r24 : Int32 × ZW =>
      if r23.1 = r24.1 then
      some (.inl (s1.1 + (6 : Int32), r24.2))
    else
      some (.inr (.inl (0 : Int32)))
    else none
    else none
    else none
    else none
    else none
    else none
  else
    if ((xs s1.1.toNatClampNeg) &&& (63 : Int32)) = (11 : Int32) then
    if z_in (s1.1 + (1 : Int32)) len then
      if z_in (s1.1 + (2 : Int32)) len then
      if z_in (s1.1 + (3 : Int32)) len then
      if z_in (s1.1 + (4 : Int32)) len then
      if z_in (s1.1 + (5 : Int32)) len then
      (f_X11_truck s1.2 (xs (s1.1 + (1 : Int32)).toNatClampNeg) (xs (s1.1 + (2 : Int32)).toNatClampNeg) (xs (s1.1 + (3 : Int32)).toNatClampNeg) (xs (s1.1 + (4 : Int32)).toNatClampNeg) (xs (s1.1 + (5 : Int32)).toNatClampNeg)).bind fun r25 : Int32 × ZW =>
      if z_in (s1.1 + (1 : Int32)) len then
      if z_in (s1.1 + (2 : Int32)) len then
      if z_in (s1.1 + (3 : Int32)) len then
      if z_in (s1.1 + (4 : Int32)) len then
      if z_in (s1.1 + (5 : Int32)) len then
      (f_X12_truck r25.2 (xs (s1.1 + (1 : Int32)).toNatClampNeg) (xs (s1.1 + (2 : Int32)).toNatClampNeg) (xs (s1.1 + (3 : Int32)).toNatClampNeg) (xs (s1.1 + (4 : Int32)).toNatClampNeg) (xs (s1.1 + (5 : Int32)).toNatClampNeg)).bind fun r26 : Int32 × ZW =>
      if r25.1 = r26.1 then
      some (.inl (s1.1 + (6 : Int32), r26.2))
    else
      some (.inr (.inl (0 : Int32)))
    else none
    else none
    else none
    else none
    else none
    else none
    else none
    else none
    else none
    else none
  else
    if ((xs s1.1.toNatClampNeg) &&& (63 : Int32)) = (12 : Int32) then
    if z_in (s1.1 + (1 : Int32)) len then
      if z_in (s1.1 + (2 : Int32)) len then
      (f_X11_span s1.2 (xs (s1.1 + (1 : Int32)).toNatClampNeg) (xs (s1.1 + (2 : Int32)).toNatClampNeg)).bind fun r27 : Int32 =>
      if z_in (s1.1 + (1 : Int32)) len then
      if z_in (s1.1 + (2 : Int32)) len then
      (f_X12_span s1.2 (xs (s1.1 + (1 : Int32)).toNatClampNeg) (xs (s1.1 + (2 : Int32)).toNatClampNeg)).bind fun r28 : Int32 =>
      if r27 = r28 then
      some (.inl (s1.1 + (6 : Int32), s1.2))
    else
      some (.inr (.inl (0 : Int32)))
    else none
    else none
    else none
    else none
  else
    if ((xs s1.1.toNatClampNeg) &&& (63 : Int32)) = (13 : Int32) then
    if z_in (s1.1 + (1 : Int32)) len then
      if z_in (s1.1 + (2 : Int32)) len then
      (f_X11_safe s1.2 (xs (s1.1 + (1 : Int32)).toNatClampNeg) (xs (s1.1 + (2 : Int32)).toNatClampNeg)).bind fun r29 : Int32 =>
      if z_in (s1.1 + (1 : Int32)) len then
      if z_in (s1.1 + (2 : Int32)) len then
      (f_X12_safe s1.2 (xs (s1.1 + (1 : Int32)).toNatClampNeg) (xs (s1.1 + (2 : Int32)).toNatClampNeg)).bind fun r30 : Int32 =>
      if r29 = r30 then
      some (.inl (s1.1 + (6 : Int32), s1.2))
    else
      some (.inr (.inl (0 : Int32)))
    else none
    else none
    else none
    else none
  else
    if ((xs s1.1.toNatClampNeg) &&& (63 : Int32)) = (14 : Int32) then
    if z_in (s1.1 + (1 : Int32)) len then
      if z_in (s1.1 + (2 : Int32)) len then
      if z_in (s1.1 + (3 : Int32)) len then
      (f_X11_type s1.2 ((((xs (s1.1 + (1 : Int32)).toNatClampNeg).toInt64) <<< ((32 : Int32).toInt64 &&& 63)) ||| (((xs (s1.1 + (2 : Int32)).toNatClampNeg).toInt64) &&& (4294967295 : Int64))) (xs (s1.1 + (3 : Int32)).toNatClampNeg)).bind fun r31 : Int32 × ZW =>
      if z_in (s1.1 + (1 : Int32)) len then
      if z_in (s1.1 + (2 : Int32)) len then
      if z_in (s1.1 + (3 : Int32)) len then
      (f_X12_type r31.2 ((((xs (s1.1 + (1 : Int32)).toNatClampNeg).toInt64) <<< ((32 : Int32).toInt64 &&& 63)) ||| (((xs (s1.1 + (2 : Int32)).toNatClampNeg).toInt64) &&& (4294967295 : Int64))) (xs (s1.1 + (3 : Int32)).toNatClampNeg)).bind fun r32 : Int32 × ZW =>
      if r31.1 = r32.1 then
      some (.inl (s1.1 + (6 : Int32), r32.2))
    else
      some (.inr (.inl (0 : Int32)))
    else none
    else none
    else none
    else none
    else none
    else none
  else
    if ((xs s1.1.toNatClampNeg) &&& (63 : Int32)) = (15 : Int32) then
    (f_X11_person s1.2).bind fun r33 : Int32 × ZW =>
      (f_X12_person r33.2).bind fun r34 : Int32 × ZW =>
      if r33.1 = r34.1 then
      some (.inl (s1.1 + (6 : Int32), r34.2))
    else
      some (.inr (.inl (0 : Int32)))
  else
    if ((xs s1.1.toNatClampNeg) &&& (63 : Int32)) = (16 : Int32) then
    if z_in (s1.1 + (1 : Int32)) len then
      (f_X11_letters s1.2 (xs (s1.1 + (1 : Int32)).toNatClampNeg)).bind fun r35 : Int32 × ZW =>
      if z_in (s1.1 + (1 : Int32)) len then
      (f_X12_letters r35.2 (xs (s1.1 + (1 : Int32)).toNatClampNeg)).bind fun r36 : Int32 × ZW =>
      if r35.1 = r36.1 then
      some (.inl (s1.1 + (6 : Int32), r36.2))
    else
      some (.inr (.inl (0 : Int32)))
    else none
    else none
  else
    if ((xs s1.1.toNatClampNeg) &&& (63 : Int32)) = (17 : Int32) then
    if z_in (s1.1 + (1 : Int32)) len then
      (f_X11_readings s1.2 (xs (s1.1 + (1 : Int32)).toNatClampNeg)).bind fun r37 : Int32 =>
      if z_in (s1.1 + (1 : Int32)) len then
      (f_X12_readings s1.2 (xs (s1.1 + (1 : Int32)).toNatClampNeg)).bind fun r38 : Int32 =>
      if r37 = r38 then
      some (.inl (s1.1 + (6 : Int32), s1.2))
    else
      some (.inr (.inl (0 : Int32)))
    else none
    else none
  else
    if ((xs s1.1.toNatClampNeg) &&& (63 : Int32)) = (18 : Int32) then
    (f_X11_ways s1.2).bind fun r39 : Int64 × ZW =>
      (f_X12_ways r39.2).bind fun r40 : Int64 × ZW =>
      if (lg_cmp r39.1 r40.1) = 0 then
      some (.inl (s1.1 + (6 : Int32), r40.2))
    else
      some (.inr (.inl (0 : Int32)))
  else
    if ((xs s1.1.toNatClampNeg) &&& (63 : Int32)) = (19 : Int32) then
    if z_in (s1.1 + (1 : Int32)) len then
      if z_in (s1.1 + (2 : Int32)) len then
      (f_X11_who s1.2 (xs (s1.1 + (1 : Int32)).toNatClampNeg) (xs (s1.1 + (2 : Int32)).toNatClampNeg)).bind fun r41 : Int32 × ZW =>
      if z_in (s1.1 + (1 : Int32)) len then
      if z_in (s1.1 + (2 : Int32)) len then
      (f_X12_who r41.2 (xs (s1.1 + (1 : Int32)).toNatClampNeg) (xs (s1.1 + (2 : Int32)).toNatClampNeg)).bind fun r42 : Int32 × ZW =>
      if r41.1 = r42.1 then
      some (.inl (s1.1 + (6 : Int32), r42.2))
    else
      some (.inr (.inl (0 : Int32)))
    else none
    else none
    else none
    else none
  else
    if ((xs s1.1.toNatClampNeg) &&& (63 : Int32)) = (20 : Int32) then
    if z_in (s1.1 + (1 : Int32)) len then
      if z_in (s1.1 + (2 : Int32)) len then
      (f_X11_where s1.2 (xs (s1.1 + (1 : Int32)).toNatClampNeg) (xs (s1.1 + (2 : Int32)).toNatClampNeg)).bind fun r43 : Int32 × ZW =>
      if z_in (s1.1 + (1 : Int32)) len then
      if z_in (s1.1 + (2 : Int32)) len then
      (f_X12_where r43.2 (xs (s1.1 + (1 : Int32)).toNatClampNeg) (xs (s1.1 + (2 : Int32)).toNatClampNeg)).bind fun r44 : Int32 × ZW =>
      if r43.1 = r44.1 then
      some (.inl (s1.1 + (6 : Int32), r44.2))
    else
      some (.inr (.inl (0 : Int32)))
    else none
    else none
    else none
    else none
  else
    if ((xs s1.1.toNatClampNeg) &&& (63 : Int32)) = (21 : Int32) then
    if z_in (s1.1 + (1 : Int32)) len then
      (f_X11_nightly s1.2 (xs (s1.1 + (1 : Int32)).toNatClampNeg)).bind fun r45 : Int32 × ZW =>
      if z_in (s1.1 + (1 : Int32)) len then
      (f_X12_nightly r45.2 (xs (s1.1 + (1 : Int32)).toNatClampNeg)).bind fun r46 : Int32 × ZW =>
      if r45.1 = r46.1 then
      some (.inl (s1.1 + (6 : Int32), r46.2))
    else
      some (.inr (.inl (0 : Int32)))
    else none
    else none
  else
    if ((xs s1.1.toNatClampNeg) &&& (63 : Int32)) = (22 : Int32) then
    if z_in (s1.1 + (1 : Int32)) len then
      if z_in (s1.1 + (2 : Int32)) len then
      if z_in (s1.1 + (3 : Int32)) len then
      (f_X11_risk s1.2 (xs (s1.1 + (1 : Int32)).toNatClampNeg) (xs (s1.1 + (2 : Int32)).toNatClampNeg) (xs (s1.1 + (3 : Int32)).toNatClampNeg)).bind fun r47 : Int32 × ZW =>
      if z_in (s1.1 + (1 : Int32)) len then
      if z_in (s1.1 + (2 : Int32)) len then
      if z_in (s1.1 + (3 : Int32)) len then
      (f_X12_risk r47.2 (xs (s1.1 + (1 : Int32)).toNatClampNeg) (xs (s1.1 + (2 : Int32)).toNatClampNeg) (xs (s1.1 + (3 : Int32)).toNatClampNeg)).bind fun r48 : Int32 × ZW =>
      if r47.1 = r48.1 then
      some (.inl (s1.1 + (6 : Int32), r48.2))
    else
      some (.inr (.inl (0 : Int32)))
    else none
    else none
    else none
    else none
    else none
    else none
  else
    if ((xs s1.1.toNatClampNeg) &&& (63 : Int32)) = (23 : Int32) then
    if z_in (s1.1 + (1 : Int32)) len then
      (f_X11_order s1.2 (xs (s1.1 + (1 : Int32)).toNatClampNeg)).bind fun r49 : Int32 × ZW =>
      if z_in (s1.1 + (1 : Int32)) len then
      (f_X12_order r49.2 (xs (s1.1 + (1 : Int32)).toNatClampNeg)).bind fun r50 : Int32 × ZW =>
      if r49.1 = r50.1 then
      some (.inl (s1.1 + (6 : Int32), r50.2))
    else
      some (.inr (.inl (0 : Int32)))
    else none
    else none
  else
    if ((xs s1.1.toNatClampNeg) &&& (63 : Int32)) = (24 : Int32) then
    if z_in (s1.1 + (1 : Int32)) len then
      if z_in (s1.1 + (2 : Int32)) len then
      if z_in (s1.1 + (3 : Int32)) len then
      (f_X11_month s1.2 (xs (s1.1 + (1 : Int32)).toNatClampNeg) (xs (s1.1 + (2 : Int32)).toNatClampNeg) (xs (s1.1 + (3 : Int32)).toNatClampNeg)).bind fun r51 : Int32 × ZW =>
      if z_in (s1.1 + (1 : Int32)) len then
      if z_in (s1.1 + (2 : Int32)) len then
      if z_in (s1.1 + (3 : Int32)) len then
      (f_X12_month r51.2 (xs (s1.1 + (1 : Int32)).toNatClampNeg) (xs (s1.1 + (2 : Int32)).toNatClampNeg) (xs (s1.1 + (3 : Int32)).toNatClampNeg)).bind fun r52 : Int32 × ZW =>
      if r51.1 = r52.1 then
      some (.inl (s1.1 + (6 : Int32), r52.2))
    else
      some (.inr (.inl (0 : Int32)))
    else none
    else none
    else none
    else none
    else none
    else none
  else
    if ((xs s1.1.toNatClampNeg) &&& (63 : Int32)) = (25 : Int32) then
    if z_in (s1.1 + (1 : Int32)) len then
      (f_X11_laws s1.2 (xs (s1.1 + (1 : Int32)).toNatClampNeg)).bind fun r53 : Int32 × ZW =>
      if z_in (s1.1 + (1 : Int32)) len then
      (f_X12_laws r53.2 (xs (s1.1 + (1 : Int32)).toNatClampNeg)).bind fun r54 : Int32 × ZW =>
      if r53.1 = r54.1 then
      some (.inl (s1.1 + (6 : Int32), r54.2))
    else
      some (.inr (.inl (0 : Int32)))
    else none
    else none
  else
    if ((xs s1.1.toNatClampNeg) &&& (63 : Int32)) = (26 : Int32) then
    if z_in (s1.1 + (1 : Int32)) len then
      if z_in (s1.1 + (2 : Int32)) len then
      (f_X11_grown s1.2 (xs (s1.1 + (1 : Int32)).toNatClampNeg) (xs (s1.1 + (2 : Int32)).toNatClampNeg)).bind fun r55 : Int64 × ZW =>
      if z_in (s1.1 + (1 : Int32)) len then
      if z_in (s1.1 + (2 : Int32)) len then
      (f_X12_grown r55.2 (xs (s1.1 + (1 : Int32)).toNatClampNeg) (xs (s1.1 + (2 : Int32)).toNatClampNeg)).bind fun r56 : Int64 × ZW =>
      if (lg_cmp r55.1 r56.1) = 0 then
      some (.inl (s1.1 + (6 : Int32), r56.2))
    else
      some (.inr (.inl (0 : Int32)))
    else none
    else none
    else none
    else none
  else
    if ((xs s1.1.toNatClampNeg) &&& (63 : Int32)) = (27 : Int32) then
    if z_in (s1.1 + (1 : Int32)) len then
      if z_in (s1.1 + (2 : Int32)) len then
      (f_X11_ask s1.2 (xs (s1.1 + (1 : Int32)).toNatClampNeg) (xs (s1.1 + (2 : Int32)).toNatClampNeg)).bind fun r57 : Int32 × ZW =>
      if z_in (s1.1 + (1 : Int32)) len then
      if z_in (s1.1 + (2 : Int32)) len then
      (f_X12_ask r57.2 (xs (s1.1 + (1 : Int32)).toNatClampNeg) (xs (s1.1 + (2 : Int32)).toNatClampNeg)).bind fun r58 : Int32 =>
      if r57.1 = r58 then
      some (.inl (s1.1 + (6 : Int32), r57.2))
    else
      some (.inr (.inl (0 : Int32)))
    else none
    else none
    else none
    else none
  else
    if ((xs s1.1.toNatClampNeg) &&& (63 : Int32)) = (28 : Int32) then
    if z_in (s1.1 + (1 : Int32)) len then
      (f_X11_needed s1.2 (xs (s1.1 + (1 : Int32)).toNatClampNeg)).bind fun r59 : Int32 × ZW =>
      if z_in (s1.1 + (1 : Int32)) len then
      (f_X12_needed r59.2 (xs (s1.1 + (1 : Int32)).toNatClampNeg)).bind fun r60 : Int32 × ZW =>
      if r59.1 = r60.1 then
      some (.inl (s1.1 + (6 : Int32), r60.2))
    else
      some (.inr (.inl (0 : Int32)))
    else none
    else none
  else
    if ((xs s1.1.toNatClampNeg) &&& (63 : Int32)) = (29 : Int32) then
    if z_in (s1.1 + (1 : Int32)) len then
      if z_in (s1.1 + (2 : Int32)) len then
      if z_in (s1.1 + (3 : Int32)) len then
      if z_in (s1.1 + (4 : Int32)) len then
      (f_X11_stolen s1.2 (xs (s1.1 + (1 : Int32)).toNatClampNeg) (xs (s1.1 + (2 : Int32)).toNatClampNeg) (xs (s1.1 + (3 : Int32)).toNatClampNeg) (xs (s1.1 + (4 : Int32)).toNatClampNeg)).bind fun r61 : Int32 × ZW =>
      if z_in (s1.1 + (1 : Int32)) len then
      if z_in (s1.1 + (2 : Int32)) len then
      if z_in (s1.1 + (3 : Int32)) len then
      if z_in (s1.1 + (4 : Int32)) len then
      (f_X12_stolen r61.2 (xs (s1.1 + (1 : Int32)).toNatClampNeg) (xs (s1.1 + (2 : Int32)).toNatClampNeg) (xs (s1.1 + (3 : Int32)).toNatClampNeg) (xs (s1.1 + (4 : Int32)).toNatClampNeg)).bind fun r62 : Int32 =>
      if r61.1 = r62 then
      some (.inl (s1.1 + (6 : Int32), r61.2))
    else
      some (.inr (.inl (0 : Int32)))
    else none
    else none
    else none
    else none
    else none
    else none
    else none
    else none
  else
    if ((xs s1.1.toNatClampNeg) &&& (63 : Int32)) = (30 : Int32) then
    (f_X11_image s1.2).bind fun r63 : Int32 × ZW =>
      (f_X12_image r63.2).bind fun r64 : Int32 × ZW =>
      if r63.1 = r64.1 then
      some (.inl (s1.1 + (6 : Int32), r64.2))
    else
      some (.inr (.inl (0 : Int32)))
  else
    if ((xs s1.1.toNatClampNeg) &&& (63 : Int32)) = (31 : Int32) then
    (f_X11_restore s1.2).bind fun r65 : Int32 × ZW =>
      (f_X12_restore r65.2).bind fun r66 : Int32 × ZW =>
      if r65.1 = r66.1 then
      some (.inl (s1.1 + (6 : Int32), r66.2))
    else
      some (.inr (.inl (0 : Int32)))
  else
    if ((xs s1.1.toNatClampNeg) &&& (63 : Int32)) = (32 : Int32) then
    if z_in (s1.1 + (1 : Int32)) len then
      if z_in (s1.1 + (2 : Int32)) len then
      if z_in (s1.1 + (3 : Int32)) len then
      if z_in (s1.1 + (4 : Int32)) len then
      (f_X11_months s1.2 (xs (s1.1 + (1 : Int32)).toNatClampNeg) (xs (s1.1 + (2 : Int32)).toNatClampNeg) (xs (s1.1 + (3 : Int32)).toNatClampNeg) (xs (s1.1 + (4 : Int32)).toNatClampNeg)).bind fun r67 : Int32 × ZW =>
      if z_in (s1.1 + (1 : Int32)) len then
      if z_in (s1.1 + (2 : Int32)) len then
      if z_in (s1.1 + (3 : Int32)) len then
      if z_in (s1.1 + (4 : Int32)) len then
      (f_X12_months r67.2 (xs (s1.1 + (1 : Int32)).toNatClampNeg) (xs (s1.1 + (2 : Int32)).toNatClampNeg) (xs (s1.1 + (3 : Int32)).toNatClampNeg) (xs (s1.1 + (4 : Int32)).toNatClampNeg)).bind fun r68 : Int32 × ZW =>
      if r67.1 = r68.1 then
      some (.inl (s1.1 + (6 : Int32), r68.2))
    else
      some (.inr (.inl (0 : Int32)))
    else none
    else none
    else none
    else none
    else none
    else none
    else none
    else none
  else
    if ((xs s1.1.toNatClampNeg) &&& (63 : Int32)) = (33 : Int32) then
    if z_in (s1.1 + (1 : Int32)) len then
      if z_in (s1.1 + (2 : Int32)) len then
      if z_in (s1.1 + (3 : Int32)) len then
      (f_X11_sheet s1.2 (xs (s1.1 + (1 : Int32)).toNatClampNeg) (xs (s1.1 + (2 : Int32)).toNatClampNeg) (xs (s1.1 + (3 : Int32)).toNatClampNeg)).bind fun r69 : Int32 × ZW =>
      if z_in (s1.1 + (1 : Int32)) len then
      if z_in (s1.1 + (2 : Int32)) len then
      if z_in (s1.1 + (3 : Int32)) len then
      (f_X12_sheet r69.2 (xs (s1.1 + (1 : Int32)).toNatClampNeg) (xs (s1.1 + (2 : Int32)).toNatClampNeg) (xs (s1.1 + (3 : Int32)).toNatClampNeg)).bind fun r70 : Int32 × ZW =>
      if r69.1 = r70.1 then
      some (.inl (s1.1 + (6 : Int32), r70.2))
    else
      some (.inr (.inl (0 : Int32)))
    else none
    else none
    else none
    else none
    else none
    else none
  else
    if ((xs s1.1.toNatClampNeg) &&& (63 : Int32)) = (34 : Int32) then
    if z_in (s1.1 + (1 : Int32)) len then
      (f_X11_drop s1.2 (xs (s1.1 + (1 : Int32)).toNatClampNeg)).bind fun r71 : Int32 × ZW =>
      if z_in (s1.1 + (1 : Int32)) len then
      (f_X12_drop r71.2 (xs (s1.1 + (1 : Int32)).toNatClampNeg)).bind fun r72 : Int32 × ZW =>
      if r71.1 = r72.1 then
      some (.inl (s1.1 + (6 : Int32), r72.2))
    else
      some (.inr (.inl (0 : Int32)))
    else none
    else none
  else
    if ((xs s1.1.toNatClampNeg) &&& (63 : Int32)) = (35 : Int32) then
    if z_in (s1.1 + (1 : Int32)) len then
      if z_in (s1.1 + (2 : Int32)) len then
      if z_in (s1.1 + (3 : Int32)) len then
      if z_in (s1.1 + (4 : Int32)) len then
      (f_X11_item s1.2 (xs (s1.1 + (1 : Int32)).toNatClampNeg) (xs (s1.1 + (2 : Int32)).toNatClampNeg) (xs (s1.1 + (3 : Int32)).toNatClampNeg) (xs (s1.1 + (4 : Int32)).toNatClampNeg)).bind fun r73 : Int32 × ZW =>
      if z_in (s1.1 + (1 : Int32)) len then
      if z_in (s1.1 + (2 : Int32)) len then
      if z_in (s1.1 + (3 : Int32)) len then
      if z_in (s1.1 + (4 : Int32)) len then
      (f_X12_item r73.2 (xs (s1.1 + (1 : Int32)).toNatClampNeg) (xs (s1.1 + (2 : Int32)).toNatClampNeg) (xs (s1.1 + (3 : Int32)).toNatClampNeg) (xs (s1.1 + (4 : Int32)).toNatClampNeg)).bind fun r74 : Int32 × ZW =>
      if r73.1 = r74.1 then
      some (.inl (s1.1 + (6 : Int32), r74.2))
    else
      some (.inr (.inl (0 : Int32)))
    else none
    else none
    else none
    else none
    else none
    else none
    else none
    else none
  else
    if ((xs s1.1.toNatClampNeg) &&& (63 : Int32)) = (36 : Int32) then
    if z_in (s1.1 + (1 : Int32)) len then
      if z_in (s1.1 + (2 : Int32)) len then
      if z_in (s1.1 + (3 : Int32)) len then
      if z_in (s1.1 + (4 : Int32)) len then
      if z_in (s1.1 + (5 : Int32)) len then
      (f_X11_copy s1.2 (xs (s1.1 + (1 : Int32)).toNatClampNeg) (xs (s1.1 + (2 : Int32)).toNatClampNeg) (xs (s1.1 + (3 : Int32)).toNatClampNeg) (xs (s1.1 + (4 : Int32)).toNatClampNeg) (xs (s1.1 + (5 : Int32)).toNatClampNeg)).bind fun r75 : Int32 × ZW =>
      if z_in (s1.1 + (1 : Int32)) len then
      if z_in (s1.1 + (2 : Int32)) len then
      if z_in (s1.1 + (3 : Int32)) len then
      if z_in (s1.1 + (4 : Int32)) len then
      if z_in (s1.1 + (5 : Int32)) len then
      (f_X12_copy r75.2 (xs (s1.1 + (1 : Int32)).toNatClampNeg) (xs (s1.1 + (2 : Int32)).toNatClampNeg) (xs (s1.1 + (3 : Int32)).toNatClampNeg) (xs (s1.1 + (4 : Int32)).toNatClampNeg) (xs (s1.1 + (5 : Int32)).toNatClampNeg)).bind fun r76 : Int32 × ZW =>
      if r75.1 = r76.1 then
      some (.inl (s1.1 + (6 : Int32), r76.2))
    else
      some (.inr (.inl (0 : Int32)))
    else none
    else none
    else none
    else none
    else none
    else none
    else none
    else none
    else none
    else none
  else
    some (.inl (s1.1 + (6 : Int32), s1.2))
  else none
def f_law (xs : Nat → Int32) (len : Nat) (w : ZW) : Option Int32 :=
  (z_iter (f_law_L18 len xs) z_fuel ((0 : Int32), w)).bind (Sum.elim (fun x : Int32 => some x) (fun q2 : ZW =>
  some (1 : Int32)))
set_option maxHeartbeats 40000000 in
set_option maxRecDepth 100000 in
theorem c_law (G : ZG) (l : Launch) (b len : Nat) (xs : Nat → Int32) (zc zs : Nat) (hzc : zc ≤ 600000) (hzs : zs ≤ 7302250) (w : ZW) (ho : f_law xs len w = some 1) : zLA G l b len xs "LoveLocksLaw" cL_law zc zs 18 [(0, .ref (b)), (1, .ref (G.1 0)), (2, .ref (G.1 130)), (3, .int (0 : Int32))] [] w := by
  refine (?_ : zLR G l b len xs "LoveLocksLaw" cL_law zc zs (fun x : Int32 => x = 1) 18 [(0, .ref (b)), (1, .ref (G.1 0)), (2, .ref (G.1 130)), (3, .int (0 : Int32))] [] w (f_law xs len w)) 1 ho rfl
  rw [f_law]
  refine q_loopR [0, 1, 2, 3] (fun s1 => [(0, .ref (b)), (1, .ref (G.1 0)), (2, .ref (G.1 130)), (3, .int s1.1)]) (fun s1 => s1.2) (fun x => x = 1) 1465 (fun q2 => []) (fun q2 => q2) rfl rfl (fun s1 => ?_) (fun x y h1 h2 => by cases h1; exact h2) (fun q2 => ?_)
  · rw [f_law_L18]
    refine q_iload_n 19 dL_law_18 rfl 3 rfl rfl ?_
    refine q_aload_n 20 dL_law_19 rfl 0 rfl rfl ?_
    refine q_slen 21 dL_law_20 rfl ?_
    refine q_bipush 23 dL_law_21 rfl zcb_6 ?_
    refine q_isub 24 dL_law_23 rfl ?_
    refine q_icmp_gt 1465 27 dL_law_24 (by decide) rfl ?_ ?_
    · exact q_leaf [] (lv2 := []) rfl (fun h => h)
    · refine q_aload_n 28 dL_law_27 rfl 0 rfl rfl ?_
      refine q_iload_n 29 dL_law_28 rfl 3 rfl rfl ?_
      refine q_scr 30 dL_law_29 rfl ?_
      refine q_bipush 32 dL_law_30 rfl zcb_63 ?_
      refine q_iand 33 dL_law_32 rfl ?_
      refine q_case (0 : Int32) (fun hx => ?_) (fun hn0 => ?_)
      · refine q_tin 196 (0 : Int32) hx dL_law_33 (by decide) (by decide) rfl (by decide) ?_
        refine q_aload_n 197 dL_law_196 rfl 1 rfl rfl ?_
        refine q_aload_n 198 dL_law_197 rfl 0 rfl rfl ?_
        refine q_iload_n 199 dL_law_198 rfl 3 rfl rfl ?_
        refine q_iconst 200 dL_law_199 rfl zci_1 ?_
        refine q_iadd 201 dL_law_200 rfl ?_
        refine q_scr 202 dL_law_201 rfl ?_
        refine q_aload_n 203 dL_law_202 rfl 0 rfl rfl ?_
        refine q_iload_n 204 dL_law_203 rfl 3 rfl rfl ?_
        refine q_iconst 205 dL_law_204 rfl zci_2 ?_
        refine q_iadd 206 dL_law_205 rfl ?_
        refine q_scr 207 dL_law_206 rfl ?_
        refine q_aload_n 208 dL_law_207 rfl 0 rfl rfl ?_
        refine q_iload_n 209 dL_law_208 rfl 3 rfl rfl ?_
        refine q_iconst 210 dL_law_209 rfl zci_3 ?_
        refine q_iadd 211 dL_law_210 rfl ?_
        refine q_scr 212 dL_law_211 rfl ?_
        refine q_callViw 215 3 (ko := 0) [.int (xs (s1.1 + (1 : Int32)).toNatClampNeg), .int (xs (s1.1 + (2 : Int32)).toNatClampNeg), .int (xs (s1.1 + (3 : Int32)).toNatClampNeg)] (st := []) hzc hzs dL_law_212 rfl rfl (fun r h => c_X11_panel G l 60 (by decide) s1.2 (xs (s1.1 + (1 : Int32)).toNatClampNeg) (xs (s1.1 + (2 : Int32)).toNatClampNeg) (xs (s1.1 + (3 : Int32)).toNatClampNeg) r h) zl_0 (ce_0 G _) rfl rfl wc_X11_panel wz_X11 wl_L_13 wi_X11_panel ws_X11_panel zd_X11_panel (by decide) (by decide) rfl (Nat.le_of_ble_eq_true rfl) (fun r3 => ?_)
        refine q_aload_n 216 dL_law_215 rfl 2 rfl rfl ?_
        refine q_aload_n 217 dL_law_216 rfl 0 rfl rfl ?_
        refine q_iload_n 218 dL_law_217 rfl 3 rfl rfl ?_
        refine q_iconst 219 dL_law_218 rfl zci_1 ?_
        refine q_iadd 220 dL_law_219 rfl ?_
        refine q_scr 221 dL_law_220 rfl ?_
        refine q_aload_n 222 dL_law_221 rfl 0 rfl rfl ?_
        refine q_iload_n 223 dL_law_222 rfl 3 rfl rfl ?_
        refine q_iconst 224 dL_law_223 rfl zci_2 ?_
        refine q_iadd 225 dL_law_224 rfl ?_
        refine q_scr 226 dL_law_225 rfl ?_
        refine q_aload_n 227 dL_law_226 rfl 0 rfl rfl ?_
        refine q_iload_n 228 dL_law_227 rfl 3 rfl rfl ?_
        refine q_iconst 229 dL_law_228 rfl zci_3 ?_
        refine q_iadd 230 dL_law_229 rfl ?_
        refine q_scr 231 dL_law_230 rfl ?_
        refine q_callViw 234 3 (ko := 130) [.int (xs (s1.1 + (1 : Int32)).toNatClampNeg), .int (xs (s1.1 + (2 : Int32)).toNatClampNeg), .int (xs (s1.1 + (3 : Int32)).toNatClampNeg)] (st := [.int r3.1]) hzc hzs dL_law_231 rfl rfl (fun r h => c_X12_panel G l 60 (by decide) r3.2 (xs (s1.1 + (1 : Int32)).toNatClampNeg) (xs (s1.1 + (2 : Int32)).toNatClampNeg) (xs (s1.1 + (3 : Int32)).toNatClampNeg) r h) zl_130 (ce_130 G _) rfl rfl wc_X12_panel wz_X12 wl_L_17 wi_X12_panel ws_X12_panel zd_X12_panel (by decide) (by decide) rfl (Nat.le_of_ble_eq_true rfl) (fun r4 => ?_)
        refine q_icmp_eq 1459 237 dL_law_234 (by decide) rfl ?_ ?_
        · refine q_iinc 1462 3 [(3, .int (s1.1 + (6 : Int32))), (0, .ref (b)), (1, .ref (G.1 0)), (2, .ref (G.1 130))] dL_law_1459 rfl rfl zci_6 (by decide) rfl ?_
          refine q_goto 18 dL_law_1462 (by decide) ?_
          exact q_leaf [1, 2, 3, 0] (lv2 := [(0, .ref (b)), (1, .ref (G.1 0)), (2, .ref (G.1 130)), (3, .int (s1.1 + (6 : Int32)))]) rfl (fun h => h)
        · refine q_iconst 238 dL_law_237 rfl zci_0 ?_
          exact q_iret rfl hzc hzs dL_law_238 (fun h => h)
      refine q_case (1 : Int32) (fun hx => ?_) (fun hn1 => ?_)
      · refine q_tin 239 (1 : Int32) hx dL_law_33 (by decide) (by decide) rfl (by decide) ?_
        refine q_aload_n 240 dL_law_239 rfl 1 rfl rfl ?_
        refine q_aload_n 241 dL_law_240 rfl 0 rfl rfl ?_
        refine q_iload_n 242 dL_law_241 rfl 3 rfl rfl ?_
        refine q_iconst 243 dL_law_242 rfl zci_1 ?_
        refine q_iadd 244 dL_law_243 rfl ?_
        refine q_scr 245 dL_law_244 rfl ?_
        refine q_aload_n 246 dL_law_245 rfl 0 rfl rfl ?_
        refine q_iload_n 247 dL_law_246 rfl 3 rfl rfl ?_
        refine q_iconst 248 dL_law_247 rfl zci_2 ?_
        refine q_iadd 249 dL_law_248 rfl ?_
        refine q_scr 250 dL_law_249 rfl ?_
        refine q_aload_n 251 dL_law_250 rfl 0 rfl rfl ?_
        refine q_iload_n 252 dL_law_251 rfl 3 rfl rfl ?_
        refine q_iconst 253 dL_law_252 rfl zci_3 ?_
        refine q_iadd 254 dL_law_253 rfl ?_
        refine q_scr 255 dL_law_254 rfl ?_
        refine q_aload_n 256 dL_law_255 rfl 0 rfl rfl ?_
        refine q_iload_n 257 dL_law_256 rfl 3 rfl rfl ?_
        refine q_iconst 258 dL_law_257 rfl zci_4 ?_
        refine q_iadd 259 dL_law_258 rfl ?_
        refine q_scr 260 dL_law_259 rfl ?_
        refine q_aload_n 261 dL_law_260 rfl 0 rfl rfl ?_
        refine q_iload_n 262 dL_law_261 rfl 3 rfl rfl ?_
        refine q_iconst 263 dL_law_262 rfl zci_5 ?_
        refine q_iadd 264 dL_law_263 rfl ?_
        refine q_scr 265 dL_law_264 rfl ?_
        refine q_callViw 268 5 (ko := 0) [.int (xs (s1.1 + (1 : Int32)).toNatClampNeg), .int (xs (s1.1 + (2 : Int32)).toNatClampNeg), .int (xs (s1.1 + (3 : Int32)).toNatClampNeg), .int (xs (s1.1 + (4 : Int32)).toNatClampNeg), .int (xs (s1.1 + (5 : Int32)).toNatClampNeg)] (st := []) hzc hzs dL_law_265 rfl rfl (fun r h => c_X11_hang G l 60 (by decide) s1.2 (xs (s1.1 + (1 : Int32)).toNatClampNeg) (xs (s1.1 + (2 : Int32)).toNatClampNeg) (xs (s1.1 + (3 : Int32)).toNatClampNeg) (xs (s1.1 + (4 : Int32)).toNatClampNeg) (xs (s1.1 + (5 : Int32)).toNatClampNeg) r h) zl_0 (ce_0 G _) rfl rfl wc_X11_hang wz_X11 wl_L_18 wi_X11_hang ws_X11_hang zd_X11_hang (by decide) (by decide) rfl (Nat.le_of_ble_eq_true rfl) (fun r5 => ?_)
        refine q_aload_n 269 dL_law_268 rfl 2 rfl rfl ?_
        refine q_aload_n 270 dL_law_269 rfl 0 rfl rfl ?_
        refine q_iload_n 271 dL_law_270 rfl 3 rfl rfl ?_
        refine q_iconst 272 dL_law_271 rfl zci_1 ?_
        refine q_iadd 273 dL_law_272 rfl ?_
        refine q_scr 274 dL_law_273 rfl ?_
        refine q_aload_n 275 dL_law_274 rfl 0 rfl rfl ?_
        refine q_iload_n 276 dL_law_275 rfl 3 rfl rfl ?_
        refine q_iconst 277 dL_law_276 rfl zci_2 ?_
        refine q_iadd 278 dL_law_277 rfl ?_
        refine q_scr 279 dL_law_278 rfl ?_
        refine q_aload_n 280 dL_law_279 rfl 0 rfl rfl ?_
        refine q_iload_n 281 dL_law_280 rfl 3 rfl rfl ?_
        refine q_iconst 282 dL_law_281 rfl zci_3 ?_
        refine q_iadd 283 dL_law_282 rfl ?_
        refine q_scr 284 dL_law_283 rfl ?_
        refine q_aload_n 285 dL_law_284 rfl 0 rfl rfl ?_
        refine q_iload_n 286 dL_law_285 rfl 3 rfl rfl ?_
        refine q_iconst 287 dL_law_286 rfl zci_4 ?_
        refine q_iadd 288 dL_law_287 rfl ?_
        refine q_scr 289 dL_law_288 rfl ?_
        refine q_aload_n 290 dL_law_289 rfl 0 rfl rfl ?_
        refine q_iload_n 291 dL_law_290 rfl 3 rfl rfl ?_
        refine q_iconst 292 dL_law_291 rfl zci_5 ?_
        refine q_iadd 293 dL_law_292 rfl ?_
        refine q_scr 294 dL_law_293 rfl ?_
        refine q_callViw 297 5 (ko := 130) [.int (xs (s1.1 + (1 : Int32)).toNatClampNeg), .int (xs (s1.1 + (2 : Int32)).toNatClampNeg), .int (xs (s1.1 + (3 : Int32)).toNatClampNeg), .int (xs (s1.1 + (4 : Int32)).toNatClampNeg), .int (xs (s1.1 + (5 : Int32)).toNatClampNeg)] (st := [.int r5.1]) hzc hzs dL_law_294 rfl rfl (fun r h => c_X12_hang G l 60 (by decide) r5.2 (xs (s1.1 + (1 : Int32)).toNatClampNeg) (xs (s1.1 + (2 : Int32)).toNatClampNeg) (xs (s1.1 + (3 : Int32)).toNatClampNeg) (xs (s1.1 + (4 : Int32)).toNatClampNeg) (xs (s1.1 + (5 : Int32)).toNatClampNeg) r h) zl_130 (ce_130 G _) rfl rfl wc_X12_hang wz_X12 wl_L_22 wi_X12_hang ws_X12_hang zd_X12_hang (by decide) (by decide) rfl (Nat.le_of_ble_eq_true rfl) (fun r6 => ?_)
        refine q_icmp_eq 1459 300 dL_law_297 (by decide) rfl ?_ ?_
        · refine q_iinc 1462 3 [(3, .int (s1.1 + (6 : Int32))), (0, .ref (b)), (1, .ref (G.1 0)), (2, .ref (G.1 130))] dL_law_1459 rfl rfl zci_6 (by decide) rfl ?_
          refine q_goto 18 dL_law_1462 (by decide) ?_
          exact q_leaf [1, 2, 3, 0] (lv2 := [(0, .ref (b)), (1, .ref (G.1 0)), (2, .ref (G.1 130)), (3, .int (s1.1 + (6 : Int32)))]) rfl (fun h => h)
        · refine q_iconst 301 dL_law_300 rfl zci_0 ?_
          exact q_iret rfl hzc hzs dL_law_301 (fun h => h)
      refine q_case (2 : Int32) (fun hx => ?_) (fun hn2 => ?_)
      · refine q_tin 302 (2 : Int32) hx dL_law_33 (by decide) (by decide) rfl (by decide) ?_
        refine q_aload_n 303 dL_law_302 rfl 1 rfl rfl ?_
        refine q_aload_n 304 dL_law_303 rfl 0 rfl rfl ?_
        refine q_iload_n 305 dL_law_304 rfl 3 rfl rfl ?_
        refine q_iconst 306 dL_law_305 rfl zci_1 ?_
        refine q_iadd 307 dL_law_306 rfl ?_
        refine q_scr 308 dL_law_307 rfl ?_
        refine q_aload_n 309 dL_law_308 rfl 0 rfl rfl ?_
        refine q_iload_n 310 dL_law_309 rfl 3 rfl rfl ?_
        refine q_iconst 311 dL_law_310 rfl zci_2 ?_
        refine q_iadd 312 dL_law_311 rfl ?_
        refine q_scr 313 dL_law_312 rfl ?_
        refine q_aload_n 314 dL_law_313 rfl 0 rfl rfl ?_
        refine q_iload_n 315 dL_law_314 rfl 3 rfl rfl ?_
        refine q_iconst 316 dL_law_315 rfl zci_3 ?_
        refine q_iadd 317 dL_law_316 rfl ?_
        refine q_scr 318 dL_law_317 rfl ?_
        refine q_aload_n 319 dL_law_318 rfl 0 rfl rfl ?_
        refine q_iload_n 320 dL_law_319 rfl 3 rfl rfl ?_
        refine q_iconst 321 dL_law_320 rfl zci_4 ?_
        refine q_iadd 322 dL_law_321 rfl ?_
        refine q_scr 323 dL_law_322 rfl ?_
        refine q_callViw 326 4 (ko := 0) [.int (xs (s1.1 + (1 : Int32)).toNatClampNeg), .int (xs (s1.1 + (2 : Int32)).toNatClampNeg), .int (xs (s1.1 + (3 : Int32)).toNatClampNeg), .int (xs (s1.1 + (4 : Int32)).toNatClampNeg)] (st := []) hzc hzs dL_law_323 rfl rfl (fun r h => c_X11_hangOn G l 60 (by decide) s1.2 (xs (s1.1 + (1 : Int32)).toNatClampNeg) (xs (s1.1 + (2 : Int32)).toNatClampNeg) (xs (s1.1 + (3 : Int32)).toNatClampNeg) (xs (s1.1 + (4 : Int32)).toNatClampNeg) r h) zl_0 (ce_0 G _) rfl rfl wc_X11_hangOn wz_X11 wl_L_23 wi_X11_hangOn ws_X11_hangOn zd_X11_hangOn (by decide) (by decide) rfl (Nat.le_of_ble_eq_true rfl) (fun r7 => ?_)
        refine q_aload_n 327 dL_law_326 rfl 2 rfl rfl ?_
        refine q_aload_n 328 dL_law_327 rfl 0 rfl rfl ?_
        refine q_iload_n 329 dL_law_328 rfl 3 rfl rfl ?_
        refine q_iconst 330 dL_law_329 rfl zci_1 ?_
        refine q_iadd 331 dL_law_330 rfl ?_
        refine q_scr 332 dL_law_331 rfl ?_
        refine q_aload_n 333 dL_law_332 rfl 0 rfl rfl ?_
        refine q_iload_n 334 dL_law_333 rfl 3 rfl rfl ?_
        refine q_iconst 335 dL_law_334 rfl zci_2 ?_
        refine q_iadd 336 dL_law_335 rfl ?_
        refine q_scr 337 dL_law_336 rfl ?_
        refine q_aload_n 338 dL_law_337 rfl 0 rfl rfl ?_
        refine q_iload_n 339 dL_law_338 rfl 3 rfl rfl ?_
        refine q_iconst 340 dL_law_339 rfl zci_3 ?_
        refine q_iadd 341 dL_law_340 rfl ?_
        refine q_scr 342 dL_law_341 rfl ?_
        refine q_aload_n 343 dL_law_342 rfl 0 rfl rfl ?_
        refine q_iload_n 344 dL_law_343 rfl 3 rfl rfl ?_
        refine q_iconst 345 dL_law_344 rfl zci_4 ?_
        refine q_iadd 346 dL_law_345 rfl ?_
        refine q_scr 347 dL_law_346 rfl ?_
        refine q_callViw 350 4 (ko := 130) [.int (xs (s1.1 + (1 : Int32)).toNatClampNeg), .int (xs (s1.1 + (2 : Int32)).toNatClampNeg), .int (xs (s1.1 + (3 : Int32)).toNatClampNeg), .int (xs (s1.1 + (4 : Int32)).toNatClampNeg)] (st := [.int r7.1]) hzc hzs dL_law_347 rfl rfl (fun r h => c_X12_hangOn G l 60 (by decide) r7.2 (xs (s1.1 + (1 : Int32)).toNatClampNeg) (xs (s1.1 + (2 : Int32)).toNatClampNeg) (xs (s1.1 + (3 : Int32)).toNatClampNeg) (xs (s1.1 + (4 : Int32)).toNatClampNeg) r h) zl_130 (ce_130 G _) rfl rfl wc_X12_hangOn wz_X12 wl_L_27 wi_X12_hangOn ws_X12_hangOn zd_X12_hangOn (by decide) (by decide) rfl (Nat.le_of_ble_eq_true rfl) (fun r8 => ?_)
        refine q_icmp_eq 1459 353 dL_law_350 (by decide) rfl ?_ ?_
        · refine q_iinc 1462 3 [(3, .int (s1.1 + (6 : Int32))), (0, .ref (b)), (1, .ref (G.1 0)), (2, .ref (G.1 130))] dL_law_1459 rfl rfl zci_6 (by decide) rfl ?_
          refine q_goto 18 dL_law_1462 (by decide) ?_
          exact q_leaf [1, 2, 3, 0] (lv2 := [(0, .ref (b)), (1, .ref (G.1 0)), (2, .ref (G.1 130)), (3, .int (s1.1 + (6 : Int32)))]) rfl (fun h => h)
        · refine q_iconst 354 dL_law_353 rfl zci_0 ?_
          exact q_iret rfl hzc hzs dL_law_354 (fun h => h)
      refine q_case (3 : Int32) (fun hx => ?_) (fun hn3 => ?_)
      · refine q_tin 355 (3 : Int32) hx dL_law_33 (by decide) (by decide) rfl (by decide) ?_
        refine q_aload_n 356 dL_law_355 rfl 1 rfl rfl ?_
        refine q_aload_n 357 dL_law_356 rfl 0 rfl rfl ?_
        refine q_iload_n 358 dL_law_357 rfl 3 rfl rfl ?_
        refine q_iconst 359 dL_law_358 rfl zci_1 ?_
        refine q_iadd 360 dL_law_359 rfl ?_
        refine q_scr 361 dL_law_360 rfl ?_
        refine q_aload_n 362 dL_law_361 rfl 0 rfl rfl ?_
        refine q_iload_n 363 dL_law_362 rfl 3 rfl rfl ?_
        refine q_iconst 364 dL_law_363 rfl zci_2 ?_
        refine q_iadd 365 dL_law_364 rfl ?_
        refine q_scr 366 dL_law_365 rfl ?_
        refine q_callVi 369 2 (ko := 0) [.int (xs (s1.1 + (1 : Int32)).toNatClampNeg), .int (xs (s1.1 + (2 : Int32)).toNatClampNeg)] (st := []) hzc hzs dL_law_366 rfl rfl (fun r h => c_X11_told G l 60 (by decide) s1.2 (xs (s1.1 + (1 : Int32)).toNatClampNeg) (xs (s1.1 + (2 : Int32)).toNatClampNeg) r h) zl_0 (ce_0 G _) rfl rfl wc_X11_told wz_X11 wl_L_28 wi_X11_told ws_X11_told zd_X11_told (by decide) (by decide) rfl (Nat.le_of_ble_eq_true rfl) (fun r9 => ?_)
        refine q_aload_n 370 dL_law_369 rfl 2 rfl rfl ?_
        refine q_aload_n 371 dL_law_370 rfl 0 rfl rfl ?_
        refine q_iload_n 372 dL_law_371 rfl 3 rfl rfl ?_
        refine q_iconst 373 dL_law_372 rfl zci_1 ?_
        refine q_iadd 374 dL_law_373 rfl ?_
        refine q_scr 375 dL_law_374 rfl ?_
        refine q_aload_n 376 dL_law_375 rfl 0 rfl rfl ?_
        refine q_iload_n 377 dL_law_376 rfl 3 rfl rfl ?_
        refine q_iconst 378 dL_law_377 rfl zci_2 ?_
        refine q_iadd 379 dL_law_378 rfl ?_
        refine q_scr 380 dL_law_379 rfl ?_
        refine q_callVi 383 2 (ko := 130) [.int (xs (s1.1 + (1 : Int32)).toNatClampNeg), .int (xs (s1.1 + (2 : Int32)).toNatClampNeg)] (st := [.int r9]) hzc hzs dL_law_380 rfl rfl (fun r h => c_X12_told G l 60 (by decide) s1.2 (xs (s1.1 + (1 : Int32)).toNatClampNeg) (xs (s1.1 + (2 : Int32)).toNatClampNeg) r h) zl_130 (ce_130 G _) rfl rfl wc_X12_told wz_X12 wl_L_32 wi_X12_told ws_X12_told zd_X12_told (by decide) (by decide) rfl (Nat.le_of_ble_eq_true rfl) (fun r10 => ?_)
        refine q_icmp_eq 1459 386 dL_law_383 (by decide) rfl ?_ ?_
        · refine q_iinc 1462 3 [(3, .int (s1.1 + (6 : Int32))), (0, .ref (b)), (1, .ref (G.1 0)), (2, .ref (G.1 130))] dL_law_1459 rfl rfl zci_6 (by decide) rfl ?_
          refine q_goto 18 dL_law_1462 (by decide) ?_
          exact q_leaf [1, 2, 3, 0] (lv2 := [(0, .ref (b)), (1, .ref (G.1 0)), (2, .ref (G.1 130)), (3, .int (s1.1 + (6 : Int32)))]) rfl (fun h => h)
        · refine q_iconst 387 dL_law_386 rfl zci_0 ?_
          exact q_iret rfl hzc hzs dL_law_387 (fun h => h)
      refine q_case (4 : Int32) (fun hx => ?_) (fun hn4 => ?_)
      · refine q_tin 388 (4 : Int32) hx dL_law_33 (by decide) (by decide) rfl (by decide) ?_
        refine q_aload_n 389 dL_law_388 rfl 1 rfl rfl ?_
        refine q_aload_n 390 dL_law_389 rfl 0 rfl rfl ?_
        refine q_iload_n 391 dL_law_390 rfl 3 rfl rfl ?_
        refine q_iconst 392 dL_law_391 rfl zci_1 ?_
        refine q_iadd 393 dL_law_392 rfl ?_
        refine q_scr 394 dL_law_393 rfl ?_
        refine q_aload_n 395 dL_law_394 rfl 0 rfl rfl ?_
        refine q_iload_n 396 dL_law_395 rfl 3 rfl rfl ?_
        refine q_iconst 397 dL_law_396 rfl zci_2 ?_
        refine q_iadd 398 dL_law_397 rfl ?_
        refine q_scr 399 dL_law_398 rfl ?_
        refine q_callVi 402 2 (ko := 0) [.int (xs (s1.1 + (1 : Int32)).toNatClampNeg), .int (xs (s1.1 + (2 : Int32)).toNatClampNeg)] (st := []) hzc hzs dL_law_399 rfl rfl (fun r h => c_X11_load G l 60 (by decide) s1.2 (xs (s1.1 + (1 : Int32)).toNatClampNeg) (xs (s1.1 + (2 : Int32)).toNatClampNeg) r h) zl_0 (ce_0 G _) rfl rfl wc_X11_load wz_X11 wl_L_33 wi_X11_load ws_X11_load zd_X11_load (by decide) (by decide) rfl (Nat.le_of_ble_eq_true rfl) (fun r11 => ?_)
        refine q_aload_n 403 dL_law_402 rfl 2 rfl rfl ?_
        refine q_aload_n 404 dL_law_403 rfl 0 rfl rfl ?_
        refine q_iload_n 405 dL_law_404 rfl 3 rfl rfl ?_
        refine q_iconst 406 dL_law_405 rfl zci_1 ?_
        refine q_iadd 407 dL_law_406 rfl ?_
        refine q_scr 408 dL_law_407 rfl ?_
        refine q_aload_n 409 dL_law_408 rfl 0 rfl rfl ?_
        refine q_iload_n 410 dL_law_409 rfl 3 rfl rfl ?_
        refine q_iconst 411 dL_law_410 rfl zci_2 ?_
        refine q_iadd 412 dL_law_411 rfl ?_
        refine q_scr 413 dL_law_412 rfl ?_
        refine q_callVi 416 2 (ko := 130) [.int (xs (s1.1 + (1 : Int32)).toNatClampNeg), .int (xs (s1.1 + (2 : Int32)).toNatClampNeg)] (st := [.int r11]) hzc hzs dL_law_413 rfl rfl (fun r h => c_X12_load G l 60 (by decide) s1.2 (xs (s1.1 + (1 : Int32)).toNatClampNeg) (xs (s1.1 + (2 : Int32)).toNatClampNeg) r h) zl_130 (ce_130 G _) rfl rfl wc_X12_load wz_X12 wl_L_36 wi_X12_load ws_X12_load zd_X12_load (by decide) (by decide) rfl (Nat.le_of_ble_eq_true rfl) (fun r12 => ?_)
        refine q_icmp_eq 1459 419 dL_law_416 (by decide) rfl ?_ ?_
        · refine q_iinc 1462 3 [(3, .int (s1.1 + (6 : Int32))), (0, .ref (b)), (1, .ref (G.1 0)), (2, .ref (G.1 130))] dL_law_1459 rfl rfl zci_6 (by decide) rfl ?_
          refine q_goto 18 dL_law_1462 (by decide) ?_
          exact q_leaf [1, 2, 3, 0] (lv2 := [(0, .ref (b)), (1, .ref (G.1 0)), (2, .ref (G.1 130)), (3, .int (s1.1 + (6 : Int32)))]) rfl (fun h => h)
        · refine q_iconst 420 dL_law_419 rfl zci_0 ?_
          exact q_iret rfl hzc hzs dL_law_420 (fun h => h)
      refine q_case (5 : Int32) (fun hx => ?_) (fun hn5 => ?_)
      · refine q_tin 421 (5 : Int32) hx dL_law_33 (by decide) (by decide) rfl (by decide) ?_
        refine q_aload_n 422 dL_law_421 rfl 1 rfl rfl ?_
        refine q_aload_n 423 dL_law_422 rfl 0 rfl rfl ?_
        refine q_iload_n 424 dL_law_423 rfl 3 rfl rfl ?_
        refine q_iconst 425 dL_law_424 rfl zci_1 ?_
        refine q_iadd 426 dL_law_425 rfl ?_
        refine q_scr 427 dL_law_426 rfl ?_
        refine q_aload_n 428 dL_law_427 rfl 0 rfl rfl ?_
        refine q_iload_n 429 dL_law_428 rfl 3 rfl rfl ?_
        refine q_iconst 430 dL_law_429 rfl zci_2 ?_
        refine q_iadd 431 dL_law_430 rfl ?_
        refine q_scr 432 dL_law_431 rfl ?_
        refine q_callVi 435 2 (ko := 0) [.int (xs (s1.1 + (1 : Int32)).toNatClampNeg), .int (xs (s1.1 + (2 : Int32)).toNatClampNeg)] (st := []) hzc hzs dL_law_432 rfl rfl (fun r h => c_X11_on G l 60 (by decide) s1.2 (xs (s1.1 + (1 : Int32)).toNatClampNeg) (xs (s1.1 + (2 : Int32)).toNatClampNeg) r h) zl_0 (ce_0 G _) rfl rfl wc_X11_on wz_X11 wl_L_37 wi_X11_on ws_X11_on zd_X11_on (by decide) (by decide) rfl (Nat.le_of_ble_eq_true rfl) (fun r13 => ?_)
        refine q_aload_n 436 dL_law_435 rfl 2 rfl rfl ?_
        refine q_aload_n 437 dL_law_436 rfl 0 rfl rfl ?_
        refine q_iload_n 438 dL_law_437 rfl 3 rfl rfl ?_
        refine q_iconst 439 dL_law_438 rfl zci_1 ?_
        refine q_iadd 440 dL_law_439 rfl ?_
        refine q_scr 441 dL_law_440 rfl ?_
        refine q_aload_n 442 dL_law_441 rfl 0 rfl rfl ?_
        refine q_iload_n 443 dL_law_442 rfl 3 rfl rfl ?_
        refine q_iconst 444 dL_law_443 rfl zci_2 ?_
        refine q_iadd 445 dL_law_444 rfl ?_
        refine q_scr 446 dL_law_445 rfl ?_
        refine q_callVi 449 2 (ko := 130) [.int (xs (s1.1 + (1 : Int32)).toNatClampNeg), .int (xs (s1.1 + (2 : Int32)).toNatClampNeg)] (st := [.int r13]) hzc hzs dL_law_446 rfl rfl (fun r h => c_X12_on G l 60 (by decide) s1.2 (xs (s1.1 + (1 : Int32)).toNatClampNeg) (xs (s1.1 + (2 : Int32)).toNatClampNeg) r h) zl_130 (ce_130 G _) rfl rfl wc_X12_on wz_X12 wl_L_40 wi_X12_on ws_X12_on zd_X12_on (by decide) (by decide) rfl (Nat.le_of_ble_eq_true rfl) (fun r14 => ?_)
        refine q_icmp_eq 1459 452 dL_law_449 (by decide) rfl ?_ ?_
        · refine q_iinc 1462 3 [(3, .int (s1.1 + (6 : Int32))), (0, .ref (b)), (1, .ref (G.1 0)), (2, .ref (G.1 130))] dL_law_1459 rfl rfl zci_6 (by decide) rfl ?_
          refine q_goto 18 dL_law_1462 (by decide) ?_
          exact q_leaf [1, 2, 3, 0] (lv2 := [(0, .ref (b)), (1, .ref (G.1 0)), (2, .ref (G.1 130)), (3, .int (s1.1 + (6 : Int32)))]) rfl (fun h => h)
        · refine q_iconst 453 dL_law_452 rfl zci_0 ?_
          exact q_iret rfl hzc hzs dL_law_453 (fun h => h)
      refine q_case (6 : Int32) (fun hx => ?_) (fun hn6 => ?_)
      · refine q_tin 454 (6 : Int32) hx dL_law_33 (by decide) (by decide) rfl (by decide) ?_
        refine q_aload_n 455 dL_law_454 rfl 1 rfl rfl ?_
        refine q_aload_n 456 dL_law_455 rfl 0 rfl rfl ?_
        refine q_iload_n 457 dL_law_456 rfl 3 rfl rfl ?_
        refine q_iconst 458 dL_law_457 rfl zci_1 ?_
        refine q_iadd 459 dL_law_458 rfl ?_
        refine q_scr 460 dL_law_459 rfl ?_
        refine q_callViw 463 1 (ko := 0) [.int (xs (s1.1 + (1 : Int32)).toNatClampNeg)] (st := []) hzc hzs dL_law_460 rfl rfl (fun r h => c_X11_cut G l 60 (by decide) s1.2 (xs (s1.1 + (1 : Int32)).toNatClampNeg) r h) zl_0 (ce_0 G _) rfl rfl wc_X11_cut wz_X11 wl_L_41 wi_X11_cut ws_X11_cut zd_X11_cut (by decide) (by decide) rfl (Nat.le_of_ble_eq_true rfl) (fun r15 => ?_)
        refine q_aload_n 464 dL_law_463 rfl 2 rfl rfl ?_
        refine q_aload_n 465 dL_law_464 rfl 0 rfl rfl ?_
        refine q_iload_n 466 dL_law_465 rfl 3 rfl rfl ?_
        refine q_iconst 467 dL_law_466 rfl zci_1 ?_
        refine q_iadd 468 dL_law_467 rfl ?_
        refine q_scr 469 dL_law_468 rfl ?_
        refine q_callViw 472 1 (ko := 130) [.int (xs (s1.1 + (1 : Int32)).toNatClampNeg)] (st := [.int r15.1]) hzc hzs dL_law_469 rfl rfl (fun r h => c_X12_cut G l 60 (by decide) r15.2 (xs (s1.1 + (1 : Int32)).toNatClampNeg) r h) zl_130 (ce_130 G _) rfl rfl wc_X12_cut wz_X12 wl_L_45 wi_X12_cut ws_X12_cut zd_X12_cut (by decide) (by decide) rfl (Nat.le_of_ble_eq_true rfl) (fun r16 => ?_)
        refine q_icmp_eq 1459 475 dL_law_472 (by decide) rfl ?_ ?_
        · refine q_iinc 1462 3 [(3, .int (s1.1 + (6 : Int32))), (0, .ref (b)), (1, .ref (G.1 0)), (2, .ref (G.1 130))] dL_law_1459 rfl rfl zci_6 (by decide) rfl ?_
          refine q_goto 18 dL_law_1462 (by decide) ?_
          exact q_leaf [1, 2, 3, 0] (lv2 := [(0, .ref (b)), (1, .ref (G.1 0)), (2, .ref (G.1 130)), (3, .int (s1.1 + (6 : Int32)))]) rfl (fun h => h)
        · refine q_iconst 476 dL_law_475 rfl zci_0 ?_
          exact q_iret rfl hzc hzs dL_law_476 (fun h => h)
      refine q_case (7 : Int32) (fun hx => ?_) (fun hn7 => ?_)
      · refine q_tin 477 (7 : Int32) hx dL_law_33 (by decide) (by decide) rfl (by decide) ?_
        refine q_aload_n 478 dL_law_477 rfl 1 rfl rfl ?_
        refine q_callVi 481 0 (ko := 0) [] (st := []) hzc hzs dL_law_478 rfl rfl (fun r h => c_X11_over G l 60 (by decide) s1.2 r h) zl_0 (ce_0 G _) rfl rfl wc_X11_over wz_X11 wl_L_46 wi_X11_over ws_X11_over zd_X11_over (by decide) (by decide) rfl (Nat.le_of_ble_eq_true rfl) (fun r17 => ?_)
        refine q_aload_n 482 dL_law_481 rfl 2 rfl rfl ?_
        refine q_callVi 485 0 (ko := 130) [] (st := [.int r17]) hzc hzs dL_law_482 rfl rfl (fun r h => c_X12_over G l 60 (by decide) s1.2 r h) zl_130 (ce_130 G _) rfl rfl wc_X12_over wz_X12 wl_L_50 wi_X12_over ws_X12_over zd_X12_over (by decide) (by decide) rfl (Nat.le_of_ble_eq_true rfl) (fun r18 => ?_)
        refine q_icmp_eq 1459 488 dL_law_485 (by decide) rfl ?_ ?_
        · refine q_iinc 1462 3 [(3, .int (s1.1 + (6 : Int32))), (0, .ref (b)), (1, .ref (G.1 0)), (2, .ref (G.1 130))] dL_law_1459 rfl rfl zci_6 (by decide) rfl ?_
          refine q_goto 18 dL_law_1462 (by decide) ?_
          exact q_leaf [1, 2, 3, 0] (lv2 := [(0, .ref (b)), (1, .ref (G.1 0)), (2, .ref (G.1 130)), (3, .int (s1.1 + (6 : Int32)))]) rfl (fun h => h)
        · refine q_iconst 489 dL_law_488 rfl zci_0 ?_
          exact q_iret rfl hzc hzs dL_law_489 (fun h => h)
      refine q_case (8 : Int32) (fun hx => ?_) (fun hn8 => ?_)
      · refine q_tin 490 (8 : Int32) hx dL_law_33 (by decide) (by decide) rfl (by decide) ?_
        refine q_aload_n 491 dL_law_490 rfl 1 rfl rfl ?_
        refine q_callViw 494 0 (ko := 0) [] (st := []) hzc hzs dL_law_491 rfl rfl (fun r h => c_X11_giveWay G l 60 (by decide) s1.2 r h) zl_0 (ce_0 G _) rfl rfl wc_X11_giveWay wz_X11 wl_L_51 wi_X11_giveWay ws_X11_giveWay zd_X11_giveWay (by decide) (by decide) rfl (Nat.le_of_ble_eq_true rfl) (fun r19 => ?_)
        refine q_aload_n 495 dL_law_494 rfl 2 rfl rfl ?_
        refine q_callViw 498 0 (ko := 130) [] (st := [.int r19.1]) hzc hzs dL_law_495 rfl rfl (fun r h => c_X12_giveWay G l 60 (by decide) r19.2 r h) zl_130 (ce_130 G _) rfl rfl wc_X12_giveWay wz_X12 wl_L_54 wi_X12_giveWay ws_X12_giveWay zd_X12_giveWay (by decide) (by decide) rfl (Nat.le_of_ble_eq_true rfl) (fun r20 => ?_)
        refine q_icmp_eq 1459 501 dL_law_498 (by decide) rfl ?_ ?_
        · refine q_iinc 1462 3 [(3, .int (s1.1 + (6 : Int32))), (0, .ref (b)), (1, .ref (G.1 0)), (2, .ref (G.1 130))] dL_law_1459 rfl rfl zci_6 (by decide) rfl ?_
          refine q_goto 18 dL_law_1462 (by decide) ?_
          exact q_leaf [1, 2, 3, 0] (lv2 := [(0, .ref (b)), (1, .ref (G.1 0)), (2, .ref (G.1 130)), (3, .int (s1.1 + (6 : Int32)))]) rfl (fun h => h)
        · refine q_iconst 502 dL_law_501 rfl zci_0 ?_
          exact q_iret rfl hzc hzs dL_law_502 (fun h => h)
      refine q_case (9 : Int32) (fun hx => ?_) (fun hn9 => ?_)
      · refine q_tin 503 (9 : Int32) hx dL_law_33 (by decide) (by decide) rfl (by decide) ?_
        refine q_aload_n 504 dL_law_503 rfl 1 rfl rfl ?_
        refine q_aload_n 505 dL_law_504 rfl 0 rfl rfl ?_
        refine q_iload_n 506 dL_law_505 rfl 3 rfl rfl ?_
        refine q_iconst 507 dL_law_506 rfl zci_1 ?_
        refine q_iadd 508 dL_law_507 rfl ?_
        refine q_scr 509 dL_law_508 rfl ?_
        refine q_callVi 512 1 (ko := 0) [.int (xs (s1.1 + (1 : Int32)).toNatClampNeg)] (st := []) hzc hzs dL_law_509 rfl rfl (fun r h => c_X11_count G l 60 (by decide) s1.2 (xs (s1.1 + (1 : Int32)).toNatClampNeg) r h) zl_0 (ce_0 G _) rfl rfl wc_X11_count wz_X11 wl_L_55 wi_X11_count ws_X11_count zd_X11_count (by decide) (by decide) rfl (Nat.le_of_ble_eq_true rfl) (fun r21 => ?_)
        refine q_aload_n 513 dL_law_512 rfl 2 rfl rfl ?_
        refine q_aload_n 514 dL_law_513 rfl 0 rfl rfl ?_
        refine q_iload_n 515 dL_law_514 rfl 3 rfl rfl ?_
        refine q_iconst 516 dL_law_515 rfl zci_1 ?_
        refine q_iadd 517 dL_law_516 rfl ?_
        refine q_scr 518 dL_law_517 rfl ?_
        refine q_callVi 521 1 (ko := 130) [.int (xs (s1.1 + (1 : Int32)).toNatClampNeg)] (st := [.int r21]) hzc hzs dL_law_518 rfl rfl (fun r h => c_X12_count G l 60 (by decide) s1.2 (xs (s1.1 + (1 : Int32)).toNatClampNeg) r h) zl_130 (ce_130 G _) rfl rfl wc_X12_count wz_X12 wl_L_58 wi_X12_count ws_X12_count zd_X12_count (by decide) (by decide) rfl (Nat.le_of_ble_eq_true rfl) (fun r22 => ?_)
        refine q_icmp_eq 1459 524 dL_law_521 (by decide) rfl ?_ ?_
        · refine q_iinc 1462 3 [(3, .int (s1.1 + (6 : Int32))), (0, .ref (b)), (1, .ref (G.1 0)), (2, .ref (G.1 130))] dL_law_1459 rfl rfl zci_6 (by decide) rfl ?_
          refine q_goto 18 dL_law_1462 (by decide) ?_
          exact q_leaf [1, 2, 3, 0] (lv2 := [(0, .ref (b)), (1, .ref (G.1 0)), (2, .ref (G.1 130)), (3, .int (s1.1 + (6 : Int32)))]) rfl (fun h => h)
        · refine q_iconst 525 dL_law_524 rfl zci_0 ?_
          exact q_iret rfl hzc hzs dL_law_525 (fun h => h)
      refine q_case (10 : Int32) (fun hx => ?_) (fun hn10 => ?_)
      · refine q_tin 526 (10 : Int32) hx dL_law_33 (by decide) (by decide) rfl (by decide) ?_
        refine q_aload_n 527 dL_law_526 rfl 1 rfl rfl ?_
        refine q_aload_n 528 dL_law_527 rfl 0 rfl rfl ?_
        refine q_iload_n 529 dL_law_528 rfl 3 rfl rfl ?_
        refine q_iconst 530 dL_law_529 rfl zci_1 ?_
        refine q_iadd 531 dL_law_530 rfl ?_
        refine q_scr 532 dL_law_531 rfl ?_
        refine q_aload_n 533 dL_law_532 rfl 0 rfl rfl ?_
        refine q_iload_n 534 dL_law_533 rfl 3 rfl rfl ?_
        refine q_iconst 535 dL_law_534 rfl zci_2 ?_
        refine q_iadd 536 dL_law_535 rfl ?_
        refine q_scr 537 dL_law_536 rfl ?_
        refine q_aload_n 538 dL_law_537 rfl 0 rfl rfl ?_
        refine q_iload_n 539 dL_law_538 rfl 3 rfl rfl ?_
        refine q_iconst 540 dL_law_539 rfl zci_3 ?_
        refine q_iadd 541 dL_law_540 rfl ?_
        refine q_scr 542 dL_law_541 rfl ?_
        refine q_callViw 545 3 (ko := 0) [.int (xs (s1.1 + (1 : Int32)).toNatClampNeg), .int (xs (s1.1 + (2 : Int32)).toNatClampNeg), .int (xs (s1.1 + (3 : Int32)).toNatClampNeg)] (st := []) hzc hzs dL_law_542 rfl rfl (fun r h => c_X11_photo G l 60 (by decide) s1.2 (xs (s1.1 + (1 : Int32)).toNatClampNeg) (xs (s1.1 + (2 : Int32)).toNatClampNeg) (xs (s1.1 + (3 : Int32)).toNatClampNeg) r h) zl_0 (ce_0 G _) rfl rfl wc_X11_photo wz_X11 wl_L_59 wi_X11_photo ws_X11_photo zd_X11_photo (by decide) (by decide) rfl (Nat.le_of_ble_eq_true rfl) (fun r23 => ?_)
        refine q_aload_n 546 dL_law_545 rfl 2 rfl rfl ?_
        refine q_aload_n 547 dL_law_546 rfl 0 rfl rfl ?_
        refine q_iload_n 548 dL_law_547 rfl 3 rfl rfl ?_
        refine q_iconst 549 dL_law_548 rfl zci_1 ?_
        refine q_iadd 550 dL_law_549 rfl ?_
        refine q_scr 551 dL_law_550 rfl ?_
        refine q_aload_n 552 dL_law_551 rfl 0 rfl rfl ?_
        refine q_iload_n 553 dL_law_552 rfl 3 rfl rfl ?_
        refine q_iconst 554 dL_law_553 rfl zci_2 ?_
        refine q_iadd 555 dL_law_554 rfl ?_
        refine q_scr 556 dL_law_555 rfl ?_
        refine q_aload_n 557 dL_law_556 rfl 0 rfl rfl ?_
        refine q_iload_n 558 dL_law_557 rfl 3 rfl rfl ?_
        refine q_iconst 559 dL_law_558 rfl zci_3 ?_
        refine q_iadd 560 dL_law_559 rfl ?_
        refine q_scr 561 dL_law_560 rfl ?_
        refine q_callViw 564 3 (ko := 130) [.int (xs (s1.1 + (1 : Int32)).toNatClampNeg), .int (xs (s1.1 + (2 : Int32)).toNatClampNeg), .int (xs (s1.1 + (3 : Int32)).toNatClampNeg)] (st := [.int r23.1]) hzc hzs dL_law_561 rfl rfl (fun r h => c_X12_photo G l 60 (by decide) r23.2 (xs (s1.1 + (1 : Int32)).toNatClampNeg) (xs (s1.1 + (2 : Int32)).toNatClampNeg) (xs (s1.1 + (3 : Int32)).toNatClampNeg) r h) zl_130 (ce_130 G _) rfl rfl wc_X12_photo wz_X12 wl_L_62 wi_X12_photo ws_X12_photo zd_X12_photo (by decide) (by decide) rfl (Nat.le_of_ble_eq_true rfl) (fun r24 => ?_)
        refine q_icmp_eq 1459 567 dL_law_564 (by decide) rfl ?_ ?_
        · refine q_iinc 1462 3 [(3, .int (s1.1 + (6 : Int32))), (0, .ref (b)), (1, .ref (G.1 0)), (2, .ref (G.1 130))] dL_law_1459 rfl rfl zci_6 (by decide) rfl ?_
          refine q_goto 18 dL_law_1462 (by decide) ?_
          exact q_leaf [1, 2, 3, 0] (lv2 := [(0, .ref (b)), (1, .ref (G.1 0)), (2, .ref (G.1 130)), (3, .int (s1.1 + (6 : Int32)))]) rfl (fun h => h)
        · refine q_iconst 568 dL_law_567 rfl zci_0 ?_
          exact q_iret rfl hzc hzs dL_law_568 (fun h => h)
      refine q_case (11 : Int32) (fun hx => ?_) (fun hn11 => ?_)
      · refine q_tin 569 (11 : Int32) hx dL_law_33 (by decide) (by decide) rfl (by decide) ?_
        refine q_aload_n 570 dL_law_569 rfl 1 rfl rfl ?_
        refine q_aload_n 571 dL_law_570 rfl 0 rfl rfl ?_
        refine q_iload_n 572 dL_law_571 rfl 3 rfl rfl ?_
        refine q_iconst 573 dL_law_572 rfl zci_1 ?_
        refine q_iadd 574 dL_law_573 rfl ?_
        refine q_scr 575 dL_law_574 rfl ?_
        refine q_aload_n 576 dL_law_575 rfl 0 rfl rfl ?_
        refine q_iload_n 577 dL_law_576 rfl 3 rfl rfl ?_
        refine q_iconst 578 dL_law_577 rfl zci_2 ?_
        refine q_iadd 579 dL_law_578 rfl ?_
        refine q_scr 580 dL_law_579 rfl ?_
        refine q_aload_n 581 dL_law_580 rfl 0 rfl rfl ?_
        refine q_iload_n 582 dL_law_581 rfl 3 rfl rfl ?_
        refine q_iconst 583 dL_law_582 rfl zci_3 ?_
        refine q_iadd 584 dL_law_583 rfl ?_
        refine q_scr 585 dL_law_584 rfl ?_
        refine q_aload_n 586 dL_law_585 rfl 0 rfl rfl ?_
        refine q_iload_n 587 dL_law_586 rfl 3 rfl rfl ?_
        refine q_iconst 588 dL_law_587 rfl zci_4 ?_
        refine q_iadd 589 dL_law_588 rfl ?_
        refine q_scr 590 dL_law_589 rfl ?_
        refine q_aload_n 591 dL_law_590 rfl 0 rfl rfl ?_
        refine q_iload_n 592 dL_law_591 rfl 3 rfl rfl ?_
        refine q_iconst 593 dL_law_592 rfl zci_5 ?_
        refine q_iadd 594 dL_law_593 rfl ?_
        refine q_scr 595 dL_law_594 rfl ?_
        refine q_callViw 598 5 (ko := 0) [.int (xs (s1.1 + (1 : Int32)).toNatClampNeg), .int (xs (s1.1 + (2 : Int32)).toNatClampNeg), .int (xs (s1.1 + (3 : Int32)).toNatClampNeg), .int (xs (s1.1 + (4 : Int32)).toNatClampNeg), .int (xs (s1.1 + (5 : Int32)).toNatClampNeg)] (st := []) hzc hzs dL_law_595 rfl rfl (fun r h => c_X11_truck G l 60 (by decide) s1.2 (xs (s1.1 + (1 : Int32)).toNatClampNeg) (xs (s1.1 + (2 : Int32)).toNatClampNeg) (xs (s1.1 + (3 : Int32)).toNatClampNeg) (xs (s1.1 + (4 : Int32)).toNatClampNeg) (xs (s1.1 + (5 : Int32)).toNatClampNeg) r h) zl_0 (ce_0 G _) rfl rfl wc_X11_truck wz_X11 wl_L_63 wi_X11_truck ws_X11_truck zd_X11_truck (by decide) (by decide) rfl (Nat.le_of_ble_eq_true rfl) (fun r25 => ?_)
        refine q_aload_n 599 dL_law_598 rfl 2 rfl rfl ?_
        refine q_aload_n 600 dL_law_599 rfl 0 rfl rfl ?_
        refine q_iload_n 601 dL_law_600 rfl 3 rfl rfl ?_
        refine q_iconst 602 dL_law_601 rfl zci_1 ?_
        refine q_iadd 603 dL_law_602 rfl ?_
        refine q_scr 604 dL_law_603 rfl ?_
        refine q_aload_n 605 dL_law_604 rfl 0 rfl rfl ?_
        refine q_iload_n 606 dL_law_605 rfl 3 rfl rfl ?_
        refine q_iconst 607 dL_law_606 rfl zci_2 ?_
        refine q_iadd 608 dL_law_607 rfl ?_
        refine q_scr 609 dL_law_608 rfl ?_
        refine q_aload_n 610 dL_law_609 rfl 0 rfl rfl ?_
        refine q_iload_n 611 dL_law_610 rfl 3 rfl rfl ?_
        refine q_iconst 612 dL_law_611 rfl zci_3 ?_
        refine q_iadd 613 dL_law_612 rfl ?_
        refine q_scr 614 dL_law_613 rfl ?_
        refine q_aload_n 615 dL_law_614 rfl 0 rfl rfl ?_
        refine q_iload_n 616 dL_law_615 rfl 3 rfl rfl ?_
        refine q_iconst 617 dL_law_616 rfl zci_4 ?_
        refine q_iadd 618 dL_law_617 rfl ?_
        refine q_scr 619 dL_law_618 rfl ?_
        refine q_aload_n 620 dL_law_619 rfl 0 rfl rfl ?_
        refine q_iload_n 621 dL_law_620 rfl 3 rfl rfl ?_
        refine q_iconst 622 dL_law_621 rfl zci_5 ?_
        refine q_iadd 623 dL_law_622 rfl ?_
        refine q_scr 624 dL_law_623 rfl ?_
        refine q_callViw 627 5 (ko := 130) [.int (xs (s1.1 + (1 : Int32)).toNatClampNeg), .int (xs (s1.1 + (2 : Int32)).toNatClampNeg), .int (xs (s1.1 + (3 : Int32)).toNatClampNeg), .int (xs (s1.1 + (4 : Int32)).toNatClampNeg), .int (xs (s1.1 + (5 : Int32)).toNatClampNeg)] (st := [.int r25.1]) hzc hzs dL_law_624 rfl rfl (fun r h => c_X12_truck G l 60 (by decide) r25.2 (xs (s1.1 + (1 : Int32)).toNatClampNeg) (xs (s1.1 + (2 : Int32)).toNatClampNeg) (xs (s1.1 + (3 : Int32)).toNatClampNeg) (xs (s1.1 + (4 : Int32)).toNatClampNeg) (xs (s1.1 + (5 : Int32)).toNatClampNeg) r h) zl_130 (ce_130 G _) rfl rfl wc_X12_truck wz_X12 wl_L_66 wi_X12_truck ws_X12_truck zd_X12_truck (by decide) (by decide) rfl (Nat.le_of_ble_eq_true rfl) (fun r26 => ?_)
        refine q_icmp_eq 1459 630 dL_law_627 (by decide) rfl ?_ ?_
        · refine q_iinc 1462 3 [(3, .int (s1.1 + (6 : Int32))), (0, .ref (b)), (1, .ref (G.1 0)), (2, .ref (G.1 130))] dL_law_1459 rfl rfl zci_6 (by decide) rfl ?_
          refine q_goto 18 dL_law_1462 (by decide) ?_
          exact q_leaf [1, 2, 3, 0] (lv2 := [(0, .ref (b)), (1, .ref (G.1 0)), (2, .ref (G.1 130)), (3, .int (s1.1 + (6 : Int32)))]) rfl (fun h => h)
        · refine q_iconst 631 dL_law_630 rfl zci_0 ?_
          exact q_iret rfl hzc hzs dL_law_631 (fun h => h)
      refine q_case (12 : Int32) (fun hx => ?_) (fun hn12 => ?_)
      · refine q_tin 632 (12 : Int32) hx dL_law_33 (by decide) (by decide) rfl (by decide) ?_
        refine q_aload_n 633 dL_law_632 rfl 1 rfl rfl ?_
        refine q_aload_n 634 dL_law_633 rfl 0 rfl rfl ?_
        refine q_iload_n 635 dL_law_634 rfl 3 rfl rfl ?_
        refine q_iconst 636 dL_law_635 rfl zci_1 ?_
        refine q_iadd 637 dL_law_636 rfl ?_
        refine q_scr 638 dL_law_637 rfl ?_
        refine q_aload_n 639 dL_law_638 rfl 0 rfl rfl ?_
        refine q_iload_n 640 dL_law_639 rfl 3 rfl rfl ?_
        refine q_iconst 641 dL_law_640 rfl zci_2 ?_
        refine q_iadd 642 dL_law_641 rfl ?_
        refine q_scr 643 dL_law_642 rfl ?_
        refine q_callVi 646 2 (ko := 0) [.int (xs (s1.1 + (1 : Int32)).toNatClampNeg), .int (xs (s1.1 + (2 : Int32)).toNatClampNeg)] (st := []) hzc hzs dL_law_643 rfl rfl (fun r h => c_X11_span G l 60 (by decide) s1.2 (xs (s1.1 + (1 : Int32)).toNatClampNeg) (xs (s1.1 + (2 : Int32)).toNatClampNeg) r h) zl_0 (ce_0 G _) rfl rfl wc_X11_span wz_X11 wl_L_67 wi_X11_span ws_X11_span zd_X11_span (by decide) (by decide) rfl (Nat.le_of_ble_eq_true rfl) (fun r27 => ?_)
        refine q_aload_n 647 dL_law_646 rfl 2 rfl rfl ?_
        refine q_aload_n 648 dL_law_647 rfl 0 rfl rfl ?_
        refine q_iload_n 649 dL_law_648 rfl 3 rfl rfl ?_
        refine q_iconst 650 dL_law_649 rfl zci_1 ?_
        refine q_iadd 651 dL_law_650 rfl ?_
        refine q_scr 652 dL_law_651 rfl ?_
        refine q_aload_n 653 dL_law_652 rfl 0 rfl rfl ?_
        refine q_iload_n 654 dL_law_653 rfl 3 rfl rfl ?_
        refine q_iconst 655 dL_law_654 rfl zci_2 ?_
        refine q_iadd 656 dL_law_655 rfl ?_
        refine q_scr 657 dL_law_656 rfl ?_
        refine q_callVi 660 2 (ko := 130) [.int (xs (s1.1 + (1 : Int32)).toNatClampNeg), .int (xs (s1.1 + (2 : Int32)).toNatClampNeg)] (st := [.int r27]) hzc hzs dL_law_657 rfl rfl (fun r h => c_X12_span G l 60 (by decide) s1.2 (xs (s1.1 + (1 : Int32)).toNatClampNeg) (xs (s1.1 + (2 : Int32)).toNatClampNeg) r h) zl_130 (ce_130 G _) rfl rfl wc_X12_span wz_X12 wl_L_70 wi_X12_span ws_X12_span zd_X12_span (by decide) (by decide) rfl (Nat.le_of_ble_eq_true rfl) (fun r28 => ?_)
        refine q_icmp_eq 1459 663 dL_law_660 (by decide) rfl ?_ ?_
        · refine q_iinc 1462 3 [(3, .int (s1.1 + (6 : Int32))), (0, .ref (b)), (1, .ref (G.1 0)), (2, .ref (G.1 130))] dL_law_1459 rfl rfl zci_6 (by decide) rfl ?_
          refine q_goto 18 dL_law_1462 (by decide) ?_
          exact q_leaf [1, 2, 3, 0] (lv2 := [(0, .ref (b)), (1, .ref (G.1 0)), (2, .ref (G.1 130)), (3, .int (s1.1 + (6 : Int32)))]) rfl (fun h => h)
        · refine q_iconst 664 dL_law_663 rfl zci_0 ?_
          exact q_iret rfl hzc hzs dL_law_664 (fun h => h)
      refine q_case (13 : Int32) (fun hx => ?_) (fun hn13 => ?_)
      · refine q_tin 665 (13 : Int32) hx dL_law_33 (by decide) (by decide) rfl (by decide) ?_
        refine q_aload_n 666 dL_law_665 rfl 1 rfl rfl ?_
        refine q_aload_n 667 dL_law_666 rfl 0 rfl rfl ?_
        refine q_iload_n 668 dL_law_667 rfl 3 rfl rfl ?_
        refine q_iconst 669 dL_law_668 rfl zci_1 ?_
        refine q_iadd 670 dL_law_669 rfl ?_
        refine q_scr 671 dL_law_670 rfl ?_
        refine q_aload_n 672 dL_law_671 rfl 0 rfl rfl ?_
        refine q_iload_n 673 dL_law_672 rfl 3 rfl rfl ?_
        refine q_iconst 674 dL_law_673 rfl zci_2 ?_
        refine q_iadd 675 dL_law_674 rfl ?_
        refine q_scr 676 dL_law_675 rfl ?_
        refine q_callVi 679 2 (ko := 0) [.int (xs (s1.1 + (1 : Int32)).toNatClampNeg), .int (xs (s1.1 + (2 : Int32)).toNatClampNeg)] (st := []) hzc hzs dL_law_676 rfl rfl (fun r h => c_X11_safe G l 60 (by decide) s1.2 (xs (s1.1 + (1 : Int32)).toNatClampNeg) (xs (s1.1 + (2 : Int32)).toNatClampNeg) r h) zl_0 (ce_0 G _) rfl rfl wc_X11_safe wz_X11 wl_L_71 wi_X11_safe ws_X11_safe zd_X11_safe (by decide) (by decide) rfl (Nat.le_of_ble_eq_true rfl) (fun r29 => ?_)
        refine q_aload_n 680 dL_law_679 rfl 2 rfl rfl ?_
        refine q_aload_n 681 dL_law_680 rfl 0 rfl rfl ?_
        refine q_iload_n 682 dL_law_681 rfl 3 rfl rfl ?_
        refine q_iconst 683 dL_law_682 rfl zci_1 ?_
        refine q_iadd 684 dL_law_683 rfl ?_
        refine q_scr 685 dL_law_684 rfl ?_
        refine q_aload_n 686 dL_law_685 rfl 0 rfl rfl ?_
        refine q_iload_n 687 dL_law_686 rfl 3 rfl rfl ?_
        refine q_iconst 688 dL_law_687 rfl zci_2 ?_
        refine q_iadd 689 dL_law_688 rfl ?_
        refine q_scr 690 dL_law_689 rfl ?_
        refine q_callVi 693 2 (ko := 130) [.int (xs (s1.1 + (1 : Int32)).toNatClampNeg), .int (xs (s1.1 + (2 : Int32)).toNatClampNeg)] (st := [.int r29]) hzc hzs dL_law_690 rfl rfl (fun r h => c_X12_safe G l 60 (by decide) s1.2 (xs (s1.1 + (1 : Int32)).toNatClampNeg) (xs (s1.1 + (2 : Int32)).toNatClampNeg) r h) zl_130 (ce_130 G _) rfl rfl wc_X12_safe wz_X12 wl_L_74 wi_X12_safe ws_X12_safe zd_X12_safe (by decide) (by decide) rfl (Nat.le_of_ble_eq_true rfl) (fun r30 => ?_)
        refine q_icmp_eq 1459 696 dL_law_693 (by decide) rfl ?_ ?_
        · refine q_iinc 1462 3 [(3, .int (s1.1 + (6 : Int32))), (0, .ref (b)), (1, .ref (G.1 0)), (2, .ref (G.1 130))] dL_law_1459 rfl rfl zci_6 (by decide) rfl ?_
          refine q_goto 18 dL_law_1462 (by decide) ?_
          exact q_leaf [1, 2, 3, 0] (lv2 := [(0, .ref (b)), (1, .ref (G.1 0)), (2, .ref (G.1 130)), (3, .int (s1.1 + (6 : Int32)))]) rfl (fun h => h)
        · refine q_iconst 697 dL_law_696 rfl zci_0 ?_
          exact q_iret rfl hzc hzs dL_law_697 (fun h => h)
      refine q_case (14 : Int32) (fun hx => ?_) (fun hn14 => ?_)
      · refine q_tin 698 (14 : Int32) hx dL_law_33 (by decide) (by decide) rfl (by decide) ?_
        refine q_aload_n 699 dL_law_698 rfl 1 rfl rfl ?_
        refine q_aload_n 700 dL_law_699 rfl 0 rfl rfl ?_
        refine q_iload_n 701 dL_law_700 rfl 3 rfl rfl ?_
        refine q_iconst 702 dL_law_701 rfl zci_1 ?_
        refine q_iadd 703 dL_law_702 rfl ?_
        refine q_scr 704 dL_law_703 rfl ?_
        refine q_i2l 705 dL_law_704 rfl ?_
        refine q_bipush 707 dL_law_705 rfl zcb_32 ?_
        refine q_lshl 708 dL_law_707 rfl ?_
        refine q_aload_n 709 dL_law_708 rfl 0 rfl rfl ?_
        refine q_iload_n 710 dL_law_709 rfl 3 rfl rfl ?_
        refine q_iconst 711 dL_law_710 rfl zci_2 ?_
        refine q_iadd 712 dL_law_711 rfl ?_
        refine q_scr 713 dL_law_712 rfl ?_
        refine q_i2l 714 dL_law_713 rfl ?_
        refine q_ldc2 717 dL_law_714 rfl wk_L_75 ?_
        refine q_land 718 dL_law_717 rfl ?_
        refine q_lor 719 dL_law_718 rfl ?_
        refine q_aload_n 720 dL_law_719 rfl 0 rfl rfl ?_
        refine q_iload_n 721 dL_law_720 rfl 3 rfl rfl ?_
        refine q_iconst 722 dL_law_721 rfl zci_3 ?_
        refine q_iadd 723 dL_law_722 rfl ?_
        refine q_scr 724 dL_law_723 rfl ?_
        refine q_callViw 727 2 (ko := 0) [.long ((((xs (s1.1 + (1 : Int32)).toNatClampNeg).toInt64) <<< ((32 : Int32).toInt64 &&& 63)) ||| (((xs (s1.1 + (2 : Int32)).toNatClampNeg).toInt64) &&& (4294967295 : Int64))), .int (xs (s1.1 + (3 : Int32)).toNatClampNeg)] (st := []) hzc hzs dL_law_724 rfl rfl (fun r h => c_X11_type G l 60 (by decide) s1.2 ((((xs (s1.1 + (1 : Int32)).toNatClampNeg).toInt64) <<< ((32 : Int32).toInt64 &&& 63)) ||| (((xs (s1.1 + (2 : Int32)).toNatClampNeg).toInt64) &&& (4294967295 : Int64))) (xs (s1.1 + (3 : Int32)).toNatClampNeg) r h) zl_0 (ce_0 G _) rfl rfl wc_X11_type wz_X11 wl_L_77 wi_X11_type ws_X11_type zd_X11_type (by decide) (by decide) rfl (Nat.le_of_ble_eq_true rfl) (fun r31 => ?_)
        refine q_aload_n 728 dL_law_727 rfl 2 rfl rfl ?_
        refine q_aload_n 729 dL_law_728 rfl 0 rfl rfl ?_
        refine q_iload_n 730 dL_law_729 rfl 3 rfl rfl ?_
        refine q_iconst 731 dL_law_730 rfl zci_1 ?_
        refine q_iadd 732 dL_law_731 rfl ?_
        refine q_scr 733 dL_law_732 rfl ?_
        refine q_i2l 734 dL_law_733 rfl ?_
        refine q_bipush 736 dL_law_734 rfl zcb_32 ?_
        refine q_lshl 737 dL_law_736 rfl ?_
        refine q_aload_n 738 dL_law_737 rfl 0 rfl rfl ?_
        refine q_iload_n 739 dL_law_738 rfl 3 rfl rfl ?_
        refine q_iconst 740 dL_law_739 rfl zci_2 ?_
        refine q_iadd 741 dL_law_740 rfl ?_
        refine q_scr 742 dL_law_741 rfl ?_
        refine q_i2l 743 dL_law_742 rfl ?_
        refine q_ldc2 746 dL_law_743 rfl wk_L_75 ?_
        refine q_land 747 dL_law_746 rfl ?_
        refine q_lor 748 dL_law_747 rfl ?_
        refine q_aload_n 749 dL_law_748 rfl 0 rfl rfl ?_
        refine q_iload_n 750 dL_law_749 rfl 3 rfl rfl ?_
        refine q_iconst 751 dL_law_750 rfl zci_3 ?_
        refine q_iadd 752 dL_law_751 rfl ?_
        refine q_scr 753 dL_law_752 rfl ?_
        refine q_callViw 756 2 (ko := 130) [.long ((((xs (s1.1 + (1 : Int32)).toNatClampNeg).toInt64) <<< ((32 : Int32).toInt64 &&& 63)) ||| (((xs (s1.1 + (2 : Int32)).toNatClampNeg).toInt64) &&& (4294967295 : Int64))), .int (xs (s1.1 + (3 : Int32)).toNatClampNeg)] (st := [.int r31.1]) hzc hzs dL_law_753 rfl rfl (fun r h => c_X12_type G l 60 (by decide) r31.2 ((((xs (s1.1 + (1 : Int32)).toNatClampNeg).toInt64) <<< ((32 : Int32).toInt64 &&& 63)) ||| (((xs (s1.1 + (2 : Int32)).toNatClampNeg).toInt64) &&& (4294967295 : Int64))) (xs (s1.1 + (3 : Int32)).toNatClampNeg) r h) zl_130 (ce_130 G _) rfl rfl wc_X12_type wz_X12 wl_L_81 wi_X12_type ws_X12_type zd_X12_type (by decide) (by decide) rfl (Nat.le_of_ble_eq_true rfl) (fun r32 => ?_)
        refine q_icmp_eq 1459 759 dL_law_756 (by decide) rfl ?_ ?_
        · refine q_iinc 1462 3 [(3, .int (s1.1 + (6 : Int32))), (0, .ref (b)), (1, .ref (G.1 0)), (2, .ref (G.1 130))] dL_law_1459 rfl rfl zci_6 (by decide) rfl ?_
          refine q_goto 18 dL_law_1462 (by decide) ?_
          exact q_leaf [1, 2, 3, 0] (lv2 := [(0, .ref (b)), (1, .ref (G.1 0)), (2, .ref (G.1 130)), (3, .int (s1.1 + (6 : Int32)))]) rfl (fun h => h)
        · refine q_iconst 760 dL_law_759 rfl zci_0 ?_
          exact q_iret rfl hzc hzs dL_law_760 (fun h => h)
      refine q_case (15 : Int32) (fun hx => ?_) (fun hn15 => ?_)
      · refine q_tin 761 (15 : Int32) hx dL_law_33 (by decide) (by decide) rfl (by decide) ?_
        refine q_aload_n 762 dL_law_761 rfl 1 rfl rfl ?_
        refine q_callViw 765 0 (ko := 0) [] (st := []) hzc hzs dL_law_762 rfl rfl (fun r h => c_X11_person G l 60 (by decide) s1.2 r h) zl_0 (ce_0 G _) rfl rfl wc_X11_person wz_X11 wl_L_82 wi_X11_person ws_X11_person zd_X11_person (by decide) (by decide) rfl (Nat.le_of_ble_eq_true rfl) (fun r33 => ?_)
        refine q_aload_n 766 dL_law_765 rfl 2 rfl rfl ?_
        refine q_callViw 769 0 (ko := 130) [] (st := [.int r33.1]) hzc hzs dL_law_766 rfl rfl (fun r h => c_X12_person G l 60 (by decide) r33.2 r h) zl_130 (ce_130 G _) rfl rfl wc_X12_person wz_X12 wl_L_85 wi_X12_person ws_X12_person zd_X12_person (by decide) (by decide) rfl (Nat.le_of_ble_eq_true rfl) (fun r34 => ?_)
        refine q_icmp_eq 1459 772 dL_law_769 (by decide) rfl ?_ ?_
        · refine q_iinc 1462 3 [(3, .int (s1.1 + (6 : Int32))), (0, .ref (b)), (1, .ref (G.1 0)), (2, .ref (G.1 130))] dL_law_1459 rfl rfl zci_6 (by decide) rfl ?_
          refine q_goto 18 dL_law_1462 (by decide) ?_
          exact q_leaf [1, 2, 3, 0] (lv2 := [(0, .ref (b)), (1, .ref (G.1 0)), (2, .ref (G.1 130)), (3, .int (s1.1 + (6 : Int32)))]) rfl (fun h => h)
        · refine q_iconst 773 dL_law_772 rfl zci_0 ?_
          exact q_iret rfl hzc hzs dL_law_773 (fun h => h)
      refine q_case (16 : Int32) (fun hx => ?_) (fun hn16 => ?_)
      · refine q_tin 774 (16 : Int32) hx dL_law_33 (by decide) (by decide) rfl (by decide) ?_
        refine q_aload_n 775 dL_law_774 rfl 1 rfl rfl ?_
        refine q_aload_n 776 dL_law_775 rfl 0 rfl rfl ?_
        refine q_iload_n 777 dL_law_776 rfl 3 rfl rfl ?_
        refine q_iconst 778 dL_law_777 rfl zci_1 ?_
        refine q_iadd 779 dL_law_778 rfl ?_
        refine q_scr 780 dL_law_779 rfl ?_
        refine q_callViw 783 1 (ko := 0) [.int (xs (s1.1 + (1 : Int32)).toNatClampNeg)] (st := []) hzc hzs dL_law_780 rfl rfl (fun r h => c_X11_letters G l 60 (by decide) s1.2 (xs (s1.1 + (1 : Int32)).toNatClampNeg) r h) zl_0 (ce_0 G _) rfl rfl wc_X11_letters wz_X11 wl_L_86 wi_X11_letters ws_X11_letters zd_X11_letters (by decide) (by decide) rfl (Nat.le_of_ble_eq_true rfl) (fun r35 => ?_)
        refine q_aload_n 784 dL_law_783 rfl 2 rfl rfl ?_
        refine q_aload_n 785 dL_law_784 rfl 0 rfl rfl ?_
        refine q_iload_n 786 dL_law_785 rfl 3 rfl rfl ?_
        refine q_iconst 787 dL_law_786 rfl zci_1 ?_
        refine q_iadd 788 dL_law_787 rfl ?_
        refine q_scr 789 dL_law_788 rfl ?_
        refine q_callViw 792 1 (ko := 130) [.int (xs (s1.1 + (1 : Int32)).toNatClampNeg)] (st := [.int r35.1]) hzc hzs dL_law_789 rfl rfl (fun r h => c_X12_letters G l 60 (by decide) r35.2 (xs (s1.1 + (1 : Int32)).toNatClampNeg) r h) zl_130 (ce_130 G _) rfl rfl wc_X12_letters wz_X12 wl_L_89 wi_X12_letters ws_X12_letters zd_X12_letters (by decide) (by decide) rfl (Nat.le_of_ble_eq_true rfl) (fun r36 => ?_)
        refine q_icmp_eq 1459 795 dL_law_792 (by decide) rfl ?_ ?_
        · refine q_iinc 1462 3 [(3, .int (s1.1 + (6 : Int32))), (0, .ref (b)), (1, .ref (G.1 0)), (2, .ref (G.1 130))] dL_law_1459 rfl rfl zci_6 (by decide) rfl ?_
          refine q_goto 18 dL_law_1462 (by decide) ?_
          exact q_leaf [1, 2, 3, 0] (lv2 := [(0, .ref (b)), (1, .ref (G.1 0)), (2, .ref (G.1 130)), (3, .int (s1.1 + (6 : Int32)))]) rfl (fun h => h)
        · refine q_iconst 796 dL_law_795 rfl zci_0 ?_
          exact q_iret rfl hzc hzs dL_law_796 (fun h => h)
      refine q_case (17 : Int32) (fun hx => ?_) (fun hn17 => ?_)
      · refine q_tin 797 (17 : Int32) hx dL_law_33 (by decide) (by decide) rfl (by decide) ?_
        refine q_aload_n 798 dL_law_797 rfl 1 rfl rfl ?_
        refine q_aload_n 799 dL_law_798 rfl 0 rfl rfl ?_
        refine q_iload_n 800 dL_law_799 rfl 3 rfl rfl ?_
        refine q_iconst 801 dL_law_800 rfl zci_1 ?_
        refine q_iadd 802 dL_law_801 rfl ?_
        refine q_scr 803 dL_law_802 rfl ?_
        refine q_callVi 806 1 (ko := 0) [.int (xs (s1.1 + (1 : Int32)).toNatClampNeg)] (st := []) hzc hzs dL_law_803 rfl rfl (fun r h => c_X11_readings G l 60 (by decide) s1.2 (xs (s1.1 + (1 : Int32)).toNatClampNeg) r h) zl_0 (ce_0 G _) rfl rfl wc_X11_readings wz_X11 wl_L_90 wi_X11_readings ws_X11_readings zd_X11_readings (by decide) (by decide) rfl (Nat.le_of_ble_eq_true rfl) (fun r37 => ?_)
        refine q_aload_n 807 dL_law_806 rfl 2 rfl rfl ?_
        refine q_aload_n 808 dL_law_807 rfl 0 rfl rfl ?_
        refine q_iload_n 809 dL_law_808 rfl 3 rfl rfl ?_
        refine q_iconst 810 dL_law_809 rfl zci_1 ?_
        refine q_iadd 811 dL_law_810 rfl ?_
        refine q_scr 812 dL_law_811 rfl ?_
        refine q_callVi 815 1 (ko := 130) [.int (xs (s1.1 + (1 : Int32)).toNatClampNeg)] (st := [.int r37]) hzc hzs dL_law_812 rfl rfl (fun r h => c_X12_readings G l 60 (by decide) s1.2 (xs (s1.1 + (1 : Int32)).toNatClampNeg) r h) zl_130 (ce_130 G _) rfl rfl wc_X12_readings wz_X12 wl_L_93 wi_X12_readings ws_X12_readings zd_X12_readings (by decide) (by decide) rfl (Nat.le_of_ble_eq_true rfl) (fun r38 => ?_)
        refine q_icmp_eq 1459 818 dL_law_815 (by decide) rfl ?_ ?_
        · refine q_iinc 1462 3 [(3, .int (s1.1 + (6 : Int32))), (0, .ref (b)), (1, .ref (G.1 0)), (2, .ref (G.1 130))] dL_law_1459 rfl rfl zci_6 (by decide) rfl ?_
          refine q_goto 18 dL_law_1462 (by decide) ?_
          exact q_leaf [1, 2, 3, 0] (lv2 := [(0, .ref (b)), (1, .ref (G.1 0)), (2, .ref (G.1 130)), (3, .int (s1.1 + (6 : Int32)))]) rfl (fun h => h)
        · refine q_iconst 819 dL_law_818 rfl zci_0 ?_
          exact q_iret rfl hzc hzs dL_law_819 (fun h => h)
      refine q_case (18 : Int32) (fun hx => ?_) (fun hn18 => ?_)
      · refine q_tin 820 (18 : Int32) hx dL_law_33 (by decide) (by decide) rfl (by decide) ?_
        refine q_aload_n 821 dL_law_820 rfl 1 rfl rfl ?_
        refine q_callVjw 824 0 (ko := 0) [] (st := []) hzc hzs dL_law_821 rfl rfl (fun r h => c_X11_ways G l 60 (by decide) s1.2 r h) zl_0 (ce_0 G _) rfl rfl wc_X11_ways wz_X11 wl_L_94 wi_X11_ways ws_X11_ways zd_X11_ways (by decide) (by decide) rfl (Nat.le_of_ble_eq_true rfl) (fun r39 => ?_)
        refine q_aload_n 825 dL_law_824 rfl 2 rfl rfl ?_
        refine q_callVjw 828 0 (ko := 130) [] (st := [.long r39.1]) hzc hzs dL_law_825 rfl rfl (fun r h => c_X12_ways G l 60 (by decide) r39.2 r h) zl_130 (ce_130 G _) rfl rfl wc_X12_ways wz_X12 wl_L_98 wi_X12_ways ws_X12_ways zd_X12_ways (by decide) (by decide) rfl (Nat.le_of_ble_eq_true rfl) (fun r40 => ?_)
        refine q_lcmp 829 dL_law_828 rfl ?_
        refine q_if_eq 1459 832 dL_law_829 (by decide) rfl ?_ ?_
        · refine q_iinc 1462 3 [(3, .int (s1.1 + (6 : Int32))), (0, .ref (b)), (1, .ref (G.1 0)), (2, .ref (G.1 130))] dL_law_1459 rfl rfl zci_6 (by decide) rfl ?_
          refine q_goto 18 dL_law_1462 (by decide) ?_
          exact q_leaf [1, 2, 3, 0] (lv2 := [(0, .ref (b)), (1, .ref (G.1 0)), (2, .ref (G.1 130)), (3, .int (s1.1 + (6 : Int32)))]) rfl (fun h => h)
        · refine q_iconst 833 dL_law_832 rfl zci_0 ?_
          exact q_iret rfl hzc hzs dL_law_833 (fun h => h)
      refine q_case (19 : Int32) (fun hx => ?_) (fun hn19 => ?_)
      · refine q_tin 834 (19 : Int32) hx dL_law_33 (by decide) (by decide) rfl (by decide) ?_
        refine q_aload_n 835 dL_law_834 rfl 1 rfl rfl ?_
        refine q_aload_n 836 dL_law_835 rfl 0 rfl rfl ?_
        refine q_iload_n 837 dL_law_836 rfl 3 rfl rfl ?_
        refine q_iconst 838 dL_law_837 rfl zci_1 ?_
        refine q_iadd 839 dL_law_838 rfl ?_
        refine q_scr 840 dL_law_839 rfl ?_
        refine q_aload_n 841 dL_law_840 rfl 0 rfl rfl ?_
        refine q_iload_n 842 dL_law_841 rfl 3 rfl rfl ?_
        refine q_iconst 843 dL_law_842 rfl zci_2 ?_
        refine q_iadd 844 dL_law_843 rfl ?_
        refine q_scr 845 dL_law_844 rfl ?_
        refine q_callViw 848 2 (ko := 0) [.int (xs (s1.1 + (1 : Int32)).toNatClampNeg), .int (xs (s1.1 + (2 : Int32)).toNatClampNeg)] (st := []) hzc hzs dL_law_845 rfl rfl (fun r h => c_X11_who G l 60 (by decide) s1.2 (xs (s1.1 + (1 : Int32)).toNatClampNeg) (xs (s1.1 + (2 : Int32)).toNatClampNeg) r h) zl_0 (ce_0 G _) rfl rfl wc_X11_who wz_X11 wl_L_99 wi_X11_who ws_X11_who zd_X11_who (by decide) (by decide) rfl (Nat.le_of_ble_eq_true rfl) (fun r41 => ?_)
        refine q_aload_n 849 dL_law_848 rfl 2 rfl rfl ?_
        refine q_aload_n 850 dL_law_849 rfl 0 rfl rfl ?_
        refine q_iload_n 851 dL_law_850 rfl 3 rfl rfl ?_
        refine q_iconst 852 dL_law_851 rfl zci_1 ?_
        refine q_iadd 853 dL_law_852 rfl ?_
        refine q_scr 854 dL_law_853 rfl ?_
        refine q_aload_n 855 dL_law_854 rfl 0 rfl rfl ?_
        refine q_iload_n 856 dL_law_855 rfl 3 rfl rfl ?_
        refine q_iconst 857 dL_law_856 rfl zci_2 ?_
        refine q_iadd 858 dL_law_857 rfl ?_
        refine q_scr 859 dL_law_858 rfl ?_
        refine q_callViw 862 2 (ko := 130) [.int (xs (s1.1 + (1 : Int32)).toNatClampNeg), .int (xs (s1.1 + (2 : Int32)).toNatClampNeg)] (st := [.int r41.1]) hzc hzs dL_law_859 rfl rfl (fun r h => c_X12_who G l 60 (by decide) r41.2 (xs (s1.1 + (1 : Int32)).toNatClampNeg) (xs (s1.1 + (2 : Int32)).toNatClampNeg) r h) zl_130 (ce_130 G _) rfl rfl wc_X12_who wz_X12 wl_L_102 wi_X12_who ws_X12_who zd_X12_who (by decide) (by decide) rfl (Nat.le_of_ble_eq_true rfl) (fun r42 => ?_)
        refine q_icmp_eq 1459 865 dL_law_862 (by decide) rfl ?_ ?_
        · refine q_iinc 1462 3 [(3, .int (s1.1 + (6 : Int32))), (0, .ref (b)), (1, .ref (G.1 0)), (2, .ref (G.1 130))] dL_law_1459 rfl rfl zci_6 (by decide) rfl ?_
          refine q_goto 18 dL_law_1462 (by decide) ?_
          exact q_leaf [1, 2, 3, 0] (lv2 := [(0, .ref (b)), (1, .ref (G.1 0)), (2, .ref (G.1 130)), (3, .int (s1.1 + (6 : Int32)))]) rfl (fun h => h)
        · refine q_iconst 866 dL_law_865 rfl zci_0 ?_
          exact q_iret rfl hzc hzs dL_law_866 (fun h => h)
      refine q_case (20 : Int32) (fun hx => ?_) (fun hn20 => ?_)
      · refine q_tin 867 (20 : Int32) hx dL_law_33 (by decide) (by decide) rfl (by decide) ?_
        refine q_aload_n 868 dL_law_867 rfl 1 rfl rfl ?_
        refine q_aload_n 869 dL_law_868 rfl 0 rfl rfl ?_
        refine q_iload_n 870 dL_law_869 rfl 3 rfl rfl ?_
        refine q_iconst 871 dL_law_870 rfl zci_1 ?_
        refine q_iadd 872 dL_law_871 rfl ?_
        refine q_scr 873 dL_law_872 rfl ?_
        refine q_aload_n 874 dL_law_873 rfl 0 rfl rfl ?_
        refine q_iload_n 875 dL_law_874 rfl 3 rfl rfl ?_
        refine q_iconst 876 dL_law_875 rfl zci_2 ?_
        refine q_iadd 877 dL_law_876 rfl ?_
        refine q_scr 878 dL_law_877 rfl ?_
        refine q_callViw 881 2 (ko := 0) [.int (xs (s1.1 + (1 : Int32)).toNatClampNeg), .int (xs (s1.1 + (2 : Int32)).toNatClampNeg)] (st := []) hzc hzs dL_law_878 rfl rfl (fun r h => c_X11_where G l 60 (by decide) s1.2 (xs (s1.1 + (1 : Int32)).toNatClampNeg) (xs (s1.1 + (2 : Int32)).toNatClampNeg) r h) zl_0 (ce_0 G _) rfl rfl wc_X11_where wz_X11 wl_L_103 wi_X11_where ws_X11_where zd_X11_where (by decide) (by decide) rfl (Nat.le_of_ble_eq_true rfl) (fun r43 => ?_)
        refine q_aload_n 882 dL_law_881 rfl 2 rfl rfl ?_
        refine q_aload_n 883 dL_law_882 rfl 0 rfl rfl ?_
        refine q_iload_n 884 dL_law_883 rfl 3 rfl rfl ?_
        refine q_iconst 885 dL_law_884 rfl zci_1 ?_
        refine q_iadd 886 dL_law_885 rfl ?_
        refine q_scr 887 dL_law_886 rfl ?_
        refine q_aload_n 888 dL_law_887 rfl 0 rfl rfl ?_
        refine q_iload_n 889 dL_law_888 rfl 3 rfl rfl ?_
        refine q_iconst 890 dL_law_889 rfl zci_2 ?_
        refine q_iadd 891 dL_law_890 rfl ?_
        refine q_scr 892 dL_law_891 rfl ?_
        refine q_callViw 895 2 (ko := 130) [.int (xs (s1.1 + (1 : Int32)).toNatClampNeg), .int (xs (s1.1 + (2 : Int32)).toNatClampNeg)] (st := [.int r43.1]) hzc hzs dL_law_892 rfl rfl (fun r h => c_X12_where G l 60 (by decide) r43.2 (xs (s1.1 + (1 : Int32)).toNatClampNeg) (xs (s1.1 + (2 : Int32)).toNatClampNeg) r h) zl_130 (ce_130 G _) rfl rfl wc_X12_where wz_X12 wl_L_106 wi_X12_where ws_X12_where zd_X12_where (by decide) (by decide) rfl (Nat.le_of_ble_eq_true rfl) (fun r44 => ?_)
        refine q_icmp_eq 1459 898 dL_law_895 (by decide) rfl ?_ ?_
        · refine q_iinc 1462 3 [(3, .int (s1.1 + (6 : Int32))), (0, .ref (b)), (1, .ref (G.1 0)), (2, .ref (G.1 130))] dL_law_1459 rfl rfl zci_6 (by decide) rfl ?_
          refine q_goto 18 dL_law_1462 (by decide) ?_
          exact q_leaf [1, 2, 3, 0] (lv2 := [(0, .ref (b)), (1, .ref (G.1 0)), (2, .ref (G.1 130)), (3, .int (s1.1 + (6 : Int32)))]) rfl (fun h => h)
        · refine q_iconst 899 dL_law_898 rfl zci_0 ?_
          exact q_iret rfl hzc hzs dL_law_899 (fun h => h)
      refine q_case (21 : Int32) (fun hx => ?_) (fun hn21 => ?_)
      · refine q_tin 900 (21 : Int32) hx dL_law_33 (by decide) (by decide) rfl (by decide) ?_
        refine q_aload_n 901 dL_law_900 rfl 1 rfl rfl ?_
        refine q_aload_n 902 dL_law_901 rfl 0 rfl rfl ?_
        refine q_iload_n 903 dL_law_902 rfl 3 rfl rfl ?_
        refine q_iconst 904 dL_law_903 rfl zci_1 ?_
        refine q_iadd 905 dL_law_904 rfl ?_
        refine q_scr 906 dL_law_905 rfl ?_
        refine q_callViw 909 1 (ko := 0) [.int (xs (s1.1 + (1 : Int32)).toNatClampNeg)] (st := []) hzc hzs dL_law_906 rfl rfl (fun r h => c_X11_nightly G l 60 (by decide) s1.2 (xs (s1.1 + (1 : Int32)).toNatClampNeg) r h) zl_0 (ce_0 G _) rfl rfl wc_X11_nightly wz_X11 wl_L_107 wi_X11_nightly ws_X11_nightly zd_X11_nightly (by decide) (by decide) rfl (Nat.le_of_ble_eq_true rfl) (fun r45 => ?_)
        refine q_aload_n 910 dL_law_909 rfl 2 rfl rfl ?_
        refine q_aload_n 911 dL_law_910 rfl 0 rfl rfl ?_
        refine q_iload_n 912 dL_law_911 rfl 3 rfl rfl ?_
        refine q_iconst 913 dL_law_912 rfl zci_1 ?_
        refine q_iadd 914 dL_law_913 rfl ?_
        refine q_scr 915 dL_law_914 rfl ?_
        refine q_callViw 918 1 (ko := 130) [.int (xs (s1.1 + (1 : Int32)).toNatClampNeg)] (st := [.int r45.1]) hzc hzs dL_law_915 rfl rfl (fun r h => c_X12_nightly G l 60 (by decide) r45.2 (xs (s1.1 + (1 : Int32)).toNatClampNeg) r h) zl_130 (ce_130 G _) rfl rfl wc_X12_nightly wz_X12 wl_L_110 wi_X12_nightly ws_X12_nightly zd_X12_nightly (by decide) (by decide) rfl (Nat.le_of_ble_eq_true rfl) (fun r46 => ?_)
        refine q_icmp_eq 1459 921 dL_law_918 (by decide) rfl ?_ ?_
        · refine q_iinc 1462 3 [(3, .int (s1.1 + (6 : Int32))), (0, .ref (b)), (1, .ref (G.1 0)), (2, .ref (G.1 130))] dL_law_1459 rfl rfl zci_6 (by decide) rfl ?_
          refine q_goto 18 dL_law_1462 (by decide) ?_
          exact q_leaf [1, 2, 3, 0] (lv2 := [(0, .ref (b)), (1, .ref (G.1 0)), (2, .ref (G.1 130)), (3, .int (s1.1 + (6 : Int32)))]) rfl (fun h => h)
        · refine q_iconst 922 dL_law_921 rfl zci_0 ?_
          exact q_iret rfl hzc hzs dL_law_922 (fun h => h)
      refine q_case (22 : Int32) (fun hx => ?_) (fun hn22 => ?_)
      · refine q_tin 923 (22 : Int32) hx dL_law_33 (by decide) (by decide) rfl (by decide) ?_
        refine q_aload_n 924 dL_law_923 rfl 1 rfl rfl ?_
        refine q_aload_n 925 dL_law_924 rfl 0 rfl rfl ?_
        refine q_iload_n 926 dL_law_925 rfl 3 rfl rfl ?_
        refine q_iconst 927 dL_law_926 rfl zci_1 ?_
        refine q_iadd 928 dL_law_927 rfl ?_
        refine q_scr 929 dL_law_928 rfl ?_
        refine q_aload_n 930 dL_law_929 rfl 0 rfl rfl ?_
        refine q_iload_n 931 dL_law_930 rfl 3 rfl rfl ?_
        refine q_iconst 932 dL_law_931 rfl zci_2 ?_
        refine q_iadd 933 dL_law_932 rfl ?_
        refine q_scr 934 dL_law_933 rfl ?_
        refine q_aload_n 935 dL_law_934 rfl 0 rfl rfl ?_
        refine q_iload_n 936 dL_law_935 rfl 3 rfl rfl ?_
        refine q_iconst 937 dL_law_936 rfl zci_3 ?_
        refine q_iadd 938 dL_law_937 rfl ?_
        refine q_scr 939 dL_law_938 rfl ?_
        refine q_callViw 942 3 (ko := 0) [.int (xs (s1.1 + (1 : Int32)).toNatClampNeg), .int (xs (s1.1 + (2 : Int32)).toNatClampNeg), .int (xs (s1.1 + (3 : Int32)).toNatClampNeg)] (st := []) hzc hzs dL_law_939 rfl rfl (fun r h => c_X11_risk G l 60 (by decide) s1.2 (xs (s1.1 + (1 : Int32)).toNatClampNeg) (xs (s1.1 + (2 : Int32)).toNatClampNeg) (xs (s1.1 + (3 : Int32)).toNatClampNeg) r h) zl_0 (ce_0 G _) rfl rfl wc_X11_risk wz_X11 wl_L_111 wi_X11_risk ws_X11_risk zd_X11_risk (by decide) (by decide) rfl (Nat.le_of_ble_eq_true rfl) (fun r47 => ?_)
        refine q_aload_n 943 dL_law_942 rfl 2 rfl rfl ?_
        refine q_aload_n 944 dL_law_943 rfl 0 rfl rfl ?_
        refine q_iload_n 945 dL_law_944 rfl 3 rfl rfl ?_
        refine q_iconst 946 dL_law_945 rfl zci_1 ?_
        refine q_iadd 947 dL_law_946 rfl ?_
        refine q_scr 948 dL_law_947 rfl ?_
        refine q_aload_n 949 dL_law_948 rfl 0 rfl rfl ?_
        refine q_iload_n 950 dL_law_949 rfl 3 rfl rfl ?_
        refine q_iconst 951 dL_law_950 rfl zci_2 ?_
        refine q_iadd 952 dL_law_951 rfl ?_
        refine q_scr 953 dL_law_952 rfl ?_
        refine q_aload_n 954 dL_law_953 rfl 0 rfl rfl ?_
        refine q_iload_n 955 dL_law_954 rfl 3 rfl rfl ?_
        refine q_iconst 956 dL_law_955 rfl zci_3 ?_
        refine q_iadd 957 dL_law_956 rfl ?_
        refine q_scr 958 dL_law_957 rfl ?_
        refine q_callViw 961 3 (ko := 130) [.int (xs (s1.1 + (1 : Int32)).toNatClampNeg), .int (xs (s1.1 + (2 : Int32)).toNatClampNeg), .int (xs (s1.1 + (3 : Int32)).toNatClampNeg)] (st := [.int r47.1]) hzc hzs dL_law_958 rfl rfl (fun r h => c_X12_risk G l 60 (by decide) r47.2 (xs (s1.1 + (1 : Int32)).toNatClampNeg) (xs (s1.1 + (2 : Int32)).toNatClampNeg) (xs (s1.1 + (3 : Int32)).toNatClampNeg) r h) zl_130 (ce_130 G _) rfl rfl wc_X12_risk wz_X12 wl_L_114 wi_X12_risk ws_X12_risk zd_X12_risk (by decide) (by decide) rfl (Nat.le_of_ble_eq_true rfl) (fun r48 => ?_)
        refine q_icmp_eq 1459 964 dL_law_961 (by decide) rfl ?_ ?_
        · refine q_iinc 1462 3 [(3, .int (s1.1 + (6 : Int32))), (0, .ref (b)), (1, .ref (G.1 0)), (2, .ref (G.1 130))] dL_law_1459 rfl rfl zci_6 (by decide) rfl ?_
          refine q_goto 18 dL_law_1462 (by decide) ?_
          exact q_leaf [1, 2, 3, 0] (lv2 := [(0, .ref (b)), (1, .ref (G.1 0)), (2, .ref (G.1 130)), (3, .int (s1.1 + (6 : Int32)))]) rfl (fun h => h)
        · refine q_iconst 965 dL_law_964 rfl zci_0 ?_
          exact q_iret rfl hzc hzs dL_law_965 (fun h => h)
      refine q_case (23 : Int32) (fun hx => ?_) (fun hn23 => ?_)
      · refine q_tin 966 (23 : Int32) hx dL_law_33 (by decide) (by decide) rfl (by decide) ?_
        refine q_aload_n 967 dL_law_966 rfl 1 rfl rfl ?_
        refine q_aload_n 968 dL_law_967 rfl 0 rfl rfl ?_
        refine q_iload_n 969 dL_law_968 rfl 3 rfl rfl ?_
        refine q_iconst 970 dL_law_969 rfl zci_1 ?_
        refine q_iadd 971 dL_law_970 rfl ?_
        refine q_scr 972 dL_law_971 rfl ?_
        refine q_callViw 975 1 (ko := 0) [.int (xs (s1.1 + (1 : Int32)).toNatClampNeg)] (st := []) hzc hzs dL_law_972 rfl rfl (fun r h => c_X11_order G l 60 (by decide) s1.2 (xs (s1.1 + (1 : Int32)).toNatClampNeg) r h) zl_0 (ce_0 G _) rfl rfl wc_X11_order wz_X11 wl_L_115 wi_X11_order ws_X11_order zd_X11_order (by decide) (by decide) rfl (Nat.le_of_ble_eq_true rfl) (fun r49 => ?_)
        refine q_aload_n 976 dL_law_975 rfl 2 rfl rfl ?_
        refine q_aload_n 977 dL_law_976 rfl 0 rfl rfl ?_
        refine q_iload_n 978 dL_law_977 rfl 3 rfl rfl ?_
        refine q_iconst 979 dL_law_978 rfl zci_1 ?_
        refine q_iadd 980 dL_law_979 rfl ?_
        refine q_scr 981 dL_law_980 rfl ?_
        refine q_callViw 984 1 (ko := 130) [.int (xs (s1.1 + (1 : Int32)).toNatClampNeg)] (st := [.int r49.1]) hzc hzs dL_law_981 rfl rfl (fun r h => c_X12_order G l 60 (by decide) r49.2 (xs (s1.1 + (1 : Int32)).toNatClampNeg) r h) zl_130 (ce_130 G _) rfl rfl wc_X12_order wz_X12 wl_L_118 wi_X12_order ws_X12_order zd_X12_order (by decide) (by decide) rfl (Nat.le_of_ble_eq_true rfl) (fun r50 => ?_)
        refine q_icmp_eq 1459 987 dL_law_984 (by decide) rfl ?_ ?_
        · refine q_iinc 1462 3 [(3, .int (s1.1 + (6 : Int32))), (0, .ref (b)), (1, .ref (G.1 0)), (2, .ref (G.1 130))] dL_law_1459 rfl rfl zci_6 (by decide) rfl ?_
          refine q_goto 18 dL_law_1462 (by decide) ?_
          exact q_leaf [1, 2, 3, 0] (lv2 := [(0, .ref (b)), (1, .ref (G.1 0)), (2, .ref (G.1 130)), (3, .int (s1.1 + (6 : Int32)))]) rfl (fun h => h)
        · refine q_iconst 988 dL_law_987 rfl zci_0 ?_
          exact q_iret rfl hzc hzs dL_law_988 (fun h => h)
      refine q_case (24 : Int32) (fun hx => ?_) (fun hn24 => ?_)
      · refine q_tin 989 (24 : Int32) hx dL_law_33 (by decide) (by decide) rfl (by decide) ?_
        refine q_aload_n 990 dL_law_989 rfl 1 rfl rfl ?_
        refine q_aload_n 991 dL_law_990 rfl 0 rfl rfl ?_
        refine q_iload_n 992 dL_law_991 rfl 3 rfl rfl ?_
        refine q_iconst 993 dL_law_992 rfl zci_1 ?_
        refine q_iadd 994 dL_law_993 rfl ?_
        refine q_scr 995 dL_law_994 rfl ?_
        refine q_aload_n 996 dL_law_995 rfl 0 rfl rfl ?_
        refine q_iload_n 997 dL_law_996 rfl 3 rfl rfl ?_
        refine q_iconst 998 dL_law_997 rfl zci_2 ?_
        refine q_iadd 999 dL_law_998 rfl ?_
        refine q_scr 1000 dL_law_999 rfl ?_
        refine q_aload_n 1001 dL_law_1000 rfl 0 rfl rfl ?_
        refine q_iload_n 1002 dL_law_1001 rfl 3 rfl rfl ?_
        refine q_iconst 1003 dL_law_1002 rfl zci_3 ?_
        refine q_iadd 1004 dL_law_1003 rfl ?_
        refine q_scr 1005 dL_law_1004 rfl ?_
        refine q_callViw 1008 3 (ko := 0) [.int (xs (s1.1 + (1 : Int32)).toNatClampNeg), .int (xs (s1.1 + (2 : Int32)).toNatClampNeg), .int (xs (s1.1 + (3 : Int32)).toNatClampNeg)] (st := []) hzc hzs dL_law_1005 rfl rfl (fun r h => c_X11_month G l 60 (by decide) s1.2 (xs (s1.1 + (1 : Int32)).toNatClampNeg) (xs (s1.1 + (2 : Int32)).toNatClampNeg) (xs (s1.1 + (3 : Int32)).toNatClampNeg) r h) zl_0 (ce_0 G _) rfl rfl wc_X11_month wz_X11 wl_L_119 wi_X11_month ws_X11_month zd_X11_month (by decide) (by decide) rfl (Nat.le_of_ble_eq_true rfl) (fun r51 => ?_)
        refine q_aload_n 1009 dL_law_1008 rfl 2 rfl rfl ?_
        refine q_aload_n 1010 dL_law_1009 rfl 0 rfl rfl ?_
        refine q_iload_n 1011 dL_law_1010 rfl 3 rfl rfl ?_
        refine q_iconst 1012 dL_law_1011 rfl zci_1 ?_
        refine q_iadd 1013 dL_law_1012 rfl ?_
        refine q_scr 1014 dL_law_1013 rfl ?_
        refine q_aload_n 1015 dL_law_1014 rfl 0 rfl rfl ?_
        refine q_iload_n 1016 dL_law_1015 rfl 3 rfl rfl ?_
        refine q_iconst 1017 dL_law_1016 rfl zci_2 ?_
        refine q_iadd 1018 dL_law_1017 rfl ?_
        refine q_scr 1019 dL_law_1018 rfl ?_
        refine q_aload_n 1020 dL_law_1019 rfl 0 rfl rfl ?_
        refine q_iload_n 1021 dL_law_1020 rfl 3 rfl rfl ?_
        refine q_iconst 1022 dL_law_1021 rfl zci_3 ?_
        refine q_iadd 1023 dL_law_1022 rfl ?_
        refine q_scr 1024 dL_law_1023 rfl ?_
        refine q_callViw 1027 3 (ko := 130) [.int (xs (s1.1 + (1 : Int32)).toNatClampNeg), .int (xs (s1.1 + (2 : Int32)).toNatClampNeg), .int (xs (s1.1 + (3 : Int32)).toNatClampNeg)] (st := [.int r51.1]) hzc hzs dL_law_1024 rfl rfl (fun r h => c_X12_month G l 60 (by decide) r51.2 (xs (s1.1 + (1 : Int32)).toNatClampNeg) (xs (s1.1 + (2 : Int32)).toNatClampNeg) (xs (s1.1 + (3 : Int32)).toNatClampNeg) r h) zl_130 (ce_130 G _) rfl rfl wc_X12_month wz_X12 wl_L_122 wi_X12_month ws_X12_month zd_X12_month (by decide) (by decide) rfl (Nat.le_of_ble_eq_true rfl) (fun r52 => ?_)
        refine q_icmp_eq 1459 1030 dL_law_1027 (by decide) rfl ?_ ?_
        · refine q_iinc 1462 3 [(3, .int (s1.1 + (6 : Int32))), (0, .ref (b)), (1, .ref (G.1 0)), (2, .ref (G.1 130))] dL_law_1459 rfl rfl zci_6 (by decide) rfl ?_
          refine q_goto 18 dL_law_1462 (by decide) ?_
          exact q_leaf [1, 2, 3, 0] (lv2 := [(0, .ref (b)), (1, .ref (G.1 0)), (2, .ref (G.1 130)), (3, .int (s1.1 + (6 : Int32)))]) rfl (fun h => h)
        · refine q_iconst 1031 dL_law_1030 rfl zci_0 ?_
          exact q_iret rfl hzc hzs dL_law_1031 (fun h => h)
      refine q_case (25 : Int32) (fun hx => ?_) (fun hn25 => ?_)
      · refine q_tin 1032 (25 : Int32) hx dL_law_33 (by decide) (by decide) rfl (by decide) ?_
        refine q_aload_n 1033 dL_law_1032 rfl 1 rfl rfl ?_
        refine q_aload_n 1034 dL_law_1033 rfl 0 rfl rfl ?_
        refine q_iload_n 1035 dL_law_1034 rfl 3 rfl rfl ?_
        refine q_iconst 1036 dL_law_1035 rfl zci_1 ?_
        refine q_iadd 1037 dL_law_1036 rfl ?_
        refine q_scr 1038 dL_law_1037 rfl ?_
        refine q_callViw 1041 1 (ko := 0) [.int (xs (s1.1 + (1 : Int32)).toNatClampNeg)] (st := []) hzc hzs dL_law_1038 rfl rfl (fun r h => c_X11_laws G l 60 (by decide) s1.2 (xs (s1.1 + (1 : Int32)).toNatClampNeg) r h) zl_0 (ce_0 G _) rfl rfl wc_X11_laws wz_X11 wl_L_123 wi_X11_laws ws_X11_laws zd_X11_laws (by decide) (by decide) rfl (Nat.le_of_ble_eq_true rfl) (fun r53 => ?_)
        refine q_aload_n 1042 dL_law_1041 rfl 2 rfl rfl ?_
        refine q_aload_n 1043 dL_law_1042 rfl 0 rfl rfl ?_
        refine q_iload_n 1044 dL_law_1043 rfl 3 rfl rfl ?_
        refine q_iconst 1045 dL_law_1044 rfl zci_1 ?_
        refine q_iadd 1046 dL_law_1045 rfl ?_
        refine q_scr 1047 dL_law_1046 rfl ?_
        refine q_callViw 1050 1 (ko := 130) [.int (xs (s1.1 + (1 : Int32)).toNatClampNeg)] (st := [.int r53.1]) hzc hzs dL_law_1047 rfl rfl (fun r h => c_X12_laws G l 60 (by decide) r53.2 (xs (s1.1 + (1 : Int32)).toNatClampNeg) r h) zl_130 (ce_130 G _) rfl rfl wc_X12_laws wz_X12 wl_L_126 wi_X12_laws ws_X12_laws zd_X12_laws (by decide) (by decide) rfl (Nat.le_of_ble_eq_true rfl) (fun r54 => ?_)
        refine q_icmp_eq 1459 1053 dL_law_1050 (by decide) rfl ?_ ?_
        · refine q_iinc 1462 3 [(3, .int (s1.1 + (6 : Int32))), (0, .ref (b)), (1, .ref (G.1 0)), (2, .ref (G.1 130))] dL_law_1459 rfl rfl zci_6 (by decide) rfl ?_
          refine q_goto 18 dL_law_1462 (by decide) ?_
          exact q_leaf [1, 2, 3, 0] (lv2 := [(0, .ref (b)), (1, .ref (G.1 0)), (2, .ref (G.1 130)), (3, .int (s1.1 + (6 : Int32)))]) rfl (fun h => h)
        · refine q_iconst 1054 dL_law_1053 rfl zci_0 ?_
          exact q_iret rfl hzc hzs dL_law_1054 (fun h => h)
      refine q_case (26 : Int32) (fun hx => ?_) (fun hn26 => ?_)
      · refine q_tin 1055 (26 : Int32) hx dL_law_33 (by decide) (by decide) rfl (by decide) ?_
        refine q_aload_n 1056 dL_law_1055 rfl 1 rfl rfl ?_
        refine q_aload_n 1057 dL_law_1056 rfl 0 rfl rfl ?_
        refine q_iload_n 1058 dL_law_1057 rfl 3 rfl rfl ?_
        refine q_iconst 1059 dL_law_1058 rfl zci_1 ?_
        refine q_iadd 1060 dL_law_1059 rfl ?_
        refine q_scr 1061 dL_law_1060 rfl ?_
        refine q_aload_n 1062 dL_law_1061 rfl 0 rfl rfl ?_
        refine q_iload_n 1063 dL_law_1062 rfl 3 rfl rfl ?_
        refine q_iconst 1064 dL_law_1063 rfl zci_2 ?_
        refine q_iadd 1065 dL_law_1064 rfl ?_
        refine q_scr 1066 dL_law_1065 rfl ?_
        refine q_callVjw 1069 2 (ko := 0) [.int (xs (s1.1 + (1 : Int32)).toNatClampNeg), .int (xs (s1.1 + (2 : Int32)).toNatClampNeg)] (st := []) hzc hzs dL_law_1066 rfl rfl (fun r h => c_X11_grown G l 60 (by decide) s1.2 (xs (s1.1 + (1 : Int32)).toNatClampNeg) (xs (s1.1 + (2 : Int32)).toNatClampNeg) r h) zl_0 (ce_0 G _) rfl rfl wc_X11_grown wz_X11 wl_L_127 wi_X11_grown ws_X11_grown zd_X11_grown (by decide) (by decide) rfl (Nat.le_of_ble_eq_true rfl) (fun r55 => ?_)
        refine q_aload_n 1070 dL_law_1069 rfl 2 rfl rfl ?_
        refine q_aload_n 1071 dL_law_1070 rfl 0 rfl rfl ?_
        refine q_iload_n 1072 dL_law_1071 rfl 3 rfl rfl ?_
        refine q_iconst 1073 dL_law_1072 rfl zci_1 ?_
        refine q_iadd 1074 dL_law_1073 rfl ?_
        refine q_scr 1075 dL_law_1074 rfl ?_
        refine q_aload_n 1076 dL_law_1075 rfl 0 rfl rfl ?_
        refine q_iload_n 1077 dL_law_1076 rfl 3 rfl rfl ?_
        refine q_iconst 1078 dL_law_1077 rfl zci_2 ?_
        refine q_iadd 1079 dL_law_1078 rfl ?_
        refine q_scr 1080 dL_law_1079 rfl ?_
        refine q_callVjw 1083 2 (ko := 130) [.int (xs (s1.1 + (1 : Int32)).toNatClampNeg), .int (xs (s1.1 + (2 : Int32)).toNatClampNeg)] (st := [.long r55.1]) hzc hzs dL_law_1080 rfl rfl (fun r h => c_X12_grown G l 60 (by decide) r55.2 (xs (s1.1 + (1 : Int32)).toNatClampNeg) (xs (s1.1 + (2 : Int32)).toNatClampNeg) r h) zl_130 (ce_130 G _) rfl rfl wc_X12_grown wz_X12 wl_L_131 wi_X12_grown ws_X12_grown zd_X12_grown (by decide) (by decide) rfl (Nat.le_of_ble_eq_true rfl) (fun r56 => ?_)
        refine q_lcmp 1084 dL_law_1083 rfl ?_
        refine q_if_eq 1459 1087 dL_law_1084 (by decide) rfl ?_ ?_
        · refine q_iinc 1462 3 [(3, .int (s1.1 + (6 : Int32))), (0, .ref (b)), (1, .ref (G.1 0)), (2, .ref (G.1 130))] dL_law_1459 rfl rfl zci_6 (by decide) rfl ?_
          refine q_goto 18 dL_law_1462 (by decide) ?_
          exact q_leaf [1, 2, 3, 0] (lv2 := [(0, .ref (b)), (1, .ref (G.1 0)), (2, .ref (G.1 130)), (3, .int (s1.1 + (6 : Int32)))]) rfl (fun h => h)
        · refine q_iconst 1088 dL_law_1087 rfl zci_0 ?_
          exact q_iret rfl hzc hzs dL_law_1088 (fun h => h)
      refine q_case (27 : Int32) (fun hx => ?_) (fun hn27 => ?_)
      · refine q_tin 1089 (27 : Int32) hx dL_law_33 (by decide) (by decide) rfl (by decide) ?_
        refine q_aload_n 1090 dL_law_1089 rfl 1 rfl rfl ?_
        refine q_aload_n 1091 dL_law_1090 rfl 0 rfl rfl ?_
        refine q_iload_n 1092 dL_law_1091 rfl 3 rfl rfl ?_
        refine q_iconst 1093 dL_law_1092 rfl zci_1 ?_
        refine q_iadd 1094 dL_law_1093 rfl ?_
        refine q_scr 1095 dL_law_1094 rfl ?_
        refine q_aload_n 1096 dL_law_1095 rfl 0 rfl rfl ?_
        refine q_iload_n 1097 dL_law_1096 rfl 3 rfl rfl ?_
        refine q_iconst 1098 dL_law_1097 rfl zci_2 ?_
        refine q_iadd 1099 dL_law_1098 rfl ?_
        refine q_scr 1100 dL_law_1099 rfl ?_
        refine q_callViw 1103 2 (ko := 0) [.int (xs (s1.1 + (1 : Int32)).toNatClampNeg), .int (xs (s1.1 + (2 : Int32)).toNatClampNeg)] (st := []) hzc hzs dL_law_1100 rfl rfl (fun r h => c_X11_ask G l 60 (by decide) s1.2 (xs (s1.1 + (1 : Int32)).toNatClampNeg) (xs (s1.1 + (2 : Int32)).toNatClampNeg) r h) zl_0 (ce_0 G _) rfl rfl wc_X11_ask wz_X11 wl_L_132 wi_X11_ask ws_X11_ask zd_X11_ask (by decide) (by decide) rfl (Nat.le_of_ble_eq_true rfl) (fun r57 => ?_)
        refine q_aload_n 1104 dL_law_1103 rfl 2 rfl rfl ?_
        refine q_aload_n 1105 dL_law_1104 rfl 0 rfl rfl ?_
        refine q_iload_n 1106 dL_law_1105 rfl 3 rfl rfl ?_
        refine q_iconst 1107 dL_law_1106 rfl zci_1 ?_
        refine q_iadd 1108 dL_law_1107 rfl ?_
        refine q_scr 1109 dL_law_1108 rfl ?_
        refine q_aload_n 1110 dL_law_1109 rfl 0 rfl rfl ?_
        refine q_iload_n 1111 dL_law_1110 rfl 3 rfl rfl ?_
        refine q_iconst 1112 dL_law_1111 rfl zci_2 ?_
        refine q_iadd 1113 dL_law_1112 rfl ?_
        refine q_scr 1114 dL_law_1113 rfl ?_
        refine q_callVi 1117 2 (ko := 130) [.int (xs (s1.1 + (1 : Int32)).toNatClampNeg), .int (xs (s1.1 + (2 : Int32)).toNatClampNeg)] (st := [.int r57.1]) hzc hzs dL_law_1114 rfl rfl (fun r h => c_X12_ask G l 60 (by decide) r57.2 (xs (s1.1 + (1 : Int32)).toNatClampNeg) (xs (s1.1 + (2 : Int32)).toNatClampNeg) r h) zl_130 (ce_130 G _) rfl rfl wc_X12_ask wz_X12 wl_L_135 wi_X12_ask ws_X12_ask zd_X12_ask (by decide) (by decide) rfl (Nat.le_of_ble_eq_true rfl) (fun r58 => ?_)
        refine q_icmp_eq 1459 1120 dL_law_1117 (by decide) rfl ?_ ?_
        · refine q_iinc 1462 3 [(3, .int (s1.1 + (6 : Int32))), (0, .ref (b)), (1, .ref (G.1 0)), (2, .ref (G.1 130))] dL_law_1459 rfl rfl zci_6 (by decide) rfl ?_
          refine q_goto 18 dL_law_1462 (by decide) ?_
          exact q_leaf [1, 2, 3, 0] (lv2 := [(0, .ref (b)), (1, .ref (G.1 0)), (2, .ref (G.1 130)), (3, .int (s1.1 + (6 : Int32)))]) rfl (fun h => h)
        · refine q_iconst 1121 dL_law_1120 rfl zci_0 ?_
          exact q_iret rfl hzc hzs dL_law_1121 (fun h => h)
      refine q_case (28 : Int32) (fun hx => ?_) (fun hn28 => ?_)
      · refine q_tin 1122 (28 : Int32) hx dL_law_33 (by decide) (by decide) rfl (by decide) ?_
        refine q_aload_n 1123 dL_law_1122 rfl 1 rfl rfl ?_
        refine q_aload_n 1124 dL_law_1123 rfl 0 rfl rfl ?_
        refine q_iload_n 1125 dL_law_1124 rfl 3 rfl rfl ?_
        refine q_iconst 1126 dL_law_1125 rfl zci_1 ?_
        refine q_iadd 1127 dL_law_1126 rfl ?_
        refine q_scr 1128 dL_law_1127 rfl ?_
        refine q_callViw 1131 1 (ko := 0) [.int (xs (s1.1 + (1 : Int32)).toNatClampNeg)] (st := []) hzc hzs dL_law_1128 rfl rfl (fun r h => c_X11_needed G l 60 (by decide) s1.2 (xs (s1.1 + (1 : Int32)).toNatClampNeg) r h) zl_0 (ce_0 G _) rfl rfl wc_X11_needed wz_X11 wl_L_136 wi_X11_needed ws_X11_needed zd_X11_needed (by decide) (by decide) rfl (Nat.le_of_ble_eq_true rfl) (fun r59 => ?_)
        refine q_aload_n 1132 dL_law_1131 rfl 2 rfl rfl ?_
        refine q_aload_n 1133 dL_law_1132 rfl 0 rfl rfl ?_
        refine q_iload_n 1134 dL_law_1133 rfl 3 rfl rfl ?_
        refine q_iconst 1135 dL_law_1134 rfl zci_1 ?_
        refine q_iadd 1136 dL_law_1135 rfl ?_
        refine q_scr 1137 dL_law_1136 rfl ?_
        refine q_callViw 1140 1 (ko := 130) [.int (xs (s1.1 + (1 : Int32)).toNatClampNeg)] (st := [.int r59.1]) hzc hzs dL_law_1137 rfl rfl (fun r h => c_X12_needed G l 60 (by decide) r59.2 (xs (s1.1 + (1 : Int32)).toNatClampNeg) r h) zl_130 (ce_130 G _) rfl rfl wc_X12_needed wz_X12 wl_L_139 wi_X12_needed ws_X12_needed zd_X12_needed (by decide) (by decide) rfl (Nat.le_of_ble_eq_true rfl) (fun r60 => ?_)
        refine q_icmp_eq 1459 1143 dL_law_1140 (by decide) rfl ?_ ?_
        · refine q_iinc 1462 3 [(3, .int (s1.1 + (6 : Int32))), (0, .ref (b)), (1, .ref (G.1 0)), (2, .ref (G.1 130))] dL_law_1459 rfl rfl zci_6 (by decide) rfl ?_
          refine q_goto 18 dL_law_1462 (by decide) ?_
          exact q_leaf [1, 2, 3, 0] (lv2 := [(0, .ref (b)), (1, .ref (G.1 0)), (2, .ref (G.1 130)), (3, .int (s1.1 + (6 : Int32)))]) rfl (fun h => h)
        · refine q_iconst 1144 dL_law_1143 rfl zci_0 ?_
          exact q_iret rfl hzc hzs dL_law_1144 (fun h => h)
      refine q_case (29 : Int32) (fun hx => ?_) (fun hn29 => ?_)
      · refine q_tin 1145 (29 : Int32) hx dL_law_33 (by decide) (by decide) rfl (by decide) ?_
        refine q_aload_n 1146 dL_law_1145 rfl 1 rfl rfl ?_
        refine q_aload_n 1147 dL_law_1146 rfl 0 rfl rfl ?_
        refine q_iload_n 1148 dL_law_1147 rfl 3 rfl rfl ?_
        refine q_iconst 1149 dL_law_1148 rfl zci_1 ?_
        refine q_iadd 1150 dL_law_1149 rfl ?_
        refine q_scr 1151 dL_law_1150 rfl ?_
        refine q_aload_n 1152 dL_law_1151 rfl 0 rfl rfl ?_
        refine q_iload_n 1153 dL_law_1152 rfl 3 rfl rfl ?_
        refine q_iconst 1154 dL_law_1153 rfl zci_2 ?_
        refine q_iadd 1155 dL_law_1154 rfl ?_
        refine q_scr 1156 dL_law_1155 rfl ?_
        refine q_aload_n 1157 dL_law_1156 rfl 0 rfl rfl ?_
        refine q_iload_n 1158 dL_law_1157 rfl 3 rfl rfl ?_
        refine q_iconst 1159 dL_law_1158 rfl zci_3 ?_
        refine q_iadd 1160 dL_law_1159 rfl ?_
        refine q_scr 1161 dL_law_1160 rfl ?_
        refine q_aload_n 1162 dL_law_1161 rfl 0 rfl rfl ?_
        refine q_iload_n 1163 dL_law_1162 rfl 3 rfl rfl ?_
        refine q_iconst 1164 dL_law_1163 rfl zci_4 ?_
        refine q_iadd 1165 dL_law_1164 rfl ?_
        refine q_scr 1166 dL_law_1165 rfl ?_
        refine q_callViw 1169 4 (ko := 0) [.int (xs (s1.1 + (1 : Int32)).toNatClampNeg), .int (xs (s1.1 + (2 : Int32)).toNatClampNeg), .int (xs (s1.1 + (3 : Int32)).toNatClampNeg), .int (xs (s1.1 + (4 : Int32)).toNatClampNeg)] (st := []) hzc hzs dL_law_1166 rfl rfl (fun r h => c_X11_stolen G l 60 (by decide) s1.2 (xs (s1.1 + (1 : Int32)).toNatClampNeg) (xs (s1.1 + (2 : Int32)).toNatClampNeg) (xs (s1.1 + (3 : Int32)).toNatClampNeg) (xs (s1.1 + (4 : Int32)).toNatClampNeg) r h) zl_0 (ce_0 G _) rfl rfl wc_X11_stolen wz_X11 wl_L_140 wi_X11_stolen ws_X11_stolen zd_X11_stolen (by decide) (by decide) rfl (Nat.le_of_ble_eq_true rfl) (fun r61 => ?_)
        refine q_aload_n 1170 dL_law_1169 rfl 2 rfl rfl ?_
        refine q_aload_n 1171 dL_law_1170 rfl 0 rfl rfl ?_
        refine q_iload_n 1172 dL_law_1171 rfl 3 rfl rfl ?_
        refine q_iconst 1173 dL_law_1172 rfl zci_1 ?_
        refine q_iadd 1174 dL_law_1173 rfl ?_
        refine q_scr 1175 dL_law_1174 rfl ?_
        refine q_aload_n 1176 dL_law_1175 rfl 0 rfl rfl ?_
        refine q_iload_n 1177 dL_law_1176 rfl 3 rfl rfl ?_
        refine q_iconst 1178 dL_law_1177 rfl zci_2 ?_
        refine q_iadd 1179 dL_law_1178 rfl ?_
        refine q_scr 1180 dL_law_1179 rfl ?_
        refine q_aload_n 1181 dL_law_1180 rfl 0 rfl rfl ?_
        refine q_iload_n 1182 dL_law_1181 rfl 3 rfl rfl ?_
        refine q_iconst 1183 dL_law_1182 rfl zci_3 ?_
        refine q_iadd 1184 dL_law_1183 rfl ?_
        refine q_scr 1185 dL_law_1184 rfl ?_
        refine q_aload_n 1186 dL_law_1185 rfl 0 rfl rfl ?_
        refine q_iload_n 1187 dL_law_1186 rfl 3 rfl rfl ?_
        refine q_iconst 1188 dL_law_1187 rfl zci_4 ?_
        refine q_iadd 1189 dL_law_1188 rfl ?_
        refine q_scr 1190 dL_law_1189 rfl ?_
        refine q_callVi 1193 4 (ko := 130) [.int (xs (s1.1 + (1 : Int32)).toNatClampNeg), .int (xs (s1.1 + (2 : Int32)).toNatClampNeg), .int (xs (s1.1 + (3 : Int32)).toNatClampNeg), .int (xs (s1.1 + (4 : Int32)).toNatClampNeg)] (st := [.int r61.1]) hzc hzs dL_law_1190 rfl rfl (fun r h => c_X12_stolen G l 60 (by decide) r61.2 (xs (s1.1 + (1 : Int32)).toNatClampNeg) (xs (s1.1 + (2 : Int32)).toNatClampNeg) (xs (s1.1 + (3 : Int32)).toNatClampNeg) (xs (s1.1 + (4 : Int32)).toNatClampNeg) r h) zl_130 (ce_130 G _) rfl rfl wc_X12_stolen wz_X12 wl_L_143 wi_X12_stolen ws_X12_stolen zd_X12_stolen (by decide) (by decide) rfl (Nat.le_of_ble_eq_true rfl) (fun r62 => ?_)
        refine q_icmp_eq 1459 1196 dL_law_1193 (by decide) rfl ?_ ?_
        · refine q_iinc 1462 3 [(3, .int (s1.1 + (6 : Int32))), (0, .ref (b)), (1, .ref (G.1 0)), (2, .ref (G.1 130))] dL_law_1459 rfl rfl zci_6 (by decide) rfl ?_
          refine q_goto 18 dL_law_1462 (by decide) ?_
          exact q_leaf [1, 2, 3, 0] (lv2 := [(0, .ref (b)), (1, .ref (G.1 0)), (2, .ref (G.1 130)), (3, .int (s1.1 + (6 : Int32)))]) rfl (fun h => h)
        · refine q_iconst 1197 dL_law_1196 rfl zci_0 ?_
          exact q_iret rfl hzc hzs dL_law_1197 (fun h => h)
      refine q_case (30 : Int32) (fun hx => ?_) (fun hn30 => ?_)
      · refine q_tin 1198 (30 : Int32) hx dL_law_33 (by decide) (by decide) rfl (by decide) ?_
        refine q_aload_n 1199 dL_law_1198 rfl 1 rfl rfl ?_
        refine q_callViw 1202 0 (ko := 0) [] (st := []) hzc hzs dL_law_1199 rfl rfl (fun r h => c_X11_image G l 60 (by decide) s1.2 r h) zl_0 (ce_0 G _) rfl rfl wc_X11_image wz_X11 wl_L_144 wi_X11_image ws_X11_image zd_X11_image (by decide) (by decide) rfl (Nat.le_of_ble_eq_true rfl) (fun r63 => ?_)
        refine q_aload_n 1203 dL_law_1202 rfl 2 rfl rfl ?_
        refine q_callViw 1206 0 (ko := 130) [] (st := [.int r63.1]) hzc hzs dL_law_1203 rfl rfl (fun r h => c_X12_image G l 60 (by decide) r63.2 r h) zl_130 (ce_130 G _) rfl rfl wc_X12_image wz_X12 wl_L_147 wi_X12_image ws_X12_image zd_X12_image (by decide) (by decide) rfl (Nat.le_of_ble_eq_true rfl) (fun r64 => ?_)
        refine q_icmp_eq 1459 1209 dL_law_1206 (by decide) rfl ?_ ?_
        · refine q_iinc 1462 3 [(3, .int (s1.1 + (6 : Int32))), (0, .ref (b)), (1, .ref (G.1 0)), (2, .ref (G.1 130))] dL_law_1459 rfl rfl zci_6 (by decide) rfl ?_
          refine q_goto 18 dL_law_1462 (by decide) ?_
          exact q_leaf [1, 2, 3, 0] (lv2 := [(0, .ref (b)), (1, .ref (G.1 0)), (2, .ref (G.1 130)), (3, .int (s1.1 + (6 : Int32)))]) rfl (fun h => h)
        · refine q_iconst 1210 dL_law_1209 rfl zci_0 ?_
          exact q_iret rfl hzc hzs dL_law_1210 (fun h => h)
      refine q_case (31 : Int32) (fun hx => ?_) (fun hn31 => ?_)
      · refine q_tin 1211 (31 : Int32) hx dL_law_33 (by decide) (by decide) rfl (by decide) ?_
        refine q_aload_n 1212 dL_law_1211 rfl 1 rfl rfl ?_
        refine q_callViw 1215 0 (ko := 0) [] (st := []) hzc hzs dL_law_1212 rfl rfl (fun r h => c_X11_restore G l 60 (by decide) s1.2 r h) zl_0 (ce_0 G _) rfl rfl wc_X11_restore wz_X11 wl_L_148 wi_X11_restore ws_X11_restore zd_X11_restore (by decide) (by decide) rfl (Nat.le_of_ble_eq_true rfl) (fun r65 => ?_)
        refine q_aload_n 1216 dL_law_1215 rfl 2 rfl rfl ?_
        refine q_callViw 1219 0 (ko := 130) [] (st := [.int r65.1]) hzc hzs dL_law_1216 rfl rfl (fun r h => c_X12_restore G l 60 (by decide) r65.2 r h) zl_130 (ce_130 G _) rfl rfl wc_X12_restore wz_X12 wl_L_151 wi_X12_restore ws_X12_restore zd_X12_restore (by decide) (by decide) rfl (Nat.le_of_ble_eq_true rfl) (fun r66 => ?_)
        refine q_icmp_eq 1459 1222 dL_law_1219 (by decide) rfl ?_ ?_
        · refine q_iinc 1462 3 [(3, .int (s1.1 + (6 : Int32))), (0, .ref (b)), (1, .ref (G.1 0)), (2, .ref (G.1 130))] dL_law_1459 rfl rfl zci_6 (by decide) rfl ?_
          refine q_goto 18 dL_law_1462 (by decide) ?_
          exact q_leaf [1, 2, 3, 0] (lv2 := [(0, .ref (b)), (1, .ref (G.1 0)), (2, .ref (G.1 130)), (3, .int (s1.1 + (6 : Int32)))]) rfl (fun h => h)
        · refine q_iconst 1223 dL_law_1222 rfl zci_0 ?_
          exact q_iret rfl hzc hzs dL_law_1223 (fun h => h)
      refine q_case (32 : Int32) (fun hx => ?_) (fun hn32 => ?_)
      · refine q_tin 1224 (32 : Int32) hx dL_law_33 (by decide) (by decide) rfl (by decide) ?_
        refine q_aload_n 1225 dL_law_1224 rfl 1 rfl rfl ?_
        refine q_aload_n 1226 dL_law_1225 rfl 0 rfl rfl ?_
        refine q_iload_n 1227 dL_law_1226 rfl 3 rfl rfl ?_
        refine q_iconst 1228 dL_law_1227 rfl zci_1 ?_
        refine q_iadd 1229 dL_law_1228 rfl ?_
        refine q_scr 1230 dL_law_1229 rfl ?_
        refine q_aload_n 1231 dL_law_1230 rfl 0 rfl rfl ?_
        refine q_iload_n 1232 dL_law_1231 rfl 3 rfl rfl ?_
        refine q_iconst 1233 dL_law_1232 rfl zci_2 ?_
        refine q_iadd 1234 dL_law_1233 rfl ?_
        refine q_scr 1235 dL_law_1234 rfl ?_
        refine q_aload_n 1236 dL_law_1235 rfl 0 rfl rfl ?_
        refine q_iload_n 1237 dL_law_1236 rfl 3 rfl rfl ?_
        refine q_iconst 1238 dL_law_1237 rfl zci_3 ?_
        refine q_iadd 1239 dL_law_1238 rfl ?_
        refine q_scr 1240 dL_law_1239 rfl ?_
        refine q_aload_n 1241 dL_law_1240 rfl 0 rfl rfl ?_
        refine q_iload_n 1242 dL_law_1241 rfl 3 rfl rfl ?_
        refine q_iconst 1243 dL_law_1242 rfl zci_4 ?_
        refine q_iadd 1244 dL_law_1243 rfl ?_
        refine q_scr 1245 dL_law_1244 rfl ?_
        refine q_callViw 1248 4 (ko := 0) [.int (xs (s1.1 + (1 : Int32)).toNatClampNeg), .int (xs (s1.1 + (2 : Int32)).toNatClampNeg), .int (xs (s1.1 + (3 : Int32)).toNatClampNeg), .int (xs (s1.1 + (4 : Int32)).toNatClampNeg)] (st := []) hzc hzs dL_law_1245 rfl rfl (fun r h => c_X11_months G l 60 (by decide) s1.2 (xs (s1.1 + (1 : Int32)).toNatClampNeg) (xs (s1.1 + (2 : Int32)).toNatClampNeg) (xs (s1.1 + (3 : Int32)).toNatClampNeg) (xs (s1.1 + (4 : Int32)).toNatClampNeg) r h) zl_0 (ce_0 G _) rfl rfl wc_X11_months wz_X11 wl_L_152 wi_X11_months ws_X11_months zd_X11_months (by decide) (by decide) rfl (Nat.le_of_ble_eq_true rfl) (fun r67 => ?_)
        refine q_aload_n 1249 dL_law_1248 rfl 2 rfl rfl ?_
        refine q_aload_n 1250 dL_law_1249 rfl 0 rfl rfl ?_
        refine q_iload_n 1251 dL_law_1250 rfl 3 rfl rfl ?_
        refine q_iconst 1252 dL_law_1251 rfl zci_1 ?_
        refine q_iadd 1253 dL_law_1252 rfl ?_
        refine q_scr 1254 dL_law_1253 rfl ?_
        refine q_aload_n 1255 dL_law_1254 rfl 0 rfl rfl ?_
        refine q_iload_n 1256 dL_law_1255 rfl 3 rfl rfl ?_
        refine q_iconst 1257 dL_law_1256 rfl zci_2 ?_
        refine q_iadd 1258 dL_law_1257 rfl ?_
        refine q_scr 1259 dL_law_1258 rfl ?_
        refine q_aload_n 1260 dL_law_1259 rfl 0 rfl rfl ?_
        refine q_iload_n 1261 dL_law_1260 rfl 3 rfl rfl ?_
        refine q_iconst 1262 dL_law_1261 rfl zci_3 ?_
        refine q_iadd 1263 dL_law_1262 rfl ?_
        refine q_scr 1264 dL_law_1263 rfl ?_
        refine q_aload_n 1265 dL_law_1264 rfl 0 rfl rfl ?_
        refine q_iload_n 1266 dL_law_1265 rfl 3 rfl rfl ?_
        refine q_iconst 1267 dL_law_1266 rfl zci_4 ?_
        refine q_iadd 1268 dL_law_1267 rfl ?_
        refine q_scr 1269 dL_law_1268 rfl ?_
        refine q_callViw 1272 4 (ko := 130) [.int (xs (s1.1 + (1 : Int32)).toNatClampNeg), .int (xs (s1.1 + (2 : Int32)).toNatClampNeg), .int (xs (s1.1 + (3 : Int32)).toNatClampNeg), .int (xs (s1.1 + (4 : Int32)).toNatClampNeg)] (st := [.int r67.1]) hzc hzs dL_law_1269 rfl rfl (fun r h => c_X12_months G l 60 (by decide) r67.2 (xs (s1.1 + (1 : Int32)).toNatClampNeg) (xs (s1.1 + (2 : Int32)).toNatClampNeg) (xs (s1.1 + (3 : Int32)).toNatClampNeg) (xs (s1.1 + (4 : Int32)).toNatClampNeg) r h) zl_130 (ce_130 G _) rfl rfl wc_X12_months wz_X12 wl_L_155 wi_X12_months ws_X12_months zd_X12_months (by decide) (by decide) rfl (Nat.le_of_ble_eq_true rfl) (fun r68 => ?_)
        refine q_icmp_eq 1459 1275 dL_law_1272 (by decide) rfl ?_ ?_
        · refine q_iinc 1462 3 [(3, .int (s1.1 + (6 : Int32))), (0, .ref (b)), (1, .ref (G.1 0)), (2, .ref (G.1 130))] dL_law_1459 rfl rfl zci_6 (by decide) rfl ?_
          refine q_goto 18 dL_law_1462 (by decide) ?_
          exact q_leaf [1, 2, 3, 0] (lv2 := [(0, .ref (b)), (1, .ref (G.1 0)), (2, .ref (G.1 130)), (3, .int (s1.1 + (6 : Int32)))]) rfl (fun h => h)
        · refine q_iconst 1276 dL_law_1275 rfl zci_0 ?_
          exact q_iret rfl hzc hzs dL_law_1276 (fun h => h)
      refine q_case (33 : Int32) (fun hx => ?_) (fun hn33 => ?_)
      · refine q_tin 1277 (33 : Int32) hx dL_law_33 (by decide) (by decide) rfl (by decide) ?_
        refine q_aload_n 1278 dL_law_1277 rfl 1 rfl rfl ?_
        refine q_aload_n 1279 dL_law_1278 rfl 0 rfl rfl ?_
        refine q_iload_n 1280 dL_law_1279 rfl 3 rfl rfl ?_
        refine q_iconst 1281 dL_law_1280 rfl zci_1 ?_
        refine q_iadd 1282 dL_law_1281 rfl ?_
        refine q_scr 1283 dL_law_1282 rfl ?_
        refine q_aload_n 1284 dL_law_1283 rfl 0 rfl rfl ?_
        refine q_iload_n 1285 dL_law_1284 rfl 3 rfl rfl ?_
        refine q_iconst 1286 dL_law_1285 rfl zci_2 ?_
        refine q_iadd 1287 dL_law_1286 rfl ?_
        refine q_scr 1288 dL_law_1287 rfl ?_
        refine q_aload_n 1289 dL_law_1288 rfl 0 rfl rfl ?_
        refine q_iload_n 1290 dL_law_1289 rfl 3 rfl rfl ?_
        refine q_iconst 1291 dL_law_1290 rfl zci_3 ?_
        refine q_iadd 1292 dL_law_1291 rfl ?_
        refine q_scr 1293 dL_law_1292 rfl ?_
        refine q_callViw 1296 3 (ko := 0) [.int (xs (s1.1 + (1 : Int32)).toNatClampNeg), .int (xs (s1.1 + (2 : Int32)).toNatClampNeg), .int (xs (s1.1 + (3 : Int32)).toNatClampNeg)] (st := []) hzc hzs dL_law_1293 rfl rfl (fun r h => c_X11_sheet G l 60 (by decide) s1.2 (xs (s1.1 + (1 : Int32)).toNatClampNeg) (xs (s1.1 + (2 : Int32)).toNatClampNeg) (xs (s1.1 + (3 : Int32)).toNatClampNeg) r h) zl_0 (ce_0 G _) rfl rfl wc_X11_sheet wz_X11 wl_L_156 wi_X11_sheet ws_X11_sheet zd_X11_sheet (by decide) (by decide) rfl (Nat.le_of_ble_eq_true rfl) (fun r69 => ?_)
        refine q_aload_n 1297 dL_law_1296 rfl 2 rfl rfl ?_
        refine q_aload_n 1298 dL_law_1297 rfl 0 rfl rfl ?_
        refine q_iload_n 1299 dL_law_1298 rfl 3 rfl rfl ?_
        refine q_iconst 1300 dL_law_1299 rfl zci_1 ?_
        refine q_iadd 1301 dL_law_1300 rfl ?_
        refine q_scr 1302 dL_law_1301 rfl ?_
        refine q_aload_n 1303 dL_law_1302 rfl 0 rfl rfl ?_
        refine q_iload_n 1304 dL_law_1303 rfl 3 rfl rfl ?_
        refine q_iconst 1305 dL_law_1304 rfl zci_2 ?_
        refine q_iadd 1306 dL_law_1305 rfl ?_
        refine q_scr 1307 dL_law_1306 rfl ?_
        refine q_aload_n 1308 dL_law_1307 rfl 0 rfl rfl ?_
        refine q_iload_n 1309 dL_law_1308 rfl 3 rfl rfl ?_
        refine q_iconst 1310 dL_law_1309 rfl zci_3 ?_
        refine q_iadd 1311 dL_law_1310 rfl ?_
        refine q_scr 1312 dL_law_1311 rfl ?_
        refine q_callViw 1315 3 (ko := 130) [.int (xs (s1.1 + (1 : Int32)).toNatClampNeg), .int (xs (s1.1 + (2 : Int32)).toNatClampNeg), .int (xs (s1.1 + (3 : Int32)).toNatClampNeg)] (st := [.int r69.1]) hzc hzs dL_law_1312 rfl rfl (fun r h => c_X12_sheet G l 60 (by decide) r69.2 (xs (s1.1 + (1 : Int32)).toNatClampNeg) (xs (s1.1 + (2 : Int32)).toNatClampNeg) (xs (s1.1 + (3 : Int32)).toNatClampNeg) r h) zl_130 (ce_130 G _) rfl rfl wc_X12_sheet wz_X12 wl_L_159 wi_X12_sheet ws_X12_sheet zd_X12_sheet (by decide) (by decide) rfl (Nat.le_of_ble_eq_true rfl) (fun r70 => ?_)
        refine q_icmp_eq 1459 1318 dL_law_1315 (by decide) rfl ?_ ?_
        · refine q_iinc 1462 3 [(3, .int (s1.1 + (6 : Int32))), (0, .ref (b)), (1, .ref (G.1 0)), (2, .ref (G.1 130))] dL_law_1459 rfl rfl zci_6 (by decide) rfl ?_
          refine q_goto 18 dL_law_1462 (by decide) ?_
          exact q_leaf [1, 2, 3, 0] (lv2 := [(0, .ref (b)), (1, .ref (G.1 0)), (2, .ref (G.1 130)), (3, .int (s1.1 + (6 : Int32)))]) rfl (fun h => h)
        · refine q_iconst 1319 dL_law_1318 rfl zci_0 ?_
          exact q_iret rfl hzc hzs dL_law_1319 (fun h => h)
      refine q_case (34 : Int32) (fun hx => ?_) (fun hn34 => ?_)
      · refine q_tin 1320 (34 : Int32) hx dL_law_33 (by decide) (by decide) rfl (by decide) ?_
        refine q_aload_n 1321 dL_law_1320 rfl 1 rfl rfl ?_
        refine q_aload_n 1322 dL_law_1321 rfl 0 rfl rfl ?_
        refine q_iload_n 1323 dL_law_1322 rfl 3 rfl rfl ?_
        refine q_iconst 1324 dL_law_1323 rfl zci_1 ?_
        refine q_iadd 1325 dL_law_1324 rfl ?_
        refine q_scr 1326 dL_law_1325 rfl ?_
        refine q_callViw 1329 1 (ko := 0) [.int (xs (s1.1 + (1 : Int32)).toNatClampNeg)] (st := []) hzc hzs dL_law_1326 rfl rfl (fun r h => c_X11_drop G l 60 (by decide) s1.2 (xs (s1.1 + (1 : Int32)).toNatClampNeg) r h) zl_0 (ce_0 G _) rfl rfl wc_X11_drop wz_X11 wl_L_160 wi_X11_drop ws_X11_drop zd_X11_drop (by decide) (by decide) rfl (Nat.le_of_ble_eq_true rfl) (fun r71 => ?_)
        refine q_aload_n 1330 dL_law_1329 rfl 2 rfl rfl ?_
        refine q_aload_n 1331 dL_law_1330 rfl 0 rfl rfl ?_
        refine q_iload_n 1332 dL_law_1331 rfl 3 rfl rfl ?_
        refine q_iconst 1333 dL_law_1332 rfl zci_1 ?_
        refine q_iadd 1334 dL_law_1333 rfl ?_
        refine q_scr 1335 dL_law_1334 rfl ?_
        refine q_callViw 1338 1 (ko := 130) [.int (xs (s1.1 + (1 : Int32)).toNatClampNeg)] (st := [.int r71.1]) hzc hzs dL_law_1335 rfl rfl (fun r h => c_X12_drop G l 60 (by decide) r71.2 (xs (s1.1 + (1 : Int32)).toNatClampNeg) r h) zl_130 (ce_130 G _) rfl rfl wc_X12_drop wz_X12 wl_L_163 wi_X12_drop ws_X12_drop zd_X12_drop (by decide) (by decide) rfl (Nat.le_of_ble_eq_true rfl) (fun r72 => ?_)
        refine q_icmp_eq 1459 1341 dL_law_1338 (by decide) rfl ?_ ?_
        · refine q_iinc 1462 3 [(3, .int (s1.1 + (6 : Int32))), (0, .ref (b)), (1, .ref (G.1 0)), (2, .ref (G.1 130))] dL_law_1459 rfl rfl zci_6 (by decide) rfl ?_
          refine q_goto 18 dL_law_1462 (by decide) ?_
          exact q_leaf [1, 2, 3, 0] (lv2 := [(0, .ref (b)), (1, .ref (G.1 0)), (2, .ref (G.1 130)), (3, .int (s1.1 + (6 : Int32)))]) rfl (fun h => h)
        · refine q_iconst 1342 dL_law_1341 rfl zci_0 ?_
          exact q_iret rfl hzc hzs dL_law_1342 (fun h => h)
      refine q_case (35 : Int32) (fun hx => ?_) (fun hn35 => ?_)
      · refine q_tin 1343 (35 : Int32) hx dL_law_33 (by decide) (by decide) rfl (by decide) ?_
        refine q_aload_n 1344 dL_law_1343 rfl 1 rfl rfl ?_
        refine q_aload_n 1345 dL_law_1344 rfl 0 rfl rfl ?_
        refine q_iload_n 1346 dL_law_1345 rfl 3 rfl rfl ?_
        refine q_iconst 1347 dL_law_1346 rfl zci_1 ?_
        refine q_iadd 1348 dL_law_1347 rfl ?_
        refine q_scr 1349 dL_law_1348 rfl ?_
        refine q_aload_n 1350 dL_law_1349 rfl 0 rfl rfl ?_
        refine q_iload_n 1351 dL_law_1350 rfl 3 rfl rfl ?_
        refine q_iconst 1352 dL_law_1351 rfl zci_2 ?_
        refine q_iadd 1353 dL_law_1352 rfl ?_
        refine q_scr 1354 dL_law_1353 rfl ?_
        refine q_aload_n 1355 dL_law_1354 rfl 0 rfl rfl ?_
        refine q_iload_n 1356 dL_law_1355 rfl 3 rfl rfl ?_
        refine q_iconst 1357 dL_law_1356 rfl zci_3 ?_
        refine q_iadd 1358 dL_law_1357 rfl ?_
        refine q_scr 1359 dL_law_1358 rfl ?_
        refine q_aload_n 1360 dL_law_1359 rfl 0 rfl rfl ?_
        refine q_iload_n 1361 dL_law_1360 rfl 3 rfl rfl ?_
        refine q_iconst 1362 dL_law_1361 rfl zci_4 ?_
        refine q_iadd 1363 dL_law_1362 rfl ?_
        refine q_scr 1364 dL_law_1363 rfl ?_
        refine q_callViw 1367 4 (ko := 0) [.int (xs (s1.1 + (1 : Int32)).toNatClampNeg), .int (xs (s1.1 + (2 : Int32)).toNatClampNeg), .int (xs (s1.1 + (3 : Int32)).toNatClampNeg), .int (xs (s1.1 + (4 : Int32)).toNatClampNeg)] (st := []) hzc hzs dL_law_1364 rfl rfl (fun r h => c_X11_item G l 60 (by decide) s1.2 (xs (s1.1 + (1 : Int32)).toNatClampNeg) (xs (s1.1 + (2 : Int32)).toNatClampNeg) (xs (s1.1 + (3 : Int32)).toNatClampNeg) (xs (s1.1 + (4 : Int32)).toNatClampNeg) r h) zl_0 (ce_0 G _) rfl rfl wc_X11_item wz_X11 wl_L_164 wi_X11_item ws_X11_item zd_X11_item (by decide) (by decide) rfl (Nat.le_of_ble_eq_true rfl) (fun r73 => ?_)
        refine q_aload_n 1368 dL_law_1367 rfl 2 rfl rfl ?_
        refine q_aload_n 1369 dL_law_1368 rfl 0 rfl rfl ?_
        refine q_iload_n 1370 dL_law_1369 rfl 3 rfl rfl ?_
        refine q_iconst 1371 dL_law_1370 rfl zci_1 ?_
        refine q_iadd 1372 dL_law_1371 rfl ?_
        refine q_scr 1373 dL_law_1372 rfl ?_
        refine q_aload_n 1374 dL_law_1373 rfl 0 rfl rfl ?_
        refine q_iload_n 1375 dL_law_1374 rfl 3 rfl rfl ?_
        refine q_iconst 1376 dL_law_1375 rfl zci_2 ?_
        refine q_iadd 1377 dL_law_1376 rfl ?_
        refine q_scr 1378 dL_law_1377 rfl ?_
        refine q_aload_n 1379 dL_law_1378 rfl 0 rfl rfl ?_
        refine q_iload_n 1380 dL_law_1379 rfl 3 rfl rfl ?_
        refine q_iconst 1381 dL_law_1380 rfl zci_3 ?_
        refine q_iadd 1382 dL_law_1381 rfl ?_
        refine q_scr 1383 dL_law_1382 rfl ?_
        refine q_aload_n 1384 dL_law_1383 rfl 0 rfl rfl ?_
        refine q_iload_n 1385 dL_law_1384 rfl 3 rfl rfl ?_
        refine q_iconst 1386 dL_law_1385 rfl zci_4 ?_
        refine q_iadd 1387 dL_law_1386 rfl ?_
        refine q_scr 1388 dL_law_1387 rfl ?_
        refine q_callViw 1391 4 (ko := 130) [.int (xs (s1.1 + (1 : Int32)).toNatClampNeg), .int (xs (s1.1 + (2 : Int32)).toNatClampNeg), .int (xs (s1.1 + (3 : Int32)).toNatClampNeg), .int (xs (s1.1 + (4 : Int32)).toNatClampNeg)] (st := [.int r73.1]) hzc hzs dL_law_1388 rfl rfl (fun r h => c_X12_item G l 60 (by decide) r73.2 (xs (s1.1 + (1 : Int32)).toNatClampNeg) (xs (s1.1 + (2 : Int32)).toNatClampNeg) (xs (s1.1 + (3 : Int32)).toNatClampNeg) (xs (s1.1 + (4 : Int32)).toNatClampNeg) r h) zl_130 (ce_130 G _) rfl rfl wc_X12_item wz_X12 wl_L_167 wi_X12_item ws_X12_item zd_X12_item (by decide) (by decide) rfl (Nat.le_of_ble_eq_true rfl) (fun r74 => ?_)
        refine q_icmp_eq 1459 1394 dL_law_1391 (by decide) rfl ?_ ?_
        · refine q_iinc 1462 3 [(3, .int (s1.1 + (6 : Int32))), (0, .ref (b)), (1, .ref (G.1 0)), (2, .ref (G.1 130))] dL_law_1459 rfl rfl zci_6 (by decide) rfl ?_
          refine q_goto 18 dL_law_1462 (by decide) ?_
          exact q_leaf [1, 2, 3, 0] (lv2 := [(0, .ref (b)), (1, .ref (G.1 0)), (2, .ref (G.1 130)), (3, .int (s1.1 + (6 : Int32)))]) rfl (fun h => h)
        · refine q_iconst 1395 dL_law_1394 rfl zci_0 ?_
          exact q_iret rfl hzc hzs dL_law_1395 (fun h => h)
      refine q_case (36 : Int32) (fun hx => ?_) (fun hn36 => ?_)
      · refine q_tin 1396 (36 : Int32) hx dL_law_33 (by decide) (by decide) rfl (by decide) ?_
        refine q_aload_n 1397 dL_law_1396 rfl 1 rfl rfl ?_
        refine q_aload_n 1398 dL_law_1397 rfl 0 rfl rfl ?_
        refine q_iload_n 1399 dL_law_1398 rfl 3 rfl rfl ?_
        refine q_iconst 1400 dL_law_1399 rfl zci_1 ?_
        refine q_iadd 1401 dL_law_1400 rfl ?_
        refine q_scr 1402 dL_law_1401 rfl ?_
        refine q_aload_n 1403 dL_law_1402 rfl 0 rfl rfl ?_
        refine q_iload_n 1404 dL_law_1403 rfl 3 rfl rfl ?_
        refine q_iconst 1405 dL_law_1404 rfl zci_2 ?_
        refine q_iadd 1406 dL_law_1405 rfl ?_
        refine q_scr 1407 dL_law_1406 rfl ?_
        refine q_aload_n 1408 dL_law_1407 rfl 0 rfl rfl ?_
        refine q_iload_n 1409 dL_law_1408 rfl 3 rfl rfl ?_
        refine q_iconst 1410 dL_law_1409 rfl zci_3 ?_
        refine q_iadd 1411 dL_law_1410 rfl ?_
        refine q_scr 1412 dL_law_1411 rfl ?_
        refine q_aload_n 1413 dL_law_1412 rfl 0 rfl rfl ?_
        refine q_iload_n 1414 dL_law_1413 rfl 3 rfl rfl ?_
        refine q_iconst 1415 dL_law_1414 rfl zci_4 ?_
        refine q_iadd 1416 dL_law_1415 rfl ?_
        refine q_scr 1417 dL_law_1416 rfl ?_
        refine q_aload_n 1418 dL_law_1417 rfl 0 rfl rfl ?_
        refine q_iload_n 1419 dL_law_1418 rfl 3 rfl rfl ?_
        refine q_iconst 1420 dL_law_1419 rfl zci_5 ?_
        refine q_iadd 1421 dL_law_1420 rfl ?_
        refine q_scr 1422 dL_law_1421 rfl ?_
        refine q_callViw 1425 5 (ko := 0) [.int (xs (s1.1 + (1 : Int32)).toNatClampNeg), .int (xs (s1.1 + (2 : Int32)).toNatClampNeg), .int (xs (s1.1 + (3 : Int32)).toNatClampNeg), .int (xs (s1.1 + (4 : Int32)).toNatClampNeg), .int (xs (s1.1 + (5 : Int32)).toNatClampNeg)] (st := []) hzc hzs dL_law_1422 rfl rfl (fun r h => c_X11_copy G l 60 (by decide) s1.2 (xs (s1.1 + (1 : Int32)).toNatClampNeg) (xs (s1.1 + (2 : Int32)).toNatClampNeg) (xs (s1.1 + (3 : Int32)).toNatClampNeg) (xs (s1.1 + (4 : Int32)).toNatClampNeg) (xs (s1.1 + (5 : Int32)).toNatClampNeg) r h) zl_0 (ce_0 G _) rfl rfl wc_X11_copy wz_X11 wl_L_168 wi_X11_copy ws_X11_copy zd_X11_copy (by decide) (by decide) rfl (Nat.le_of_ble_eq_true rfl) (fun r75 => ?_)
        refine q_aload_n 1426 dL_law_1425 rfl 2 rfl rfl ?_
        refine q_aload_n 1427 dL_law_1426 rfl 0 rfl rfl ?_
        refine q_iload_n 1428 dL_law_1427 rfl 3 rfl rfl ?_
        refine q_iconst 1429 dL_law_1428 rfl zci_1 ?_
        refine q_iadd 1430 dL_law_1429 rfl ?_
        refine q_scr 1431 dL_law_1430 rfl ?_
        refine q_aload_n 1432 dL_law_1431 rfl 0 rfl rfl ?_
        refine q_iload_n 1433 dL_law_1432 rfl 3 rfl rfl ?_
        refine q_iconst 1434 dL_law_1433 rfl zci_2 ?_
        refine q_iadd 1435 dL_law_1434 rfl ?_
        refine q_scr 1436 dL_law_1435 rfl ?_
        refine q_aload_n 1437 dL_law_1436 rfl 0 rfl rfl ?_
        refine q_iload_n 1438 dL_law_1437 rfl 3 rfl rfl ?_
        refine q_iconst 1439 dL_law_1438 rfl zci_3 ?_
        refine q_iadd 1440 dL_law_1439 rfl ?_
        refine q_scr 1441 dL_law_1440 rfl ?_
        refine q_aload_n 1442 dL_law_1441 rfl 0 rfl rfl ?_
        refine q_iload_n 1443 dL_law_1442 rfl 3 rfl rfl ?_
        refine q_iconst 1444 dL_law_1443 rfl zci_4 ?_
        refine q_iadd 1445 dL_law_1444 rfl ?_
        refine q_scr 1446 dL_law_1445 rfl ?_
        refine q_aload_n 1447 dL_law_1446 rfl 0 rfl rfl ?_
        refine q_iload_n 1448 dL_law_1447 rfl 3 rfl rfl ?_
        refine q_iconst 1449 dL_law_1448 rfl zci_5 ?_
        refine q_iadd 1450 dL_law_1449 rfl ?_
        refine q_scr 1451 dL_law_1450 rfl ?_
        refine q_callViw 1454 5 (ko := 130) [.int (xs (s1.1 + (1 : Int32)).toNatClampNeg), .int (xs (s1.1 + (2 : Int32)).toNatClampNeg), .int (xs (s1.1 + (3 : Int32)).toNatClampNeg), .int (xs (s1.1 + (4 : Int32)).toNatClampNeg), .int (xs (s1.1 + (5 : Int32)).toNatClampNeg)] (st := [.int r75.1]) hzc hzs dL_law_1451 rfl rfl (fun r h => c_X12_copy G l 60 (by decide) r75.2 (xs (s1.1 + (1 : Int32)).toNatClampNeg) (xs (s1.1 + (2 : Int32)).toNatClampNeg) (xs (s1.1 + (3 : Int32)).toNatClampNeg) (xs (s1.1 + (4 : Int32)).toNatClampNeg) (xs (s1.1 + (5 : Int32)).toNatClampNeg) r h) zl_130 (ce_130 G _) rfl rfl wc_X12_copy wz_X12 wl_L_171 wi_X12_copy ws_X12_copy zd_X12_copy (by decide) (by decide) rfl (Nat.le_of_ble_eq_true rfl) (fun r76 => ?_)
        refine q_icmp_eq 1459 1457 dL_law_1454 (by decide) rfl ?_ ?_
        · refine q_iinc 1462 3 [(3, .int (s1.1 + (6 : Int32))), (0, .ref (b)), (1, .ref (G.1 0)), (2, .ref (G.1 130))] dL_law_1459 rfl rfl zci_6 (by decide) rfl ?_
          refine q_goto 18 dL_law_1462 (by decide) ?_
          exact q_leaf [1, 2, 3, 0] (lv2 := [(0, .ref (b)), (1, .ref (G.1 0)), (2, .ref (G.1 130)), (3, .int (s1.1 + (6 : Int32)))]) rfl (fun h => h)
        · refine q_iconst 1458 dL_law_1457 rfl zci_0 ?_
          exact q_iret rfl hzc hzs dL_law_1458 (fun h => h)
      refine q_tout 1459 dL_law_33 (z_tout36 hn0 hn1 hn2 hn3 hn4 hn5 hn6 hn7 hn8 hn9 hn10 hn11 hn12 hn13 hn14 hn15 hn16 hn17 hn18 hn19 hn20 hn21 hn22 hn23 hn24 hn25 hn26 hn27 hn28 hn29 hn30 hn31 hn32 hn33 hn34 hn35 hn36) (by decide) ?_
      refine q_iinc 1462 3 [(3, .int (s1.1 + (6 : Int32))), (0, .ref (b)), (1, .ref (G.1 0)), (2, .ref (G.1 130))] dL_law_1459 rfl rfl zci_6 (by decide) rfl ?_
      refine q_goto 18 dL_law_1462 (by decide) ?_
      exact q_leaf [1, 2, 3, 0] (lv2 := [(0, .ref (b)), (1, .ref (G.1 0)), (2, .ref (G.1 130)), (3, .int (s1.1 + (6 : Int32)))]) rfl (fun h => h)
  · refine q_iconst 1466 dL_law_1465 rfl zci_1 ?_
    exact q_iret rfl hzc hzs dL_law_1466 (fun h => h)
