noncomputable def fX9_refuse (M : wMem) (a1 : Int32) : Option (Int32 × wMem) :=
wlet (((-1) - a1) : Int32) fun x1 =>
if (x1 : Int32) < 0 then
  some (a1, M)
else
  if (6 : Int32) ≤ x1 then
    some (a1, M)
  else
    wgi x1 6 <|
    wgi x1 6 <|
    wlet (wup M 69 (Int32.toNatClampNeg x1) ((M 69 (Int32.toNatClampNeg x1)) + 1)) fun M6 =>
    some (a1, M6)
noncomputable def fX2_add (M : wMem) (a1 : Int32) : Option (wMem) :=
if (64 : Int32) ≤ (M 47 1) then
  some M
else
  wgi (M 47 1) 64 <|
  wlet (wup M 48 (Int32.toNatClampNeg (M 47 1)) (vp_nar .char ((Int32.toUInt32 a1 % 65536).toInt32))) fun M3 =>
  wlet (wup M3 47 1 ((M3 47 1) + 1)) fun M4 =>
  some M4
noncomputable def fX9_feed_30 (M : wMem)   : Option (Int32 × wMem) :=
(fX9_refuse M (-6)).bind <| wpr fun r4 M5 =>
some (r4, M5)
noncomputable def fX9_feed (M : wMem) (a1 : Int32) : Option (Int32 × wMem) :=
if (0 : Int32) ≤ a1 then
  if (255 : Int32) < a1 then
    fX9_feed_30 M  
  else
    if ((M 47 1) : Int32) < 64 then
      (fX2_add M a1).bind fun M9 =>
      some ((M9 47 1), M9)
    else
      fX9_feed_30 M  
else
  (fX9_refuse M (-4)).bind <| wpr fun r11 M12 =>
  some (r11, M12)
noncomputable def fX2_signAt (M : wMem) (a1 : Int32) : Option (Int32) :=
if (a1 : Int32) < 0 then
  some (-1)
else
  if ((M 47 1) : Int32) ≤ a1 then
    some (-1)
  else
    wgi a1 64 <|
    some (M 48 (Int32.toNatClampNeg a1))
noncomputable def fX7_isDigit (M : wMem) (a0 : Int32) : Option (Bool) :=
if (a0 : Int32) < 48 then
  some false
else
  if (57 : Int32) < a0 then
    some false
  else
    some true
noncomputable def fX7_readNumber_65 (M : wMem)  (y3 : Int32) (y4 : Int32) : Option (Int32 × wMem) :=
if (y4 : Int32) = 0 then
  wlet (wup M 49 5 0) fun M3 =>
  some (y3, M3)
else
  some (y3, M)
noncomputable def fX7_readNumber_5_b (M : wMem)  (rec5 : (Int32 × Int32 × wMem → Option (Int32 × wMem))) (y2 : Int32) (y3 : Int32) (y4 : Int32) : Option (Int32 × wMem) :=
if ((M 49 5) : Int32) = 0 then
  fX7_readNumber_65 M  y3 y4
else
  if (y2 : Int32) ≤ y4 then
    fX7_readNumber_65 M  y3 y4
  else
    (fX2_signAt M (M 49 4)).bind fun r6 =>
    (fX7_isDigit M r6).bind fun r8 =>
    if ((wb r8) : Int32) = 0 then
      fX7_readNumber_65 M  y3 y4
    else
      (fX2_signAt M (M 49 4)).bind fun r11 =>
      wlet ((((10 * y3) + r11) - 48) : Int32) fun x12 =>
      wlet (wup M 49 4 ((M 49 4) + 1)) fun M13 =>
      wlet (y4 + 1 : Int32) fun x14 =>
      rec5 (x12, x14, M13)
noncomputable def fX7_readNumber_5 (M : wMem)  (y2 : Int32) (y3 : Int32) (y4 : Int32) : Option (Int32 × wMem) :=
  wloop (fun rec5 t => fX7_readNumber_5_b t.2.2  rec5 y2 t.1 t.2.1) wfuel (y3, y4, M)
noncomputable def fX7_readNumber (M : wMem) (a2 : Int32) : Option (Int32 × wMem) :=
fX7_readNumber_5 M  a2 0 0
noncomputable def fX7_readSign (M : wMem) (a2 : Int32) : Option (wMem) :=
if ((M 49 5) : Int32) = 0 then
  some M
else
  (fX2_signAt M (M 49 4)).bind fun r3 =>
  if (r3 : Int32) = a2 then
    wlet (wup M 49 4 ((M 49 4) + 1)) fun M6 =>
    some M6
  else
    wlet (wup M 49 5 0) fun M5 =>
    some M5
noncomputable def fX7_read_205 (M : wMem)   : Option (wMem) :=
(fX7_readSign M 59).bind fun M21 =>
some M21
noncomputable def fX7_read (M : wMem) (a2 : Int32) : Option (wMem) :=
wlet (wup M 49 4 a2) fun M1 =>
wlet (wup M1 49 5 1) fun M2 =>
(fX2_signAt M2 a2).bind fun r4 =>
wlet (wup M2 49 0 r4) fun M5 =>
wlet ((M5 49 0) : Int32) fun x6 =>
if (x6 : Int32) = 100 then
  wlet (wup M5 49 4 ((M5 49 4) + 1)) fun M7 =>
  (fX7_readNumber M7 2).bind <| wpr fun r9 M10 =>
  wlet (wup M10 49 1 r9) fun M11 =>
  (fX7_readSign M11 44).bind fun M14 =>
  (fX7_readNumber M14 1).bind <| wpr fun r16 M17 =>
  wlet (wup M17 49 2 r16) fun M18 =>
  fX7_read_205 M18  
else
if (x6 : Int32) = 103 then
  wlet (wup M5 49 4 ((M5 49 4) + 1)) fun M23 =>
  (fX7_readNumber M23 1).bind <| wpr fun r25 M26 =>
  wlet (wup M26 49 1 r25) fun M27 =>
  fX7_read_205 M27  
else
if (x6 : Int32) = 112 then
  wlet (wup M5 49 4 ((M5 49 4) + 1)) fun M29 =>
  (fX7_readNumber M29 1).bind <| wpr fun r31 M32 =>
  wlet (wup M32 49 1 r31) fun M33 =>
  (fX7_readNumber M33 2).bind <| wpr fun r35 M36 =>
  wlet (wup M36 49 2 r35) fun M37 =>
  (fX7_readSign M37 44).bind fun M40 =>
  (fX7_readNumber M40 1).bind <| wpr fun r42 M43 =>
  wlet (wup M43 49 3 r42) fun M44 =>
  fX7_read_205 M44  
else
if (x6 : Int32) = 117 then
  wlet (wup M5 49 4 ((M5 49 4) + 1)) fun M46 =>
  (fX7_readNumber M46 3).bind <| wpr fun r48 M49 =>
  wlet (wup M49 49 1 r48) fun M50 =>
  fX7_read_205 M50  
else
wlet (wup M5 49 5 0) fun M52 =>
fX7_read_205 M52  
noncomputable def fX9_formOfLetters_63 (M : wMem)  (y2 : Int32) : Option (Int32 × wMem) :=
if (y2 : Int32) = 0 then
  some ((-1000), M)
else
  some (y2, M)
noncomputable def fX9_formOfLetters_4_b (M : wMem)  (rec4 : (Int32 × Int32 × wMem → Option (Int32 × wMem))) (y1 : Int32) (y2 : Int32) : Option (Int32 × wMem) :=
if ((M 47 1) : Int32) ≤ y1 then
  fX9_formOfLetters_63 M  y2
else
  if (64 : Int32) ≤ y2 then
    fX9_formOfLetters_63 M  y2
  else
    (fX7_read M y1).bind fun M6 =>
    wlet ((M6 49 4) : Int32) fun x7 =>
    if ((M6 49 5) : Int32) = 0 then
      some (((-1000) - x7), M6)
    else
      wlet (y2 + 1 : Int32) fun x9 =>
      rec4 (x7, x9, M6)
noncomputable def fX9_formOfLetters_4 (M : wMem)  (y1 : Int32) (y2 : Int32) : Option (Int32 × wMem) :=
  wloop (fun rec4 t => fX9_formOfLetters_4_b t.2.2  rec4 t.1 t.2.1) wfuel (y1, y2, M)
noncomputable def fX9_formOfLetters (M : wMem)  : Option (Int32 × wMem) :=
fX9_formOfLetters_4 M  0 0
noncomputable def fX1_copyFrom (M : wMem) (k0 : Nat) (k1 : Nat) : Option (wMem) :=
wlet (wup M k0 0 (M k1 0)) fun M1 =>
wlet (wup M1 k0 1 (M1 k1 1)) fun M2 =>
wlet (wup M2 k0 2 (M2 k1 2)) fun M3 =>
wlet (wup M3 k0 3 (M3 k1 3)) fun M4 =>
wlet (wup M4 k0 4 (M4 k1 4)) fun M5 =>
some M5
noncomputable def fX5_copyFrom_43_b (M : wMem)  (rec43 : (Int32 × wMem → Option (wMem))) (ky0 : Nat) (ky1 : Nat) (y2 : Int32) : Option (wMem) :=
if ((M ky0 2) : Int32) ≤ y2 then
  some M
else
  wgi y2 12 <|
  wgi y2 12 <|
  (fX1_copyFrom M ((ky0 + 1) + 2 + Int32.toNatClampNeg y2) ((ky1 + 1) + 2 + Int32.toNatClampNeg y2)).bind fun M9 =>
  wlet (y2 + 1 : Int32) fun x10 =>
  rec43 (x10, M9)
noncomputable def fX5_copyFrom_43 (M : wMem)  (ky0 : Nat) (ky1 : Nat) (y2 : Int32) : Option (wMem) :=
  wloop (fun rec43 t => fX5_copyFrom_43_b t.2  rec43 ky0 ky1 t.1) wfuel (y2, M)
noncomputable def fX5_copyFrom_18_b (M : wMem)  (rec18 : (Int32 × wMem → Option (wMem))) (ky0 : Nat) (ky1 : Nat) (y2 : Int32) : Option (wMem) :=
if (3 : Int32) < y2 then
  fX5_copyFrom_43 M  ky0 ky1 0
else
  wgi y2 4 <|
  wgi y2 4 <|
  wlet (wup M (ky0 + 2) (Int32.toNatClampNeg y2) (M (ky1 + 2) (Int32.toNatClampNeg y2))) fun M13 =>
  wlet (y2 + 1 : Int32) fun x14 =>
  rec18 (x14, M13)
noncomputable def fX5_copyFrom_18 (M : wMem)  (ky0 : Nat) (ky1 : Nat) (y2 : Int32) : Option (wMem) :=
  wloop (fun rec18 t => fX5_copyFrom_18_b t.2  rec18 ky0 ky1 t.1) wfuel (y2, M)
noncomputable def fX5_copyFrom (M : wMem) (k0 : Nat) (k1 : Nat) : Option (wMem) :=
wlet (wup M k0 2 (M k1 2)) fun M1 =>
wlet (wup M1 k0 3 (M1 k1 3)) fun M2 =>
fX5_copyFrom_18 M2  k0 k1 0
noncomputable def fX4_startFrom (M : wMem) (k1 : Nat) : Option (wMem) :=
(fX5_copyFrom M 32 k1).bind fun M3 =>
some M3
noncomputable def fX1_putAnew (M : wMem) (k0 : Nat) : Option (wMem) :=
wlet (wup M k0 3 0) fun M1 =>
wlet (wup M1 k0 4 0) fun M2 =>
some M2
noncomputable def fX1_begin (M : wMem) (k0 : Nat) (a1 : Int32) (a2 : Int32) (a3 : Int32) : Option (wMem) :=
wlet (wup M k0 0 a1) fun M1 =>
wlet (wup M1 k0 1 a2) fun M2 =>
wlet (wup M2 k0 2 a3) fun M3 =>
(fX1_putAnew M3 k0).bind fun M6 =>
some M6
noncomputable def fX5_addLamp_36 (M : wMem)  (ky0 : Nat) (y1 : Int32) (y2 : Int32) (y3 : Int32) (z0 : Int32) : Option (Bool × wMem) :=
if (z0 : Int32) = 0 then
  some (false, M)
else
  if ((M ky0 2) : Int32) < 12 then
    wgi (M ky0 2) 12 <|
    (fX1_begin M ((ky0 + 1) + 2 + Int32.toNatClampNeg (M ky0 2)) y1 y2 y3).bind fun M7 =>
    wlet (wup M7 ky0 2 ((M7 ky0 2) + 1)) fun M8 =>
    some (true, M8)
  else
    some (false, M)
noncomputable def fX5_addLamp_35 (M : wMem)  (ky0 : Nat) (y1 : Int32) (y2 : Int32) (y3 : Int32) : Option (Bool × wMem) :=
fX5_addLamp_36 M  ky0 y1 y2 y3 0
noncomputable def fX5_addLamp (M : wMem) (k0 : Nat) (a1 : Int32) (a2 : Int32) (a3 : Int32) : Option (Bool × wMem) :=
if (a1 : Int32) < 0 then
  fX5_addLamp_35 M  k0 a1 a2 a3
else
  if (5 : Int32) < a1 then
    fX5_addLamp_35 M  k0 a1 a2 a3
  else
    if (a2 : Int32) < 1 then
      fX5_addLamp_35 M  k0 a1 a2 a3
    else
      if (99 : Int32) < a2 then
        fX5_addLamp_35 M  k0 a1 a2 a3
      else
        if (a3 : Int32) < 1 then
          fX5_addLamp_35 M  k0 a1 a2 a3
        else
          if (9 : Int32) < a3 then
            fX5_addLamp_35 M  k0 a1 a2 a3
          else
            fX5_addLamp_36 M  k0 a1 a2 a3 1
noncomputable def fX5_takeSetting (M : wMem) (k0 : Nat) (a1 : Int32) (a2 : Int32) : Option (Bool × wMem) :=
wgi a1 4 <|
if (a2 : Int32) < (wtab 0 (Int32.toNatClampNeg a1)) then
  some (false, M)
else
  wgi a1 4 <|
  if (a2 : Int32) ≤ (wtab 1 (Int32.toNatClampNeg a1)) then
    wgi a1 4 <|
    wlet (wup M (k0 + 2) (Int32.toNatClampNeg a1) a2) fun M6 =>
    some (true, M6)
  else
    some (false, M)
noncomputable def fX5_has (M : wMem) (k0 : Nat) (a1 : Int32) : Option (Bool) :=
if (a1 : Int32) < 0 then
  some false
else
  if ((M k0 2) : Int32) ≤ a1 then
    some false
  else
    some true
noncomputable def fX5_takeCondition (M : wMem) (k0 : Nat) (a1 : Int32) (a2 : Int32) : Option (Bool × wMem) :=
(fX5_has M k0 a1).bind fun r2 =>
if ((wb r2) : Int32) = 0 then
  some (false, M)
else
  if (a2 : Int32) < 0 then
    some (false, M)
  else
    if (a2 : Int32) ≤ 3 then
      wgi a1 12 <|
      wlet (wup M ((k0 + 1) + 2 + Int32.toNatClampNeg a1) 4 a2) fun M7 =>
      some (true, M7)
    else
      some (false, M)
noncomputable def fX5_take (M : wMem) (k0 : Nat) : Option (Bool × wMem) :=
wlet ((M 49 0) : Int32) fun x1 =>
if (x1 : Int32) = 100 then
  (fX5_takeCondition M k0 (M 49 1) (M 49 2)).bind <| wpr fun r3 M4 =>
  some (r3, M4)
else
if (x1 : Int32) = 103 then
  (fX5_takeSetting M k0 3 (M 49 1)).bind <| wpr fun r7 M8 =>
  some (r7, M8)
else
if (x1 : Int32) = 112 then
  (fX5_addLamp M k0 (M 49 1) (M 49 2) (M 49 3)).bind <| wpr fun r11 M12 =>
  some (r11, M12)
else
if (x1 : Int32) = 117 then
  (fX5_takeSetting M k0 0 (M 49 1)).bind <| wpr fun r15 M16 =>
  some (r15, M16)
else
some (false, M)
noncomputable def fX9_takeLetters_4_b (M : wMem)  (rec4 : (Int32 × Int32 × wMem → Option (Int32 × wMem))) (ky1 : Nat) (y2 : Int32) (y3 : Int32) : Option (Int32 × wMem) :=
if (64 : Int32) ≤ y3 then
  some (0, M)
else
  if ((M 47 1) : Int32) ≤ y2 then
    some (0, M)
  else
    (fX7_read M y2).bind fun M5 =>
    (fX5_take M5 ky1).bind <| wpr fun r7 M8 =>
    if ((wb r7) : Int32) = 0 then
      some (((-2000) - y2), M8)
    else
      wlet ((M8 49 4) : Int32) fun x10 =>
      wlet (y3 + 1 : Int32) fun x11 =>
      rec4 (x10, x11, M8)
noncomputable def fX9_takeLetters_4 (M : wMem)  (ky1 : Nat) (y2 : Int32) (y3 : Int32) : Option (Int32 × wMem) :=
  wloop (fun rec4 t => fX9_takeLetters_4_b t.2.2  rec4 ky1 t.1 t.2.1) wfuel (y2, y3, M)
noncomputable def fX9_takeLetters (M : wMem) (k1 : Nat) : Option (Int32 × wMem) :=
fX9_takeLetters_4 M  k1 0 0
noncomputable def fX9_string_44 (M : wMem)  (y1 : Int32) : Option (Int32 × wMem) :=
wlet (wup M 47 1 0) fun M5 =>
some (y1, M5)
noncomputable def fX9_string (M : wMem)  : Option (Int32 × wMem) :=
(fX9_formOfLetters M ).bind <| wpr fun r2 M3 =>
if (r2 : Int32) < 0 then
  fX9_string_44 M3  r2
else
  (fX4_startFrom M3 1).bind fun M8 =>
  (fX9_takeLetters M8 32).bind <| wpr fun r10 M11 =>
  if (0 : Int32) ≤ r10 then
    (fX5_copyFrom M11 1 32).bind fun M15 =>
    fX9_string_44 M15  r2
  else
    fX9_string_44 M11  r10
noncomputable def fX1_drag (M : wMem) (k0 : Nat) : Option (Int32) :=
if ((M k0 4) : Int32) = 2 then
  some 0
else
  wlet ((M k0 0) : Int32) fun x2 =>
  if (x2 : Int32) = 3 then
    some 15
  else
  if (x2 : Int32) = 4 then
    some 6
  else
  if (x2 : Int32) = 5 then
    some 20
  else
  some 10
noncomputable def fX1_breaksRow_16 (M : wMem)   : Option (Bool) :=
some true
noncomputable def fX1_breaksRow (M : wMem) (k0 : Nat) : Option (Bool) :=
if ((M k0 4) : Int32) = 1 then
  fX1_breaksRow_16 M  
else
  if ((M k0 4) : Int32) = 3 then
    fX1_breaksRow_16 M  
  else
    some false
noncomputable def fX5_isWhole_2_b (M : wMem)  (rec2 : (Int32 → Option (Bool))) (ky0 : Nat) (y2 : Int32) (y3 : Int32) : Option (Bool) :=
if (y2 : Int32) < y3 then
  some true
else
  if ((M ky0 2) : Int32) ≤ y3 then
    some true
  else
    wgi y3 12 <|
    (fX1_breaksRow M ((ky0 + 1) + 2 + Int32.toNatClampNeg y3)).bind fun r5 =>
    if ((wb r5) : Int32) = 0 then
      wlet (y3 + 1 : Int32) fun x7 =>
      rec2 (x7)
    else
      some false
noncomputable def fX5_isWhole_2 (M : wMem)  (ky0 : Nat) (y2 : Int32) (y3 : Int32) : Option (Bool) :=
  wloop (fun rec2 t => fX5_isWhole_2_b M  rec2 ky0 y2 t) wfuel (y3)
noncomputable def fX5_isWhole (M : wMem) (k0 : Nat) (a1 : Int32) (a2 : Int32) : Option (Bool) :=
fX5_isWhole_2 M  k0 a2 a1
noncomputable def fX5_allDrags_4_b (M : wMem)  (rec4 : (Int32 × Int32 → Option (Int32))) (ky0 : Nat) (y1 : Int32) (y2 : Int32) : Option (Int32) :=
if ((M ky0 2) : Int32) ≤ y2 then
  some y1
else
  wgi y2 12 <|
  (fX1_drag M ((ky0 + 1) + 2 + Int32.toNatClampNeg y2)).bind fun r4 =>
  wlet ((y1 + r4) : Int32) fun x5 =>
  wlet (y2 + 1 : Int32) fun x6 =>
  rec4 (x5, x6)
noncomputable def fX5_allDrags_4 (M : wMem)  (ky0 : Nat) (y1 : Int32) (y2 : Int32) : Option (Int32) :=
  wloop (fun rec4 t => fX5_allDrags_4_b M  rec4 ky0 t.1 t.2) wfuel (y1, y2)
noncomputable def fX5_allDrags (M : wMem) (k0 : Nat) : Option (Int32) :=
fX5_allDrags_4 M  k0 0 0
noncomputable def fX5_isLive (M : wMem) (k0 : Nat) : Option (Bool) :=
(fX5_isWhole M k0 0 ((M k0 2) - 1)).bind fun r2 =>
if ((wb r2) : Int32) = 0 then
  some false
else
  (fX5_allDrags M k0).bind fun r5 =>
  if (r5 : Int32) ≤ 0 then
    some false
  else
    some true
noncomputable def fX5_flowThrough (M : wMem) (k0 : Nat) (a1 : Int32) : Option (Int32) :=
if (0 : Int32) < a1 then
  wgi 0 4 <|
  wgz a1 <|
  some (if (((100 * (M (k0 + 2) (Int32.toNatClampNeg 0))) / a1) : Int32) < 9999 then ((100 * (M (k0 + 2) (Int32.toNatClampNeg 0))) / a1) else 9999)
else
  some 0
noncomputable def fX5_flowNow (M : wMem) (k0 : Nat) : Option (Int32) :=
(fX5_isLive M k0).bind fun r2 =>
if ((wb r2) : Int32) = 0 then
  some 0
else
  (fX5_allDrags M k0).bind fun r5 =>
  (fX5_flowThrough M k0 r5).bind fun r7 =>
  some r7
noncomputable def fX1_isWell (M : wMem) (k0 : Nat) : Option (Bool) :=
if ((M k0 4) : Int32) = 0 then
  some true
else
  some false
noncomputable def fX1_brightAt (M : wMem) (k0 : Nat) (a1 : Int32) : Option (Int32) :=
(fX1_isWell M k0).bind fun r2 =>
if ((wb r2) : Int32) = 0 then
  some 0
else
  (fX1_drag M k0).bind fun r5 =>
  wgz 100 <|
  some ((a1 * r5) / 100)
noncomputable def fX1_isBridger_16 (M : wMem)   : Option (Bool) :=
some true
noncomputable def fX1_isBridger (M : wMem) (k0 : Nat) : Option (Bool) :=
if ((M k0 0) : Int32) = 1 then
  fX1_isBridger_16 M  
else
  if ((M k0 0) : Int32) = 5 then
    fX1_isBridger_16 M  
  else
    some false
noncomputable def fX1_isLoose_16 (M : wMem)   : Option (Bool) :=
some true
noncomputable def fX1_isLoose (M : wMem) (k0 : Nat) : Option (Bool) :=
if ((M k0 0) : Int32) = 2 then
  fX1_isLoose_16 M  
else
  if ((M k0 0) : Int32) = 3 then
    fX1_isLoose_16 M  
  else
    some false
noncomputable def fX1_likely (M : wMem) (k0 : Nat) : Option (Int32) :=
(fX1_isBridger M k0).bind fun r2 =>
if ((wb r2) : Int32) = 0 then
  wgz 10 <|
  wlet ((((M k0 3) / 10) + 1) : Int32) fun x5 =>
  (fX1_isLoose M k0).bind fun r7 =>
  if ((wb r7) : Int32) = 0 then
    some x5
  else
    some (x5 + 3)
else
  some 1
noncomputable def fX9_lamp (M : wMem) (a1 : Int32) (a2 : Int32) : Option (Int32 × wMem) :=
(fX5_has M 1 a1).bind fun r2 =>
if ((wb r2) : Int32) = 0 then
  (fX9_refuse M (-1)).bind <| wpr fun r26 M27 =>
  some (r26, M27)
else
  wgi a1 12 <|
  if (a2 : Int32) = 0 then
    some ((M (2 + 2 + Int32.toNatClampNeg a1) 0), M)
  else
  if (a2 : Int32) = 1 then
    some ((M (2 + 2 + Int32.toNatClampNeg a1) 1), M)
  else
  if (a2 : Int32) = 2 then
    some ((M (2 + 2 + Int32.toNatClampNeg a1) 2), M)
  else
  if (a2 : Int32) = 3 then
    some ((M (2 + 2 + Int32.toNatClampNeg a1) 3), M)
  else
  if (a2 : Int32) = 4 then
    some ((M (2 + 2 + Int32.toNatClampNeg a1) 4), M)
  else
  if (a2 : Int32) = 5 then
    (fX1_drag M (2 + 2 + Int32.toNatClampNeg a1)).bind fun r12 =>
    some (r12, M)
  else
  if (a2 : Int32) = 6 then
    (fX5_flowNow M 1).bind fun r15 =>
    (fX1_brightAt M (2 + 2 + Int32.toNatClampNeg a1) r15).bind fun r17 =>
    some (r17, M)
  else
  if (a2 : Int32) = 7 then
    (fX1_likely M (2 + 2 + Int32.toNatClampNeg a1)).bind fun r20 =>
    some (r20, M)
  else
  (fX9_refuse M (-2)).bind <| wpr fun r23 M24 =>
  some (r23, M24)
noncomputable def fX9_set_9 (M : wMem)   : Option (Int32 × wMem) :=
(fX9_refuse M (-2)).bind <| wpr fun r3 M4 =>
some (r3, M4)
noncomputable def fX9_set (M : wMem) (a1 : Int32) (a2 : Int32) : Option (Int32 × wMem) :=
if (a1 : Int32) < 0 then
  fX9_set_9 M  
else
  if (a1 : Int32) ≤ 3 then
    wgi a1 4 <|
    if ((wtab 0 (Int32.toNatClampNeg a1)) : Int32) ≤ a2 then
      wgi a1 4 <|
      if (a2 : Int32) ≤ (wtab 1 (Int32.toNatClampNeg a1)) then
        wgi a1 4 <|
        wlet ((M 3 (Int32.toNatClampNeg a1)) : Int32) fun x11 =>
        wgi a1 4 <|
        wlet (wup M 3 (Int32.toNatClampNeg a1) a2) fun M13 =>
        some (x11, M13)
      else
        (fX9_refuse M (-6)).bind <| wpr fun r15 M16 =>
        some (r15, M16)
    else
      (fX9_refuse M (-4)).bind <| wpr fun r18 M19 =>
      some (r18, M19)
  else
    fX9_set_9 M  
noncomputable def fX9_flow (M : wMem)  : Option (Int32) :=
(fX5_flowNow M 1).bind fun r2 =>
some r2
noncomputable def fX1_mustDie (M : wMem) (k0 : Nat) (a1 : Int32) : Option (Bool) :=
wlet ((M k0 0) : Int32) fun x1 =>
if (x1 : Int32) = 4 then
  if (a1 : Int32) ≤ (5 * (M k0 1)) then
    some false
  else
    some true
else
if (x1 : Int32) = 5 then
  if ((M k0 3) : Int32) < (20 * (M k0 1)) then
    some false
  else
    some true
else
if ((M k0 3) : Int32) < (10 * (M k0 1)) then
  some false
else
  some true
noncomputable def fX1_whenDead (M : wMem) (k0 : Nat) : Option (Int32) :=
(fX1_isBridger M k0).bind fun r2 =>
if ((wb r2) : Int32) = 0 then
  if ((M k0 0) : Int32) = 3 then
    some 3
  else
    some 1
else
  some 2
noncomputable def fX1_burn (M : wMem) (k0 : Nat) (a1 : Int32) : Option (wMem) :=
(fX1_brightAt M k0 a1).bind fun r2 =>
wgz 10 <|
wlet (wup M k0 3 (if (((M k0 3) + (r2 / 10)) : Int32) < 9999 then ((M k0 3) + (r2 / 10)) else 9999)) fun M4 =>
(fX1_mustDie M4 k0 a1).bind fun r6 =>
if ((wb r6) : Int32) = 0 then
  some M4
else
  (fX1_whenDead M4 k0).bind fun r9 =>
  wlet (wup M4 k0 4 r9) fun M10 =>
  some M10
noncomputable def fX1_worksLoose (M : wMem) (k0 : Nat) (a1 : Int32) (a2 : Int32) : Option (Bool) :=
wlet ((M k0 0) : Int32) fun x1 =>
if (x1 : Int32) = 2 then
  wgz 10 <|
  if ((a1 - a1 / 10 * 10) : Int32) = a2 then
    some true
  else
    some false
else
if (x1 : Int32) = 3 then
  wgz 5 <|
  wgz 5 <|
  if ((a1 - a1 / 5 * 5) : Int32) = (a2 - a2 / 5 * 5) then
    some true
  else
    some false
else
some false
noncomputable def fX5_passHour_115 (M : wMem) (rec27 : (Int32 × Int32 × wMem → Option (Int32 × wMem))) (ky0 : Nat) (y1 : Int32) (y2 : Int32) (y3 : Int32) (y4 : Int32) : Option (Int32 × wMem) :=
wlet (y4 + 1 : Int32) fun x16 =>
rec27 (y3, x16, M)
noncomputable def fX5_passHour_99 (M : wMem) (rec27 : (Int32 × Int32 × wMem → Option (Int32 × wMem))) (ky0 : Nat) (y1 : Int32) (y2 : Int32) (y3 : Int32) (y4 : Int32) (ky5 : Nat) (y6 : Int32) : Option (Int32 × wMem) :=
if (y6 : Int32) = 0 then
  fX5_passHour_115 M rec27 ky0 y1 y2 y3 y4
else
  (fX1_isWell M ky5).bind fun r18 =>
  if ((wb r18) : Int32) = 0 then
    wlet (y3 + 1 : Int32) fun x20 =>
    fX5_passHour_115 M rec27 ky0 y1 y2 x20 y4
  else
    fX5_passHour_115 M rec27 ky0 y1 y2 y3 y4
noncomputable def fX5_passHour_67 (M : wMem) (rec27 : (Int32 × Int32 × wMem → Option (Int32 × wMem))) (ky0 : Nat) (y1 : Int32) (y2 : Int32) (y3 : Int32) (y4 : Int32) (ky5 : Nat) (y6 : Int32) : Option (Int32 × wMem) :=
(fX1_isWell M ky5).bind fun r13 =>
if ((wb r13) : Int32) = 0 then
  fX5_passHour_99 M rec27 ky0 y1 y2 y3 y4 ky5 y6
else
  wgi 3 4 <|
  (fX1_worksLoose M ky5 (M ky0 3) (M (ky0 + 2) (Int32.toNatClampNeg 3))).bind fun r23 =>
  if ((wb r23) : Int32) = 0 then
    fX5_passHour_99 M rec27 ky0 y1 y2 y3 y4 ky5 y6
  else
    wlet (wup M ky5 4 3) fun M25 =>
    fX5_passHour_99 M25 rec27 ky0 y1 y2 y3 y4 ky5 y6
noncomputable def fX5_passHour_27_b (M : wMem)  (rec27 : (Int32 × Int32 × wMem → Option (Int32 × wMem))) (ky0 : Nat) (y1 : Int32) (y2 : Int32) (y3 : Int32) (y4 : Int32) : Option (Int32 × wMem) :=
if ((M ky0 2) : Int32) ≤ y4 then
  wlet (wup M ky0 3 ((M ky0 3) + 1)) fun M6 =>
  some (y3, M6)
else
  wgi y4 12 <|
  (fX1_isWell M ((ky0 + 1) + 2 + Int32.toNatClampNeg y4)).bind fun r9 =>
  wlet ((wb r9) : Int32) fun x10 =>
  if (x10 : Int32) = 0 then
    fX5_passHour_67 M rec27 ky0 y1 y2 y3 y4 ((ky0 + 1) + 2 + Int32.toNatClampNeg y4) x10
  else
    if (y1 : Int32) = 0 then
      fX5_passHour_67 M rec27 ky0 y1 y2 y3 y4 ((ky0 + 1) + 2 + Int32.toNatClampNeg y4) x10
    else
      (fX1_burn M ((ky0 + 1) + 2 + Int32.toNatClampNeg y4) y2).bind fun M29 =>
      fX5_passHour_67 M29 rec27 ky0 y1 y2 y3 y4 ((ky0 + 1) + 2 + Int32.toNatClampNeg y4) x10
noncomputable def fX5_passHour_27 (M : wMem)  (ky0 : Nat) (y1 : Int32) (y2 : Int32) (y3 : Int32) (y4 : Int32) : Option (Int32 × wMem) :=
  wloop (fun rec27 t => fX5_passHour_27_b t.2.2  rec27 ky0 y1 y2 t.1 t.2.1) wfuel (y3, y4, M)
noncomputable def fX5_passHour_21 (M : wMem)  (ky0 : Nat) (y1 : Int32) (z0 : Int32) : Option (Int32 × wMem) :=
fX5_passHour_27 M  ky0 y1 z0 0 0
noncomputable def fX5_passHour (M : wMem) (k0 : Nat) : Option (Int32 × wMem) :=
(fX5_isLive M k0).bind fun r2 =>
wlet ((wb r2) : Int32) fun x3 =>
if (x3 : Int32) = 0 then
  fX5_passHour_21 M  k0 x3 0
else
  (fX5_allDrags M k0).bind fun r31 =>
  (fX5_flowThrough M k0 r31).bind fun r33 =>
  fX5_passHour_21 M  k0 x3 r33
noncomputable def fX9_hour (M : wMem)  : Option (Int32 × wMem) :=
if ((M 1 3) : Int32) < 9999 then
  (fX5_passHour M 1).bind <| wpr fun r3 M4 =>
  some (r3, M4)
else
  (fX9_refuse M (-6)).bind <| wpr fun r6 M7 =>
  some (r6, M7)
noncomputable def fX9_asNumber (M : wMem) (a0 : Int32) : Option (Int32) :=
if (a0 : Int32) = 0 then
  some 0
else
  some 1
noncomputable def fX9_swap (M : wMem) (a1 : Int32) : Option (Int32 × wMem) :=
(fX5_has M 1 a1).bind fun r2 =>
if ((wb r2) : Int32) = 0 then
  (fX9_refuse M (-1)).bind <| wpr fun r21 M22 =>
  some (r21, M22)
else
  wgi 1 4 <|
  if (0 : Int32) < (M 3 (Int32.toNatClampNeg 1)) then
    wgi 1 4 <|
    wgi 1 4 <|
    wlet (wup M 3 (Int32.toNatClampNeg 1) ((M 3 (Int32.toNatClampNeg 1)) - 1)) fun M8 =>
    wgi a1 12 <|
    (fX1_putAnew M8 (2 + 2 + Int32.toNatClampNeg a1)).bind fun M12 =>
    (fX5_isLive M12 1).bind fun r14 =>
    (fX9_asNumber M12 (wb r14)).bind fun r16 =>
    some (r16, M12)
  else
    (fX9_refuse M (-3)).bind <| wpr fun r18 M19 =>
    some (r18, M19)
noncomputable def fX5_hasStretch (M : wMem) (k0 : Nat) (a1 : Int32) (a2 : Int32) : Option (Bool) :=
(fX5_has M k0 a1).bind fun r2 =>
if ((wb r2) : Int32) = 0 then
  some false
else
  (fX5_has M k0 a2).bind fun r5 =>
  if ((wb r5) : Int32) = 0 then
    some false
  else
    if (a2 : Int32) < a1 then
      some false
    else
      some true
noncomputable def fX9_meter (M : wMem) (a1 : Int32) (a2 : Int32) : Option (Int32 × wMem) :=
(fX5_hasStretch M 1 a1 a2).bind fun r2 =>
if ((wb r2) : Int32) = 0 then
  (fX9_refuse M (-1)).bind <| wpr fun r9 M10 =>
  some (r9, M10)
else
  (fX5_isWhole M 1 a1 a2).bind fun r5 =>
  (fX9_asNumber M (wb r5)).bind fun r7 =>
  some (r7, M)
noncomputable def fX9_finder (M : wMem) (a1 : Int32) : Option (Int32 × wMem) :=
(fX5_has M 1 a1).bind fun r2 =>
if ((wb r2) : Int32) = 0 then
  (fX9_refuse M (-1)).bind <| wpr fun r9 M10 =>
  some (r9, M10)
else
  (fX5_isWhole M 1 0 (a1 - 1)).bind fun r5 =>
  (fX9_asNumber M (wb r5)).bind fun r7 =>
  some (r7, M)
noncomputable def fX1_touchWith (M : wMem) (k0 : Nat) (a1 : Int32) : Option (wMem) :=
if ((M k0 4) : Int32) = 3 then
  wlet (wup M k0 4 0) fun M10 =>
  some M10
else
  (fX1_isWell M k0).bind fun r3 =>
  if ((wb r3) : Int32) = 0 then
    some M
  else
    (fX1_isLoose M k0).bind fun r6 =>
    if ((wb r6) : Int32) = 0 then
      some M
    else
      if (3 : Int32) < a1 then
        some M
      else
        wlet (wup M k0 4 3) fun M9 =>
        some M9
noncomputable def fX5_touchAt (M : wMem) (k0 : Nat) (a1 : Int32) : Option (wMem) :=
(fX5_has M k0 a1).bind fun r2 =>
if ((wb r2) : Int32) = 0 then
  some M
else
  wgi a1 12 <|
  wgi 3 4 <|
  (fX1_touchWith M ((k0 + 1) + 2 + Int32.toNatClampNeg a1) (M (k0 + 2) (Int32.toNatClampNeg 3))).bind fun M8 =>
  some M8
noncomputable def fX9_touch (M : wMem) (a1 : Int32) : Option (Int32 × wMem) :=
(fX5_has M 1 a1).bind fun r2 =>
if ((wb r2) : Int32) = 0 then
  (fX9_refuse M (-1)).bind <| wpr fun r9 M10 =>
  some (r9, M10)
else
  (fX5_touchAt M 1 a1).bind fun M6 =>
  wgi a1 12 <|
  some ((M6 (2 + 2 + Int32.toNatClampNeg a1) 4), M6)
noncomputable def fX6_weightOf_5_b (M : wMem)  (rec5 : (Int32 × Int32 → Option (Int32))) (ky0 : Nat) (y2 : Int32) (y3 : Int32) (y4 : Int32) : Option (Int32) :=
if (y2 : Int32) < y4 then
  some y3
else
  wgi y4 12 <|
  (fX1_likely M ((ky0 + 1) + 2 + Int32.toNatClampNeg y4)).bind fun r4 =>
  wlet ((y3 + r4) : Int32) fun x5 =>
  wlet (y4 + 1 : Int32) fun x6 =>
  rec5 (x5, x6)
noncomputable def fX6_weightOf_5 (M : wMem)  (ky0 : Nat) (y2 : Int32) (y3 : Int32) (y4 : Int32) : Option (Int32) :=
  wloop (fun rec5 t => fX6_weightOf_5_b M  rec5 ky0 y2 t.1 t.2) wfuel (y3, y4)
noncomputable def fX6_weightOf (M : wMem) (k0 : Nat) (a1 : Int32) (a2 : Int32) : Option (Int32) :=
fX6_weightOf_5 M  k0 a2 0 a1
noncomputable def fX6_costOf (M : wMem) (k1 : Nat) (a2 : Int32) (a3 : Int32) (a4 : Int32) (a5 : Int32) (a6 : Int32) : Option (Int32) :=
wgi a4 12 <|
wlet ((M ((k1 + 1) + 2 + Int32.toNatClampNeg a4) 2) : Int32) fun x2 =>
wgi a2 12 <|
wgi (a4 - 1) 12 <|
wlet ((M (54 + 1 + Int32.toNatClampNeg a2) (Int32.toNatClampNeg (a4 - 1))) : Int32) fun x5 =>
wgi a4 12 <|
wgi a3 12 <|
wlet ((M (54 + 1 + Int32.toNatClampNeg a4) (Int32.toNatClampNeg a3)) : Int32) fun x8 =>
if (a6 : Int32) = 0 then
  some (((x2 * a5) + x5) + x8)
else
  some (x2 + (if (x5 : Int32) < x8 then x8 else x5))
noncomputable def fX6_leastOf_29_b (M : wMem)  (rec29 : (Int32 × Int32 → Option (Int32))) (ky1 : Nat) (y2 : Int32) (y3 : Int32) (y4 : Int32) (y5 : Int32) (y6 : Int32) (y7 : Int32) : Option (Int32) :=
if (y3 : Int32) < y7 then
  some y6
else
  (fX6_costOf M ky1 y2 y3 y7 y5 y4).bind fun r8 =>
  wlet ((if (r8 : Int32) < y6 then r8 else y6) : Int32) fun x9 =>
  wlet (y7 + 1 : Int32) fun x10 =>
  rec29 (x9, x10)
noncomputable def fX6_leastOf_29 (M : wMem)  (ky1 : Nat) (y2 : Int32) (y3 : Int32) (y4 : Int32) (y5 : Int32) (y6 : Int32) (y7 : Int32) : Option (Int32) :=
  wloop (fun rec29 t => fX6_leastOf_29_b M  rec29 ky1 y2 y3 y4 y5 t.1 t.2) wfuel (y6, y7)
noncomputable def fX6_leastOf (M : wMem) (k1 : Nat) (a2 : Int32) (a3 : Int32) (a4 : Int32) : Option (Int32) :=
(fX6_weightOf M k1 a2 a3).bind fun r2 =>
(fX6_costOf M k1 a2 a3 (a2 + 1) r2 a4).bind fun r4 =>
wlet ((a2 + 2) : Int32) fun x5 =>
fX6_leastOf_29 M  k1 a2 a3 a4 r2 r4 x5
noncomputable def fX6_fill_40_b (M : wMem) (rec29 : (Int32 × wMem → Option (wMem))) (rec40 : (Int32 × wMem → Option (wMem))) (ky1 : Nat) (y2 : Int32) (y3 : Int32) (y4 : Int32) (y5 : Int32) (y6 : Int32) : Option (wMem) :=
if (y3 : Int32) < (y6 + y5) then
  wlet (y5 + 1 : Int32) fun x4 =>
  rec29 (x4, M)
else
  wgi y6 12 <|
  (fX6_leastOf M ky1 y6 (y6 + y5) y4).bind fun r7 =>
  wgi (y6 + y5) 12 <|
  wlet (wup M (54 + 1 + Int32.toNatClampNeg y6) (Int32.toNatClampNeg (y6 + y5)) r7) fun M9 =>
  wlet (y6 + 1 : Int32) fun x10 =>
  rec40 (x10, M9)
noncomputable def fX6_fill_40 (M : wMem) (rec29 : (Int32 × wMem → Option (wMem))) (ky1 : Nat) (y2 : Int32) (y3 : Int32) (y4 : Int32) (y5 : Int32) (y6 : Int32) : Option (wMem) :=
  wloop (fun rec40 t => fX6_fill_40_b t.2 rec29 rec40 ky1 y2 y3 y4 y5 t.1) wfuel (y6, M)
noncomputable def fX6_fill_29_b (M : wMem)  (rec29 : (Int32 × wMem → Option (wMem))) (ky1 : Nat) (y2 : Int32) (y3 : Int32) (y4 : Int32) (y5 : Int32) : Option (wMem) :=
if ((y3 - y2) : Int32) < y5 then
  some M
else
  fX6_fill_40 M rec29 ky1 y2 y3 y4 y5 y2
noncomputable def fX6_fill_29 (M : wMem)  (ky1 : Nat) (y2 : Int32) (y3 : Int32) (y4 : Int32) (y5 : Int32) : Option (wMem) :=
  wloop (fun rec29 t => fX6_fill_29_b t.2  rec29 ky1 y2 y3 y4 t.1) wfuel (y5, M)
noncomputable def fX6_fill_3_b (M : wMem)  (rec3 : (Int32 × wMem → Option (wMem))) (ky1 : Nat) (y2 : Int32) (y3 : Int32) (y4 : Int32) (y5 : Int32) : Option (wMem) :=
if (y3 : Int32) < y5 then
  fX6_fill_29 M  ky1 y2 y3 y4 1
else
  wgi y5 12 <|
  wgi y5 12 <|
  wlet (wup M (54 + 1 + Int32.toNatClampNeg y5) (Int32.toNatClampNeg y5) 0) fun M13 =>
  wlet (y5 + 1 : Int32) fun x14 =>
  rec3 (x14, M13)
noncomputable def fX6_fill_3 (M : wMem)  (ky1 : Nat) (y2 : Int32) (y3 : Int32) (y4 : Int32) (y5 : Int32) : Option (wMem) :=
  wloop (fun rec3 t => fX6_fill_3_b t.2  rec3 ky1 y2 y3 y4 t.1) wfuel (y5, M)
noncomputable def fX6_fill (M : wMem) (k1 : Nat) (a2 : Int32) (a3 : Int32) (a4 : Int32) : Option (wMem) :=
fX6_fill_3 M  k1 a2 a3 a4 a2
noncomputable def fX6_leastCost (M : wMem) (k1 : Nat) (a2 : Int32) (a3 : Int32) (a4 : Int32) : Option (Int32 × wMem) :=
(fX5_hasStretch M k1 a2 a3).bind fun r2 =>
if ((wb r2) : Int32) = 0 then
  some (0, M)
else
  (fX6_fill M k1 a2 a3 a4).bind fun M6 =>
  wgi a2 12 <|
  wgi a3 12 <|
  some ((M6 (54 + 1 + Int32.toNatClampNeg a2) (Int32.toNatClampNeg a3)), M6)
noncomputable def fX9_find_34 (M : wMem)  (y1 : Int32) (y2 : Int32) (y3 : Int32) : Option (Int32 × wMem) :=
(fX6_leastCost M 1 y1 y2 y3).bind <| wpr fun r6 M7 =>
some (r6, M7)
noncomputable def fX9_find (M : wMem) (a1 : Int32) (a2 : Int32) (a3 : Int32) : Option (Int32 × wMem) :=
(fX5_hasStretch M 1 a1 a2).bind fun r2 =>
if ((wb r2) : Int32) = 0 then
  (fX9_refuse M (-1)).bind <| wpr fun r13 M14 =>
  some (r13, M14)
else
  if (a3 : Int32) = 0 then
    fX9_find_34 M  a1 a2 a3
  else
    if (a3 : Int32) = 1 then
      fX9_find_34 M  a1 a2 a3
    else
      (fX9_refuse M (-2)).bind <| wpr fun r10 M11 =>
      some (r10, M11)
noncomputable def fX6_bestPlace_24_b (M : wMem)  (rec24 : (Int32 → Option (Int32 × wMem))) (ky1 : Nat) (y2 : Int32) (y3 : Int32) (y4 : Int32) (y5 : Int32) (y6 : Int32) (y7 : Int32) : Option (Int32 × wMem) :=
if (y3 : Int32) < y7 then
  some ((-9), M)
else
  (fX6_costOf M ky1 y2 y3 y7 y6 y4).bind fun r9 =>
  if (r9 : Int32) = y5 then
    some (y7, M)
  else
    wlet (y7 + 1 : Int32) fun x11 =>
    rec24 (x11)
noncomputable def fX6_bestPlace_24 (M : wMem)  (ky1 : Nat) (y2 : Int32) (y3 : Int32) (y4 : Int32) (y5 : Int32) (y6 : Int32) (y7 : Int32) : Option (Int32 × wMem) :=
  wloop (fun rec24 t => fX6_bestPlace_24_b M  rec24 ky1 y2 y3 y4 y5 y6 t) wfuel (y7)
noncomputable def fX6_bestPlace (M : wMem) (k1 : Nat) (a2 : Int32) (a3 : Int32) (a4 : Int32) : Option (Int32 × wMem) :=
(fX6_leastCost M k1 a2 a3 a4).bind <| wpr fun r2 M3 =>
(fX6_weightOf M3 k1 a2 a3).bind fun r5 =>
wlet ((a2 + 1) : Int32) fun x6 =>
fX6_bestPlace_24 M3  k1 a2 a3 a4 r2 r5 x6
noncomputable def fX9_look_34 (M : wMem)  (y1 : Int32) (y2 : Int32) (y3 : Int32) : Option (Int32 × wMem) :=
(fX6_bestPlace M 1 y1 y2 y3).bind <| wpr fun r6 M7 =>
some (r6, M7)
noncomputable def fX9_look (M : wMem) (a1 : Int32) (a2 : Int32) (a3 : Int32) : Option (Int32 × wMem) :=
(fX5_hasStretch M 1 a1 a2).bind fun r2 =>
if ((wb r2) : Int32) = 0 then
  (fX9_refuse M (-1)).bind <| wpr fun r13 M14 =>
  some (r13, M14)
else
  if (a3 : Int32) = 0 then
    fX9_look_34 M  a1 a2 a3
  else
    if (a3 : Int32) = 1 then
      fX9_look_34 M  a1 a2 a3
    else
      (fX9_refuse M (-2)).bind <| wpr fun r10 M11 =>
      some (r10, M11)
noncomputable def fX8_comesFirst (M : wMem) (k0 : Nat) (k1 : Nat) : Option (Bool) :=
(fX1_likely M k1).bind fun r2 =>
(fX1_likely M k0).bind fun r4 =>
if (((M k1 2) * r4) : Int32) ≤ ((M k0 2) * r2) then
  some false
else
  some true
noncomputable def fX8_arrange_61 (M : wMem) (rec2 : (Int32 × wMem → Option (wMem))) (ky1 : Nat) (y2 : Int32) (y3 : Int32) : Option (wMem) :=
wgi y3 12 <|
wlet (wup M 68 (Int32.toNatClampNeg y3) y2) fun M4 =>
wlet (y2 + 1 : Int32) fun x5 =>
rec2 (x5, M4)
noncomputable def fX8_arrange_12_b (M : wMem) (rec2 : (Int32 × wMem → Option (wMem))) (rec12 : (Int32 × wMem → Option (wMem))) (ky1 : Nat) (y2 : Int32) (y3 : Int32) : Option (wMem) :=
if (y3 : Int32) ≤ 0 then
  fX8_arrange_61 M rec2 ky1 y2 y3
else
  wgi y2 12 <|
  wgi (y3 - 1) 12 <|
  wgi (M 68 (Int32.toNatClampNeg (y3 - 1))) 12 <|
  (fX8_comesFirst M ((ky1 + 1) + 2 + Int32.toNatClampNeg y2) ((ky1 + 1) + 2 + Int32.toNatClampNeg (M 68 (Int32.toNatClampNeg (y3 - 1))))).bind fun r10 =>
  if ((wb r10) : Int32) = 0 then
    fX8_arrange_61 M rec2 ky1 y2 y3
  else
    wgi (y3 - 1) 12 <|
    wgi y3 12 <|
    wlet (wup M 68 (Int32.toNatClampNeg y3) (M 68 (Int32.toNatClampNeg (y3 - 1)))) fun M14 =>
    wlet (y3 + (-1) : Int32) fun x15 =>
    rec12 (x15, M14)
noncomputable def fX8_arrange_12 (M : wMem) (rec2 : (Int32 × wMem → Option (wMem))) (ky1 : Nat) (y2 : Int32) (y3 : Int32) : Option (wMem) :=
  wloop (fun rec12 t => fX8_arrange_12_b t.2 rec2 rec12 ky1 y2 t.1) wfuel (y3, M)
noncomputable def fX8_arrange_2_b (M : wMem)  (rec2 : (Int32 × wMem → Option (wMem))) (ky1 : Nat) (y2 : Int32) : Option (wMem) :=
if ((M ky1 2) : Int32) ≤ y2 then
  some M
else
  fX8_arrange_12 M rec2 ky1 y2 y2
noncomputable def fX8_arrange_2 (M : wMem)  (ky1 : Nat) (y2 : Int32) : Option (wMem) :=
  wloop (fun rec2 t => fX8_arrange_2_b t.2  rec2 ky1 t.1) wfuel (y2, M)
noncomputable def fX8_arrange (M : wMem) (k1 : Nat) : Option (wMem) :=
fX8_arrange_2 M  k1 0
noncomputable def fX9_order (M : wMem) (a1 : Int32) : Option (Int32 × wMem) :=
if (0 : Int32) ≤ a1 then
  (fX5_has M 1 a1).bind fun r3 =>
  if ((wb r3) : Int32) = 0 then
    some ((-9), M)
  else
    (fX8_arrange M 1).bind fun M7 =>
    wgi a1 12 <|
    some ((M7 68 (Int32.toNatClampNeg a1)), M7)
else
  (fX9_refuse M (-4)).bind <| wpr fun r10 M11 =>
  some (r10, M11)
noncomputable def fX8_cost_7_b (M : wMem)  (rec7 : (Int32 × Int32 × Int32 → Option (Int32))) (ky1 : Nat) (y2 : Int32) (y3 : Int32) (y4 : Int32) : Option (Int32) :=
if ((M ky1 2) : Int32) ≤ y4 then
  some y3
else
  wgi y4 12 <|
  wgi (M 68 (Int32.toNatClampNeg y4)) 12 <|
  wlet ((y2 + (M ((ky1 + 1) + 2 + Int32.toNatClampNeg (M 68 (Int32.toNatClampNeg y4))) 2)) : Int32) fun x4 =>
  (fX1_likely M ((ky1 + 1) + 2 + Int32.toNatClampNeg (M 68 (Int32.toNatClampNeg y4)))).bind fun r6 =>
  wlet ((y3 + (r6 * x4)) : Int32) fun x7 =>
  wlet (y4 + 1 : Int32) fun x8 =>
  rec7 (x4, x7, x8)
noncomputable def fX8_cost_7 (M : wMem)  (ky1 : Nat) (y2 : Int32) (y3 : Int32) (y4 : Int32) : Option (Int32) :=
  wloop (fun rec7 t => fX8_cost_7_b M  rec7 ky1 t.1 t.2.1 t.2.2) wfuel (y2, y3, y4)
noncomputable def fX8_cost (M : wMem) (k1 : Nat) : Option (Int32) :=
fX8_cost_7 M  k1 0 0 0
noncomputable def fX9_orderSum (M : wMem)  : Option (Int32 × wMem) :=
if ((M 1 2) : Int32) = 0 then
  (fX9_refuse M (-3)).bind <| wpr fun r8 M9 =>
  some (r8, M9)
else
  (fX8_arrange M 1).bind fun M4 =>
  (fX8_cost M4 1).bind fun r6 =>
  some (r6, M4)
noncomputable def fX3_add (M : wMem) (a1 : Int32) (a2 : Int32) : Option (wMem) :=
if (6 : Int32) ≤ (M 50 2) then
  some M
else
  wgi (M 50 2) 6 <|
  wlet (wup M 51 (Int32.toNatClampNeg (M 50 2)) a1) fun M3 =>
  wgi (M3 50 2) 6 <|
  wlet (wup M3 52 (Int32.toNatClampNeg (M3 50 2)) a2) fun M5 =>
  wlet (wup M5 50 2 ((M5 50 2) + 1)) fun M6 =>
  some M6
noncomputable def fX9_told_33 (M : wMem)  (y1 : Int32) (y2 : Int32) : Option (Int32 × wMem) :=
if ((M 50 2) : Int32) < 6 then
  (fX3_add M y1 y2).bind fun M8 =>
  some ((M8 50 2), M8)
else
  (fX9_refuse M (-6)).bind <| wpr fun r10 M11 =>
  some (r10, M11)
noncomputable def fX9_told (M : wMem) (a1 : Int32) (a2 : Int32) : Option (Int32 × wMem) :=
(fX5_has M 1 a1).bind fun r2 =>
if ((wb r2) : Int32) = 0 then
  (fX9_refuse M (-1)).bind <| wpr fun r17 M18 =>
  some (r17, M18)
else
  if (a2 : Int32) = 0 then
    fX9_told_33 M  a1 a2
  else
    if (a2 : Int32) = 1 then
      fX9_told_33 M  a1 a2
    else
      (fX9_refuse M (-2)).bind <| wpr fun r14 M15 =>
      some (r14, M15)
noncomputable def fX3_leftAfter_58 (M : wMem) (rec9 : (Int32 × Int32 → Option (Int32))) (y1 : Int32) (y4 : Int32) (z0 : Int32) (z1 : Int32) : Option (Int32) :=
wlet ((z0 &&& z1) : Int32) fun x8 =>
wlet (y4 + 1 : Int32) fun x9 =>
rec9 (x8, x9)
noncomputable def fX3_leftAfter_9_b (M : wMem)  (rec9 : (Int32 × Int32 → Option (Int32))) (y1 : Int32) (y3 : Int32) (y4 : Int32) : Option (Int32) :=
if (y1 : Int32) ≤ y4 then
  some y3
else
  if ((M 50 2) : Int32) ≤ y4 then
    some y3
  else
    wgi y4 6 <|
    wlet ((((1 : Int32) <<< ((M 51 (Int32.toNatClampNeg y4)) &&& 31)) - 1) : Int32) fun x5 =>
    wgi y4 6 <|
    if ((M 52 (Int32.toNatClampNeg y4)) : Int32) = 1 then
      fX3_leftAfter_58 M rec9 y1 y4 y3 (x5 ^^^ (-1))
    else
      fX3_leftAfter_58 M rec9 y1 y4 y3 x5
noncomputable def fX3_leftAfter_9 (M : wMem)  (y1 : Int32) (y3 : Int32) (y4 : Int32) : Option (Int32) :=
  wloop (fun rec9 t => fX3_leftAfter_9_b M  rec9 y1 t.1 t.2) wfuel (y3, y4)
noncomputable def fX3_leftAfter (M : wMem) (a1 : Int32) (a2 : Int32) : Option (Int32) :=
wlet ((((1 : Int32) <<< (a2 &&& 31)) - 1) : Int32) fun x1 =>
fX3_leftAfter_9 M  a1 x1 0
noncomputable def fX9_openTo (M : wMem)  : Option (Int32) :=
(fX3_leftAfter M (M 50 2) (M 1 2)).bind fun r2 =>
some r2
noncomputable def fX3_firstThatLeavesNone_2_b (M : wMem)  (rec2 : (Int32 → Option (Int32))) (y1 : Int32) (y2 : Int32) : Option (Int32) :=
if ((M 50 2) : Int32) ≤ y2 then
  some (-9)
else
  (fX3_leftAfter M (y2 + 1) y1).bind fun r3 =>
  if (r3 : Int32) = 0 then
    some y2
  else
    wlet (y2 + 1 : Int32) fun x5 =>
    rec2 (x5)
noncomputable def fX3_firstThatLeavesNone_2 (M : wMem)  (y1 : Int32) (y2 : Int32) : Option (Int32) :=
  wloop (fun rec2 t => fX3_firstThatLeavesNone_2_b M  rec2 y1 t) wfuel (y2)
noncomputable def fX3_firstThatLeavesNone (M : wMem) (a1 : Int32) : Option (Int32) :=
fX3_firstThatLeavesNone_2 M  a1 0
noncomputable def fX9_judge (M : wMem)  : Option (Int32 × wMem) :=
(fX3_firstThatLeavesNone M (M 1 2)).bind fun r2 =>
wlet (wup M 50 2 0) fun M3 =>
some (r2, M3)
noncomputable def fX4_hoursTillDark_8_b (M : wMem)  (rec8 : (Int32 × wMem → Option (Int32 × wMem))) (y2 : Int32) : Option (Int32 × wMem) :=
if (400 : Int32) < y2 then
  some ((-9), M)
else
  (fX5_isLive M 32).bind fun r6 =>
  if ((wb r6) : Int32) = 0 then
    some (y2, M)
  else
    (fX5_passHour M 32).bind <| wpr fun r9 M10 =>
    wlet (y2 + 1 : Int32) fun x11 =>
    rec8 (x11, M10)
noncomputable def fX4_hoursTillDark_8 (M : wMem)  (y2 : Int32) : Option (Int32 × wMem) :=
  wloop (fun rec8 t => fX4_hoursTillDark_8_b t.2  rec8 t.1) wfuel (y2, M)
noncomputable def fX4_hoursTillDark (M : wMem) (k1 : Nat) : Option (Int32 × wMem) :=
(fX4_startFrom M k1).bind fun M3 =>
fX4_hoursTillDark_8 M3  0
noncomputable def fX9_lasts (M : wMem)  : Option (Int32 × wMem) :=
(fX4_hoursTillDark M 1).bind <| wpr fun r2 M3 =>
some (r2, M3)
noncomputable def fX4_firstGone_42 (M : wMem) (rec2 : (Int32 → Option (Int32))) (ky1 : Nat) (y2 : Int32) : Option (Int32) :=
wlet (y2 + 1 : Int32) fun x6 =>
rec2 (x6)
noncomputable def fX4_firstGone_2_b (M : wMem)  (rec2 : (Int32 → Option (Int32))) (ky1 : Nat) (y2 : Int32) : Option (Int32) :=
if ((M 32 2) : Int32) ≤ y2 then
  some (-9)
else
  wgi y2 12 <|
  (fX1_isWell M ((ky1 + 1) + 2 + Int32.toNatClampNeg y2)).bind fun r4 =>
  if ((wb r4) : Int32) = 0 then
    fX4_firstGone_42 M rec2 ky1 y2
  else
    wgi y2 12 <|
    (fX1_isWell M (33 + 2 + Int32.toNatClampNeg y2)).bind fun r9 =>
    if ((wb r9) : Int32) = 0 then
      some y2
    else
      fX4_firstGone_42 M rec2 ky1 y2
noncomputable def fX4_firstGone_2 (M : wMem)  (ky1 : Nat) (y2 : Int32) : Option (Int32) :=
  wloop (fun rec2 t => fX4_firstGone_2_b M  rec2 ky1 t) wfuel (y2)
noncomputable def fX4_firstGone (M : wMem) (k1 : Nat) : Option (Int32) :=
fX4_firstGone_2 M  k1 0
noncomputable def fX4_firstToGo_8_b (M : wMem)  (rec8 : (Int32 × wMem → Option (Int32 × wMem))) (ky1 : Nat) (y2 : Int32) (y3 : Int32) : Option (Int32 × wMem) :=
if (400 : Int32) < y3 then
  some ((-9), M)
else
  (fX5_passHour M 32).bind <| wpr fun r6 M7 =>
  (fX4_firstGone M7 ky1).bind fun r9 =>
  if (r9 : Int32) < 0 then
    wlet (y3 + 1 : Int32) fun x11 =>
    rec8 (x11, M7)
  else
    if (y2 : Int32) = 0 then
      some (y3, M7)
    else
      some (r9, M7)
noncomputable def fX4_firstToGo_8 (M : wMem)  (ky1 : Nat) (y2 : Int32) (y3 : Int32) : Option (Int32 × wMem) :=
  wloop (fun rec8 t => fX4_firstToGo_8_b t.2  rec8 ky1 y2 t.1) wfuel (y3, M)
noncomputable def fX4_firstToGo (M : wMem) (k1 : Nat) (a2 : Int32) : Option (Int32 × wMem) :=
(fX4_startFrom M k1).bind fun M3 =>
fX4_firstToGo_8 M3  k1 a2 1
noncomputable def fX9_next_33 (M : wMem)  (z2 : Int32) : Option (Int32 × wMem) :=
(fX4_firstToGo M 1 z2).bind <| wpr fun r4 M5 =>
some (r4, M5)
noncomputable def fX9_next_16 (M : wMem)  (y1 : Int32) : Option (Int32 × wMem) :=
if (y1 : Int32) = 0 then
  fX9_next_33 M  1
else
  fX9_next_33 M  0
noncomputable def fX9_next (M : wMem) (a1 : Int32) : Option (Int32 × wMem) :=
if (a1 : Int32) = 0 then
  fX9_next_16 M  a1
else
  if (a1 : Int32) = 1 then
    fX9_next_16 M  a1
  else
    (fX9_refuse M (-2)).bind <| wpr fun r8 M9 =>
    some (r8, M9)
noncomputable def fX5_howMany_28 (M : wMem) (rec4 : (Int32 × Int32 → Option (Int32))) (ky0 : Nat) (y1 : Int32) (y2 : Int32) (y3 : Int32) : Option (Int32) :=
wlet (y3 + 1 : Int32) fun x4 =>
rec4 (y2, x4)
noncomputable def fX5_howMany_4_b (M : wMem)  (rec4 : (Int32 × Int32 → Option (Int32))) (ky0 : Nat) (y1 : Int32) (y2 : Int32) (y3 : Int32) : Option (Int32) :=
if ((M ky0 2) : Int32) ≤ y3 then
  some y2
else
  wgi y3 12 <|
  if ((M ((ky0 + 1) + 2 + Int32.toNatClampNeg y3) 4) : Int32) = y1 then
    wlet (y2 + 1 : Int32) fun x5 =>
    fX5_howMany_28 M rec4 ky0 y1 x5 y3
  else
    fX5_howMany_28 M rec4 ky0 y1 y2 y3
noncomputable def fX5_howMany_4 (M : wMem)  (ky0 : Nat) (y1 : Int32) (y2 : Int32) (y3 : Int32) : Option (Int32) :=
  wloop (fun rec4 t => fX5_howMany_4_b M  rec4 ky0 y1 t.1 t.2) wfuel (y2, y3)
noncomputable def fX5_howMany (M : wMem) (k0 : Nat) (a1 : Int32) : Option (Int32) :=
fX5_howMany_4 M  k0 a1 0 0
noncomputable def fX4_hoursTillBridged_8_b (M : wMem)  (rec8 : (Int32 × wMem → Option (Int32 × wMem))) (y2 : Int32) (y3 : Int32) : Option (Int32 × wMem) :=
if (400 : Int32) < y3 then
  some ((-9), M)
else
  (fX5_howMany M 32 2).bind fun r6 =>
  if (r6 : Int32) < y2 then
    (fX5_passHour M 32).bind <| wpr fun r9 M10 =>
    wlet (y3 + 1 : Int32) fun x11 =>
    rec8 (x11, M10)
  else
    some (y3, M)
noncomputable def fX4_hoursTillBridged_8 (M : wMem)  (y2 : Int32) (y3 : Int32) : Option (Int32 × wMem) :=
  wloop (fun rec8 t => fX4_hoursTillBridged_8_b t.2  rec8 y2 t.1) wfuel (y3, M)
noncomputable def fX4_hoursTillBridged (M : wMem) (k1 : Nat) (a2 : Int32) : Option (Int32 × wMem) :=
(fX4_startFrom M k1).bind fun M3 =>
fX4_hoursTillBridged_8 M3  a2 0
noncomputable def fX9_bridged (M : wMem) (a1 : Int32) : Option (Int32 × wMem) :=
if (0 : Int32) ≤ a1 then
  if (a1 : Int32) ≤ 12 then
    (fX4_hoursTillBridged M 1 a1).bind <| wpr fun r4 M5 =>
    some (r4, M5)
  else
    (fX9_refuse M (-6)).bind <| wpr fun r7 M8 =>
    some (r7, M8)
else
  (fX9_refuse M (-4)).bind <| wpr fun r10 M11 =>
  some (r10, M11)
noncomputable def fX5_bridgedAboveLimit_2_b (M : wMem)  (rec2 : (Int32 → Option (Int32))) (ky0 : Nat) (y1 : Int32) : Option (Int32) :=
if ((M ky0 2) : Int32) ≤ y1 then
  some (-9)
else
  (fX5_flowThrough M ky0 (10 * ((M ky0 2) - y1))).bind fun r3 =>
  wgi 2 4 <|
  if (r3 : Int32) ≤ (M (ky0 + 2) (Int32.toNatClampNeg 2)) then
    wlet (y1 + 1 : Int32) fun x6 =>
    rec2 (x6)
  else
    some y1
noncomputable def fX5_bridgedAboveLimit_2 (M : wMem)  (ky0 : Nat) (y1 : Int32) : Option (Int32) :=
  wloop (fun rec2 t => fX5_bridgedAboveLimit_2_b M  rec2 ky0 t) wfuel (y1)
noncomputable def fX5_bridgedAboveLimit (M : wMem) (k0 : Nat) : Option (Int32) :=
fX5_bridgedAboveLimit_2 M  k0 0
noncomputable def fX9_stop (M : wMem)  : Option (Int32 × wMem) :=
if ((M 1 2) : Int32) = 0 then
  (fX9_refuse M (-3)).bind <| wpr fun r5 M6 =>
  some (r5, M6)
else
  (fX5_bridgedAboveLimit M 1).bind fun r3 =>
  some (r3, M)
noncomputable def fX5_allBright_9_b (M : wMem)  (rec9 : (Int32 × Int32 → Option (Int32))) (ky0 : Nat) (y1 : Int32) (y2 : Int32) (y3 : Int32) : Option (Int32) :=
if ((M ky0 2) : Int32) ≤ y3 then
  some y2
else
  wgi y3 12 <|
  (fX1_brightAt M ((ky0 + 1) + 2 + Int32.toNatClampNeg y3) y1).bind fun r6 =>
  wlet ((y2 + r6) : Int32) fun x7 =>
  wlet (y3 + 1 : Int32) fun x8 =>
  rec9 (x7, x8)
noncomputable def fX5_allBright_9 (M : wMem)  (ky0 : Nat) (y1 : Int32) (y2 : Int32) (y3 : Int32) : Option (Int32) :=
  wloop (fun rec9 t => fX5_allBright_9_b M  rec9 ky0 y1 t.1 t.2) wfuel (y2, y3)
noncomputable def fX5_allBright (M : wMem) (k0 : Nat) : Option (Int32) :=
(fX5_flowNow M k0).bind fun r2 =>
fX5_allBright_9 M  k0 r2 0 0
noncomputable def fX4_lightOf_11_b (M : wMem)  (rec11 : (Int32 × Int32 × wMem → Option (Int32 × wMem))) (y2 : Int32) (y3 : Int32) (y4 : Int32) : Option (Int32 × wMem) :=
if (y2 : Int32) ≤ y4 then
  some (y3, M)
else
  (fX5_allBright M 32).bind fun r6 =>
  wlet ((y3 + r6) : Int32) fun x7 =>
  (fX5_passHour M 32).bind <| wpr fun r9 M10 =>
  wlet (y4 + 1 : Int32) fun x11 =>
  rec11 (x7, x11, M10)
noncomputable def fX4_lightOf_11 (M : wMem)  (y2 : Int32) (y3 : Int32) (y4 : Int32) : Option (Int32 × wMem) :=
  wloop (fun rec11 t => fX4_lightOf_11_b t.2.2  rec11 y2 t.1 t.2.1) wfuel (y3, y4, M)
noncomputable def fX4_lightOf (M : wMem) (k1 : Nat) (a2 : Int32) : Option (Int32 × wMem) :=
(fX4_startFrom M k1).bind fun M3 =>
fX4_lightOf_11 M3  a2 0 0
noncomputable def fX9_light (M : wMem) (a1 : Int32) : Option (Int32 × wMem) :=
if (0 : Int32) ≤ a1 then
  if (a1 : Int32) ≤ 200 then
    (fX4_lightOf M 1 a1).bind <| wpr fun r4 M5 =>
    some (r4, M5)
  else
    (fX9_refuse M (-6)).bind <| wpr fun r7 M8 =>
    some (r7, M8)
else
  (fX9_refuse M (-4)).bind <| wpr fun r10 M11 =>
  some (r10, M11)
noncomputable def fX5_mendAll_36 (M : wMem) (rec4 : (Int32 × Int32 × wMem → Option (Int32 × wMem))) (ky0 : Nat) (y1 : Int32) (y2 : Int32) : Option (Int32 × wMem) :=
wlet (y2 + 1 : Int32) fun x6 =>
rec4 (y1, x6, M)
noncomputable def fX5_mendAll_4_b (M : wMem)  (rec4 : (Int32 × Int32 × wMem → Option (Int32 × wMem))) (ky0 : Nat) (y1 : Int32) (y2 : Int32) : Option (Int32 × wMem) :=
if ((M ky0 2) : Int32) ≤ y2 then
  some (y1, M)
else
  wgi y2 12 <|
  (fX1_isWell M ((ky0 + 1) + 2 + Int32.toNatClampNeg y2)).bind fun r4 =>
  if ((wb r4) : Int32) = 0 then
    wgi y2 12 <|
    (fX1_putAnew M ((ky0 + 1) + 2 + Int32.toNatClampNeg y2)).bind fun M10 =>
    wlet (y1 + 1 : Int32) fun x11 =>
    fX5_mendAll_36 M10 rec4 ky0 x11 y2
  else
    fX5_mendAll_36 M rec4 ky0 y1 y2
noncomputable def fX5_mendAll_4 (M : wMem)  (ky0 : Nat) (y1 : Int32) (y2 : Int32) : Option (Int32 × wMem) :=
  wloop (fun rec4 t => fX5_mendAll_4_b t.2.2  rec4 ky0 t.1 t.2.1) wfuel (y1, y2, M)
noncomputable def fX5_mendAll (M : wMem) (k0 : Nat) : Option (Int32 × wMem) :=
fX5_mendAll_4 M  k0 0 0
noncomputable def fX4_sparesTaken_11_b (M : wMem)  (rec11 : (Int32 × Int32 × wMem → Option (Int32 × wMem))) (y2 : Int32) (y3 : Int32) (y4 : Int32) : Option (Int32 × wMem) :=
if (y2 : Int32) ≤ y4 then
  some (y3, M)
else
  (fX5_mendAll M 32).bind <| wpr fun r6 M7 =>
  wlet ((y3 + r6) : Int32) fun x8 =>
  (fX5_passHour M7 32).bind <| wpr fun r10 M11 =>
  wlet (y4 + 1 : Int32) fun x12 =>
  rec11 (x8, x12, M11)
noncomputable def fX4_sparesTaken_11 (M : wMem)  (y2 : Int32) (y3 : Int32) (y4 : Int32) : Option (Int32 × wMem) :=
  wloop (fun rec11 t => fX4_sparesTaken_11_b t.2.2  rec11 y2 t.1 t.2.1) wfuel (y3, y4, M)
noncomputable def fX4_sparesTaken (M : wMem) (k1 : Nat) (a2 : Int32) : Option (Int32 × wMem) :=
(fX4_startFrom M k1).bind fun M3 =>
fX4_sparesTaken_11 M3  a2 0 0
noncomputable def fX9_keeps (M : wMem) (a1 : Int32) : Option (Int32 × wMem) :=
if (1 : Int32) ≤ a1 then
  if (a1 : Int32) ≤ 200 then
    (fX4_sparesTaken M 1 a1).bind <| wpr fun r4 M5 =>
    some (r4, M5)
  else
    (fX9_refuse M (-6)).bind <| wpr fun r7 M8 =>
    some (r7, M8)
else
  (fX9_refuse M (-4)).bind <| wpr fun r10 M11 =>
  some (r10, M11)
noncomputable def fX5_putAllAnew_2_b (M : wMem)  (rec2 : (Int32 × wMem → Option (wMem))) (ky0 : Nat) (y1 : Int32) : Option (wMem) :=
if ((M ky0 2) : Int32) ≤ y1 then
  some M
else
  wgi y1 12 <|
  (fX1_putAnew M ((ky0 + 1) + 2 + Int32.toNatClampNeg y1)).bind fun M5 =>
  wlet (y1 + 1 : Int32) fun x6 =>
  rec2 (x6, M5)
noncomputable def fX5_putAllAnew_2 (M : wMem)  (ky0 : Nat) (y1 : Int32) : Option (wMem) :=
  wloop (fun rec2 t => fX5_putAllAnew_2_b t.2  rec2 ky0 t.1) wfuel (y1, M)
noncomputable def fX5_putAllAnew (M : wMem) (k0 : Nat) : Option (wMem) :=
fX5_putAllAnew_2 M  k0 0
noncomputable def fX4_staysLive_23 (M : wMem) (rec4 : (Int32 × Int32 × wMem → Option (Bool × wMem))) (y1 : Int32) (y2 : Int32) (y3 : Int32) : Option (Bool × wMem) :=
(fX5_isLive M 32).bind fun r4 =>
if ((wb r4) : Int32) = 0 then
  some (false, M)
else
  (fX5_passHour M 32).bind <| wpr fun r7 M8 =>
  wlet (y2 + (-1) : Int32) fun x9 =>
  wlet (y3 + 1 : Int32) fun x10 =>
  rec4 (x9, x10, M8)
noncomputable def fX4_staysLive_4_b (M : wMem)  (rec4 : (Int32 × Int32 × wMem → Option (Bool × wMem))) (y1 : Int32) (y2 : Int32) (y3 : Int32) : Option (Bool × wMem) :=
if (60 : Int32) ≤ y3 then
  some (true, M)
else
  if (y2 : Int32) = 0 then
    (fX5_putAllAnew M 32).bind fun M13 =>
    fX4_staysLive_23 M13 rec4 y1 y1 y3
  else
    fX4_staysLive_23 M rec4 y1 y2 y3
noncomputable def fX4_staysLive_4 (M : wMem)  (y1 : Int32) (y2 : Int32) (y3 : Int32) : Option (Bool × wMem) :=
  wloop (fun rec4 t => fX4_staysLive_4_b t.2.2  rec4 y1 t.1 t.2.1) wfuel (y2, y3, M)
noncomputable def fX4_staysLive (M : wMem) (a1 : Int32) : Option (Bool × wMem) :=
fX4_staysLive_4 M  a1 0 0
noncomputable def fX4_greatestAnew_3_b (M : wMem)  (rec3 : (Int32 × wMem → Option (Int32 × wMem))) (ky1 : Nat) (y2 : Int32) : Option (Int32 × wMem) :=
if (y2 : Int32) < 1 then
  some ((-9), M)
else
  (fX4_startFrom M ky1).bind fun M4 =>
  (fX4_staysLive M4 y2).bind <| wpr fun r6 M7 =>
  if ((wb r6) : Int32) = 0 then
    wlet (y2 + (-1) : Int32) fun x9 =>
    rec3 (x9, M7)
  else
    some (y2, M7)
noncomputable def fX4_greatestAnew_3 (M : wMem)  (ky1 : Nat) (y2 : Int32) : Option (Int32 × wMem) :=
  wloop (fun rec3 t => fX4_greatestAnew_3_b t.2  rec3 ky1 t.1) wfuel (y2, M)
noncomputable def fX4_greatestAnew (M : wMem) (k1 : Nat) : Option (Int32 × wMem) :=
fX4_greatestAnew_3 M  k1 50
noncomputable def fX9_allAnew (M : wMem)  : Option (Int32 × wMem) :=
if ((M 1 2) : Int32) = 0 then
  (fX9_refuse M (-3)).bind <| wpr fun r6 M7 =>
  some (r6, M7)
else
  (fX4_greatestAnew M 1).bind <| wpr fun r3 M4 =>
  some (r3, M4)
noncomputable def fX5_stringsWithinLimit (M : wMem) (k0 : Nat) : Option (Int32) :=
(fX5_isLive M k0).bind fun r2 =>
if ((wb r2) : Int32) = 0 then
  some 0
else
  wgi 2 4 <|
  (fX5_flowNow M k0).bind fun r6 =>
  wgz 10 <|
  wgz (if (1 : Int32) < (r6 / 10) then (r6 / 10) else 1) <|
  some ((M (k0 + 2) (Int32.toNatClampNeg 2)) / (if (1 : Int32) < (r6 / 10) then (r6 / 10) else 1))
noncomputable def fX9_joined (M : wMem)  : Option (Int32) :=
(fX5_stringsWithinLimit M 1).bind fun r2 =>
some r2
noncomputable def fX0_greatestShared_9_b (M : wMem)  (rec9 : (Int64 × Int64 × Int32 → Option (Int64))) (y4 : Int64) (y6 : Int64) (y8 : Int32) : Option (Int64) :=
if (1000 : Int32) ≤ y8 then
  some y4
else
  if ((lg_cmp y6 (0 : Int64)) : Int32) = 0 then
    some y4
  else
    wgzl y6 <|
    wlet ((y4 - y4 / y6 * y6) : Int64) fun x4 =>
    wlet (y8 + 1 : Int32) fun x5 =>
    rec9 (y6, x4, x5)
noncomputable def fX0_greatestShared_9 (M : wMem)  (y4 : Int64) (y6 : Int64) (y8 : Int32) : Option (Int64) :=
  wloop (fun rec9 t => fX0_greatestShared_9_b M  rec9 t.1 t.2.1 t.2.2) wfuel (y4, y6, y8)
noncomputable def fX0_greatestShared (M : wMem) (a0 : Int64) (a2 : Int64) : Option (Int64) :=
fX0_greatestShared_9 M  a0 a2 0
noncomputable def fX0_ofTwo_85 (M : wMem)  (y1 : Int32) (y2 : Int64) (y4 : Int64) (y6 : Int64) : Option (Int64) :=
wlet ((y2 - y4) : Int64) fun x5 =>
wlet ((x5 - y6) : Int64) fun x6 =>
(fX0_greatestShared M x5 x6).bind fun r8 =>
if (0 : Int32) < (lg_cmp r8 (0 : Int64)) then
  if (y1 : Int32) = 0 then
    wgzl r8 <|
    some (x5 / r8)
  else
    wgzl r8 <|
    some (x6 / r8)
else
  some (0 : Int64)
noncomputable def fX0_ofTwo_11_b (M : wMem)  (rec11 : (Int64 × Int64 × Int64 × Int32 → Option (Int64))) (ky0 : Nat) (y1 : Int32) (y2 : Int64) (y4 : Int64) (y6 : Int64) (y8 : Int32) : Option (Int64) :=
if ((M ky0 2) : Int32) ≤ y8 then
  fX0_ofTwo_85 M  y1 y2 y4 y6
else
  if (8 : Int32) ≤ y8 then
    fX0_ofTwo_85 M  y1 y2 y4 y6
  else
    wgi y8 12 <|
    (fX1_likely M ((ky0 + 1) + 2 + Int32.toNatClampNeg y8)).bind fun r16 =>
    wlet ((Int32.toInt64 (if (r16 : Int32) < 99 then r16 else 99)) : Int64) fun x17 =>
    wlet ((y2 * (100 : Int64)) : Int64) fun x18 =>
    wlet (((y6 * ((100 : Int64) - x17)) + (y4 * x17)) : Int64) fun x19 =>
    wlet ((y4 * ((100 : Int64) - x17)) : Int64) fun x20 =>
    wlet (y8 + 1 : Int32) fun x21 =>
    rec11 (x18, x20, x19, x21)
noncomputable def fX0_ofTwo_11 (M : wMem)  (ky0 : Nat) (y1 : Int32) (y2 : Int64) (y4 : Int64) (y6 : Int64) (y8 : Int32) : Option (Int64) :=
  wloop (fun rec11 t => fX0_ofTwo_11_b M  rec11 ky0 y1 t.1 t.2.1 t.2.2.1 t.2.2.2) wfuel (y2, y4, y6, y8)
noncomputable def fX0_ofTwo (M : wMem) (k0 : Nat) (a1 : Int32) : Option (Int64) :=
wlet ((1 : Int64) : Int64) fun x1 =>
wlet ((1 : Int64) : Int64) fun x2 =>
wlet ((0 : Int64) : Int64) fun x3 =>
fX0_ofTwo_11 M  k0 a1 x1 x2 x3 0
noncomputable def fX9_two_80 (M : wMem)  (z1 : Int32) : Option (Int64 × wMem) :=
(fX0_ofTwo M 1 z1).bind fun r6 =>
some (r6, M)
noncomputable def fX9_two_21 (M : wMem)  (y1 : Int32) : Option (Int64 × wMem) :=
if ((M 1 2) : Int32) = 0 then
  (fX9_refuse M (-3)).bind <| wpr fun r11 M12 =>
  some (((4000000000000000000 : Int64) - (Int32.toInt64 r11)), M12)
else
  if ((M 1 2) : Int32) ≤ 8 then
    if (y1 : Int32) = 0 then
      fX9_two_80 M  1
    else
      fX9_two_80 M  0
  else
    (fX9_refuse M (-6)).bind <| wpr fun r8 M9 =>
    some (((4000000000000000000 : Int64) - (Int32.toInt64 r8)), M9)
noncomputable def fX9_two (M : wMem) (a1 : Int32) : Option (Int64 × wMem) :=
if (a1 : Int32) = 0 then
  fX9_two_21 M  a1
else
  if (a1 : Int32) = 1 then
    fX9_two_21 M  a1
  else
    (fX9_refuse M (-2)).bind <| wpr fun r15 M16 =>
    some (((4000000000000000000 : Int64) - (Int32.toInt64 r15)), M16)
noncomputable def fX4_drawBelow (M : wMem) (a0 : Int32) (a1 : Int32) : Option (Int32) :=
if (0 : Int32) < a1 then
  wgz 65536 <|
  wgz a1 <|
  some (((a0 &&& 2147483647) / 65536) - ((a0 &&& 2147483647) / 65536) / a1 * a1)
else
  some 0
noncomputable def fX4_wellAfterTouches_12_b (M : wMem)  (rec12 : (Int32 × Int32 × wMem → Option (Int32 × wMem))) (y2 : Int32) (y4 : Int32) (y5 : Int32) : Option (Int32 × wMem) :=
if (y2 : Int32) ≤ y5 then
  (fX5_howMany M 32 0).bind fun r6 =>
  some (r6, M)
else
  wlet (((y4 * 1103515245) + 12345) : Int32) fun x7 =>
  (fX4_drawBelow M x7 (M 32 2)).bind fun r9 =>
  (fX5_touchAt M 32 r9).bind fun M12 =>
  (fX5_passHour M12 32).bind <| wpr fun r14 M15 =>
  wlet (y5 + 1 : Int32) fun x16 =>
  rec12 (x7, x16, M15)
noncomputable def fX4_wellAfterTouches_12 (M : wMem)  (y2 : Int32) (y4 : Int32) (y5 : Int32) : Option (Int32 × wMem) :=
  wloop (fun rec12 t => fX4_wellAfterTouches_12_b t.2.2  rec12 y2 t.1 t.2.1) wfuel (y4, y5, M)
noncomputable def fX4_wellAfterTouches (M : wMem) (k1 : Nat) (a2 : Int32) (a3 : Int32) : Option (Int32 × wMem) :=
(fX4_startFrom M k1).bind fun M3 =>
fX4_wellAfterTouches_12 M3  a2 a3 0
noncomputable def fX9_seeds (M : wMem) (a1 : Int32) (a2 : Int32) : Option (Int32 × wMem) :=
if (1 : Int32) ≤ a1 then
  if (a1 : Int32) ≤ 50 then
    if ((M 1 2) : Int32) = 0 then
      (fX9_refuse M (-3)).bind <| wpr fun r8 M9 =>
      some (r8, M9)
    else
      (fX4_wellAfterTouches M 1 a1 a2).bind <| wpr fun r5 M6 =>
      some (r5, M6)
  else
    (fX9_refuse M (-6)).bind <| wpr fun r11 M12 =>
    some (r11, M12)
else
  (fX9_refuse M (-4)).bind <| wpr fun r14 M15 =>
  some (r14, M15)
noncomputable def fX9_image (M : wMem)  : Option (Int32 × wMem) :=
(fX5_copyFrom M 16 1).bind fun M3 =>
wlet (wup M3 0 9 1) fun M4 =>
some ((M4 1 3), M4)
noncomputable def fX9_restore (M : wMem)  : Option (Int32 × wMem) :=
if ((M 0 9) : Int32) = 0 then
  (fX9_refuse M (-3)).bind <| wpr fun r6 M7 =>
  some (r6, M7)
else
  (fX5_copyFrom M 1 16).bind fun M4 =>
  some ((M4 1 3), M4)
noncomputable def fX5_allHurt_4_b (M : wMem)  (rec4 : (Int32 × Int32 → Option (Int32))) (ky0 : Nat) (y1 : Int32) (y2 : Int32) : Option (Int32) :=
if ((M ky0 2) : Int32) ≤ y2 then
  some y1
else
  wgi y2 12 <|
  wlet ((y1 + (M ((ky0 + 1) + 2 + Int32.toNatClampNeg y2) 3)) : Int32) fun x3 =>
  wlet (y2 + 1 : Int32) fun x4 =>
  rec4 (x3, x4)
noncomputable def fX5_allHurt_4 (M : wMem)  (ky0 : Nat) (y1 : Int32) (y2 : Int32) : Option (Int32) :=
  wloop (fun rec4 t => fX5_allHurt_4_b M  rec4 ky0 t.1 t.2) wfuel (y1, y2)
noncomputable def fX5_allHurt (M : wMem) (k0 : Nat) : Option (Int32) :=
fX5_allHurt_4 M  k0 0 0
noncomputable def fX9_refusalsOf (M : wMem) (a1 : Int32) : Option (Int32) :=
if (a1 : Int32) < 11 then
  some (-9)
else
  if (a1 : Int32) < 17 then
    wgi (a1 - 11) 6 <|
    some (M 69 (Int32.toNatClampNeg (a1 - 11)))
  else
    some (-9)
noncomputable def fX9_count (M : wMem) (a1 : Int32) : Option (Int32) :=
if (a1 : Int32) = 0 then
  some (M 1 2)
else
if (a1 : Int32) = 1 then
  (fX5_howMany M 1 0).bind fun r4 =>
  some r4
else
if (a1 : Int32) = 2 then
  (fX5_howMany M 1 1).bind fun r7 =>
  some r7
else
if (a1 : Int32) = 3 then
  (fX5_howMany M 1 2).bind fun r10 =>
  some r10
else
if (a1 : Int32) = 4 then
  (fX5_howMany M 1 3).bind fun r13 =>
  some r13
else
if (a1 : Int32) = 5 then
  some (M 1 3)
else
if (a1 : Int32) = 6 then
  (fX5_isLive M 1).bind fun r17 =>
  (fX9_asNumber M (wb r17)).bind fun r19 =>
  some r19
else
if (a1 : Int32) = 7 then
  some (M 47 1)
else
if (a1 : Int32) = 8 then
  some (M 50 2)
else
if (a1 : Int32) = 9 then
  (fX5_allHurt M 1).bind fun r24 =>
  some r24
else
(fX9_refusalsOf M a1).bind fun r27 =>
some r27
noncomputable def fX10_no (M : wMem) (a1 : Int32) : Option (Int32 × wMem) :=
wgi (-a1) 7 <|
wgi (-a1) 7 <|
wlet (wup M 71 (Int32.toNatClampNeg (-a1)) ((M 71 (Int32.toNatClampNeg (-a1))) + 1)) fun M3 =>
some (a1, M3)
noncomputable def fX10_lowest (M : wMem) (a1 : Int32) : Option (Int64 × wMem) :=
wgi (-a1) 7 <|
wgi (-a1) 7 <|
wlet (wup M 71 (Int32.toNatClampNeg (-a1)) ((M 71 (Int32.toNatClampNeg (-a1))) + 1)) fun M3 =>
some (((4000000000000000000 : Int64) - (Int32.toInt64 a1)), M3)
noncomputable def fX10_isIn (M : wMem) (a0 : Int32) (a1 : Int32) (a2 : Int32) : Option (Bool) :=
if (a0 : Int32) < a1 then
  some false
else
  if (a2 : Int32) < a0 then
    some false
  else
    some true
noncomputable def fX10_bound (M : wMem) (a0 : Int32) (a1 : Int32) (a2 : Int32) : Option (Int32) :=
if (a1 : Int32) ≤ a0 then
  if (a0 : Int32) ≤ a2 then
    some 0
  else
    some (-6)
else
  some (-4)
noncomputable def fX10_isLamp (M : wMem) (a1 : Int32) : Option (Bool) :=
if (a1 : Int32) < 0 then
  some false
else
  if ((M 70 7) : Int32) ≤ a1 then
    some false
  else
    some true
noncomputable def fX10_least (M : wMem) (a0 : Int32) (a1 : Int32) : Option (Int32) :=
if (a1 : Int32) ≤ a0 then
  some a1
else
  some a0
noncomputable def fX10_feed_25 (M : wMem)  (y1 : Int32) (y2 : Int32) : Option (Int32 × wMem) :=
if (y2 : Int32) = 0 then
  wgi (M 70 13) 64 <|
  wlet (wup M 78 (Int32.toNatClampNeg (M 70 13)) y1) fun M6 =>
  wlet (wup M6 70 13 ((M6 70 13) + 1)) fun M7 =>
  some ((M7 70 13), M7)
else
  (fX10_no M y2).bind <| wpr fun r9 M10 =>
  some (r9, M10)
noncomputable def fX10_feed (M : wMem) (a1 : Int32) : Option (Int32 × wMem) :=
(fX10_bound M a1 0 255).bind fun r2 =>
if (r2 : Int32) = 0 then
  if ((M 70 13) : Int32) = 64 then
    fX10_feed_25 M  a1 (-6)
  else
    fX10_feed_25 M  a1 r2
else
  fX10_feed_25 M  a1 r2
noncomputable def fX10_nextLetter (M : wMem)  : Option (Int32) :=
if ((M 70 13) : Int32) ≤ (M 70 14) then
  some (-1)
else
  wgi (M 70 14) 64 <|
  some (M 78 (Int32.toNatClampNeg (M 70 14)))
noncomputable def fX10_isNext (M : wMem) (a1 : Int32) : Option (Bool × wMem) :=
(fX10_nextLetter M ).bind fun r2 =>
if (r2 : Int32) = a1 then
  wlet (wup M 70 14 ((M 70 14) + 1)) fun M4 =>
  some (true, M4)
else
  some (false, M)
noncomputable def fX10_reads_70 (M : wMem)  (y1 : Int32) (y3 : Int32) : Option (Bool × wMem) :=
wgi y1 96 <|
wlet (wup M 81 (Int32.toNatClampNeg y1) y3) fun M8 =>
some (true, M8)
noncomputable def fX10_reads_21_b (M : wMem)  (rec21 : (Int32 × Int32 × wMem → Option (Bool × wMem))) (y1 : Int32) (y2 : Int32) (y3 : Int32) (y4 : Int32) : Option (Bool × wMem) :=
if (y2 : Int32) ≤ y4 then
  fX10_reads_70 M  y1 y3
else
  (fX10_nextLetter M ).bind fun r10 =>
  (fX10_isIn M r10 48 57).bind fun r12 =>
  if ((wb r12) : Int32) = 0 then
    fX10_reads_70 M  y1 y3
  else
    (fX10_nextLetter M ).bind fun r15 =>
    wlet ((((10 * y3) + r15) - 48) : Int32) fun x16 =>
    wlet (wup M 70 14 ((M 70 14) + 1)) fun M17 =>
    wlet (y4 + 1 : Int32) fun x18 =>
    rec21 (x16, x18, M17)
noncomputable def fX10_reads_21 (M : wMem)  (y1 : Int32) (y2 : Int32) (y3 : Int32) (y4 : Int32) : Option (Bool × wMem) :=
  wloop (fun rec21 t => fX10_reads_21_b t.2.2  rec21 y1 y2 t.1 t.2.1) wfuel (y3, y4, M)
noncomputable def fX10_reads (M : wMem) (a1 : Int32) (a2 : Int32) : Option (Bool × wMem) :=
(fX10_nextLetter M ).bind fun r2 =>
(fX10_isIn M r2 48 57).bind fun r4 =>
if ((wb r4) : Int32) = 0 then
  some (false, M)
else
  fX10_reads_21 M  a1 a2 0 0
noncomputable def fX10_statement_31 (M : wMem)  (y1 : Int32) : Option (Bool × wMem) :=
wgi (M 70 15) 32 <|
wlet (wup M 79 (Int32.toNatClampNeg (M 70 15)) y1) fun M5 =>
wgi (M5 70 15) 32 <|
wlet (wup M5 80 (Int32.toNatClampNeg (M5 70 15)) (M5 70 14)) fun M7 =>
wlet (wup M7 70 14 ((M7 70 14) + 1)) fun M8 =>
wlet ((3 * (M8 70 15)) : Int32) fun x9 =>
if (y1 : Int32) = 117 then
  (fX10_reads M8 x9 3).bind <| wpr fun r58 M59 =>
  if ((wb r58) : Int32) = 0 then
    some (false, M59)
  else
    (fX10_isNext M59 59).bind <| wpr fun r62 M63 =>
    if ((wb r62) : Int32) = 0 then
      some (false, M63)
    else
      some (true, M63)
else
  if (y1 : Int32) = 103 then
    (fX10_reads M8 x9 1).bind <| wpr fun r50 M51 =>
    if ((wb r50) : Int32) = 0 then
      some (false, M51)
    else
      (fX10_isNext M51 59).bind <| wpr fun r54 M55 =>
      if ((wb r54) : Int32) = 0 then
        some (false, M55)
      else
        some (true, M55)
  else
    if (y1 : Int32) = 100 then
      (fX10_reads M8 x9 2).bind <| wpr fun r34 M35 =>
      if ((wb r34) : Int32) = 0 then
        some (false, M35)
      else
        (fX10_isNext M35 44).bind <| wpr fun r38 M39 =>
        if ((wb r38) : Int32) = 0 then
          some (false, M39)
        else
          (fX10_reads M39 (x9 + 1) 1).bind <| wpr fun r42 M43 =>
          if ((wb r42) : Int32) = 0 then
            some (false, M43)
          else
            (fX10_isNext M43 59).bind <| wpr fun r46 M47 =>
            if ((wb r46) : Int32) = 0 then
              some (false, M47)
            else
              some (true, M47)
    else
      (fX10_reads M8 x9 1).bind <| wpr fun r14 M15 =>
      if ((wb r14) : Int32) = 0 then
        some (false, M15)
      else
        (fX10_reads M15 (x9 + 1) 2).bind <| wpr fun r18 M19 =>
        if ((wb r18) : Int32) = 0 then
          some (false, M19)
        else
          (fX10_isNext M19 44).bind <| wpr fun r22 M23 =>
          if ((wb r22) : Int32) = 0 then
            some (false, M23)
          else
            (fX10_reads M23 (x9 + 2) 1).bind <| wpr fun r26 M27 =>
            if ((wb r26) : Int32) = 0 then
              some (false, M27)
            else
              (fX10_isNext M27 59).bind <| wpr fun r30 M31 =>
              if ((wb r30) : Int32) = 0 then
                some (false, M31)
              else
                some (true, M31)
noncomputable def fX10_statement (M : wMem)  : Option (Bool × wMem) :=
(fX10_nextLetter M ).bind fun r2 =>
if (r2 : Int32) = 112 then
  fX10_statement_31 M  r2
else
  if (r2 : Int32) = 117 then
    fX10_statement_31 M  r2
  else
    if (r2 : Int32) = 100 then
      fX10_statement_31 M  r2
    else
      if (r2 : Int32) = 103 then
        fX10_statement_31 M  r2
      else
        some (false, M)
noncomputable def fX10_comesLamp (M : wMem) (a1 : Int32) : Option (Bool × wMem) :=
wgi a1 96 <|
if (5 : Int32) < (M 81 (Int32.toNatClampNeg a1)) then
  some (false, M)
else
  wgi (a1 + 1) 96 <|
  if ((M 81 (Int32.toNatClampNeg (a1 + 1))) : Int32) = 0 then
    some (false, M)
  else
    wgi (a1 + 2) 96 <|
    if ((M 81 (Int32.toNatClampNeg (a1 + 2))) : Int32) = 0 then
      some (false, M)
    else
      if ((M 70 7) : Int32) = 12 then
        some (false, M)
      else
        wgi a1 96 <|
        wgi (M 70 7) 12 <|
        wlet (wup M 72 (Int32.toNatClampNeg (M 70 7)) (M 81 (Int32.toNatClampNeg a1))) fun M10 =>
        wgi (a1 + 1) 96 <|
        wgi (M10 70 7) 12 <|
        wlet (wup M10 73 (Int32.toNatClampNeg (M10 70 7)) (M10 81 (Int32.toNatClampNeg (a1 + 1)))) fun M13 =>
        wgi (a1 + 2) 96 <|
        wgi (M13 70 7) 12 <|
        wlet (wup M13 74 (Int32.toNatClampNeg (M13 70 7)) (M13 81 (Int32.toNatClampNeg (a1 + 2)))) fun M16 =>
        wgi (M16 70 7) 12 <|
        wlet (wup M16 75 (Int32.toNatClampNeg (M16 70 7)) 0) fun M18 =>
        wgi (M18 70 7) 12 <|
        wlet (wup M18 76 (Int32.toNatClampNeg (M18 70 7)) 0) fun M20 =>
        wlet (wup M20 70 7 ((M20 70 7) + 1)) fun M21 =>
        some (true, M21)
noncomputable def fX10_comes (M : wMem) (a1 : Int32) : Option (Bool × wMem) :=
wlet ((3 * a1) : Int32) fun x1 =>
wgi a1 32 <|
wlet ((M 79 (Int32.toNatClampNeg a1)) : Int32) fun x3 =>
if (x3 : Int32) = 103 then
  wgi x1 96 <|
  wgi 3 4 <|
  wlet (wup M 77 (Int32.toNatClampNeg 3) (M 81 (Int32.toNatClampNeg x1))) fun M6 =>
  wgi x1 96 <|
  if ((M6 81 (Int32.toNatClampNeg x1)) : Int32) ≤ 0 then
    some (false, M6)
  else
    some (true, M6)
else
if (x3 : Int32) = 112 then
  (fX10_comesLamp M x1).bind <| wpr fun r11 M12 =>
  some (r11, M12)
else
if (x3 : Int32) = 117 then
  wgi x1 96 <|
  wgi 0 4 <|
  wlet (wup M 77 (Int32.toNatClampNeg 0) (M 81 (Int32.toNatClampNeg x1))) fun M16 =>
  wgi x1 96 <|
  if ((M16 81 (Int32.toNatClampNeg x1)) : Int32) ≤ 0 then
    some (false, M16)
  else
    some (true, M16)
else
wgi x1 96 <|
(fX10_isLamp M (M 81 (Int32.toNatClampNeg x1))).bind fun r22 =>
if ((wb r22) : Int32) = 0 then
  some (false, M)
else
  wgi (x1 + 1) 96 <|
  if ((M 81 (Int32.toNatClampNeg (x1 + 1))) : Int32) ≤ 3 then
    wgi x1 96 <|
    wgi (x1 + 1) 96 <|
    wgi (M 81 (Int32.toNatClampNeg x1)) 12 <|
    wlet (wup M 76 (Int32.toNatClampNeg (M 81 (Int32.toNatClampNeg x1))) (M 81 (Int32.toNatClampNeg (x1 + 1)))) fun M29 =>
    some (true, M29)
  else
    some (false, M)
noncomputable def fX10_passes_42 (M : wMem) (rec2 : (Int32 × wMem → Option (wMem))) (ky1 : Nat) (y2 : Int32) : Option (wMem) :=
wlet (wup M 70 19 ((M 70 19) + 1)) fun M6 =>
wlet (y2 + 1 : Int32) fun x7 =>
rec2 (x7, M6)
noncomputable def fX10_passes_2_b (M : wMem)  (rec2 : (Int32 × wMem → Option (wMem))) (ky1 : Nat) (y2 : Int32) : Option (wMem) :=
if ((nI (wln ky1)) : Int32) ≤ y2 then
  some M
else
  if ((M 70 18) : Int32) = 0 then
    wgi (M 70 19) 160 <|
    wgi y2 (wln ky1) <|
    wlet (wup M ky1 (Int32.toNatClampNeg y2) (M 82 (Int32.toNatClampNeg (M 70 19)))) fun M5 =>
    fX10_passes_42 M5 rec2 ky1 y2
  else
    wgi y2 (wln ky1) <|
    wgi (M 70 19) 160 <|
    wlet (wup M 82 (Int32.toNatClampNeg (M 70 19)) (M ky1 (Int32.toNatClampNeg y2))) fun M10 =>
    fX10_passes_42 M10 rec2 ky1 y2
noncomputable def fX10_passes_2 (M : wMem)  (ky1 : Nat) (y2 : Int32) : Option (wMem) :=
  wloop (fun rec2 t => fX10_passes_2_b t.2  rec2 ky1 t.1) wfuel (y2, M)
noncomputable def fX10_passes (M : wMem) (k1 : Nat) : Option (wMem) :=
fX10_passes_2 M  k1 0
noncomputable def fX10_passOne_38 (M : wMem)  (y2 : Int32) : Option (Int32 × wMem) :=
wlet (wup M 70 19 ((M 70 19) + 1)) fun M4 =>
some (y2, M4)
noncomputable def fX10_passOne_20 (M : wMem)  (y1 : Int32) (z0 : Int32) : Option (Int32 × wMem) :=
if ((M 70 18) : Int32) = 0 then
  fX10_passOne_38 M  z0
else
  wgi (M 70 19) 160 <|
  wlet (wup M 82 (Int32.toNatClampNeg (M 70 19)) y1) fun M6 =>
  fX10_passOne_38 M6  z0
noncomputable def fX10_passOne (M : wMem) (a1 : Int32) : Option (Int32 × wMem) :=
if ((M 70 18) : Int32) = 0 then
  wgi (M 70 19) 160 <|
  fX10_passOne_20 M  a1 (M 82 (Int32.toNatClampNeg (M 70 19)))
else
  fX10_passOne_20 M  a1 a1
noncomputable def fX10_passesAll (M : wMem) (a1 : Int32) (a2 : Int32) : Option (wMem) :=
wlet (wup M 70 19 (80 * a1)) fun M1 =>
wlet (a2 : Int32) fun x2 =>
wrb x2 fun b3 =>
wlet (wup M1 70 18 (wb b3)) fun M4 =>
(fX10_passes M4 72).bind fun M7 =>
(fX10_passes M7 73).bind fun M10 =>
(fX10_passes M10 74).bind fun M13 =>
(fX10_passes M13 75).bind fun M16 =>
(fX10_passes M16 76).bind fun M19 =>
(fX10_passes M19 77).bind fun M22 =>
(fX10_passOne M22 (M22 70 7)).bind <| wpr fun r24 M25 =>
wlet (wup M25 70 7 r24) fun M26 =>
(fX10_passOne M26 (M26 70 8)).bind <| wpr fun r28 M29 =>
wlet (wup M29 70 8 r28) fun M30 =>
some M30
noncomputable def fX10_string_86_b (M : wMem)  (rec86 : (Int32 × wMem → Option (Int32 × wMem))) (y2 : Int32) : Option (Int32 × wMem) :=
if ((M 70 15) : Int32) ≤ y2 then
  some ((M 70 15), M)
else
  (fX10_comes M y2).bind <| wpr fun r11 M12 =>
  if ((wb r11) : Int32) = 0 then
    (fX10_passesAll M12 1 0).bind fun M16 =>
    wgi y2 32 <|
    some (((-2000) - (M16 80 (Int32.toNatClampNeg y2))), M16)
  else
    wlet (y2 + 1 : Int32) fun x18 =>
    rec86 (x18, M12)
noncomputable def fX10_string_86 (M : wMem)  (y2 : Int32) : Option (Int32 × wMem) :=
  wloop (fun rec86 t => fX10_string_86_b t.2  rec86 t.1) wfuel (y2, M)
noncomputable def fX10_string_60 (M : wMem)  (y1 : Int32) : Option (Int32 × wMem) :=
wlet (wup M 70 13 0) fun M4 =>
if (y1 : Int32) = 0 then
  some (((-1000) - (M4 70 14)), M4)
else
  (fX10_passesAll M4 1 1).bind fun M8 =>
  fX10_string_86 M8  0
noncomputable def fX10_string_53 (M : wMem) (rec12 : (Int32 × wMem → Option (Int32 × wMem))) (y1 : Int32) (z1 : Int32) (z2 : Int32) : Option (Int32 × wMem) :=
wlet (wup M 70 15 (z1 + z2)) fun M25 =>
rec12 (y1, M25)
noncomputable def fX10_string_34 (M : wMem) (rec12 : (Int32 × wMem → Option (Int32 × wMem)))  : Option (Int32 × wMem) :=
(fX10_statement M ).bind <| wpr fun r21 M22 =>
wlet ((wb r21) : Int32) fun x23 =>
if (x23 : Int32) = 0 then
  fX10_string_53 M22 rec12 x23 (M22 70 15) 0
else
  fX10_string_53 M22 rec12 x23 (M22 70 15) 1
noncomputable def fX10_string_12_b (M : wMem)  (rec12 : (Int32 × wMem → Option (Int32 × wMem))) (y1 : Int32) : Option (Int32 × wMem) :=
if (y1 : Int32) = 0 then
  fX10_string_60 M  y1
else
  if ((M 70 14) : Int32) < (M 70 13) then
    fX10_string_34 M rec12 
  else
    if ((M 70 15) : Int32) = 0 then
      fX10_string_34 M rec12 
    else
      fX10_string_60 M  y1
noncomputable def fX10_string_12 (M : wMem)  (y1 : Int32) : Option (Int32 × wMem) :=
  wloop (fun rec12 t => fX10_string_12_b t.2  rec12 t.1) wfuel (y1, M)
noncomputable def fX10_string (M : wMem)  : Option (Int32 × wMem) :=
wlet (wup M 70 14 0) fun M1 =>
wlet (wup M1 70 15 0) fun M2 =>
fX10_string_12 M2  1
noncomputable def fX10_image (M : wMem)  : Option (Int32 × wMem) :=
wlet (wup M 70 17 1) fun M1 =>
(fX10_passesAll M1 0 1).bind fun M4 =>
some ((M4 70 8), M4)
noncomputable def fX10_restore (M : wMem)  : Option (Int32 × wMem) :=
if ((M 70 17) : Int32) = 0 then
  (fX10_no M (-3)).bind <| wpr fun r6 M7 =>
  some (r6, M7)
else
  (fX10_passesAll M 0 0).bind fun M4 =>
  some ((M4 70 8), M4)
noncomputable def fX10_dragOf (M : wMem) (a1 : Int32) : Option (Int32) :=
wgi a1 12 <|
if ((M 76 (Int32.toNatClampNeg a1)) : Int32) = 2 then
  some 0
else
  wgi a1 12 <|
  if ((M 72 (Int32.toNatClampNeg a1)) : Int32) = 3 then
    some 15
  else
    wgi a1 12 <|
    if ((M 72 (Int32.toNatClampNeg a1)) : Int32) = 4 then
      some 6
    else
      wgi a1 12 <|
      if ((M 72 (Int32.toNatClampNeg a1)) : Int32) = 5 then
        some 20
      else
        some 10
noncomputable def fX10_isWhole_2_b (M : wMem)  (rec2 : (Int32 → Option (Bool))) (y2 : Int32) (y3 : Int32) : Option (Bool) :=
if (y2 : Int32) < y3 then
  some true
else
  wgi y3 12 <|
  if ((M 76 (Int32.toNatClampNeg y3)) : Int32) = 1 then
    some false
  else
    wgi y3 12 <|
    if ((M 76 (Int32.toNatClampNeg y3)) : Int32) = 3 then
      some false
    else
      wlet (y3 + 1 : Int32) fun x6 =>
      rec2 (x6)
noncomputable def fX10_isWhole_2 (M : wMem)  (y2 : Int32) (y3 : Int32) : Option (Bool) :=
  wloop (fun rec2 t => fX10_isWhole_2_b M  rec2 y2 t) wfuel (y3)
noncomputable def fX10_isWhole (M : wMem) (a1 : Int32) (a2 : Int32) : Option (Bool) :=
fX10_isWhole_2 M  a2 a1
noncomputable def fX10_drags_4_b (M : wMem)  (rec4 : (Int32 × Int32 → Option (Int32))) (y1 : Int32) (y2 : Int32) : Option (Int32) :=
if ((M 70 7) : Int32) ≤ y2 then
  some y1
else
  (fX10_dragOf M y2).bind fun r3 =>
  wlet ((y1 + r3) : Int32) fun x4 =>
  wlet (y2 + 1 : Int32) fun x5 =>
  rec4 (x4, x5)
noncomputable def fX10_drags_4 (M : wMem)  (y1 : Int32) (y2 : Int32) : Option (Int32) :=
  wloop (fun rec4 t => fX10_drags_4_b M  rec4 t.1 t.2) wfuel (y1, y2)
noncomputable def fX10_drags (M : wMem)  : Option (Int32) :=
fX10_drags_4 M  0 0
noncomputable def fX10_isLive (M : wMem)  : Option (Bool) :=
if ((M 70 7) : Int32) ≤ 0 then
  some false
else
  (fX10_isWhole M 0 ((M 70 7) - 1)).bind fun r3 =>
  if ((wb r3) : Int32) = 0 then
    some false
  else
    (fX10_drags M ).bind fun r6 =>
    if (r6 : Int32) ≤ 0 then
      some false
    else
      some true
noncomputable def fX10_flowNow (M : wMem)  : Option (Int32) :=
(fX10_isLive M ).bind fun r2 =>
if ((wb r2) : Int32) = 0 then
  some 0
else
  wgi 0 4 <|
  (fX10_drags M ).bind fun r6 =>
  wgz r6 <|
  (fX10_least M 9999 ((100 * (M 77 (Int32.toNatClampNeg 0))) / r6)).bind fun r9 =>
  some r9
noncomputable def fX10_brightBy (M : wMem) (a1 : Int32) (a2 : Int32) : Option (Int32) :=
wgi a1 12 <|
if ((M 76 (Int32.toNatClampNeg a1)) : Int32) = 0 then
  (fX10_dragOf M a1).bind fun r4 =>
  wgz 100 <|
  some ((a2 * r4) / 100)
else
  some 0
noncomputable def fX10_isLoose_20 (M : wMem)   : Option (Bool) :=
some true
noncomputable def fX10_isLoose (M : wMem) (a1 : Int32) : Option (Bool) :=
wgi a1 12 <|
if ((M 72 (Int32.toNatClampNeg a1)) : Int32) = 2 then
  fX10_isLoose_20 M  
else
  wgi a1 12 <|
  if ((M 72 (Int32.toNatClampNeg a1)) : Int32) = 3 then
    fX10_isLoose_20 M  
  else
    some false
noncomputable def fX10_doesBridge_20 (M : wMem)   : Option (Bool) :=
some true
noncomputable def fX10_doesBridge (M : wMem) (a1 : Int32) : Option (Bool) :=
wgi a1 12 <|
if ((M 72 (Int32.toNatClampNeg a1)) : Int32) = 1 then
  fX10_doesBridge_20 M  
else
  wgi a1 12 <|
  if ((M 72 (Int32.toNatClampNeg a1)) : Int32) = 5 then
    fX10_doesBridge_20 M  
  else
    some false
noncomputable def fX10_likelyOf (M : wMem) (a1 : Int32) : Option (Int32) :=
(fX10_doesBridge M a1).bind fun r2 =>
if ((wb r2) : Int32) = 0 then
  wgi a1 12 <|
  wgz 10 <|
  (fX10_isLoose M a1).bind fun r7 =>
  if ((wb r7) : Int32) = 0 then
    some ((((M 75 (Int32.toNatClampNeg a1)) / 10) + 1) + 0)
  else
    some ((((M 75 (Int32.toNatClampNeg a1)) / 10) + 1) + 3)
else
  some 1
noncomputable def fX10_lamp (M : wMem) (a1 : Int32) (a2 : Int32) : Option (Int32 × wMem) :=
(fX10_isLamp M a1).bind fun r2 =>
if ((wb r2) : Int32) = 0 then
  (fX10_no M (-1)).bind <| wpr fun r30 M31 =>
  some (r30, M31)
else
  if (a2 : Int32) = 0 then
    wgi a1 12 <|
    some ((M 72 (Int32.toNatClampNeg a1)), M)
  else
  if (a2 : Int32) = 1 then
    wgi a1 12 <|
    some ((M 73 (Int32.toNatClampNeg a1)), M)
  else
  if (a2 : Int32) = 2 then
    wgi a1 12 <|
    some ((M 74 (Int32.toNatClampNeg a1)), M)
  else
  if (a2 : Int32) = 3 then
    wgi a1 12 <|
    some ((M 75 (Int32.toNatClampNeg a1)), M)
  else
  if (a2 : Int32) = 4 then
    wgi a1 12 <|
    some ((M 76 (Int32.toNatClampNeg a1)), M)
  else
  if (a2 : Int32) = 5 then
    (fX10_dragOf M a1).bind fun r16 =>
    some (r16, M)
  else
  if (a2 : Int32) = 6 then
    (fX10_flowNow M ).bind fun r19 =>
    (fX10_brightBy M a1 r19).bind fun r21 =>
    some (r21, M)
  else
  if (a2 : Int32) = 7 then
    (fX10_likelyOf M a1).bind fun r24 =>
    some (r24, M)
  else
  (fX10_no M (-2)).bind <| wpr fun r27 M28 =>
  some (r27, M28)
noncomputable def fX10_set (M : wMem) (a1 : Int32) (a2 : Int32) : Option (Int32 × wMem) :=
(fX10_isIn M a1 0 3).bind fun r2 =>
if ((wb r2) : Int32) = 0 then
  (fX10_no M (-2)).bind <| wpr fun r17 M18 =>
  some (r17, M18)
else
  wgi a1 4 <|
  wgi a1 4 <|
  (fX10_bound M a2 (wtab 2 (Int32.toNatClampNeg a1)) (wtab 3 (Int32.toNatClampNeg a1))).bind fun r7 =>
  if (r7 : Int32) = 0 then
    wgi a1 4 <|
    wlet ((M 77 (Int32.toNatClampNeg a1)) : Int32) fun x10 =>
    wgi a1 4 <|
    wlet (wup M 77 (Int32.toNatClampNeg a1) a2) fun M12 =>
    some (x10, M12)
  else
    (fX10_no M r7).bind <| wpr fun r14 M15 =>
    some (r14, M15)
noncomputable def fX10_flow (M : wMem)  : Option (Int32) :=
(fX10_flowNow M ).bind fun r2 =>
some r2
noncomputable def fX10_doesDie_51 (M : wMem)  (y1 : Int32) (z0 : Int32) (z1 : Int32) : Option (Bool) :=
wgi y1 12 <|
if (z0 : Int32) < (z1 * (M 73 (Int32.toNatClampNeg y1))) then
  some false
else
  some true
noncomputable def fX10_doesDie (M : wMem) (a1 : Int32) (a2 : Int32) : Option (Bool) :=
wgi a1 12 <|
if ((M 72 (Int32.toNatClampNeg a1)) : Int32) = 4 then
  wgi a1 12 <|
  if (a2 : Int32) ≤ (5 * (M 73 (Int32.toNatClampNeg a1))) then
    some false
  else
    some true
else
  wgi a1 12 <|
  wgi a1 12 <|
  if ((M 72 (Int32.toNatClampNeg a1)) : Int32) = 5 then
    fX10_doesDie_51 M  a1 (M 75 (Int32.toNatClampNeg a1)) 20
  else
    fX10_doesDie_51 M  a1 (M 75 (Int32.toNatClampNeg a1)) 10
noncomputable def fX10_doesHang_53 (M : wMem)   : Option (Bool) :=
some true
noncomputable def fX10_doesHang_26 (M : wMem)  (y1 : Int32) : Option (Bool) :=
wgi y1 12 <|
if ((M 72 (Int32.toNatClampNeg y1)) : Int32) = 3 then
  wgz 5 <|
  wgi 3 4 <|
  wgz 5 <|
  if (((M 70 8) - (M 70 8) / 5 * 5) : Int32) = ((M 77 (Int32.toNatClampNeg 3)) - (M 77 (Int32.toNatClampNeg 3)) / 5 * 5) then
    fX10_doesHang_53 M  
  else
    some false
else
  some false
noncomputable def fX10_doesHang (M : wMem) (a1 : Int32) : Option (Bool) :=
wgi a1 12 <|
if ((M 72 (Int32.toNatClampNeg a1)) : Int32) = 2 then
  wgz 10 <|
  wgi 3 4 <|
  if (((M 70 8) - (M 70 8) / 10 * 10) : Int32) = (M 77 (Int32.toNatClampNeg 3)) then
    fX10_doesHang_53 M  
  else
    fX10_doesHang_26 M  a1
else
  fX10_doesHang_26 M  a1
noncomputable def fX10_goesHour_203 (M : wMem) (rec58 : (Int32 × Int32 × wMem → Option (Int32 × wMem))) (y1 : Int32) (y2 : Int32) (y3 : Int32) (y4 : Int32) : Option (Int32 × wMem) :=
wlet (y4 + 1 : Int32) fun x23 =>
rec58 (y3, x23, M)
noncomputable def fX10_goesHour_201 (M : wMem) (rec58 : (Int32 × Int32 × wMem → Option (Int32 × wMem))) (y1 : Int32) (y2 : Int32) (y4 : Int32) (z0 : Int32) (z1 : Int32) : Option (Int32 × wMem) :=
wlet ((z0 + z1) : Int32) fun x22 =>
fX10_goesHour_203 M rec58 y1 y2 x22 y4
noncomputable def fX10_goesHour_185 (M : wMem) (rec58 : (Int32 × Int32 × wMem → Option (Int32 × wMem))) (y1 : Int32) (y2 : Int32) (y3 : Int32) (y4 : Int32) : Option (Int32 × wMem) :=
wgi y4 12 <|
if ((M 76 (Int32.toNatClampNeg y4)) : Int32) = 0 then
  fX10_goesHour_201 M rec58 y1 y2 y4 y3 0
else
  fX10_goesHour_201 M rec58 y1 y2 y4 y3 1
noncomputable def fX10_goesHour_158 (M : wMem) (rec58 : (Int32 × Int32 × wMem → Option (Int32 × wMem))) (y1 : Int32) (y2 : Int32) (y3 : Int32) (y4 : Int32) : Option (Int32 × wMem) :=
wgi y4 12 <|
if ((M 76 (Int32.toNatClampNeg y4)) : Int32) = 0 then
  (fX10_doesHang M y4).bind fun r25 =>
  if ((wb r25) : Int32) = 0 then
    fX10_goesHour_185 M rec58 y1 y2 y3 y4
  else
    wgi y4 12 <|
    wlet (wup M 76 (Int32.toNatClampNeg y4) 3) fun M28 =>
    fX10_goesHour_185 M28 rec58 y1 y2 y3 y4
else
  fX10_goesHour_185 M rec58 y1 y2 y3 y4
noncomputable def fX10_goesHour_157 (M : wMem) (rec58 : (Int32 × Int32 × wMem → Option (Int32 × wMem))) (y1 : Int32) (y2 : Int32) (y3 : Int32) (y4 : Int32) (z1 : Int32) (z2 : Int32) : Option (Int32 × wMem) :=
wgi z1 12 <|
wlet (wup M 76 (Int32.toNatClampNeg z1) z2) fun M38 =>
fX10_goesHour_158 M38 rec58 y1 y2 y3 y4
noncomputable def fX10_goesHour_58_b (M : wMem)  (rec58 : (Int32 × Int32 × wMem → Option (Int32 × wMem))) (y1 : Int32) (y2 : Int32) (y3 : Int32) (y4 : Int32) : Option (Int32 × wMem) :=
if ((M 70 7) : Int32) ≤ y4 then
  wlet (wup M 70 8 ((M 70 8) + 1)) fun M8 =>
  some (y3, M8)
else
  wgi y4 12 <|
  if ((M 76 (Int32.toNatClampNeg y4)) : Int32) = 0 then
    wgi y4 12 <|
    wgi y4 12 <|
    (fX10_least M 9999 ((M 75 (Int32.toNatClampNeg y4)) + (M 83 (Int32.toNatClampNeg y4)))).bind fun r14 =>
    wgi y4 12 <|
    wlet (wup M 75 (Int32.toNatClampNeg y4) r14) fun M16 =>
    if (y2 : Int32) = 0 then
      fX10_goesHour_158 M16 rec58 y1 y2 y3 y4
    else
      (fX10_doesDie M16 y4 y1).bind fun r30 =>
      if ((wb r30) : Int32) = 0 then
        fX10_goesHour_158 M16 rec58 y1 y2 y3 y4
      else
        (fX10_doesBridge M16 y4).bind fun r33 =>
        if ((wb r33) : Int32) = 0 then
          wgi y4 12 <|
          if ((M16 72 (Int32.toNatClampNeg y4)) : Int32) = 3 then
            fX10_goesHour_157 M16 rec58 y1 y2 y3 y4 y4 3
          else
            fX10_goesHour_157 M16 rec58 y1 y2 y3 y4 y4 1
        else
          fX10_goesHour_157 M16 rec58 y1 y2 y3 y4 y4 2
  else
    fX10_goesHour_203 M rec58 y1 y2 y3 y4
noncomputable def fX10_goesHour_58 (M : wMem)  (y1 : Int32) (y2 : Int32) (y3 : Int32) (y4 : Int32) : Option (Int32 × wMem) :=
  wloop (fun rec58 t => fX10_goesHour_58_b t.2.2  rec58 y1 y2 t.1 t.2.1) wfuel (y3, y4, M)
noncomputable def fX10_goesHour_48 (M : wMem) (rec15 : (Int32 × wMem → Option (Int32 × wMem))) (y1 : Int32) (y2 : Int32) (y3 : Int32) (y4 : Int32) (z1 : Int32) (z2 : Int32) : Option (Int32 × wMem) :=
wgi z1 12 <|
wlet (wup M 83 (Int32.toNatClampNeg z1) z2) fun M41 =>
wlet (y4 + 1 : Int32) fun x42 =>
rec15 (x42, M41)
noncomputable def fX10_goesHour_15_b (M : wMem)  (rec15 : (Int32 × wMem → Option (Int32 × wMem))) (y1 : Int32) (y2 : Int32) (y3 : Int32) (y4 : Int32) : Option (Int32 × wMem) :=
if ((M 70 7) : Int32) ≤ y4 then
  fX10_goesHour_58 M  y1 y2 y3 0
else
  if (y2 : Int32) = 0 then
    fX10_goesHour_48 M rec15 y1 y2 y3 y4 y4 0
  else
    (fX10_brightBy M y4 y1).bind fun r44 =>
    wgz 10 <|
    fX10_goesHour_48 M rec15 y1 y2 y3 y4 y4 (r44 / 10)
noncomputable def fX10_goesHour_15 (M : wMem)  (y1 : Int32) (y2 : Int32) (y3 : Int32) (y4 : Int32) : Option (Int32 × wMem) :=
  wloop (fun rec15 t => fX10_goesHour_15_b t.2  rec15 y1 y2 y3 t.1) wfuel (y4, M)
noncomputable def fX10_goesHour (M : wMem)  : Option (Int32 × wMem) :=
(fX10_flowNow M ).bind fun r2 =>
(fX10_isLive M ).bind fun r4 =>
wlet ((wb r4) : Int32) fun x5 =>
fX10_goesHour_15 M  r2 x5 0 0
noncomputable def fX10_hour (M : wMem)  : Option (Int32 × wMem) :=
if ((M 70 8) : Int32) = 9999 then
  (fX10_no M (-6)).bind <| wpr fun r6 M7 =>
  some (r6, M7)
else
  (fX10_goesHour M ).bind <| wpr fun r3 M4 =>
  some (r3, M4)
noncomputable def fX10_putsAnew (M : wMem) (a1 : Int32) : Option (wMem) :=
wgi a1 12 <|
wlet (wup M 76 (Int32.toNatClampNeg a1) 0) fun M2 =>
wgi a1 12 <|
wlet (wup M2 75 (Int32.toNatClampNeg a1) 0) fun M4 =>
some M4
noncomputable def fX10_swap (M : wMem) (a1 : Int32) : Option (Int32 × wMem) :=
(fX10_isLamp M a1).bind fun r2 =>
if ((wb r2) : Int32) = 0 then
  (fX10_no M (-1)).bind <| wpr fun r19 M20 =>
  some (r19, M20)
else
  wgi 1 4 <|
  if ((M 77 (Int32.toNatClampNeg 1)) : Int32) = 0 then
    (fX10_no M (-3)).bind <| wpr fun r16 M17 =>
    some (r16, M17)
  else
    wgi 1 4 <|
    wgi 1 4 <|
    wlet (wup M 77 (Int32.toNatClampNeg 1) ((M 77 (Int32.toNatClampNeg 1)) - 1)) fun M8 =>
    (fX10_putsAnew M8 a1).bind fun M11 =>
    (fX10_isLive M11 ).bind fun r13 =>
    if ((wb r13) : Int32) = 0 then
      some (0, M11)
    else
      some (1, M11)
noncomputable def fX10_areLamps (M : wMem) (a1 : Int32) (a2 : Int32) : Option (Bool) :=
(fX10_isLamp M a1).bind fun r2 =>
if ((wb r2) : Int32) = 0 then
  some false
else
  (fX10_isLamp M a2).bind fun r5 =>
  if ((wb r5) : Int32) = 0 then
    some false
  else
    if (a2 : Int32) < a1 then
      some false
    else
      some true
noncomputable def fX10_meter (M : wMem) (a1 : Int32) (a2 : Int32) : Option (Int32 × wMem) :=
(fX10_areLamps M a1 a2).bind fun r2 =>
if ((wb r2) : Int32) = 0 then
  (fX10_no M (-1)).bind <| wpr fun r8 M9 =>
  some (r8, M9)
else
  (fX10_isWhole M a1 a2).bind fun r5 =>
  if ((wb r5) : Int32) = 0 then
    some (0, M)
  else
    some (1, M)
noncomputable def fX10_finder (M : wMem) (a1 : Int32) : Option (Int32 × wMem) :=
(fX10_isLamp M a1).bind fun r2 =>
if ((wb r2) : Int32) = 0 then
  (fX10_no M (-1)).bind <| wpr fun r8 M9 =>
  some (r8, M9)
else
  (fX10_isWhole M 0 (a1 - 1)).bind fun r5 =>
  if ((wb r5) : Int32) = 0 then
    some (0, M)
  else
    some (1, M)
noncomputable def fX10_touches (M : wMem) (a1 : Int32) : Option (wMem) :=
wgi a1 12 <|
if ((M 76 (Int32.toNatClampNeg a1)) : Int32) = 3 then
  wgi a1 12 <|
  wlet (wup M 76 (Int32.toNatClampNeg a1) 0) fun M13 =>
  some M13
else
  wgi a1 12 <|
  if ((M 76 (Int32.toNatClampNeg a1)) : Int32) = 0 then
    (fX10_isLoose M a1).bind fun r6 =>
    if ((wb r6) : Int32) = 0 then
      some M
    else
      wgi 3 4 <|
      if (3 : Int32) < (M 77 (Int32.toNatClampNeg 3)) then
        some M
      else
        wgi a1 12 <|
        wlet (wup M 76 (Int32.toNatClampNeg a1) 3) fun M11 =>
        some M11
  else
    some M
noncomputable def fX10_touch (M : wMem) (a1 : Int32) : Option (Int32 × wMem) :=
(fX10_isLamp M a1).bind fun r2 =>
if ((wb r2) : Int32) = 0 then
  (fX10_no M (-1)).bind <| wpr fun r9 M10 =>
  some (r9, M10)
else
  (fX10_touches M a1).bind fun M6 =>
  wgi a1 12 <|
  some ((M6 76 (Int32.toNatClampNeg a1)), M6)
noncomputable def fX10_weightOf_5_b (M : wMem)  (rec5 : (Int32 × Int32 → Option (Int32))) (y2 : Int32) (y3 : Int32) (y4 : Int32) : Option (Int32) :=
if (y2 : Int32) < y4 then
  some y3
else
  (fX10_likelyOf M y4).bind fun r3 =>
  wlet ((y3 + r3) : Int32) fun x4 =>
  wlet (y4 + 1 : Int32) fun x5 =>
  rec5 (x4, x5)
noncomputable def fX10_weightOf_5 (M : wMem)  (y2 : Int32) (y3 : Int32) (y4 : Int32) : Option (Int32) :=
  wloop (fun rec5 t => fX10_weightOf_5_b M  rec5 y2 t.1 t.2) wfuel (y3, y4)
noncomputable def fX10_weightOf (M : wMem) (a1 : Int32) (a2 : Int32) : Option (Int32) :=
fX10_weightOf_5 M  a2 0 a1
noncomputable def fX10_findStretch_190 (M : wMem) (rec20 : (Int32 × wMem → Option (wMem))) (y1 : Int32) (y2 : Int32) (y3 : Int32) (y4 : Int32) (y5 : Int32) : Option (wMem) :=
wlet (y5 + 1 : Int32) fun x27 =>
rec20 (x27, M)
noncomputable def fX10_findStretch_174 (M : wMem) (rec20 : (Int32 × wMem → Option (wMem))) (y1 : Int32) (y2 : Int32) (y3 : Int32) (y4 : Int32) (y5 : Int32) (y9 : Int32) : Option (wMem) :=
wgi y3 144 <|
wlet (wup M 85 (Int32.toNatClampNeg y3) y9) fun M24 =>
wgi y3 144 <|
wlet (wup M24 87 (Int32.toNatClampNeg y3) y5) fun M26 =>
fX10_findStretch_190 M26 rec20 y1 y2 y3 y4 y5
noncomputable def fX10_findStretch_155 (M : wMem) (rec20 : (Int32 × wMem → Option (wMem))) (y1 : Int32) (y2 : Int32) (y3 : Int32) (y4 : Int32) (y5 : Int32) (y9 : Int32) : Option (wMem) :=
if (y5 : Int32) = (y1 + 1) then
  fX10_findStretch_174 M rec20 y1 y2 y3 y4 y5 y9
else
  wgi y3 144 <|
  if ((M 85 (Int32.toNatClampNeg y3)) : Int32) ≤ y9 then
    fX10_findStretch_190 M rec20 y1 y2 y3 y4 y5
  else
    fX10_findStretch_174 M rec20 y1 y2 y3 y4 y5 y9
noncomputable def fX10_findStretch_139 (M : wMem) (rec20 : (Int32 × wMem → Option (wMem))) (y1 : Int32) (y2 : Int32) (y3 : Int32) (y4 : Int32) (y5 : Int32) (y6 : Int32) (y9 : Int32) : Option (wMem) :=
wgi y3 144 <|
wlet (wup M 84 (Int32.toNatClampNeg y3) y6) fun M19 =>
wgi y3 144 <|
wlet (wup M19 86 (Int32.toNatClampNeg y3) y5) fun M21 =>
fX10_findStretch_155 M21 rec20 y1 y2 y3 y4 y5 y9
noncomputable def fX10_findStretch_117 (M : wMem) (rec20 : (Int32 × wMem → Option (wMem))) (y1 : Int32) (y2 : Int32) (y3 : Int32) (y4 : Int32) (y5 : Int32) (y6 : Int32) (z0 : Int32) (z1 : Int32) : Option (wMem) :=
wlet ((z0 + z1) : Int32) fun x16 =>
if (y5 : Int32) = (y1 + 1) then
  fX10_findStretch_139 M rec20 y1 y2 y3 y4 y5 y6 x16
else
  wgi y3 144 <|
  if ((M 84 (Int32.toNatClampNeg y3)) : Int32) ≤ y6 then
    fX10_findStretch_155 M rec20 y1 y2 y3 y4 y5 x16
  else
    fX10_findStretch_139 M rec20 y1 y2 y3 y4 y5 y6 x16
noncomputable def fX10_findStretch_20_b (M : wMem)  (rec20 : (Int32 × wMem → Option (wMem))) (y1 : Int32) (y2 : Int32) (y3 : Int32) (y4 : Int32) (y5 : Int32) : Option (wMem) :=
if (y2 : Int32) < y5 then
  some M
else
  wgi y5 12 <|
  wgi (((12 * y1) + y5) - 1) 144 <|
  wgi ((12 * y5) + y2) 144 <|
  wlet (((((M 74 (Int32.toNatClampNeg y5)) * y4) + (M 84 (Int32.toNatClampNeg (((12 * y1) + y5) - 1)))) + (M 84 (Int32.toNatClampNeg ((12 * y5) + y2)))) : Int32) fun x9 =>
  wgi (((12 * y1) + y5) - 1) 144 <|
  wlet ((M 85 (Int32.toNatClampNeg (((12 * y1) + y5) - 1))) : Int32) fun x11 =>
  wgi ((12 * y5) + y2) 144 <|
  wlet ((M 85 (Int32.toNatClampNeg ((12 * y5) + y2))) : Int32) fun x13 =>
  wgi y5 12 <|
  if (x11 : Int32) ≤ x13 then
    fX10_findStretch_117 M rec20 y1 y2 y3 y4 y5 x9 (M 74 (Int32.toNatClampNeg y5)) x13
  else
    fX10_findStretch_117 M rec20 y1 y2 y3 y4 y5 x9 (M 74 (Int32.toNatClampNeg y5)) x11
noncomputable def fX10_findStretch_20 (M : wMem)  (y1 : Int32) (y2 : Int32) (y3 : Int32) (y4 : Int32) (y5 : Int32) : Option (wMem) :=
  wloop (fun rec20 t => fX10_findStretch_20_b t.2  rec20 y1 y2 y3 y4 t.1) wfuel (y5, M)
noncomputable def fX10_findStretch (M : wMem) (a1 : Int32) (a2 : Int32) : Option (wMem) :=
wlet (((12 * a1) + a2) : Int32) fun x1 =>
(fX10_weightOf M a1 a2).bind fun r3 =>
wlet ((a1 + 1) : Int32) fun x4 =>
fX10_findStretch_20 M  a1 a2 x1 r3 x4
noncomputable def fX10_findStretches_70_b (M : wMem) (rec60 : (Int32 × wMem → Option (wMem))) (rec70 : (Int32 × wMem → Option (wMem))) (y1 : Int32) (y2 : Int32) : Option (wMem) :=
if ((M 70 7) : Int32) ≤ (y2 + y1) then
  wlet (y1 + 1 : Int32) fun x4 =>
  rec60 (x4, M)
else
  (fX10_findStretch M y2 (y2 + y1)).bind fun M7 =>
  wlet (y2 + 1 : Int32) fun x8 =>
  rec70 (x8, M7)
noncomputable def fX10_findStretches_70 (M : wMem) (rec60 : (Int32 × wMem → Option (wMem))) (y1 : Int32) (y2 : Int32) : Option (wMem) :=
  wloop (fun rec70 t => fX10_findStretches_70_b t.2 rec60 rec70 y1 t.1) wfuel (y2, M)
noncomputable def fX10_findStretches_60_b (M : wMem)  (rec60 : (Int32 × wMem → Option (wMem))) (y1 : Int32) : Option (wMem) :=
if ((M 70 7) : Int32) ≤ y1 then
  some M
else
  fX10_findStretches_70 M rec60 y1 0
noncomputable def fX10_findStretches_60 (M : wMem)  (y1 : Int32) : Option (wMem) :=
  wloop (fun rec60 t => fX10_findStretches_60_b t.2  rec60 t.1) wfuel (y1, M)
noncomputable def fX10_findStretches_2_b (M : wMem)  (rec2 : (Int32 × wMem → Option (wMem))) (y1 : Int32) : Option (wMem) :=
if ((M 70 7) : Int32) ≤ y1 then
  fX10_findStretches_60 M  1
else
  wgi (13 * y1) 144 <|
  wlet (wup M 84 (Int32.toNatClampNeg (13 * y1)) 0) fun M10 =>
  wgi (13 * y1) 144 <|
  wlet (wup M10 85 (Int32.toNatClampNeg (13 * y1)) 0) fun M12 =>
  wgi (13 * y1) 144 <|
  wlet (wup M12 86 (Int32.toNatClampNeg (13 * y1)) (-9)) fun M14 =>
  wgi (13 * y1) 144 <|
  wlet (wup M14 87 (Int32.toNatClampNeg (13 * y1)) (-9)) fun M16 =>
  wlet (y1 + 1 : Int32) fun x17 =>
  rec2 (x17, M16)
noncomputable def fX10_findStretches_2 (M : wMem)  (y1 : Int32) : Option (wMem) :=
  wloop (fun rec2 t => fX10_findStretches_2_b t.2  rec2 t.1) wfuel (y1, M)
noncomputable def fX10_findStretches (M : wMem)  : Option (wMem) :=
fX10_findStretches_2 M  0
noncomputable def fX10_find (M : wMem) (a1 : Int32) (a2 : Int32) (a3 : Int32) : Option (Int32 × wMem) :=
(fX10_areLamps M a1 a2).bind fun r2 =>
if ((wb r2) : Int32) = 0 then
  (fX10_no M (-1)).bind <| wpr fun r17 M18 =>
  some (r17, M18)
else
  (fX10_isIn M a3 0 1).bind fun r5 =>
  if ((wb r5) : Int32) = 0 then
    (fX10_no M (-2)).bind <| wpr fun r14 M15 =>
    some (r14, M15)
  else
    (fX10_findStretches M ).bind fun M9 =>
    if (a3 : Int32) = 0 then
      wgi ((12 * a1) + a2) 144 <|
      some ((M9 84 (Int32.toNatClampNeg ((12 * a1) + a2))), M9)
    else
      wgi ((12 * a1) + a2) 144 <|
      some ((M9 85 (Int32.toNatClampNeg ((12 * a1) + a2))), M9)
noncomputable def fX10_look (M : wMem) (a1 : Int32) (a2 : Int32) (a3 : Int32) : Option (Int32 × wMem) :=
(fX10_areLamps M a1 a2).bind fun r2 =>
if ((wb r2) : Int32) = 0 then
  (fX10_no M (-1)).bind <| wpr fun r17 M18 =>
  some (r17, M18)
else
  (fX10_isIn M a3 0 1).bind fun r5 =>
  if ((wb r5) : Int32) = 0 then
    (fX10_no M (-2)).bind <| wpr fun r14 M15 =>
    some (r14, M15)
  else
    (fX10_findStretches M ).bind fun M9 =>
    if (a3 : Int32) = 0 then
      wgi ((12 * a1) + a2) 144 <|
      some ((M9 86 (Int32.toNatClampNeg ((12 * a1) + a2))), M9)
    else
      wgi ((12 * a1) + a2) 144 <|
      some ((M9 87 (Int32.toNatClampNeg ((12 * a1) + a2))), M9)
noncomputable def fX10_findOrder_77 (M : wMem) (rec2 : (Int32 × wMem → Option (wMem))) (y1 : Int32) (y2 : Int32) : Option (wMem) :=
wgi y2 12 <|
wlet (wup M 88 (Int32.toNatClampNeg y2) y1) fun M4 =>
wlet (y1 + 1 : Int32) fun x5 =>
rec2 (x5, M4)
noncomputable def fX10_findOrder_12_b (M : wMem) (rec2 : (Int32 × wMem → Option (wMem))) (rec12 : (Int32 × wMem → Option (wMem))) (y1 : Int32) (y2 : Int32) : Option (wMem) :=
if (y2 : Int32) ≤ 0 then
  fX10_findOrder_77 M rec2 y1 y2
else
  wgi y1 12 <|
  wgi (y2 - 1) 12 <|
  (fX10_likelyOf M (M 88 (Int32.toNatClampNeg (y2 - 1)))).bind fun r9 =>
  wgi (y2 - 1) 12 <|
  wgi (M 88 (Int32.toNatClampNeg (y2 - 1))) 12 <|
  (fX10_likelyOf M y1).bind fun r13 =>
  if (((M 74 (Int32.toNatClampNeg (M 88 (Int32.toNatClampNeg (y2 - 1))))) * r13) : Int32) ≤ ((M 74 (Int32.toNatClampNeg y1)) * r9) then
    fX10_findOrder_77 M rec2 y1 y2
  else
    wgi (y2 - 1) 12 <|
    wgi y2 12 <|
    wlet (wup M 88 (Int32.toNatClampNeg y2) (M 88 (Int32.toNatClampNeg (y2 - 1)))) fun M17 =>
    wlet (y2 + (-1) : Int32) fun x18 =>
    rec12 (x18, M17)
noncomputable def fX10_findOrder_12 (M : wMem) (rec2 : (Int32 × wMem → Option (wMem))) (y1 : Int32) (y2 : Int32) : Option (wMem) :=
  wloop (fun rec12 t => fX10_findOrder_12_b t.2 rec2 rec12 y1 t.1) wfuel (y2, M)
noncomputable def fX10_findOrder_2_b (M : wMem)  (rec2 : (Int32 × wMem → Option (wMem))) (y1 : Int32) : Option (wMem) :=
if ((M 70 7) : Int32) ≤ y1 then
  some M
else
  fX10_findOrder_12 M rec2 y1 y1
noncomputable def fX10_findOrder_2 (M : wMem)  (y1 : Int32) : Option (wMem) :=
  wloop (fun rec2 t => fX10_findOrder_2_b t.2  rec2 t.1) wfuel (y1, M)
noncomputable def fX10_findOrder (M : wMem)  : Option (wMem) :=
fX10_findOrder_2 M  0
noncomputable def fX10_order (M : wMem) (a1 : Int32) : Option (Int32 × wMem) :=
if (0 : Int32) ≤ a1 then
  (fX10_findOrder M ).bind fun M4 =>
  if ((M4 70 7) : Int32) ≤ a1 then
    some ((-9), M4)
  else
    wgi a1 12 <|
    some ((M4 88 (Int32.toNatClampNeg a1)), M4)
else
  (fX10_no M (-4)).bind <| wpr fun r8 M9 =>
  some (r8, M9)
noncomputable def fX10_orderSum_24_b (M : wMem)  (rec24 : (Int32 × Int32 × Int32 → Option (Int32 × wMem))) (y1 : Int32) (y2 : Int32) (y3 : Int32) : Option (Int32 × wMem) :=
if ((M 70 7) : Int32) ≤ y3 then
  some (y2, M)
else
  wgi y3 12 <|
  wgi (M 88 (Int32.toNatClampNeg y3)) 12 <|
  wlet ((y1 + (M 74 (Int32.toNatClampNeg (M 88 (Int32.toNatClampNeg y3))))) : Int32) fun x8 =>
  wgi y3 12 <|
  (fX10_likelyOf M (M 88 (Int32.toNatClampNeg y3))).bind fun r11 =>
  wlet ((y2 + (r11 * x8)) : Int32) fun x12 =>
  wlet (y3 + 1 : Int32) fun x13 =>
  rec24 (x8, x12, x13)
noncomputable def fX10_orderSum_24 (M : wMem)  (y1 : Int32) (y2 : Int32) (y3 : Int32) : Option (Int32 × wMem) :=
  wloop (fun rec24 t => fX10_orderSum_24_b M  rec24 t.1 t.2.1 t.2.2) wfuel (y1, y2, y3)
noncomputable def fX10_orderSum (M : wMem)  : Option (Int32 × wMem) :=
if ((M 70 7) : Int32) = 0 then
  (fX10_no M (-3)).bind <| wpr fun r15 M16 =>
  some (r15, M16)
else
  (fX10_findOrder M ).bind fun M4 =>
  fX10_orderSum_24 M4  0 0 0
noncomputable def fX10_told (M : wMem) (a1 : Int32) (a2 : Int32) : Option (Int32 × wMem) :=
(fX10_isLamp M a1).bind fun r2 =>
if ((wb r2) : Int32) = 0 then
  (fX10_no M (-1)).bind <| wpr fun r20 M21 =>
  some (r20, M21)
else
  (fX10_isIn M a2 0 1).bind fun r5 =>
  if ((wb r5) : Int32) = 0 then
    (fX10_no M (-2)).bind <| wpr fun r17 M18 =>
    some (r17, M18)
  else
    if ((M 70 28) : Int32) = 6 then
      (fX10_no M (-6)).bind <| wpr fun r14 M15 =>
      some (r14, M15)
    else
      wgi (M 70 28) 6 <|
      wlet (wup M 89 (Int32.toNatClampNeg (M 70 28)) a1) fun M9 =>
      wgi (M9 70 28) 6 <|
      wlet (wup M9 90 (Int32.toNatClampNeg (M9 70 28)) a2) fun M11 =>
      wlet (wup M11 70 28 ((M11 70 28) + 1)) fun M12 =>
      some ((M12 70 28), M12)
noncomputable def fX10_openBy_90 (M : wMem) (rec4 : (Int32 × Int32 → Option (Int32))) (y1 : Int32) (y3 : Int32) (z0 : Int32) (z1 : Int32) : Option (Int32) :=
wlet ((z0 ||| z1) : Int32) fun x4 =>
wlet (y3 + 1 : Int32) fun x5 =>
rec4 (x4, x5)
noncomputable def fX10_openBy_69 (M : wMem) (rec4 : (Int32 × Int32 → Option (Int32))) (rec18 : (Int32 × Int32 → Option (Int32))) (y1 : Int32) (y2 : Int32) (y3 : Int32) (y5 : Int32) (z0 : Int32) : Option (Int32) :=
wlet (y5 + 1 : Int32) fun x7 =>
rec18 (z0, x7)
noncomputable def fX10_openBy_68 (M : wMem) (rec4 : (Int32 × Int32 → Option (Int32))) (rec18 : (Int32 × Int32 → Option (Int32))) (y1 : Int32) (y2 : Int32) (y3 : Int32) (y5 : Int32) : Option (Int32) :=
fX10_openBy_69 M rec4 rec18 y1 y2 y3 y5 0
noncomputable def fX10_openBy_61 (M : wMem) (rec4 : (Int32 × Int32 → Option (Int32))) (rec18 : (Int32 × Int32 → Option (Int32))) (y1 : Int32) (y2 : Int32) (y3 : Int32) (y5 : Int32) (z0 : Int32) (z1 : Int32) : Option (Int32) :=
if (z0 : Int32) = z1 then
  fX10_openBy_69 M rec4 rec18 y1 y2 y3 y5 1
else
  fX10_openBy_68 M rec4 rec18 y1 y2 y3 y5
noncomputable def fX10_openBy_45 (M : wMem) (rec4 : (Int32 × Int32 → Option (Int32))) (rec18 : (Int32 × Int32 → Option (Int32))) (y1 : Int32) (y2 : Int32) (y3 : Int32) (y5 : Int32) (z0 : Int32) : Option (Int32) :=
wgi y5 6 <|
if ((M 90 (Int32.toNatClampNeg y5)) : Int32) = 1 then
  fX10_openBy_61 M rec4 rec18 y1 y2 y3 y5 z0 1
else
  fX10_openBy_61 M rec4 rec18 y1 y2 y3 y5 z0 0
noncomputable def fX10_openBy_18_b (M : wMem) (rec4 : (Int32 × Int32 → Option (Int32))) (rec18 : (Int32 × Int32 → Option (Int32))) (y1 : Int32) (y2 : Int32) (y3 : Int32) (y4 : Int32) (y5 : Int32) : Option (Int32) :=
if (y1 : Int32) ≤ y5 then
  if (y4 : Int32) = 0 then
    fX10_openBy_90 M rec4 y1 y3 y2 0
  else
    fX10_openBy_90 M rec4 y1 y3 y2 ((1 : Int32) <<< (y3 &&& 31))
else
  if (y4 : Int32) = 0 then
    fX10_openBy_68 M rec4 rec18 y1 y2 y3 y5
  else
    wgi y5 6 <|
    if (y3 : Int32) < (M 89 (Int32.toNatClampNeg y5)) then
      fX10_openBy_45 M rec4 rec18 y1 y2 y3 y5 0
    else
      fX10_openBy_45 M rec4 rec18 y1 y2 y3 y5 1
noncomputable def fX10_openBy_18 (M : wMem) (rec4 : (Int32 × Int32 → Option (Int32))) (y1 : Int32) (y2 : Int32) (y3 : Int32) (y4 : Int32) (y5 : Int32) : Option (Int32) :=
  wloop (fun rec18 t => fX10_openBy_18_b M rec4 rec18 y1 y2 y3 t.1 t.2) wfuel (y4, y5)
noncomputable def fX10_openBy_4_b (M : wMem)  (rec4 : (Int32 × Int32 → Option (Int32))) (y1 : Int32) (y2 : Int32) (y3 : Int32) : Option (Int32) :=
if ((M 70 7) : Int32) ≤ y3 then
  some y2
else
  fX10_openBy_18 M rec4 y1 y2 y3 1 0
noncomputable def fX10_openBy_4 (M : wMem)  (y1 : Int32) (y2 : Int32) (y3 : Int32) : Option (Int32) :=
  wloop (fun rec4 t => fX10_openBy_4_b M  rec4 y1 t.1 t.2) wfuel (y2, y3)
noncomputable def fX10_openBy (M : wMem) (a1 : Int32) : Option (Int32) :=
fX10_openBy_4 M  a1 0 0
noncomputable def fX10_openTo (M : wMem)  : Option (Int32) :=
(fX10_openBy M (M 70 28)).bind fun r2 =>
some r2
noncomputable def fX10_judge_27 (M : wMem) (rec8 : (Int32 × Int32 → Option (Int32 × wMem))) (y2 : Int32) (z0 : Int32) : Option (Int32 × wMem) :=
wlet (y2 + (-1) : Int32) fun x7 =>
rec8 (z0, x7)
noncomputable def fX10_judge_8_b (M : wMem)  (rec8 : (Int32 × Int32 → Option (Int32 × wMem))) (y1 : Int32) (y2 : Int32) : Option (Int32 × wMem) :=
if (y2 : Int32) ≤ 0 then
  wlet (wup M 70 28 0) fun M3 =>
  some (y1, M3)
else
  (fX10_openBy M y2).bind fun r5 =>
  if (r5 : Int32) = 0 then
    fX10_judge_27 M rec8 y2 (y2 - 1)
  else
    fX10_judge_27 M rec8 y2 y1
noncomputable def fX10_judge_8 (M : wMem)  (y1 : Int32) (y2 : Int32) : Option (Int32 × wMem) :=
  wloop (fun rec8 t => fX10_judge_8_b M  rec8 t.1 t.2) wfuel (y1, y2)
noncomputable def fX10_judge (M : wMem)  : Option (Int32 × wMem) :=
wlet ((M 70 28) : Int32) fun x1 =>
fX10_judge_8 M  (-9) x1
noncomputable def fX10_lasts_42 (M : wMem)  (y1 : Int32) : Option (Int32 × wMem) :=
(fX10_passesAll M 1 0).bind fun M7 =>
some (y1, M7)
noncomputable def fX10_lasts_31 (M : wMem) (rec11 : (Int32 × Int32 × wMem → Option (Int32 × wMem))) (y1 : Int32) (y2 : Int32) : Option (Int32 × wMem) :=
(fX10_goesHour M ).bind <| wpr fun r13 M14 =>
wlet (y2 + 1 : Int32) fun x15 =>
rec11 (y1, x15, M14)
noncomputable def fX10_lasts_11_b (M : wMem)  (rec11 : (Int32 × Int32 × wMem → Option (Int32 × wMem))) (y1 : Int32) (y2 : Int32) : Option (Int32 × wMem) :=
if (400 : Int32) < y2 then
  fX10_lasts_42 M  y1
else
  if (0 : Int32) ≤ y1 then
    fX10_lasts_42 M  y1
  else
    (fX10_isLive M ).bind fun r10 =>
    if ((wb r10) : Int32) = 0 then
      fX10_lasts_31 M rec11 y2 y2
    else
      fX10_lasts_31 M rec11 y1 y2
noncomputable def fX10_lasts_11 (M : wMem)  (y1 : Int32) (y2 : Int32) : Option (Int32 × wMem) :=
  wloop (fun rec11 t => fX10_lasts_11_b t.2.2  rec11 t.1 t.2.1) wfuel (y1, y2, M)
noncomputable def fX10_lasts (M : wMem)  : Option (Int32 × wMem) :=
(fX10_passesAll M 1 1).bind fun M3 =>
fX10_lasts_11 M3  (-9) 0
noncomputable def fX10_findNext_129 (M : wMem)   : Option (wMem) :=
(fX10_passesAll M 1 0).bind fun M10 =>
some M10
noncomputable def fX10_findNext_117 (M : wMem) (rec57 : (Int32 × wMem → Option (wMem))) (rec83 : (Int32 × wMem → Option (wMem))) (y1 : Int32) (y2 : Int32) (y3 : Int32) : Option (wMem) :=
wlet (y3 + (-1) : Int32) fun x19 =>
rec83 (x19, M)
noncomputable def fX10_findNext_83_b (M : wMem) (rec57 : (Int32 × wMem → Option (wMem))) (rec83 : (Int32 × wMem → Option (wMem))) (y1 : Int32) (y2 : Int32) (y3 : Int32) : Option (wMem) :=
if (y3 : Int32) < 0 then
  wlet (y2 + 1 : Int32) fun x17 =>
  rec57 (x17, M)
else
  if (((y1 >>> (y3 &&& 31)) &&& 1) : Int32) = 0 then
    fX10_findNext_117 M rec57 rec83 y1 y2 y3
  else
    wgi y3 12 <|
    if ((M 76 (Int32.toNatClampNeg y3)) : Int32) = 0 then
      fX10_findNext_117 M rec57 rec83 y1 y2 y3
    else
      wlet (wup M 70 29 y3) fun M22 =>
      wlet (wup M22 70 30 y2) fun M23 =>
      fX10_findNext_117 M23 rec57 rec83 y1 y2 y3
noncomputable def fX10_findNext_83 (M : wMem) (rec57 : (Int32 × wMem → Option (wMem))) (y1 : Int32) (y2 : Int32) (y3 : Int32) : Option (wMem) :=
  wloop (fun rec83 t => fX10_findNext_83_b t.2 rec57 rec83 y1 y2 t.1) wfuel (y3, M)
noncomputable def fX10_findNext_57_b (M : wMem)  (rec57 : (Int32 × wMem → Option (wMem))) (y1 : Int32) (y2 : Int32) : Option (wMem) :=
if (400 : Int32) < y2 then
  fX10_findNext_129 M  
else
  if (0 : Int32) ≤ (M 70 29) then
    fX10_findNext_129 M  
  else
    (fX10_goesHour M ).bind <| wpr fun r13 M14 =>
    wlet (((M14 70 7) - 1) : Int32) fun x15 =>
    fX10_findNext_83 M14 rec57 y1 y2 x15
noncomputable def fX10_findNext_57 (M : wMem)  (y1 : Int32) (y2 : Int32) : Option (wMem) :=
  wloop (fun rec57 t => fX10_findNext_57_b t.2  rec57 y1 t.1) wfuel (y2, M)
noncomputable def fX10_findNext_47 (M : wMem) (rec22 : (Int32 × Int32 → Option (wMem))) (y2 : Int32) (z0 : Int32) (z1 : Int32) : Option (wMem) :=
wlet ((z0 ||| z1) : Int32) fun x26 =>
wlet (y2 + 1 : Int32) fun x27 =>
rec22 (x26, x27)
noncomputable def fX10_findNext_22_b (M : wMem)  (rec22 : (Int32 × Int32 → Option (wMem))) (y1 : Int32) (y2 : Int32) : Option (wMem) :=
if ((M 70 7) : Int32) ≤ y2 then
  fX10_findNext_57 M  y1 1
else
  wgi y2 12 <|
  if ((M 76 (Int32.toNatClampNeg y2)) : Int32) = 0 then
    fX10_findNext_47 M rec22 y2 y1 ((1 : Int32) <<< (y2 &&& 31))
  else
    fX10_findNext_47 M rec22 y2 y1 0
noncomputable def fX10_findNext_22 (M : wMem)  (y1 : Int32) (y2 : Int32) : Option (wMem) :=
  wloop (fun rec22 t => fX10_findNext_22_b M  rec22 t.1 t.2) wfuel (y1, y2)
noncomputable def fX10_findNext (M : wMem)  : Option (wMem) :=
wlet (wup M 70 29 (-9)) fun M1 =>
wlet (wup M1 70 30 (-9)) fun M2 =>
(fX10_passesAll M2 1 1).bind fun M5 =>
fX10_findNext_22 M5  0 0
noncomputable def fX10_next (M : wMem) (a1 : Int32) : Option (Int32 × wMem) :=
(fX10_isIn M a1 0 1).bind fun r2 =>
if ((wb r2) : Int32) = 0 then
  (fX10_no M (-2)).bind <| wpr fun r9 M10 =>
  some (r9, M10)
else
  (fX10_findNext M ).bind fun M6 =>
  if (a1 : Int32) = 0 then
    some ((M6 70 29), M6)
  else
    some ((M6 70 30), M6)
noncomputable def fX10_stateMany_28 (M : wMem) (rec4 : (Int32 × Int32 → Option (Int32))) (y1 : Int32) (y3 : Int32) (z0 : Int32) (z1 : Int32) : Option (Int32) :=
wlet ((z0 + z1) : Int32) fun x4 =>
wlet (y3 + 1 : Int32) fun x5 =>
rec4 (x4, x5)
noncomputable def fX10_stateMany_4_b (M : wMem)  (rec4 : (Int32 × Int32 → Option (Int32))) (y1 : Int32) (y2 : Int32) (y3 : Int32) : Option (Int32) :=
if ((M 70 7) : Int32) ≤ y3 then
  some y2
else
  wgi y3 12 <|
  if ((M 76 (Int32.toNatClampNeg y3)) : Int32) = y1 then
    fX10_stateMany_28 M rec4 y1 y3 y2 1
  else
    fX10_stateMany_28 M rec4 y1 y3 y2 0
noncomputable def fX10_stateMany_4 (M : wMem)  (y1 : Int32) (y2 : Int32) (y3 : Int32) : Option (Int32) :=
  wloop (fun rec4 t => fX10_stateMany_4_b M  rec4 y1 t.1 t.2) wfuel (y2, y3)
noncomputable def fX10_stateMany (M : wMem) (a1 : Int32) : Option (Int32) :=
fX10_stateMany_4 M  a1 0 0
noncomputable def fX10_bridged_65 (M : wMem)  (y3 : Int32) : Option (Int32 × wMem) :=
(fX10_passesAll M 1 0).bind fun M10 =>
some (y3, M10)
noncomputable def fX10_bridged_54 (M : wMem) (rec30 : (Int32 × Int32 × wMem → Option (Int32 × wMem))) (y1 : Int32) (y3 : Int32) (y4 : Int32) : Option (Int32 × wMem) :=
(fX10_goesHour M ).bind <| wpr fun r16 M17 =>
wlet (y4 + 1 : Int32) fun x18 =>
rec30 (y3, x18, M17)
noncomputable def fX10_bridged_30_b (M : wMem)  (rec30 : (Int32 × Int32 × wMem → Option (Int32 × wMem))) (y1 : Int32) (y3 : Int32) (y4 : Int32) : Option (Int32 × wMem) :=
if (400 : Int32) < y4 then
  fX10_bridged_65 M  y3
else
  if (0 : Int32) ≤ y3 then
    fX10_bridged_65 M  y3
  else
    (fX10_stateMany M 2).bind fun r13 =>
    if (r13 : Int32) < y1 then
      fX10_bridged_54 M rec30 y1 y3 y4
    else
      fX10_bridged_54 M rec30 y1 y4 y4
noncomputable def fX10_bridged_30 (M : wMem)  (y1 : Int32) (y3 : Int32) (y4 : Int32) : Option (Int32 × wMem) :=
  wloop (fun rec30 t => fX10_bridged_30_b t.2.2  rec30 y1 t.1 t.2.1) wfuel (y3, y4, M)
noncomputable def fX10_bridged (M : wMem) (a1 : Int32) : Option (Int32 × wMem) :=
(fX10_bound M a1 0 12).bind fun r2 =>
if (r2 : Int32) = 0 then
  (fX10_passesAll M 1 1).bind fun M6 =>
  fX10_bridged_30 M6  a1 (-9) 0
else
  (fX10_no M r2).bind <| wpr fun r20 M21 =>
  some (r20, M21)
noncomputable def fX10_stop_16_b (M : wMem)  (rec16 : (Int32 → Option (Int32 × wMem))) (y1 : Int32) : Option (Int32 × wMem) :=
if ((M 70 7) : Int32) ≤ y1 then
  some ((-9), M)
else
  wgi 0 4 <|
  wgz (10 * ((M 70 7) - y1)) <|
  (fX10_least M 9999 ((100 * (M 77 (Int32.toNatClampNeg 0))) / (10 * ((M 70 7) - y1)))).bind fun r6 =>
  wgi 2 4 <|
  if (r6 : Int32) ≤ (M 77 (Int32.toNatClampNeg 2)) then
    wlet (y1 + 1 : Int32) fun x9 =>
    rec16 (x9)
  else
    some (y1, M)
noncomputable def fX10_stop_16 (M : wMem)  (y1 : Int32) : Option (Int32 × wMem) :=
  wloop (fun rec16 t => fX10_stop_16_b M  rec16 t) wfuel (y1)
noncomputable def fX10_stop (M : wMem)  : Option (Int32 × wMem) :=
if ((M 70 7) : Int32) = 0 then
  (fX10_no M (-3)).bind <| wpr fun r11 M12 =>
  some (r11, M12)
else
  fX10_stop_16 M  0
noncomputable def fX10_light_45_b (M : wMem) (rec30 : (Int32 × Int32 × wMem → Option (Int32 × wMem))) (rec45 : (Int32 × Int32 → Option (Int32 × wMem))) (y1 : Int32) (y3 : Int32) (y4 : Int32) (y5 : Int32) (y6 : Int32) : Option (Int32 × wMem) :=
if ((M 70 7) : Int32) ≤ y6 then
  (fX10_goesHour M ).bind <| wpr fun r15 M16 =>
  wlet (y4 + 1 : Int32) fun x17 =>
  rec30 (y3, x17, M16)
else
  (fX10_brightBy M y6 y5).bind fun r19 =>
  wlet ((y3 + r19) : Int32) fun x20 =>
  wlet (y6 + 1 : Int32) fun x21 =>
  rec45 (x20, x21)
noncomputable def fX10_light_45 (M : wMem) (rec30 : (Int32 × Int32 × wMem → Option (Int32 × wMem))) (y1 : Int32) (y3 : Int32) (y4 : Int32) (y5 : Int32) (y6 : Int32) : Option (Int32 × wMem) :=
  wloop (fun rec45 t => fX10_light_45_b M rec30 rec45 y1 t.1 y4 y5 t.2) wfuel (y3, y6)
noncomputable def fX10_light_30_b (M : wMem)  (rec30 : (Int32 × Int32 × wMem → Option (Int32 × wMem))) (y1 : Int32) (y3 : Int32) (y4 : Int32) : Option (Int32 × wMem) :=
if (y1 : Int32) ≤ y4 then
  (fX10_passesAll M 1 0).bind fun M10 =>
  some (y3, M10)
else
  (fX10_flowNow M ).bind fun r12 =>
  fX10_light_45 M rec30 y1 y3 y4 r12 0
noncomputable def fX10_light_30 (M : wMem)  (y1 : Int32) (y3 : Int32) (y4 : Int32) : Option (Int32 × wMem) :=
  wloop (fun rec30 t => fX10_light_30_b t.2.2  rec30 y1 t.1 t.2.1) wfuel (y3, y4, M)
noncomputable def fX10_light (M : wMem) (a1 : Int32) : Option (Int32 × wMem) :=
(fX10_bound M a1 0 200).bind fun r2 =>
if (r2 : Int32) = 0 then
  (fX10_passesAll M 1 1).bind fun M6 =>
  fX10_light_30 M6  a1 0 0
else
  (fX10_no M r2).bind <| wpr fun r23 M24 =>
  some (r23, M24)
noncomputable def fX10_keeps_70 (M : wMem) (rec30 : (Int32 × Int32 × wMem → Option (Int32 × wMem))) (rec39 : (Int32 × Int32 × wMem → Option (Int32 × wMem))) (y1 : Int32) (y3 : Int32) (y4 : Int32) (y5 : Int32) : Option (Int32 × wMem) :=
wlet (y5 + 1 : Int32) fun x22 =>
rec39 (y3, x22, M)
noncomputable def fX10_keeps_39_b (M : wMem) (rec30 : (Int32 × Int32 × wMem → Option (Int32 × wMem))) (rec39 : (Int32 × Int32 × wMem → Option (Int32 × wMem))) (y1 : Int32) (y3 : Int32) (y4 : Int32) (y5 : Int32) : Option (Int32 × wMem) :=
if ((M 70 7) : Int32) ≤ y5 then
  (fX10_goesHour M ).bind <| wpr fun r13 M14 =>
  wlet (y4 + 1 : Int32) fun x15 =>
  rec30 (y3, x15, M14)
else
  wgi y5 12 <|
  if ((M 76 (Int32.toNatClampNeg y5)) : Int32) = 0 then
    fX10_keeps_70 M rec30 rec39 y1 y3 y4 y5
  else
    (fX10_putsAnew M y5).bind fun M20 =>
    wlet (y3 + 1 : Int32) fun x21 =>
    fX10_keeps_70 M20 rec30 rec39 y1 x21 y4 y5
noncomputable def fX10_keeps_39 (M : wMem) (rec30 : (Int32 × Int32 × wMem → Option (Int32 × wMem))) (y1 : Int32) (y3 : Int32) (y4 : Int32) (y5 : Int32) : Option (Int32 × wMem) :=
  wloop (fun rec39 t => fX10_keeps_39_b t.2.2 rec30 rec39 y1 t.1 y4 t.2.1) wfuel (y3, y5, M)
noncomputable def fX10_keeps_30_b (M : wMem)  (rec30 : (Int32 × Int32 × wMem → Option (Int32 × wMem))) (y1 : Int32) (y3 : Int32) (y4 : Int32) : Option (Int32 × wMem) :=
if (y1 : Int32) ≤ y4 then
  (fX10_passesAll M 1 0).bind fun M10 =>
  some (y3, M10)
else
  fX10_keeps_39 M rec30 y1 y3 y4 0
noncomputable def fX10_keeps_30 (M : wMem)  (y1 : Int32) (y3 : Int32) (y4 : Int32) : Option (Int32 × wMem) :=
  wloop (fun rec30 t => fX10_keeps_30_b t.2.2  rec30 y1 t.1 t.2.1) wfuel (y3, y4, M)
noncomputable def fX10_keeps (M : wMem) (a1 : Int32) : Option (Int32 × wMem) :=
(fX10_bound M a1 1 200).bind fun r2 =>
if (r2 : Int32) = 0 then
  (fX10_passesAll M 1 1).bind fun M6 =>
  fX10_keeps_30 M6  a1 0 0
else
  (fX10_no M r2).bind <| wpr fun r24 M25 =>
  some (r24, M25)
noncomputable def fX10_isLiveBy_66 (M : wMem)  (y2 : Int32) : Option (Bool × wMem) :=
(fX10_passesAll M 1 0).bind fun M7 =>
wlet (y2 : Int32) fun x8 =>
wrb x8 fun b9 =>
some (b9, M7)
noncomputable def fX10_isLiveBy_50 (M : wMem) (rec10 : (Int32 × Int32 × wMem → Option (Bool × wMem))) (y1 : Int32) (y3 : Int32) : Option (Bool × wMem) :=
(fX10_isLive M ).bind fun r13 =>
wlet ((wb r13) : Int32) fun x14 =>
(fX10_goesHour M ).bind <| wpr fun r16 M17 =>
wlet (y3 + 1 : Int32) fun x18 =>
rec10 (x14, x18, M17)
noncomputable def fX10_isLiveBy_23_b (M : wMem) (rec10 : (Int32 × Int32 × wMem → Option (Bool × wMem))) (rec23 : (Int32 × wMem → Option (Bool × wMem))) (y1 : Int32) (y3 : Int32) (y4 : Int32) : Option (Bool × wMem) :=
if ((M 70 7) : Int32) ≤ y4 then
  fX10_isLiveBy_50 M rec10 y1 y3
else
  wgz y1 <|
  if ((y3 - y3 / y1 * y1) : Int32) = 0 then
    (fX10_putsAnew M y4).bind fun M23 =>
    wlet (y4 + 1 : Int32) fun x24 =>
    rec23 (x24, M23)
  else
    fX10_isLiveBy_50 M rec10 y1 y3
noncomputable def fX10_isLiveBy_23 (M : wMem) (rec10 : (Int32 × Int32 × wMem → Option (Bool × wMem))) (y1 : Int32) (y3 : Int32) (y4 : Int32) : Option (Bool × wMem) :=
  wloop (fun rec23 t => fX10_isLiveBy_23_b t.2 rec10 rec23 y1 y3 t.1) wfuel (y4, M)
noncomputable def fX10_isLiveBy_10_b (M : wMem)  (rec10 : (Int32 × Int32 × wMem → Option (Bool × wMem))) (y1 : Int32) (y2 : Int32) (y3 : Int32) : Option (Bool × wMem) :=
if (60 : Int32) ≤ y3 then
  fX10_isLiveBy_66 M  y2
else
  if (y2 : Int32) = 0 then
    fX10_isLiveBy_66 M  y2
  else
    fX10_isLiveBy_23 M rec10 y1 y3 0
noncomputable def fX10_isLiveBy_10 (M : wMem)  (y1 : Int32) (y2 : Int32) (y3 : Int32) : Option (Bool × wMem) :=
  wloop (fun rec10 t => fX10_isLiveBy_10_b t.2.2  rec10 y1 t.1 t.2.1) wfuel (y2, y3, M)
noncomputable def fX10_isLiveBy (M : wMem) (a1 : Int32) : Option (Bool × wMem) :=
(fX10_passesAll M 1 1).bind fun M3 =>
fX10_isLiveBy_10 M3  a1 1 0
noncomputable def fX10_allAnew_17_b (M : wMem)  (rec17 : (Int32 × wMem → Option (Int32 × wMem))) (y1 : Int32) : Option (Int32 × wMem) :=
if (y1 : Int32) ≤ 0 then
  some ((-9), M)
else
  (fX10_isLiveBy M y1).bind <| wpr fun r4 M5 =>
  if ((wb r4) : Int32) = 0 then
    wlet (y1 + (-1) : Int32) fun x7 =>
    rec17 (x7, M5)
  else
    some (y1, M5)
noncomputable def fX10_allAnew_17 (M : wMem)  (y1 : Int32) : Option (Int32 × wMem) :=
  wloop (fun rec17 t => fX10_allAnew_17_b t.2  rec17 t.1) wfuel (y1, M)
noncomputable def fX10_allAnew (M : wMem)  : Option (Int32 × wMem) :=
if ((M 70 7) : Int32) = 0 then
  (fX10_no M (-3)).bind <| wpr fun r9 M10 =>
  some (r9, M10)
else
  fX10_allAnew_17 M  50
noncomputable def fX10_joined_31 (M : wMem)  (z0 : Int32) (z1 : Int32) : Option (Int32) :=
wgz z1 <|
some (z0 / z1)
noncomputable def fX10_joined (M : wMem)  : Option (Int32) :=
(fX10_flowNow M ).bind fun r2 =>
wgz 10 <|
wlet ((r2 / 10) : Int32) fun x4 =>
(fX10_isLive M ).bind fun r6 =>
if ((wb r6) : Int32) = 0 then
  some 0
else
  wgi 2 4 <|
  if (1 : Int32) ≤ x4 then
    fX10_joined_31 M  (M 77 (Int32.toNatClampNeg 2)) x4
  else
    fX10_joined_31 M  (M 77 (Int32.toNatClampNeg 2)) 1
noncomputable def fX10_divisor_6_b (M : wMem)  (rec6 : (Int64 × Int64 → Option (Int64))) (y4 : Int64) (y6 : Int64) : Option (Int64) :=
if ((lg_cmp y6 (0 : Int64)) : Int32) = 0 then
  some y4
else
  wgzl y6 <|
  wlet ((y4 - y4 / y6 * y6) : Int64) fun x3 =>
  rec6 (y6, x3)
noncomputable def fX10_divisor_6 (M : wMem)  (y4 : Int64) (y6 : Int64) : Option (Int64) :=
  wloop (fun rec6 t => fX10_divisor_6_b M  rec6 t.1 t.2) wfuel (y4, y6)
noncomputable def fX10_divisor (M : wMem) (a0 : Int64) (a2 : Int64) : Option (Int64) :=
fX10_divisor_6 M  a0 a2
noncomputable def fX10_two_146 (M : wMem)  (y8 : Int64) (y10 : Int64) (z0 : Int64) : Option (Int64 × wMem) :=
(fX10_divisor M y8 y10).bind fun r14 =>
wgzl r14 <|
some ((z0 / r14), M)
noncomputable def fX10_two_57_b (M : wMem)  (rec57 : (Int64 × Int64 × Int64 × Int32 → Option (Int64 × wMem))) (y1 : Int32) (y2 : Int64) (y4 : Int64) (y6 : Int64) (y8 : Int32) : Option (Int64 × wMem) :=
if ((M 70 7) : Int32) ≤ y8 then
  wlet (((y2 - y4) - y6) : Int64) fun x10 =>
  wlet ((y2 - y4) : Int64) fun x11 =>
  if (y1 : Int32) = 0 then
    fX10_two_146 M  x10 x11 x10
  else
    fX10_two_146 M  x10 x11 x11
else
  (fX10_likelyOf M y8).bind fun r17 =>
  (fX10_least M 99 r17).bind fun r19 =>
  wlet (((y6 * (Int32.toInt64 (100 - r19))) + (y4 * (Int32.toInt64 r19))) : Int64) fun x20 =>
  wlet ((y4 * (Int32.toInt64 (100 - r19))) : Int64) fun x21 =>
  wlet ((y2 * (100 : Int64)) : Int64) fun x22 =>
  wlet (y8 + 1 : Int32) fun x23 =>
  rec57 (x22, x21, x20, x23)
noncomputable def fX10_two_57 (M : wMem)  (y1 : Int32) (y2 : Int64) (y4 : Int64) (y6 : Int64) (y8 : Int32) : Option (Int64 × wMem) :=
  wloop (fun rec57 t => fX10_two_57_b M  rec57 y1 t.1 t.2.1 t.2.2.1 t.2.2.2) wfuel (y2, y4, y6, y8)
noncomputable def fX10_two (M : wMem) (a1 : Int32) : Option (Int64 × wMem) :=
(fX10_isIn M a1 0 1).bind fun r2 =>
if ((wb r2) : Int32) = 0 then
  (fX10_lowest M (-2)).bind <| wpr fun r31 M32 =>
  some (r31, M32)
else
  if ((M 70 7) : Int32) = 0 then
    (fX10_lowest M (-3)).bind <| wpr fun r28 M29 =>
    some (r28, M29)
  else
    if ((M 70 7) : Int32) ≤ 8 then
      wlet ((1 : Int64) : Int64) fun x6 =>
      wlet ((1 : Int64) : Int64) fun x7 =>
      wlet ((0 : Int64) : Int64) fun x8 =>
      fX10_two_57 M  a1 x6 x7 x8 0
    else
      (fX10_lowest M (-6)).bind <| wpr fun r25 M26 =>
      some (r25, M26)
noncomputable def fX10_seeds_44_b (M : wMem)  (rec44 : (Int32 × Int32 × wMem → Option (Int32 × wMem))) (y1 : Int32) (y4 : Int32) (y5 : Int32) : Option (Int32 × wMem) :=
if (y1 : Int32) ≤ y5 then
  (fX10_stateMany M 0).bind fun r10 =>
  (fX10_passesAll M 1 0).bind fun M13 =>
  some (r10, M13)
else
  wlet (((y4 * 1103515245) + 12345) : Int32) fun x14 =>
  wgz 65536 <|
  wgz (M 70 7) <|
  (fX10_touches M (((x14 &&& 2147483647) / 65536) - ((x14 &&& 2147483647) / 65536) / (M 70 7) * (M 70 7))).bind fun M19 =>
  (fX10_goesHour M19 ).bind <| wpr fun r21 M22 =>
  wlet (y5 + 1 : Int32) fun x23 =>
  rec44 (x14, x23, M22)
noncomputable def fX10_seeds_44 (M : wMem)  (y1 : Int32) (y4 : Int32) (y5 : Int32) : Option (Int32 × wMem) :=
  wloop (fun rec44 t => fX10_seeds_44_b t.2.2  rec44 y1 t.1 t.2.1) wfuel (y4, y5, M)
noncomputable def fX10_seeds_22 (M : wMem)  (y1 : Int32) (y2 : Int32) (y3 : Int32) : Option (Int32 × wMem) :=
if (y3 : Int32) = 0 then
  (fX10_passesAll M 1 1).bind fun M7 =>
  fX10_seeds_44 M7  y1 y2 0
else
  (fX10_no M y3).bind <| wpr fun r25 M26 =>
  some (r25, M26)
noncomputable def fX10_seeds (M : wMem) (a1 : Int32) (a2 : Int32) : Option (Int32 × wMem) :=
(fX10_bound M a1 1 50).bind fun r2 =>
if (r2 : Int32) = 0 then
  if ((M 70 7) : Int32) = 0 then
    fX10_seeds_22 M  a1 a2 (-3)
  else
    fX10_seeds_22 M  a1 a2 r2
else
  fX10_seeds_22 M  a1 a2 r2
noncomputable def fX10_count_131_b (M : wMem)  (rec131 : (Int32 × Int32 → Option (Int32))) (y2 : Int32) (y3 : Int32) : Option (Int32) :=
if ((M 70 7) : Int32) ≤ y3 then
  some y2
else
  wgi y3 12 <|
  wlet ((y2 + (M 75 (Int32.toNatClampNeg y3))) : Int32) fun x22 =>
  wlet (y3 + 1 : Int32) fun x23 =>
  rec131 (x22, x23)
noncomputable def fX10_count_131 (M : wMem)  (y2 : Int32) (y3 : Int32) : Option (Int32) :=
  wloop (fun rec131 t => fX10_count_131_b M  rec131 t.1 t.2) wfuel (y2, y3)
noncomputable def fX10_count (M : wMem) (a1 : Int32) : Option (Int32) :=
(fX10_isIn M a1 11 16).bind fun r2 =>
if ((wb r2) : Int32) = 0 then
  (fX10_isIn M a1 1 4).bind fun r5 =>
  if ((wb r5) : Int32) = 0 then
    if (a1 : Int32) = 0 then
      some (M 70 7)
    else
    if (a1 : Int32) = 1 then
      some (-9)
    else
    if (a1 : Int32) = 2 then
      some (-9)
    else
    if (a1 : Int32) = 3 then
      some (-9)
    else
    if (a1 : Int32) = 4 then
      some (-9)
    else
    if (a1 : Int32) = 5 then
      some (M 70 8)
    else
    if (a1 : Int32) = 6 then
      (fX10_isLive M ).bind fun r15 =>
      if ((wb r15) : Int32) = 0 then
        some 0
      else
        some 1
    else
    if (a1 : Int32) = 7 then
      some (M 70 13)
    else
    if (a1 : Int32) = 8 then
      some (M 70 28)
    else
    if (a1 : Int32) = 9 then
      fX10_count_131 M  0 0
    else
    some (-9)
  else
    (fX10_stateMany M (a1 - 1)).bind fun r26 =>
    some r26
else
  wgi (a1 - 10) 7 <|
  some (M 71 (Int32.toNatClampNeg (a1 - 10)))
