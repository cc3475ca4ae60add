def f_X2_emit  (p1 : Int32) (s0 : zMem) : Option (Unit × zMem) :=
  if 160 ≤ (s0 5 3) then
    some ((), s0)
  else
    gd (zib (s0 5 3) 160) <|
    nm (zUp s0 7 (zix (s0 5 3)) p1) fun s1 =>
    nm (zUp s1 5 3 ((s1 5 3) + 1)) fun s2 =>
    some ((), s2)
def f_X2_byteAt  (p1 : Int32) (s0 : zMem) : Option (Int32 × zMem) :=
  if p1 < 0 then
    some ((-1), s0)
  else
    if 160 ≤ p1 then
      some ((-1), s0)
    else
      gd (zib p1 160) <|
      some (s0 6 (zix p1), s0)
def f_X6_isFromTo  (p1 : Int32) (p2 : Int32) (p3 : Int32) (s0 : zMem) : Option (Int32 × zMem) :=
  if p1 < p2 then
    some (0, s0)
  else
    if p3 < p1 then
      some (0, s0)
    else
      some (1, s0)
def f_X2_isLetter  (p1 : Int32) (s0 : zMem) : Option (Int32 × zMem) :=
  bd (f_X6_isFromTo p1 97 122 s0) fun r1 s2 =>
  gd (z01 r1) <|
  some (r1, s2)
def f_X2_endOfWord_10   : Nat → Int32 → Int32 → zMem → Option (Int32 × zMem)
  | 0, _, _, _ => none
  | n + 1, x3, x4, s5 =>
    if (s5 5 1) ≤ x4 then
      some (x3, s5)
    else
      bd (f_X2_byteAt x4 s5) fun r6 s7 =>
      bd (f_X2_isLetter r6 s7) fun r8 s9 =>
      if r8 = 0 then
        some (x3, s9)
      else
        nm (x4 + 1) fun x10 =>
        nm (x4 + 1) fun x11 =>
        f_X2_endOfWord_10 n x10 x11 s9
def f_X2_endOfWord   (s0 : zMem) : Option (Int32 × zMem) :=
  nm (s0 5 6) fun x1 =>
  nm (s0 5 6) fun x2 =>
  f_X2_endOfWord_10 zN x1 x2 s0
def f_X2_isBlank  (p1 : Int32) (s0 : zMem) : Option (Int32 × zMem) :=
  if p1 = 32 then
    some (1, s0)
  else
    if p1 = 10 then
      some (1, s0)
    else
      some (0, s0)
def f_X2_isDigit  (p1 : Int32) (s0 : zMem) : Option (Int32 × zMem) :=
  bd (f_X6_isFromTo p1 48 57 s0) fun r1 s2 =>
  gd (z01 r1) <|
  some (r1, s2)
def f_X2_isSign  (p1 : Int32) (s0 : zMem) : Option (Int32 × zMem) :=
  if p1 = 40 then
    some (1, s0)
  else if p1 = 41 then
    some (1, s0)
  else if p1 = 42 then
    some (1, s0)
  else if p1 = 43 then
    some (1, s0)
  else if p1 = 44 then
    some (0, s0)
  else if p1 = 45 then
    some (1, s0)
  else if p1 = 46 then
    some (0, s0)
  else if p1 = 47 then
    some (0, s0)
  else if p1 = 48 then
    some (0, s0)
  else if p1 = 49 then
    some (0, s0)
  else if p1 = 50 then
    some (0, s0)
  else if p1 = 51 then
    some (0, s0)
  else if p1 = 52 then
    some (0, s0)
  else if p1 = 53 then
    some (0, s0)
  else if p1 = 54 then
    some (0, s0)
  else if p1 = 55 then
    some (0, s0)
  else if p1 = 56 then
    some (0, s0)
  else if p1 = 57 then
    some (0, s0)
  else if p1 = 58 then
    some (0, s0)
  else if p1 = 59 then
    some (1, s0)
  else if p1 = 60 then
    some (1, s0)
  else if p1 = 61 then
    some (1, s0)
  else
    some (0, s0)
def f_J0_isLatin1_aae02 (i : Nat)  (s0 : zMem) : Option (Int32 × zMem) :=
  some (1, s0)
def f_J3_checkIndex_8e157  (p1 : Int32) (p2 : Int32) (s0 : zMem) : Option (Int32 × zMem) :=
  if p1 < 0 then
    none
  else
    if p1 < p2 then
      some (p1, s0)
    else
      none
def f_J0_checkIndex_df160  (p1 : Int32) (p2 : Int32) (s0 : zMem) : Option (Unit × zMem) :=
  bd (f_J3_checkIndex_8e157 p1 p2 s0) fun r1 s2 =>
  some ((), s2)
def f_J1_charAt_3b067 (i : Nat) (p2 : Int32) (s0 : zMem) : Option (Int32 × zMem) :=
  bd (f_J0_checkIndex_df160 p2 (Int32.ofNat (zLen.getD i 0)) s0) fun _ s2 =>
  gd (zib p2 (zLen.getD i 0)) <|
  gd (zch (((((zByt.getD i []).getD (zix p2) 0) &&& 255).toUInt32 % 65536).toInt32)) <|
  some (((((zByt.getD i []).getD (zix p2) 0) &&& 255).toUInt32 % 65536).toInt32, s2)
def f_J0_charAt_5068e (i : Nat) (p1 : Int32) (s0 : zMem) : Option (Int32 × zMem) :=
  bd (f_J0_isLatin1_aae02 i s0) fun r1 s2 =>
  if r1 = 0 then
    none
  else
    bd (f_J1_charAt_3b067 i p1 s2) fun r3 s4 =>
    gd (zch r3) <|
    some (r3, s4)
def f_J0_coder_7d493 (i : Nat)  (s0 : zMem) : Option (Int32 × zMem) :=
  some (0, s0)
def f_J0_length_8abf5 (i : Nat)  (s0 : zMem) : Option (Int32 × zMem) :=
  bd (f_J0_coder_7d493 i s0) fun r1 s2 =>
  some ((Int32.ofNat (zLen.getD i 0)) >>> (r1 &&& 31), s2)
def f_X2_isRead_20 (i : Nat)  : Nat → Int32 → zMem → Option (Int32 × zMem)
  | 0, _, _ => none
  | n + 1, x3, s4 =>
    bd (f_J0_length_8abf5 i s4) fun r5 s6 =>
    if r5 ≤ x3 then
      some (1, s6)
    else
      bd (f_X2_byteAt ((s6 5 6) + x3) s6) fun r7 s8 =>
      bd (f_J0_charAt_5068e i x3 s8) fun r9 s10 =>
      if r7 = r9 then
        nm (x3 + 1) fun x11 =>
        f_X2_isRead_20 i n x11 s10
      else
        some (0, s10)
def f_X2_isRead (i : Nat)  (s0 : zMem) : Option (Int32 × zMem) :=
  bd (f_J0_length_8abf5 i s0) fun r1 s2 =>
  if ((s0 5 5) - (s0 5 6)) = r1 then
    f_X2_isRead_20 i zN 0 s2
  else
    some (0, s2)
def f_X2_keyRead   (s0 : zMem) : Option (Int32 × zMem) :=
  bd (f_X2_isRead 1 s0) fun r1 s2 =>
  if r1 = 0 then
    bd (f_X2_isRead 2 s2) fun r3 s4 =>
    if r3 = 0 then
      bd (f_X2_isRead 3 s4) fun r5 s6 =>
      if r5 = 0 then
        bd (f_X2_isRead 4 s6) fun r7 s8 =>
        if r7 = 0 then
          bd (f_X2_isRead 5 s8) fun r9 s10 =>
          if r9 = 0 then
            bd (f_X2_isRead 6 s10) fun r11 s12 =>
            if r11 = 0 then
              some (1, s12)
            else
              some (9, s12)
          else
            some (8, s10)
        else
          some (7, s8)
      else
        some (6, s6)
    else
      some (5, s4)
  else
    some (4, s2)
def f_X2_nameRead   (s0 : zMem) : Option (Int32 × zMem) :=
  bd (f_X2_isRead 7 s0) fun r1 s2 =>
  if r1 = 0 then
    bd (f_X2_isRead 8 s2) fun r3 s4 =>
    if r3 = 0 then
      bd (f_X2_isRead 9 s4) fun r5 s6 =>
      if r5 = 0 then
        bd (f_X2_isRead 10 s6) fun r7 s8 =>
        if r7 = 0 then
          bd (f_X2_isRead 11 s8) fun r9 s10 =>
          if r9 = 0 then
            bd (f_X2_isRead 12 s10) fun r11 s12 =>
            if r11 = 0 then
              some ((-1), s12)
            else
              some (5, s12)
          else
            some (4, s10)
        else
          some (3, s8)
      else
        some (2, s6)
    else
      some (1, s4)
  else
    some (0, s2)
def f_X2_readNumber_10  (c62 : zMem → Option (Unit × zMem)) : Nat → Int32 → zMem → Option (Unit × zMem)
  | 0, _, _ => none
  | n + 1, x3, s4 =>
    if (s4 5 1) ≤ x3 then
      c62 s4
    else
      bd (f_X2_byteAt x3 s4) fun r5 s6 =>
      bd (f_X2_isDigit r5 s6) fun r7 s8 =>
      if r7 = 0 then
        c62 s8
      else
        nm (zUp s8 5 5 (x3 + 1)) fun s9 =>
        bd (f_X2_byteAt x3 s9) fun r10 s11 =>
        nm (zUp s11 5 8 ((((s9 5 8) * 10) + r10) - 48)) fun s12 =>
        nm (x3 + 1) fun x13 =>
        f_X2_readNumber_10 c62 n x13 s12
def f_X2_readNumber   (s0 : zMem) : Option (Unit × zMem) :=
  nm (zUp s0 5 8 0) fun s1 =>
  nm (s1 5 6) fun x2 =>
  f_X2_readNumber_10 (fun s14 =>
    if ((s14 5 5) - (s14 5 6)) ≤ 4 then
      nm (zUp s14 5 7 2) fun s15 =>
      some ((), s15)
    else
      nm (zUp s14 5 7 1) fun s16 =>
      some ((), s16)) zN x2 s1
def f_X2_readToken_5  (c37 : zMem → Option (Unit × zMem)) : Nat → Int32 → zMem → Option (Unit × zMem)
  | 0, _, _ => none
  | n + 1, x2, s3 =>
    if (s3 5 1) ≤ x2 then
      c37 s3
    else
      bd (f_X2_byteAt x2 s3) fun r4 s5 =>
      bd (f_X2_isBlank r4 s5) fun r6 s7 =>
      if r6 = 0 then
        c37 s7
      else
        nm (zUp s7 5 5 (x2 + 1)) fun s8 =>
        nm (x2 + 1) fun x9 =>
        f_X2_readToken_5 c37 n x9 s8
def f_X2_readToken_37   (s11 : zMem) : Option (Unit × zMem) :=
  nm (zUp s11 5 6 (s11 5 5)) fun s12 =>
  bd (f_X2_byteAt (s12 5 6) s12) fun r13 s14 =>
  if (s14 5 6) < (s14 5 1) then
    bd (f_X2_isLetter r13 s14) fun r15 s16 =>
    if r15 = 0 then
      bd (f_X2_isDigit r13 s16) fun r17 s18 =>
      if r17 = 0 then
        nm (zUp s18 5 5 ((s18 5 6) + 1)) fun s19 =>
        bd (f_X2_isSign r13 s19) fun r20 s21 =>
        if r20 = 0 then
          nm (zUp s21 5 7 1) fun s22 =>
          some ((), s22)
        else
          nm (zUp s21 5 7 r13) fun s23 =>
          some ((), s23)
      else
        bd (f_X2_readNumber s18) fun _ s25 =>
        some ((), s25)
    else
      bd (f_X2_endOfWord s16) fun r26 s27 =>
      nm (zUp s27 5 5 r26) fun s28 =>
      bd (f_X2_nameRead s28) fun r29 s30 =>
      nm (zUp s30 5 8 r29) fun s31 =>
      if (s31 5 8) = (-1) then
        bd (f_X2_keyRead s31) fun r33 s34 =>
        nm (zUp s34 5 7 r33) fun s35 =>
        some ((), s35)
      else
        nm (zUp s31 5 7 3) fun s32 =>
        some ((), s32)
  else
    nm (zUp s14 5 7 0) fun s36 =>
    some ((), s36)
def f_X2_readToken   (s0 : zMem) : Option (Unit × zMem) :=
  nm (s0 5 5) fun x1 =>
  f_X2_readToken_5 (fun s10 =>
    f_X2_readToken_37 s10) zN x1 s0
def f_X2_fail   (s0 : zMem) : Option (Unit × zMem) :=
  if (s0 5 9) = (-1) then
    nm (zUp s0 5 9 (s0 5 6)) fun s2 =>
    nm (zUp s2 5 7 1) fun s3 =>
    some ((), s3)
  else
    nm (zUp s0 5 7 1) fun s1 =>
    some ((), s1)
def f_X2_opens  (p1 : Int32) (s0 : zMem) : Option (Int32 × zMem) :=
  if p1 < 5 then
    bd (f_X2_readToken s0) fun _ s2 =>
    some (1, s2)
  else
    bd (f_X2_fail s0) fun _ s4 =>
    some (0, s4)
def f_X0_ofName  (p1 : Int32) (s0 : zMem) : Option (Int32 × zMem) :=
  some ((-1) - p1, s0)
def f_X2_expect  (p1 : Int32) (s0 : zMem) : Option (Unit × zMem) :=
  if (s0 5 7) = p1 then
    bd (f_X2_readToken s0) fun _ s4 =>
    some ((), s4)
  else
    bd (f_X2_fail s0) fun _ s2 =>
    some ((), s2)
def f_X5_heatOfAll_4 (w : Nat)  : Nat → Int32 → Int32 → zMem → Option (Int32 × zMem)
  | 0, _, _, _ => none
  | n + 1, x1, x2, s3 =>
    if (s3 w 9) ≤ x2 then
      some (x1, s3)
    else
      gd (zib x2 6) <|
      nm (x1 + (s3 (w + 1) (zix x2))) fun x4 =>
      nm (x2 + 1) fun x5 =>
      f_X5_heatOfAll_4 w n x4 x5 s3
def f_X5_heatOfAll (w : Nat)  (s0 : zMem) : Option (Int32 × zMem) :=
  f_X5_heatOfAll_4 w zN 0 0 s0
def f_X6_count  (p1 : Int32) (s0 : zMem) : Option (Int32 × zMem) :=
  if p1 = 0 then
    some (s0 9 9, s0)
  else if p1 = 1 then
    some (s0 9 10, s0)
  else if p1 = 2 then
    some (s0 9 11, s0)
  else if p1 = 3 then
    bd (f_X5_heatOfAll 9 s0) fun r1 s2 =>
    some (r1, s2)
  else if p1 = 4 then
    some (s0 1 3, s0)
  else if p1 = 5 then
    some (s0 9 12, s0)
  else if p1 = 6 then
    some (s0 5 1, s0)
  else
    some ((-2), s0)
def f_X2_takeByte  (p1 : Int32) (s0 : zMem) : Option (Unit × zMem) :=
  if 160 ≤ (s0 5 1) then
    some ((), s0)
  else
    gd (zib (s0 5 1) 160) <|
    nm (zUp s0 6 (zix (s0 5 1)) p1) fun s1 =>
    nm (zUp s1 5 1 ((s1 5 1) + 1)) fun s2 =>
    some ((), s2)
def f_X6_isByte  (p1 : Int32) (s0 : zMem) : Option (Int32 × zMem) :=
  bd (f_X6_isFromTo p1 0 255 s0) fun r1 s2 =>
  gd (z01 r1) <|
  some (r1, s2)
def f_X6_feed_103   (x20 : Int32) (x21 : Int32) (x22 : Int32) (s23 : zMem) : Option (Int32 × zMem) :=
  if x20 ≤ 3 then
    if x20 ≤ 4 then
      some (s23 5 1, s23)
    else
      bd (f_X2_takeByte x22 s23) fun _ s25 =>
      some (s25 5 1, s25)
  else
    bd (f_X2_takeByte x21 s23) fun _ s27 =>
    if x20 ≤ 4 then
      some (s27 5 1, s27)
    else
      bd (f_X2_takeByte x22 s27) fun _ s29 =>
      some (s29 5 1, s29)
def f_X6_feed_89   (x15 : Int32) (x16 : Int32) (x17 : Int32) (x18 : Int32) (s19 : zMem) : Option (Int32 × zMem) :=
  if x15 ≤ 2 then
    f_X6_feed_103 x15 x17 x18 s19
  else
    bd (f_X2_takeByte x16 s19) fun _ s31 =>
    f_X6_feed_103 x15 x17 x18 s31
def f_X6_feed  (p1 : Int32) (p2 : Int32) (p3 : Int32) (p4 : Int32) (p5 : Int32) (p6 : Int32) (s0 : zMem) : Option (Int32 × zMem) :=
  bd (f_X6_isFromTo p1 1 5 s0) fun r1 s2 =>
  if r1 = 0 then
    some ((-2), s2)
  else
    bd (f_X6_isByte p2 s2) fun r3 s4 =>
    if r3 = 0 then
      some ((-2), s4)
    else
      bd (f_X6_isByte p3 s4) fun r5 s6 =>
      if r5 = 0 then
        some ((-2), s6)
      else
        bd (f_X6_isByte p4 s6) fun r7 s8 =>
        if r7 = 0 then
          some ((-2), s8)
        else
          bd (f_X6_isByte p5 s8) fun r9 s10 =>
          if r9 = 0 then
            some ((-2), s10)
          else
            bd (f_X6_isByte p6 s10) fun r11 s12 =>
            if r11 = 0 then
              some ((-2), s12)
            else
              if ((s12 5 1) + p1) ≤ 160 then
                bd (f_X2_takeByte p2 s12) fun _ s14 =>
                if p1 ≤ 1 then
                  f_X6_feed_89 p1 p4 p5 p6 s14
                else
                  bd (f_X2_takeByte p3 s14) fun _ s33 =>
                  f_X6_feed_89 p1 p4 p5 p6 s33
              else
                some ((-4), s12)
def f_X2_clear   (s0 : zMem) : Option (Unit × zMem) :=
  nm (zUp s0 5 1 0) fun s1 =>
  some ((), s1)
def f_X2_readOr_7 (rc : Nat → Int32 → zMem → Option (Unit × zMem))  : Nat → Int32 → Int32 → zMem → Option (Unit × zMem)
  | 0, _, _, _ => none
  | n + 1, x3, x4, s5 =>
    if 160 ≤ x4 then
      some ((), s5)
    else
      if (s5 5 7) = 7 then
        bd (f_X2_readToken s5) fun _ s7 =>
        bd (rc 1 x3 s7) fun _ s9 =>
        bd (f_X2_emit (-27) s9) fun _ s11 =>
        nm (x4 + 1) fun x12 =>
        f_X2_readOr_7 rc n x3 x12 s11
      else
        some ((), s5)
def fb_X2_readOr (rc : Nat → Int32 → zMem → Option (Unit × zMem)) (p1 : Int32) (s0 : zMem) : Option (Unit × zMem) :=
  bd (rc 1 p1 s0) fun _ s2 =>
  f_X2_readOr_7 rc zN p1 0 s2
def f_X2_readAnd_7 (rc : Nat → Int32 → zMem → Option (Unit × zMem))  : Nat → Int32 → Int32 → zMem → Option (Unit × zMem)
  | 0, _, _, _ => none
  | n + 1, x3, x4, s5 =>
    if 160 ≤ x4 then
      some ((), s5)
    else
      if (s5 5 7) = 8 then
        bd (f_X2_readToken s5) fun _ s7 =>
        bd (rc 2 x3 s7) fun _ s9 =>
        bd (f_X2_emit (-26) s9) fun _ s11 =>
        nm (x4 + 1) fun x12 =>
        f_X2_readAnd_7 rc n x3 x12 s11
      else
        some ((), s5)
def fb_X2_readAnd (rc : Nat → Int32 → zMem → Option (Unit × zMem)) (p1 : Int32) (s0 : zMem) : Option (Unit × zMem) :=
  bd (rc 2 p1 s0) fun _ s2 =>
  f_X2_readAnd_7 rc zN p1 0 s2
def f_X2_readNot_54 (rc : Nat → Int32 → zMem → Option (Unit × zMem))  (x3 : Int32) (s4 : zMem) : Option (Unit × zMem) :=
  if (s4 5 7) = 60 then
    bd (f_X2_readToken s4) fun _ s12 =>
    bd (rc 3 x3 s12) fun _ s14 =>
    bd (f_X2_emit (-24) s14) fun _ s16 =>
    some ((), s16)
  else
    bd (f_X2_readToken s4) fun _ s6 =>
    bd (rc 3 x3 s6) fun _ s8 =>
    bd (f_X2_emit (-25) s8) fun _ s10 =>
    some ((), s10)
def fb_X2_readNot (rc : Nat → Int32 → zMem → Option (Unit × zMem)) (p1 : Int32) (s0 : zMem) : Option (Unit × zMem) :=
  if (s0 5 7) = 9 then
    bd (f_X2_opens p1 s0) fun r17 s18 =>
    if r17 = 0 then
      some ((), s18)
    else
      bd (rc 2 (p1 + 1) s18) fun _ s20 =>
      bd (f_X2_emit (-12) s20) fun _ s22 =>
      some ((), s22)
  else
    bd (rc 3 p1 s0) fun _ s2 =>
    if (s2 5 7) = 60 then
      f_X2_readNot_54 rc p1 s2
    else
      if (s2 5 7) = 61 then
        f_X2_readNot_54 rc p1 s2
      else
        some ((), s2)
def f_X2_readSum_32 (rc : Nat → Int32 → zMem → Option (Unit × zMem)) (c7 : Int32 → Int32 → zMem → Option (Unit × zMem)) (x6 : Int32) (x7 : Int32) (s8 : zMem) : Option (Unit × zMem) :=
  if (s8 5 7) = 43 then
    bd (f_X2_readToken s8) fun _ s17 =>
    bd (rc 4 x6 s17) fun _ s19 =>
    bd (f_X2_emit (-21) s19) fun _ s21 =>
    nm (x7 + 1) fun x22 =>
    c7 x6 x22 s21
  else
    bd (f_X2_readToken s8) fun _ s10 =>
    bd (rc 4 x6 s10) fun _ s12 =>
    bd (f_X2_emit (-22) s12) fun _ s14 =>
    nm (x7 + 1) fun x15 =>
    c7 x6 x15 s14
def f_X2_readSum_7 (rc : Nat → Int32 → zMem → Option (Unit × zMem))  : Nat → Int32 → Int32 → zMem → Option (Unit × zMem)
  | 0, _, _, _ => none
  | n + 1, x3, x4, s5 =>
    if 160 ≤ x4 then
      some ((), s5)
    else
      if (s5 5 7) = 43 then
        f_X2_readSum_32 rc (fun x23 x24 s25 =>
          f_X2_readSum_7 rc n x23 x24 s25) x3 x4 s5
      else
        if (s5 5 7) = 45 then
          f_X2_readSum_32 rc (fun x26 x27 s28 =>
            f_X2_readSum_7 rc n x26 x27 s28) x3 x4 s5
        else
          some ((), s5)
def fb_X2_readSum (rc : Nat → Int32 → zMem → Option (Unit × zMem)) (p1 : Int32) (s0 : zMem) : Option (Unit × zMem) :=
  bd (rc 4 p1 s0) fun _ s2 =>
  f_X2_readSum_7 rc zN p1 0 s2
def f_X2_readTerm_7 (rc : Nat → Int32 → zMem → Option (Unit × zMem))  : Nat → Int32 → Int32 → zMem → Option (Unit × zMem)
  | 0, _, _, _ => none
  | n + 1, x3, x4, s5 =>
    if 160 ≤ x4 then
      some ((), s5)
    else
      if (s5 5 7) = 42 then
        bd (f_X2_readToken s5) fun _ s7 =>
        bd (rc 5 x3 s7) fun _ s9 =>
        bd (f_X2_emit (-23) s9) fun _ s11 =>
        nm (x4 + 1) fun x12 =>
        f_X2_readTerm_7 rc n x3 x12 s11
      else
        some ((), s5)
def fb_X2_readTerm (rc : Nat → Int32 → zMem → Option (Unit × zMem)) (p1 : Int32) (s0 : zMem) : Option (Unit × zMem) :=
  bd (rc 5 p1 s0) fun _ s2 =>
  f_X2_readTerm_7 rc zN p1 0 s2
def f_X2_readOne_16 (rc : Nat → Int32 → zMem → Option (Unit × zMem))  (s1 : zMem) : Option (Unit × zMem) :=
  if (s1 5 7) = 2 then
    bd (f_X2_emit (s1 5 8) s1) fun _ s9 =>
    bd (f_X2_readToken s9) fun _ s11 =>
    some ((), s11)
  else
    bd (f_X0_ofName (s1 5 8) s1) fun r2 s3 =>
    bd (f_X2_emit r2 s3) fun _ s5 =>
    bd (f_X2_readToken s5) fun _ s7 =>
    some ((), s7)
def fb_X2_readOne (rc : Nat → Int32 → zMem → Option (Unit × zMem)) (p1 : Int32) (s0 : zMem) : Option (Unit × zMem) :=
  if (s0 5 7) = 2 then
    f_X2_readOne_16 rc s0
  else
    if (s0 5 7) = 3 then
      f_X2_readOne_16 rc s0
    else
      if (s0 5 7) = 45 then
        bd (f_X2_opens p1 s0) fun r20 s21 =>
        if r20 = 0 then
          some ((), s21)
        else
          bd (rc 5 (p1 + 1) s21) fun _ s23 =>
          bd (f_X2_emit (-11) s23) fun _ s25 =>
          some ((), s25)
      else
        if (s0 5 7) = 40 then
          bd (f_X2_opens p1 s0) fun r14 s15 =>
          if r14 = 0 then
            some ((), s15)
          else
            bd (rc 0 (p1 + 1) s15) fun _ s17 =>
            bd (f_X2_expect 41 s17) fun _ s19 =>
            some ((), s19)
        else
          bd (f_X2_fail s0) fun _ s13 =>
          some ((), s13)
def f_rd : Nat → Nat → Int32 → zMem → Option (Unit × zMem)
  | 0, _, _, _ => none
  | n + 1, k, o, s =>
    if k = 0 then fb_X2_readOr (f_rd n) o s
    else if k = 1 then fb_X2_readAnd (f_rd n) o s
    else if k = 2 then fb_X2_readNot (f_rd n) o s
    else if k = 3 then fb_X2_readSum (f_rd n) o s
    else if k = 4 then fb_X2_readTerm (f_rd n) o s
    else if k = 5 then fb_X2_readOne (f_rd n) o s
    else none
def f_X2_readText_21  (c60 : zMem → Option (Int32 × zMem)) : Nat → Int32 → zMem → Option (Int32 × zMem)
  | 0, _, _ => none
  | n + 1, x6, s7 =>
    if 3 ≤ x6 then
      c60 s7
    else
      bd (f_X2_expect (4 + x6) s7) fun _ s9 =>
      bd (f_rd 60 0 0 s9) fun _ s11 =>
      bd (f_X2_expect 59 s11) fun _ s13 =>
      gd (zib x6 3) <|
      nm (zUp s13 8 (zix x6) (s13 5 3)) fun s14 =>
      nm (x6 + 1) fun x15 =>
      f_X2_readText_21 c60 n x15 s14
def f_X2_readText   (s0 : zMem) : Option (Int32 × zMem) :=
  nm (zUp s0 5 5 0) fun s1 =>
  nm (zUp s1 5 3 0) fun s2 =>
  nm (zUp s2 5 9 (-1)) fun s3 =>
  bd (f_X2_readToken s3) fun _ s5 =>
  f_X2_readText_21 (fun s16 =>
    bd (f_X2_expect 0 s16) fun _ s18 =>
    some (s18 5 9, s18)) zN 0 s5
def f_X4_keep   (s0 : zMem) : Option (Int32 × zMem) :=
  if (s0 1 3) < 6 then
    gd (zcpOk 0 ((s0 1 3) * 160) 160 160 960) <|
    nm (zCp s0 7 (zix 0) 2 (zix ((s0 1 3) * 160)) (zix 160)) fun s1 =>
    gd (zcpOk 0 ((s1 1 3) * 3) 3 3 18) <|
    nm (zCp s1 8 (zix 0) 3 (zix ((s1 1 3) * 3)) (zix 3)) fun s2 =>
    nm (zUp s2 1 3 ((s2 1 3) + 1)) fun s3 =>
    some ((s3 1 3) - 1, s3)
  else
    some ((-4), s0)
def f_X6_text   (s0 : zMem) : Option (Int32 × zMem) :=
  if (s0 1 3) < 6 then
    bd (f_X2_readText s0) fun r1 s2 =>
    if r1 = (-1) then
      bd (f_X4_keep s2) fun r6 s7 =>
      bd (f_X2_clear s7) fun _ s9 =>
      some (r6, s9)
    else
      nm ((-100) - r1) fun x3 =>
      bd (f_X2_clear s2) fun _ s5 =>
      some (x3, s5)
  else
    some ((-4), s0)
def f_X6_force  (p1 : Int32) (s0 : zMem) : Option (Int32 × zMem) :=
  bd (f_X6_isFromTo p1 0 ((s0 1 3) - 1) s0) fun r1 s2 =>
  if r1 = 0 then
    some ((-2), s2)
  else
    nm (s2 9 12) fun x3 =>
    nm (zUp s2 9 12 p1) fun s4 =>
    some (x3, s4)
def f_X5_isHut (w : Nat) (p1 : Int32) (s0 : zMem) : Option (Int32 × zMem) :=
  if p1 < 0 then
    some (0, s0)
  else
    if (s0 w 9) ≤ p1 then
      some (0, s0)
    else
      some (1, s0)
def f_X0_isName  (p1 : Int32) (s0 : zMem) : Option (Int32 × zMem) :=
  if (-1) < p1 then
    some (0, s0)
  else
    if p1 ≤ (-7) then
      some (0, s0)
    else
      some (1, s0)
def f_X0_isOfOne  (p1 : Int32) (s0 : zMem) : Option (Int32 × zMem) :=
  if p1 = (-11) then
    some (1, s0)
  else
    if p1 = (-12) then
      some (1, s0)
    else
      some (0, s0)
def f_X0_isOfTwo  (p1 : Int32) (s0 : zMem) : Option (Int32 × zMem) :=
  if (-21) < p1 then
    some (0, s0)
  else
    if p1 < (-27) then
      some (0, s0)
    else
      some (1, s0)
def f_X0_ofOne  (p1 : Int32) (p2 : Int32) (s0 : zMem) : Option (Int32 × zMem) :=
  if p1 = (-11) then
    some (-p2, s0)
  else
    if p2 = 0 then
      some (1, s0)
    else
      some (0, s0)
def f_X0_ofTwo  (p1 : Int32) (p2 : Int32) (p3 : Int32) (s0 : zMem) : Option (Int32 × zMem) :=
  if p1 = (-26) then
    if p2 = 0 then
      some (0, s0)
    else
      if p3 = 0 then
        some (0, s0)
      else
        some (1, s0)
  else if p1 = (-25) then
    if p2 = p3 then
      some (1, s0)
    else
      some (0, s0)
  else if p1 = (-24) then
    if p3 ≤ p2 then
      some (0, s0)
    else
      some (1, s0)
  else if p1 = (-23) then
    some (p2 * p3, s0)
  else if p1 = (-22) then
    some (p2 - p3, s0)
  else if p1 = (-21) then
    some (p2 + p3, s0)
  else if p2 = 0 then
    if p3 = 0 then
      some (0, s0)
    else
      some (1, s0)
  else
    some (1, s0)
def f_X4_valueOf_150 (a3 : Nat) (c53 : Int32 → Int32 → Int32 → zMem → Option (Int32 × zMem)) (x23 : Int32) (x24 : Int32) (x25 : Int32) (x26 : Int32) (x27 : Int32) (s28 : zMem) : Option (Int32 × zMem) :=
  bd (f_X0_isName x26 s28) fun r29 s30 =>
  if r29 = 0 then
    if 160 ≤ x24 then
      nm (x25 + 1) fun x31 =>
      c53 x23 x24 x31 s30
    else
      gd (zib x24 160) <|
      nm (zUp s30 4 (zix x24) x27) fun s32 =>
      nm (x24 + 1) fun x33 =>
      nm (x25 + 1) fun x34 =>
      c53 x23 x33 x34 s32
  else
    bd (f_X0_ofName x26 s30) fun r35 s36 =>
    gd (zib r35 6) <|
    nm (s36 a3 (zix r35)) fun x37 =>
    if 160 ≤ x24 then
      nm (x25 + 1) fun x38 =>
      c53 x23 x24 x38 s36
    else
      gd (zib x24 160) <|
      nm (zUp s36 4 (zix x24) x37) fun s39 =>
      nm (x24 + 1) fun x40 =>
      nm (x25 + 1) fun x41 =>
      c53 x23 x40 x41 s39
def f_X4_valueOf_116 (a3 : Nat) (c53 : Int32 → Int32 → Int32 → zMem → Option (Int32 × zMem)) (x15 : Int32) (x16 : Int32) (x17 : Int32) (x18 : Int32) (x19 : Int32) (s20 : zMem) : Option (Int32 × zMem) :=
  bd (f_X0_isOfOne x18 s20) fun r21 s22 =>
  if r21 = 0 then
    f_X4_valueOf_150 a3 (fun x42 x43 x44 s45 =>
      c53 x42 x43 x44 s45) x15 x16 x17 x18 x19 s22
  else
    if x16 < 1 then
      f_X4_valueOf_150 a3 (fun x46 x47 x48 s49 =>
        c53 x46 x47 x48 s49) x15 x16 x17 x18 x19 s22
    else
      nm (x16 + (-1)) fun x50 =>
      gd (zib x50 160) <|
      bd (f_X0_ofOne x18 (s22 4 (zix x50)) s22) fun r51 s52 =>
      if 160 ≤ x50 then
        nm (x17 + 1) fun x53 =>
        c53 x15 x50 x53 s52
      else
        gd (zib x50 160) <|
        nm (zUp s52 4 (zix x50) r51) fun s54 =>
        nm (x50 + 1) fun x55 =>
        nm (x17 + 1) fun x56 =>
        c53 x15 x55 x56 s54
def f_X4_valueOf_53 (a3 : Nat) (c195 : Int32 → zMem → Option (Int32 × zMem)) : Nat → Int32 → Int32 → Int32 → zMem → Option (Int32 × zMem)
  | 0, _, _, _, _ => none
  | n + 1, x8, x9, x10, s11 =>
    if x8 ≤ x10 then
      c195 x9 s11
    else
      gd (zib x10 960) <|
      nm (s11 2 (zix x10)) fun x12 =>
      bd (f_X0_isOfTwo x12 s11) fun r13 s14 =>
      if r13 = 0 then
        f_X4_valueOf_116 a3 (fun x57 x58 x59 s60 =>
          f_X4_valueOf_53 a3 c195 n x57 x58 x59 s60) x8 x9 x10 x12 x12 s14
      else
        if x9 < 2 then
          f_X4_valueOf_116 a3 (fun x61 x62 x63 s64 =>
            f_X4_valueOf_53 a3 c195 n x61 x62 x63 s64) x8 x9 x10 x12 x12 s14
        else
          nm (x9 + (-2)) fun x65 =>
          gd (zib x65 160) <|
          gd (zib (x65 + 1) 160) <|
          bd (f_X0_ofTwo x12 (s14 4 (zix x65)) (s14 4 (zix (x65 + 1))) s14) fun r66 s67 =>
          if 160 ≤ x65 then
            nm (x10 + 1) fun x68 =>
            f_X4_valueOf_53 a3 c195 n x8 x65 x68 s67
          else
            gd (zib x65 160) <|
            nm (zUp s67 4 (zix x65) r66) fun s69 =>
            nm (x65 + 1) fun x70 =>
            nm (x10 + 1) fun x71 =>
            f_X4_valueOf_53 a3 c195 n x8 x70 x71 s69
def f_X4_valueOf_25 (a3 : Nat)  (x1 : Int32) (x2 : Int32) (t3 : Int32) (t4 : Int32) (s5 : zMem) : Option (Int32 × zMem) :=
  nm (t4 + t3) fun x6 =>
  gd (zib ((x1 * 3) + x2) 18) <|
  nm ((x1 * 160) + (s5 3 (zix ((x1 * 3) + x2)))) fun x7 =>
  f_X4_valueOf_53 a3 (fun x72 s73 =>
    if x72 ≤ 0 then
      some (0, s73)
    else
      gd (zib 0 160) <|
      some (s73 4 (zix 0), s73)) zN x7 0 x6 s5
def f_X4_valueOf (a3 : Nat) (p1 : Int32) (p2 : Int32) (s0 : zMem) : Option (Int32 × zMem) :=
  if p2 = 0 then
    f_X4_valueOf_25 a3 p1 p2 0 (p1 * 160) s0
  else
    gd (zib (((p1 * 3) + p2) - 1) 18) <|
    f_X4_valueOf_25 a3 p1 p2 (s0 3 (zix (((p1 * 3) + p2) - 1))) (p1 * 160) s0
def f_X5_coalsWhere_5 (w : Nat) (a1 : Nat)  : Nat → Int32 → Int32 → Int32 → zMem → Option (Int32 × zMem)
  | 0, _, _, _, _ => none
  | n + 1, x1, x2, x3, s4 =>
    if (s4 w 10) ≤ x3 then
      some (x2, s4)
    else
      gd (zib x3 10) <|
      if (s4 a1 (zix x3)) = x1 then
        gd (zib x3 10) <|
        nm (x2 + (s4 (w + 8) (zix x3))) fun x6 =>
        nm (x3 + 1) fun x7 =>
        f_X5_coalsWhere_5 w a1 n x1 x6 x7 s4
      else
        nm (x3 + 1) fun x5 =>
        f_X5_coalsWhere_5 w a1 n x1 x2 x5 s4
def f_X5_coalsWhere (w : Nat) (a1 : Nat) (p2 : Int32) (s0 : zMem) : Option (Int32 × zMem) :=
  f_X5_coalsWhere_5 w a1 zN p2 0 0 s0
def f_X5_owes (w : Nat) (p1 : Int32) (s0 : zMem) : Option (Int32 × zMem) :=
  bd (f_X5_coalsWhere w (w + 7) p1 s0) fun r1 s2 =>
  some (r1, s2)
def f_X5_says (w : Nat) (p1 : Int32) (p2 : Int32) (p3 : Int32) (s0 : zMem) : Option (Int32 × zMem) :=
  gd (zib p2 6) <|
  gd (zib 0 6) <|
  nm (zUp s0 (w + 10) (zix 0) (s0 (w + 1) (zix p2))) fun s1 =>
  gd (zib p2 6) <|
  gd (zib 1 6) <|
  nm (zUp s1 (w + 10) (zix 1) (s1 (w + 2) (zix p2))) fun s2 =>
  gd (zib 2 6) <|
  nm (zUp s2 (w + 10) (zix 2) (s2 w 11)) fun s3 =>
  gd (zib 3 6) <|
  nm (zUp s3 (w + 10) (zix 3) p3) fun s4 =>
  bd (f_X5_owes w p2 s4) fun r5 s6 =>
  gd (zib 4 6) <|
  nm (zUp s6 (w + 10) (zix 4) r5) fun s7 =>
  gd (zib p2 6) <|
  gd (zib 5 6) <|
  nm (zUp s7 (w + 10) (zix 5) (s7 (w + 5) (zix p2))) fun s8 =>
  bd (f_X4_valueOf (w + 10) (s8 w 12) p1 s8) fun r9 s10 =>
  some (zmax 0 (zmin 99 r9), s10)
def f_X6_asks  (p1 : Int32) (p2 : Int32) (p3 : Int32) (s0 : zMem) : Option (Int32 × zMem) :=
  bd (f_X6_isFromTo p1 0 2 s0) fun r1 s2 =>
  if r1 = 0 then
    some ((-2), s2)
  else
    bd (f_X5_isHut 9 p2 s2) fun r3 s4 =>
    if r3 = 0 then
      some ((-2), s4)
    else
      bd (f_X6_isFromTo p3 0 9999 s4) fun r5 s6 =>
      if r5 = 0 then
        some ((-2), s6)
      else
        bd (f_X5_says 9 p1 p2 p3 s6) fun r7 s8 =>
        some (r7, s8)
def f_X5_comes (w : Nat) (p1 : Int32) (p2 : Int32) (s0 : zMem) : Option (Int32 × zMem) :=
  bd (f_X6_isFromTo p1 0 59 s0) fun r1 s2 =>
  if r1 = 0 then
    some ((-2), s2)
  else
    bd (f_X6_isFromTo p2 0 999999 s2) fun r3 s4 =>
    if r3 = 0 then
      some ((-2), s4)
    else
      if (s4 w 9) < 6 then
        gd (zib (s4 w 9) 6) <|
        nm (zUp s4 (w + 4) (zix (s4 w 9)) (p1 / 10)) fun s5 =>
        gd (zib (s5 w 9) 6) <|
        nm (zUp s5 (w + 5) (zix (s5 w 9)) (zrem p1 10)) fun s6 =>
        gd (zib (s6 w 9) 6) <|
        nm (zUp s6 (w + 1) (zix (s6 w 9)) (p2 / 100)) fun s7 =>
        gd (zib (s7 w 9) 6) <|
        nm (zUp s7 (w + 2) (zix (s7 w 9)) (zrem p2 100)) fun s8 =>
        gd (zib (s8 w 9) 6) <|
        nm (zUp s8 (w + 3) (zix (s8 w 9)) 0) fun s9 =>
        nm (zUp s9 w 9 ((s9 w 9) + 1)) fun s10 =>
        some ((s10 w 9) - 1, s10)
      else
        some ((-4), s4)
def f_X6_hut  (p1 : Int32) (p2 : Int32) (s0 : zMem) : Option (Int32 × zMem) :=
  bd (f_X5_comes 9 p1 p2 s0) fun r1 s2 =>
  some (r1, s2)
def f_X5_become (w : Nat) (p1 : Int32) (p2 : Int32) (p3 : Int32) (s0 : zMem) : Option (Unit × zMem) :=
  if p2 = 0 then
    gd (zib p1 6) <|
    nm (zUp s0 (w + 1) (zix p1) p3) fun s1 =>
    some ((), s1)
  else if p2 = 1 then
    gd (zib p1 6) <|
    nm (zUp s0 (w + 2) (zix p1) p3) fun s2 =>
    some ((), s2)
  else
    gd (zib p1 6) <|
    nm (zUp s0 (w + 3) (zix p1) p3) fun s3 =>
    some ((), s3)
def f_X5_stateOf (w : Nat) (p1 : Int32) (p2 : Int32) (s0 : zMem) : Option (Int32 × zMem) :=
  if p2 = 0 then
    gd (zib p1 6) <|
    some (s0 (w + 1) (zix p1), s0)
  else if p2 = 1 then
    gd (zib p1 6) <|
    some (s0 (w + 2) (zix p1), s0)
  else
    gd (zib p1 6) <|
    some (s0 (w + 3) (zix p1), s0)
def f_X6_mostOf  (p1 : Int32) (s0 : zMem) : Option (Int32 × zMem) :=
  if p1 = 0 then
    some (9999, s0)
  else if p1 = 1 then
    some (99, s0)
  else
    some (99, s0)
def f_X6_put  (p1 : Int32) (p2 : Int32) (p3 : Int32) (s0 : zMem) : Option (Int32 × zMem) :=
  bd (f_X5_isHut 9 p1 s0) fun r1 s2 =>
  if r1 = 0 then
    some ((-5), s2)
  else
    bd (f_X6_isFromTo p2 0 2 s2) fun r3 s4 =>
    if r3 = 0 then
      some ((-7), s4)
    else
      bd (f_X6_mostOf p2 s4) fun r5 s6 =>
      bd (f_X6_isFromTo p3 0 r5 s6) fun r7 s8 =>
      if r7 = 0 then
        some ((-7), s8)
      else
        bd (f_X5_stateOf 9 p1 p2 s8) fun r9 s10 =>
        bd (f_X5_become 9 p1 p2 p3 s10) fun _ s12 =>
        some (r9, s12)
def f_X5_isOwed (w : Nat) (p1 : Int32) (s0 : zMem) : Option (Int32 × zMem) :=
  bd (f_X5_coalsWhere w (w + 6) p1 s0) fun r1 s2 =>
  some (r1, s2)
def f_X5_loansFrom_4 (w : Nat)  : Nat → Int32 → Int32 → Int32 → zMem → Option (Int32 × zMem)
  | 0, _, _, _, _ => none
  | n + 1, x1, x2, x3, s4 =>
    if (s4 w 10) ≤ x3 then
      some (x2, s4)
    else
      gd (zib x3 10) <|
      if (s4 (w + 6) (zix x3)) = x1 then
        nm (x2 + 1) fun x6 =>
        nm (x3 + 1) fun x7 =>
        f_X5_loansFrom_4 w n x1 x6 x7 s4
      else
        nm (x3 + 1) fun x5 =>
        f_X5_loansFrom_4 w n x1 x2 x5 s4
def f_X5_loansFrom (w : Nat) (p1 : Int32) (s0 : zMem) : Option (Int32 × zMem) :=
  f_X5_loansFrom_4 w zN p1 0 0 s0
def f_X6_told  (p1 : Int32) (p2 : Int32) (s0 : zMem) : Option (Int32 × zMem) :=
  bd (f_X5_isHut 9 p1 s0) fun r1 s2 =>
  if r1 = 0 then
    some ((-5), s2)
  else
    if p2 = 0 then
      bd (f_X5_stateOf 9 p1 p2 s2) fun r3 s4 =>
      some (r3, s4)
    else if p2 = 1 then
      bd (f_X5_stateOf 9 p1 p2 s2) fun r5 s6 =>
      some (r5, s6)
    else if p2 = 2 then
      bd (f_X5_stateOf 9 p1 p2 s2) fun r7 s8 =>
      some (r7, s8)
    else if p2 = 3 then
      gd (zib p1 6) <|
      some (s2 13 (zix p1), s2)
    else if p2 = 4 then
      gd (zib p1 6) <|
      some (s2 14 (zix p1), s2)
    else if p2 = 5 then
      bd (f_X5_owes 9 p1 s2) fun r9 s10 =>
      some (r9, s10)
    else if p2 = 6 then
      bd (f_X5_isOwed 9 p1 s2) fun r11 s12 =>
      some (r11, s12)
    else if p2 = 7 then
      bd (f_X5_loansFrom 9 p1 s2) fun r13 s14 =>
      some (r13, s14)
    else
      some ((-7), s2)
def f_X5_pass (w : Nat) (p1 : Int32) (p2 : Int32) (p3 : Int32) (s0 : zMem) : Option (Unit × zMem) :=
  gd (zib p1 6) <|
  gd (zib p1 6) <|
  nm (zUp s0 (w + 1) (zix p1) ((s0 (w + 1) (zix p1)) - p3)) fun s1 =>
  gd (zib p2 6) <|
  gd (zib p2 6) <|
  nm (zUp s1 (w + 1) (zix p2) (zmin 9999 ((s1 (w + 1) (zix p2)) + p3))) fun s2 =>
  some ((), s2)
def f_X5_lends (w : Nat) (p1 : Int32) (p2 : Int32) (p3 : Int32) (p4 : Int32) (s0 : zMem) : Option (Int32 × zMem) :=
  if (s0 w 10) < 10 then
    gd (zib p1 6) <|
    if 0 < (s0 (w + 3) (zix p1)) then
      some ((-3), s0)
    else
      gd (zib p1 6) <|
      if p3 ≤ (s0 (w + 1) (zix p1)) then
        bd (f_X5_pass w p1 p2 p3 s0) fun _ s2 =>
        gd (zib (s2 w 10) 10) <|
        nm (zUp s2 (w + 6) (zix (s2 w 10)) p1) fun s3 =>
        gd (zib (s3 w 10) 10) <|
        nm (zUp s3 (w + 7) (zix (s3 w 10)) p2) fun s4 =>
        gd (zib (s4 w 10) 10) <|
        nm (zUp s4 (w + 8) (zix (s4 w 10)) p3) fun s5 =>
        gd (zib (s5 w 10) 10) <|
        nm (zUp s5 (w + 9) (zix (s5 w 10)) ((s5 w 11) + p4)) fun s6 =>
        nm (zUp s6 w 10 ((s6 w 10) + 1)) fun s7 =>
        some ((s7 w 10) - 1, s7)
      else
        some ((-3), s0)
  else
    some ((-4), s0)
def f_X6_isCoalNights  (p1 : Int32) (p2 : Int32) (s0 : zMem) : Option (Int32 × zMem) :=
  if p1 < 0 then
    some (0, s0)
  else
    bd (f_X6_isFromTo (p1 / 100) 1 9999 s0) fun r1 s2 =>
    if r1 = 0 then
      some (0, s2)
    else
      bd (f_X6_isFromTo (zrem p1 100) 1 p2 s2) fun r3 s4 =>
      if r3 = 0 then
        some (0, s4)
      else
        some (1, s4)
def f_X6_lend  (p1 : Int32) (p2 : Int32) (s0 : zMem) : Option (Int32 × zMem) :=
  nm (p1 / 10) fun x1 =>
  nm (zrem p1 10) fun x2 =>
  if p1 < 0 then
    some ((-5), s0)
  else
    bd (f_X5_isHut 9 x1 s0) fun r3 s4 =>
    if r3 = 0 then
      some ((-5), s4)
    else
      bd (f_X5_isHut 9 x2 s4) fun r5 s6 =>
      if r5 = 0 then
        some ((-5), s6)
      else
        if x1 = x2 then
          some ((-5), s6)
        else
          bd (f_X6_isCoalNights p2 99 s6) fun r7 s8 =>
          if r7 = 0 then
            some ((-7), s8)
          else
            bd (f_X5_lends 9 x1 x2 (p2 / 100) (zrem p2 100) s8) fun r9 s10 =>
            some (r9, s10)
def f_X5_isLoan (w : Nat) (p1 : Int32) (s0 : zMem) : Option (Int32 × zMem) :=
  if p1 < 0 then
    some (0, s0)
  else
    if (s0 w 10) ≤ p1 then
      some (0, s0)
    else
      some (1, s0)
def f_X6_loan  (p1 : Int32) (p2 : Int32) (s0 : zMem) : Option (Int32 × zMem) :=
  bd (f_X5_isLoan 9 p1 s0) fun r1 s2 =>
  if r1 = 0 then
    some ((-5), s2)
  else
    if p2 = 0 then
      gd (zib p1 10) <|
      some (s2 15 (zix p1), s2)
    else if p2 = 1 then
      gd (zib p1 10) <|
      some (s2 16 (zix p1), s2)
    else if p2 = 2 then
      gd (zib p1 10) <|
      some (s2 17 (zix p1), s2)
    else if p2 = 3 then
      gd (zib p1 10) <|
      some (s2 18 (zix p1), s2)
    else
      some ((-7), s2)
def f_X5_canRepay (w : Nat) (p1 : Int32) (s0 : zMem) : Option (Int32 × zMem) :=
  gd (zib p1 10) <|
  gd (zib (s0 (w + 7) (zix p1)) 6) <|
  gd (zib p1 10) <|
  if (s0 (w + 1) (zix (s0 (w + 7) (zix p1)))) < (s0 (w + 8) (zix p1)) then
    some (0, s0)
  else
    some (1, s0)
def f_X5_drop_12 (w : Nat)  : Nat → Int32 → zMem → Option (Unit × zMem)
  | 0, _, _ => none
  | n + 1, x2, s3 =>
    if (s3 w 10) ≤ x2 then
      some ((), s3)
    else
      gd (zib (x2 + 1) 10) <|
      gd (zib x2 10) <|
      nm (zUp s3 (w + 6) (zix x2) (s3 (w + 6) (zix (x2 + 1)))) fun s4 =>
      gd (zib (x2 + 1) 10) <|
      gd (zib x2 10) <|
      nm (zUp s4 (w + 7) (zix x2) (s4 (w + 7) (zix (x2 + 1)))) fun s5 =>
      gd (zib (x2 + 1) 10) <|
      gd (zib x2 10) <|
      nm (zUp s5 (w + 8) (zix x2) (s5 (w + 8) (zix (x2 + 1)))) fun s6 =>
      gd (zib (x2 + 1) 10) <|
      gd (zib x2 10) <|
      nm (zUp s6 (w + 9) (zix x2) (s6 (w + 9) (zix (x2 + 1)))) fun s7 =>
      nm (x2 + 1) fun x8 =>
      f_X5_drop_12 w n x8 s7
def f_X5_drop (w : Nat) (p1 : Int32) (s0 : zMem) : Option (Unit × zMem) :=
  nm (zUp s0 w 10 ((s0 w 10) - 1)) fun s1 =>
  f_X5_drop_12 w zN p1 s1
def f_X5_payBack (w : Nat) (p1 : Int32) (s0 : zMem) : Option (Unit × zMem) :=
  gd (zib p1 10) <|
  gd (zib p1 10) <|
  gd (zib p1 10) <|
  bd (f_X5_pass w (s0 (w + 7) (zix p1)) (s0 (w + 6) (zix p1)) (s0 (w + 8) (zix p1)) s0) fun _ s2 =>
  some ((), s2)
def f_X6_repay  (p1 : Int32) (s0 : zMem) : Option (Int32 × zMem) :=
  bd (f_X5_isLoan 9 p1 s0) fun r1 s2 =>
  if r1 = 0 then
    some ((-5), s2)
  else
    bd (f_X5_canRepay 9 p1 s2) fun r3 s4 =>
    if r3 = 0 then
      some ((-3), s4)
    else
      gd (zib p1 10) <|
      nm (s4 17 (zix p1)) fun x5 =>
      bd (f_X5_payBack 9 p1 s4) fun _ s7 =>
      bd (f_X5_drop 9 p1 s7) fun _ s9 =>
      some (x5, s9)
def f_X6_forgive  (p1 : Int32) (s0 : zMem) : Option (Int32 × zMem) :=
  bd (f_X5_isLoan 9 p1 s0) fun r1 s2 =>
  if r1 = 0 then
    some ((-5), s2)
  else
    gd (zib p1 10) <|
    nm (s2 17 (zix p1)) fun x3 =>
    bd (f_X5_drop 9 p1 s2) fun _ s5 =>
    some (x3, s5)
def f_X5_endDueLoans_9 (w : Nat)  : Nat → Int32 → Int32 → Int32 → zMem → Option (Int32 × zMem)
  | 0, _, _, _, _ => none
  | n + 1, x2, x3, x4, s5 =>
    if x4 ≤ 0 then
      some (x2, s5)
    else
      gd (zib x3 10) <|
      if (s5 (w + 9) (zix x3)) ≤ (s5 w 11) then
        bd (f_X5_canRepay w x3 s5) fun r6 s7 =>
        if r6 = 0 then
          gd (zib x3 10) <|
          gd (zib (s7 (w + 7) (zix x3)) 6) <|
          nm (zUp s7 (w + 3) (zix (s7 (w + 7) (zix x3))) 20) fun s8 =>
          gd (zib x3 10) <|
          nm (x2 ||| (1 <<< ((s8 (w + 7) (zix x3)) &&& 31))) fun x9 =>
          bd (f_X5_drop w x3 s8) fun _ s11 =>
          nm (x4 + (-1)) fun x12 =>
          f_X5_endDueLoans_9 w n x9 x3 x12 s11
        else
          bd (f_X5_payBack w x3 s7) fun _ s14 =>
          bd (f_X5_drop w x3 s14) fun _ s16 =>
          nm (x4 + (-1)) fun x17 =>
          f_X5_endDueLoans_9 w n x2 x3 x17 s16
      else
        nm (x3 + 1) fun x18 =>
        nm (x4 + (-1)) fun x19 =>
        f_X5_endDueLoans_9 w n x2 x18 x19 s5
def f_X5_endDueLoans (w : Nat)  (s0 : zMem) : Option (Int32 × zMem) :=
  nm (s0 w 10) fun x1 =>
  f_X5_endDueLoans_9 w zN 0 0 x1 s0
def f_X1_growth  (p1 : Int32) (p2 : Int32) (p3 : Int32) (p4 : Int32) (s0 : zMem) : Option (Int32 × zMem) :=
  if p1 = 1 then
    if p3 ≤ 50 then
      some (p4, s0)
    else
      some (p4 + p2, s0)
  else if p1 = 2 then
    some (p4, s0)
  else if p1 = 3 then
    if p3 ≤ 50 then
      some (p4, s0)
    else
      some (p4 + p2, s0)
  else if p1 = 4 then
    some ((2 * p4) + 1, s0)
  else if p1 = 5 then
    some (0, s0)
  else
    some (p4, s0)
def f_X5_grow (w : Nat) (p1 : Int32) (s0 : zMem) : Option (Unit × zMem) :=
  gd (zib p1 10) <|
  nm (s0 (w + 7) (zix p1)) fun x1 =>
  gd (zib x1 6) <|
  gd (zib x1 6) <|
  gd (zib p1 10) <|
  gd (zib p1 10) <|
  bd (f_X5_says w 0 x1 (s0 (w + 8) (zix p1)) s0) fun r2 s3 =>
  bd (f_X1_growth (s0 (w + 4) (zix x1)) (s0 (w + 5) (zix x1)) (s0 (w + 8) (zix p1)) r2 s3) fun r4 s5 =>
  gd (zib p1 10) <|
  gd (zib p1 10) <|
  nm (zUp s5 (w + 8) (zix p1) (zmin 9999 ((s5 (w + 8) (zix p1)) + r4))) fun s6 =>
  some ((), s6)
def f_X1_burning  (p1 : Int32) (p2 : Int32) (p3 : Int32) (p4 : Int32) (s0 : zMem) : Option (Int32 × zMem) :=
  if p1 = 2 then
    some (2 * p4, s0)
  else if p1 = 3 then
    some (p4 + p2, s0)
  else if p1 = 4 then
    if p2 ≤ p3 then
      some (2 * p4, s0)
    else
      some (0, s0)
  else if p1 = 5 then
    if (zrem p3 2) = 0 then
      some (0, s0)
    else
      some (30, s0)
  else
    some (p4, s0)
def f_X1_cooling  (p1 : Int32) (p2 : Int32) (p3 : Int32) (s0 : zMem) : Option (Int32 × zMem) :=
  if p1 = 1 then
    some (p3 / 2, s0)
  else if p1 = 2 then
    some (p3 + (p2 / 20), s0)
  else if p1 = 3 then
    if p2 ≤ 200 then
      some (p3 / 2, s0)
    else
      some (p2, s0)
  else if p1 = 4 then
    some (p3 + (p2 / 20), s0)
  else
    some (p3, s0)
def f_X5_warm_93 (w : Nat)  (x1 : Int32) (s2 : zMem) : Option (Unit × zMem) :=
  gd (zib x1 6) <|
  gd (zib x1 6) <|
  bd (f_X5_says w 1 x1 0 s2) fun r3 s4 =>
  bd (f_X1_cooling (s2 (w + 4) (zix x1)) (s2 (w + 1) (zix x1)) r3 s4) fun r5 s6 =>
  gd (zib x1 6) <|
  gd (zib x1 6) <|
  nm (zUp s6 (w + 1) (zix x1) (zmax 0 ((s6 (w + 1) (zix x1)) - r5))) fun s7 =>
  some ((), s7)
def f_X5_warm (w : Nat) (p1 : Int32) (s0 : zMem) : Option (Unit × zMem) :=
  gd (zib p1 6) <|
  if (s0 (w + 3) (zix p1)) ≤ 0 then
    gd (zib p1 6) <|
    if (s0 (w + 2) (zix p1)) ≤ 0 then
      f_X5_warm_93 w p1 s0
    else
      gd (zib p1 6) <|
      gd (zib p1 6) <|
      bd (f_X5_says w 2 p1 0 s0) fun r8 s9 =>
      bd (f_X1_burning (s0 (w + 4) (zix p1)) (s0 (w + 5) (zix p1)) (s0 w 11) r8 s9) fun r10 s11 =>
      gd (zib p1 6) <|
      gd (zib p1 6) <|
      nm (zUp s11 (w + 1) (zix p1) (zmin 9999 ((s11 (w + 1) (zix p1)) + r10))) fun s12 =>
      gd (zib p1 6) <|
      gd (zib p1 6) <|
      nm (zUp s12 (w + 2) (zix p1) ((s12 (w + 2) (zix p1)) - 1)) fun s13 =>
      f_X5_warm_93 w p1 s13
  else
    gd (zib p1 6) <|
    gd (zib p1 6) <|
    nm (zUp s0 (w + 3) (zix p1) ((s0 (w + 3) (zix p1)) - 1)) fun s14 =>
    gd (zib p1 6) <|
    nm (zUp s14 (w + 1) (zix p1) 0) fun s15 =>
    some ((), s15)
def f_X5_passNight_2 (w : Nat) (c21 : zMem → Option (Int32 × zMem)) : Nat → Int32 → zMem → Option (Int32 × zMem)
  | 0, _, _ => none
  | n + 1, x1, s2 =>
    if (s2 w 10) ≤ x1 then
      c21 s2
    else
      bd (f_X5_grow w x1 s2) fun _ s4 =>
      nm (x1 + 1) fun x5 =>
      f_X5_passNight_2 w c21 n x5 s4
def f_X5_passNight_28 (w : Nat) (c47 : Int32 → zMem → Option (Int32 × zMem)) : Nat → Int32 → Int32 → zMem → Option (Int32 × zMem)
  | 0, _, _, _ => none
  | n + 1, x9, x10, s11 =>
    if (s11 w 9) ≤ x10 then
      c47 x9 s11
    else
      bd (f_X5_warm w x10 s11) fun _ s13 =>
      nm (x10 + 1) fun x14 =>
      f_X5_passNight_28 w c47 n x9 x14 s13
def f_X5_passNight (w : Nat)  (s0 : zMem) : Option (Int32 × zMem) :=
  f_X5_passNight_2 w (fun s6 =>
    bd (f_X5_endDueLoans w s6) fun r7 s8 =>
    f_X5_passNight_28 w (fun x15 s16 =>
      nm (zUp s16 w 11 ((s16 w 11) + 1)) fun s17 =>
      some (x15, s17)) zN r7 0 s8) zN 0 s0
def f_X6_night   (s0 : zMem) : Option (Int32 × zMem) :=
  if (s0 9 11) < 999 then
    bd (f_X5_passNight 9 s0) fun r1 s2 =>
    some (r1, s2)
  else
    some ((-3), s0)
def f_X5_passNights_4 (w : Nat)  : Nat → Int32 → Int32 → Int32 → zMem → Option (Int32 × zMem)
  | 0, _, _, _, _ => none
  | n + 1, x1, x2, x3, s4 =>
    if x1 ≤ x3 then
      some (x2, s4)
    else
      bd (f_X5_passNight w s4) fun r5 s6 =>
      nm (x2 ||| r5) fun x7 =>
      nm (x3 + 1) fun x8 =>
      f_X5_passNights_4 w n x1 x7 x8 s6
def f_X5_passNights (w : Nat) (p1 : Int32) (s0 : zMem) : Option (Int32 × zMem) :=
  f_X5_passNights_4 w zN p1 0 0 s0
def f_X5_becomeAs (w : Nat) (a1 : Nat)  (s0 : zMem) : Option (Unit × zMem) :=
  gd (zcpOk 0 0 6 6 6) <|
  nm (zCp s0 (a1 + 1) (zix 0) (w + 1) (zix 0) (zix 6)) fun s1 =>
  gd (zcpOk 0 0 6 6 6) <|
  nm (zCp s1 (a1 + 2) (zix 0) (w + 2) (zix 0) (zix 6)) fun s2 =>
  gd (zcpOk 0 0 6 6 6) <|
  nm (zCp s2 (a1 + 3) (zix 0) (w + 3) (zix 0) (zix 6)) fun s3 =>
  gd (zcpOk 0 0 6 6 6) <|
  nm (zCp s3 (a1 + 4) (zix 0) (w + 4) (zix 0) (zix 6)) fun s4 =>
  gd (zcpOk 0 0 6 6 6) <|
  nm (zCp s4 (a1 + 5) (zix 0) (w + 5) (zix 0) (zix 6)) fun s5 =>
  gd (zcpOk 0 0 10 10 10) <|
  nm (zCp s5 (a1 + 6) (zix 0) (w + 6) (zix 0) (zix 10)) fun s6 =>
  gd (zcpOk 0 0 10 10 10) <|
  nm (zCp s6 (a1 + 7) (zix 0) (w + 7) (zix 0) (zix 10)) fun s7 =>
  gd (zcpOk 0 0 10 10 10) <|
  nm (zCp s7 (a1 + 8) (zix 0) (w + 8) (zix 0) (zix 10)) fun s8 =>
  gd (zcpOk 0 0 10 10 10) <|
  nm (zCp s8 (a1 + 9) (zix 0) (w + 9) (zix 0) (zix 10)) fun s9 =>
  nm (zUp s9 w 9 (s9 a1 9)) fun s10 =>
  nm (zUp s10 w 10 (s10 a1 10)) fun s11 =>
  nm (zUp s11 w 11 (s11 a1 11)) fun s12 =>
  nm (zUp s12 w 12 (s12 a1 12)) fun s13 =>
  some ((), s13)
def f_X6_think   (s0 : zMem) : Option (Unit × zMem) :=
  bd (f_X5_becomeAs 20 9 s0) fun _ s2 =>
  some ((), s2)
def f_X6_run_52   (x12 : Int32) (x13 : Int32) (s14 : zMem) : Option (Int32 × zMem) :=
  bd (f_X6_think s14) fun _ s16 =>
  bd (f_X5_passNights 20 x12 s16) fun r17 s18 =>
  if x13 = 0 then
    bd (f_X5_heatOfAll 20 s18) fun r19 s20 =>
    some (r19, s20)
  else if x13 = 1 then
    some (r17, s18)
  else if x13 = 2 then
    some (s18 20 10, s18)
  else
    gd (zib (x13 - 10) 6) <|
    some (s18 21 (zix (x13 - 10)), s18)
def f_X6_run_25   (x4 : Int32) (x5 : Int32) (t6 : Int32) (s7 : zMem) : Option (Int32 × zMem) :=
  bd (f_X6_isFromTo x4 0 40 s7) fun r8 s9 =>
  if r8 = 0 then
    some ((-2), s9)
  else
    bd (f_X6_isFromTo x5 0 2 s9) fun r10 s11 =>
    if r10 = 0 then
      if t6 = 0 then
        some ((-2), s11)
      else
        f_X6_run_52 x4 x5 s11
    else
      f_X6_run_52 x4 x5 s11
def f_X6_run_24   (x1 : Int32) (x2 : Int32) (s3 : zMem) : Option (Int32 × zMem) :=
  f_X6_run_25 x1 x2 0 s3
def f_X6_run  (p1 : Int32) (p2 : Int32) (s0 : zMem) : Option (Int32 × zMem) :=
  if p2 < 10 then
    f_X6_run_24 p1 p2 s0
  else
    bd (f_X5_isHut 9 (p2 - 10) s0) fun r21 s22 =>
    if r21 = 0 then
      f_X6_run_24 p1 p2 s22
    else
      f_X6_run_25 p1 p2 1 s22
def f_X6_has  (p1 : Int32) (p2 : Int32) (s0 : zMem) : Option (Int32 × zMem) :=
  if ((p1 >>> (p2 &&& 31)) &&& 1) = 0 then
    some (0, s0)
  else
    some (1, s0)
def f_X6_nightsToFailing_7   : Nat → Int32 → Int32 → zMem → Option (Int32 × zMem)
  | 0, _, _, _ => none
  | n + 1, x3, x4, s5 =>
    if 40 < x4 then
      some ((-1), s5)
    else
      bd (f_X5_passNight 20 s5) fun r6 s7 =>
      bd (f_X6_has r6 x3 s7) fun r8 s9 =>
      if r8 = 0 then
        nm (x4 + 1) fun x10 =>
        f_X6_nightsToFailing_7 n x3 x10 s9
      else
        some (x4, s9)
def f_X6_nightsToFailing  (p1 : Int32) (s0 : zMem) : Option (Int32 × zMem) :=
  bd (f_X6_think s0) fun _ s2 =>
  f_X6_nightsToFailing_7 zN p1 1 s2
def f_X6_nightsToNoHeat_7   : Nat → Int32 → Int32 → zMem → Option (Int32 × zMem)
  | 0, _, _, _ => none
  | n + 1, x3, x4, s5 =>
    if 40 < x4 then
      some ((-1), s5)
    else
      gd (zib x3 6) <|
      if (s5 21 (zix x3)) = 0 then
        some (x4, s5)
      else
        bd (f_X5_passNight 20 s5) fun r6 s7 =>
        nm (x4 + 1) fun x8 =>
        f_X6_nightsToNoHeat_7 n x3 x8 s7
def f_X6_nightsToNoHeat  (p1 : Int32) (s0 : zMem) : Option (Int32 × zMem) :=
  bd (f_X6_think s0) fun _ s2 =>
  f_X6_nightsToNoHeat_7 zN p1 0 s2
def f_X6_lasts  (p1 : Int32) (p2 : Int32) (s0 : zMem) : Option (Int32 × zMem) :=
  bd (f_X5_isHut 9 p1 s0) fun r1 s2 =>
  if r1 = 0 then
    some ((-5), s2)
  else
    bd (f_X6_isFromTo p2 0 1 s2) fun r3 s4 =>
    if r3 = 0 then
      some ((-7), s4)
    else
      if p2 = 0 then
        bd (f_X6_nightsToFailing p1 s4) fun r7 s8 =>
        some (r7, s8)
      else
        bd (f_X6_nightsToNoHeat p1 s4) fun r5 s6 =>
        some (r5, s6)
def f_X6_net  (p1 : Int32) (s0 : zMem) : Option (Int32 × zMem) :=
  bd (f_X5_isHut 9 p1 s0) fun r1 s2 =>
  if r1 = 0 then
    some ((-1000000), s2)
  else
    bd (f_X5_isOwed 9 p1 s2) fun r3 s4 =>
    bd (f_X5_owes 9 p1 s4) fun r5 s6 =>
    some (r3 - r5, s6)
def f_X6_payOnce_6  (c57 : Int32 → Int32 → zMem → Option (Int32 × zMem)) : Nat → Int32 → Int32 → Int32 → zMem → Option (Int32 × zMem)
  | 0, _, _, _, _ => none
  | n + 1, x1, x2, x3, s4 =>
    if (s4 9 9) ≤ x3 then
      c57 x1 x2 s4
    else
      gd (zib x3 6) <|
      gd (zib x1 6) <|
      if (s4 46 (zix x1)) ≤ (s4 46 (zix x3)) then
        gd (zib x3 6) <|
        gd (zib x2 6) <|
        if (s4 46 (zix x3)) ≤ (s4 46 (zix x2)) then
          nm (x3 + 1) fun x5 =>
          f_X6_payOnce_6 c57 n x1 x2 x5 s4
        else
          nm (x3 + 1) fun x6 =>
          f_X6_payOnce_6 c57 n x1 x3 x6 s4
      else
        gd (zib x3 6) <|
        gd (zib x2 6) <|
        if (s4 46 (zix x3)) ≤ (s4 46 (zix x2)) then
          nm (x3 + 1) fun x7 =>
          f_X6_payOnce_6 c57 n x3 x2 x7 s4
        else
          nm (x3 + 1) fun x8 =>
          f_X6_payOnce_6 c57 n x3 x3 x8 s4
def f_X6_payOnce   (s0 : zMem) : Option (Int32 × zMem) :=
  f_X6_payOnce_6 (fun x9 x10 s11 =>
    gd (zib x9 6) <|
    gd (zib x10 6) <|
    nm (zmin (-(s11 46 (zix x9))) (s11 46 (zix x10))) fun x12 =>
    if 0 < x12 then
      gd (zib x9 6) <|
      gd (zib x9 6) <|
      nm (zUp s11 46 (zix x9) ((s11 46 (zix x9)) + x12)) fun s13 =>
      gd (zib x10 6) <|
      gd (zib x10 6) <|
      nm (zUp s13 46 (zix x10) ((s13 46 (zix x10)) - x12)) fun s14 =>
      some (x12, s14)
    else
      some (0, s11)) zN 0 0 1 s0
def f_X6_settle_14  (c42 : Int32 → zMem → Option (Int32 × zMem)) : Nat → Int32 → Int32 → zMem → Option (Int32 × zMem)
  | 0, _, _, _ => none
  | n + 1, x3, x4, s5 =>
    if (s5 9 9) ≤ x4 then
      c42 x3 s5
    else
      bd (f_X6_net x4 s5) fun r6 s7 =>
      gd (zib x4 6) <|
      nm (zUp s7 46 (zix x4) r6) fun s8 =>
      nm (x4 + 1) fun x9 =>
      f_X6_settle_14 c42 n x3 x9 s8
def f_X6_settle_49  (c86 : Int32 → Int32 → Int32 → zMem → Option (Int32 × zMem)) : Nat → Int32 → Int32 → Int32 → Int32 → zMem → Option (Int32 × zMem)
  | 0, _, _, _, _, _ => none
  | n + 1, x12, x13, x14, x15, s16 =>
    if (s16 9 9) ≤ x15 then
      c86 x12 x13 x14 s16
    else
      bd (f_X6_payOnce s16) fun r17 s18 =>
      if r17 ≤ 0 then
        nm (x15 + 1) fun x19 =>
        f_X6_settle_49 c86 n x12 x13 x14 x19 s18
      else
        nm (x13 + 1) fun x20 =>
        nm (x14 + r17) fun x21 =>
        nm (x15 + 1) fun x22 =>
        f_X6_settle_49 c86 n x12 x20 x21 x22 s18
def f_X6_settle  (p1 : Int32) (s0 : zMem) : Option (Int32 × zMem) :=
  bd (f_X6_isFromTo p1 0 1 s0) fun r1 s2 =>
  if r1 = 0 then
    some ((-2), s2)
  else
    f_X6_settle_14 (fun x10 s11 =>
      f_X6_settle_49 (fun x23 x24 x25 s26 =>
        if x23 = 0 then
          some (x24, s26)
        else
          some (x25, s26)) zN x10 0 0 0 s11) zN p1 0 s2
def f_X5_sourceOf_15 (w : Nat) (c67 : Int32 → Int32 → Int32 → zMem → Option (Int32 × zMem)) : Nat → Int32 → Int32 → Int32 → Int32 → zMem → Option (Int32 × zMem)
  | 0, _, _, _, _, _ => none
  | n + 1, x5, x6, x7, x8, s9 =>
    if (s9 w 10) ≤ x8 then
      c67 x5 x6 x7 s9
    else
      gd (zib x8 10) <|
      if (s9 (w + 7) (zix x8)) = x5 then
        gd (zib x8 10) <|
        nm (x6 ||| (1 <<< ((s9 (w + 6) (zix x8)) &&& 31))) fun x10 =>
        nm (x8 + 1) fun x11 =>
        f_X5_sourceOf_15 w c67 n x5 x10 x7 x11 s9
      else
        gd (zib x8 10) <|
        bd (f_X6_has x6 (s9 (w + 7) (zix x8)) s9) fun r12 s13 =>
        if r12 = 0 then
          nm (x8 + 1) fun x14 =>
          f_X5_sourceOf_15 w c67 n x5 x6 x7 x14 s13
        else
          gd (zib x8 10) <|
          nm (x6 ||| (1 <<< ((s13 (w + 6) (zix x8)) &&& 31))) fun x15 =>
          nm (x8 + 1) fun x16 =>
          f_X5_sourceOf_15 w c67 n x5 x15 x7 x16 s13
def f_X5_sourceOf_4 (w : Nat)  : Nat → Int32 → Int32 → Int32 → zMem → Option (Int32 × zMem)
  | 0, _, _, _, _ => none
  | n + 1, x1, x2, x3, s4 =>
    if (s4 w 9) ≤ x3 then
      some (x2, s4)
    else
      f_X5_sourceOf_15 w (fun x17 x18 x19 s20 =>
        nm (x19 + 1) fun x21 =>
        f_X5_sourceOf_4 w n x17 x18 x21 s20) zN x1 x2 x3 0 s4
def f_X5_sourceOf (w : Nat) (p1 : Int32) (s0 : zMem) : Option (Int32 × zMem) :=
  f_X5_sourceOf_4 w zN p1 0 0 s0
def f_X6_source  (p1 : Int32) (s0 : zMem) : Option (Int32 × zMem) :=
  bd (f_X5_isHut 9 p1 s0) fun r1 s2 =>
  if r1 = 0 then
    some ((-5), s2)
  else
    bd (f_X5_sourceOf 9 p1 s2) fun r3 s4 =>
    some (r3, s4)
def f_X6_rings_16   : Nat → Int32 → Int32 → Int32 → zMem → Option (Int32 × zMem)
  | 0, _, _, _, _ => none
  | n + 1, x3, x4, x5, s6 =>
    if (s6 9 9) ≤ x5 then
      some (x4, s6)
    else
      bd (f_X5_sourceOf 9 x5 s6) fun r7 s8 =>
      if x3 = 0 then
        bd (f_X6_has r7 x5 s8) fun r15 s16 =>
        if r15 = 0 then
          nm (x5 + 1) fun x17 =>
          f_X6_rings_16 n x3 x4 x17 s16
        else
          nm (x4 ||| (1 <<< (x5 &&& 31))) fun x18 =>
          nm (x5 + 1) fun x19 =>
          f_X6_rings_16 n x3 x18 x19 s16
      else
        if r7 = 0 then
          bd (f_X5_loansFrom 9 x5 s8) fun r10 s11 =>
          if r10 ≤ 0 then
            nm (x5 + 1) fun x12 =>
            f_X6_rings_16 n x3 x4 x12 s11
          else
            nm (x4 ||| (1 <<< (x5 &&& 31))) fun x13 =>
            nm (x5 + 1) fun x14 =>
            f_X6_rings_16 n x3 x13 x14 s11
        else
          nm (x5 + 1) fun x9 =>
          f_X6_rings_16 n x3 x4 x9 s8
def f_X6_rings  (p1 : Int32) (s0 : zMem) : Option (Int32 × zMem) :=
  bd (f_X6_isFromTo p1 0 1 s0) fun r1 s2 =>
  if r1 = 0 then
    some ((-2), s2)
  else
    f_X6_rings_16 zN p1 0 0 s2
def f_X6_heatIfLent  (p1 : Int32) (p2 : Int32) (p3 : Int32) (s0 : zMem) : Option (Int32 × zMem) :=
  bd (f_X6_think s0) fun _ s2 =>
  nm (zrem p3 100) fun x3 =>
  if p1 = p2 then
    some ((-1), s2)
  else
    bd (f_X5_lends 20 p1 p2 (p3 / 100) x3 s2) fun r4 s5 =>
    if 0 ≤ r4 then
      bd (f_X5_passNights 20 (x3 + 1) s5) fun r6 s7 =>
      bd (f_X5_heatOfAll 20 s7) fun r8 s9 =>
      some (r8, s9)
    else
      some ((-1), s5)
def f_X6_ask_44  (c87 : Int32 → Int32 → Int32 → zMem → Option (Int32 × zMem)) : Nat → Int32 → Int32 → Int32 → Int32 → Int32 → Int32 → zMem → Option (Int32 × zMem)
  | 0, _, _, _, _, _, _, _ => none
  | n + 1, x7, x8, x9, x10, x11, x12, s13 =>
    if (s13 9 9) ≤ x12 then
      c87 x9 x10 x11 s13
    else
      bd (f_X6_heatIfLent x12 x7 x8 s13) fun r14 s15 =>
      if r14 ≤ x11 then
        nm (x12 + 1) fun x16 =>
        f_X6_ask_44 c87 n x7 x8 x9 x10 x11 x16 s15
      else
        nm (x12 + 1) fun x17 =>
        f_X6_ask_44 c87 n x7 x8 x9 x12 r14 x17 s15
def f_X6_ask  (p1 : Int32) (p2 : Int32) (p3 : Int32) (s0 : zMem) : Option (Int32 × zMem) :=
  bd (f_X5_isHut 9 p1 s0) fun r1 s2 =>
  if r1 = 0 then
    some ((-5), s2)
  else
    bd (f_X6_isCoalNights p2 39 s2) fun r3 s4 =>
    if r3 = 0 then
      some ((-7), s4)
    else
      bd (f_X6_isFromTo p3 0 1 s4) fun r5 s6 =>
      if r5 = 0 then
        some ((-7), s6)
      else
        f_X6_ask_44 (fun x18 x19 x20 s21 =>
          if x18 = 0 then
            some (x19, s21)
          else
            some (x20, s21)) zN p1 p2 p3 (-1) (-1) 0 s6
def f_X5_failedIn_4 (w : Nat)  : Nat → Int32 → Int32 → Int32 → zMem → Option (Int32 × zMem)
  | 0, _, _, _, _ => none
  | n + 1, x1, x2, x3, s4 =>
    if x1 ≤ x3 then
      some (x2, s4)
    else
      if (s4 w 10) ≤ 0 then
        some (x2, s4)
      else
        bd (f_X5_passNight w s4) fun r5 s6 =>
        nm (x2 ||| r5) fun x7 =>
        nm (x3 + 1) fun x8 =>
        f_X5_failedIn_4 w n x1 x7 x8 s6
def f_X5_failedIn (w : Nat) (p1 : Int32) (s0 : zMem) : Option (Int32 × zMem) :=
  f_X5_failedIn_4 w zN p1 0 0 s0
def f_X6_needs_29   : Nat → Int32 → Int32 → Int32 → zMem → Option (Int32 × zMem)
  | 0, _, _, _, _ => none
  | n + 1, x5, x6, x7, s8 =>
    if 99 < x7 then
      some ((-1), s8)
    else
      bd (f_X6_think s8) fun _ s10 =>
      gd (zib x5 6) <|
      nm (zUp s10 22 (zix x5) x7) fun s11 =>
      bd (f_X5_failedIn 20 x6 s11) fun r12 s13 =>
      bd (f_X6_has r12 x5 s13) fun r14 s15 =>
      if r14 = 0 then
        some (x7, s15)
      else
        nm (x7 + 1) fun x16 =>
        f_X6_needs_29 n x5 x6 x16 s15
def f_X6_needs  (p1 : Int32) (p2 : Int32) (s0 : zMem) : Option (Int32 × zMem) :=
  bd (f_X5_isHut 9 p1 s0) fun r1 s2 =>
  if r1 = 0 then
    some ((-5), s2)
  else
    bd (f_X6_isFromTo p2 0 40 s2) fun r3 s4 =>
    if r3 = 0 then
      some ((-7), s4)
    else
      f_X6_needs_29 zN p1 p2 0 s4
def f_J6_bitCount_0f7a4  (p1 : Int32) (s0 : zMem) : Option (Int32 × zMem) :=
  nm (p1 - (((p1.toUInt32 >>> ((1 : Int32).toUInt32 &&& Int32.toUInt32 31)).toInt32) &&& 1431655765)) fun x1 =>
  nm ((x1 &&& 858993459) + (((x1.toUInt32 >>> ((2 : Int32).toUInt32 &&& Int32.toUInt32 31)).toInt32) &&& 858993459)) fun x2 =>
  nm ((x2 + ((x2.toUInt32 >>> ((4 : Int32).toUInt32 &&& Int32.toUInt32 31)).toInt32)) &&& 252645135) fun x3 =>
  nm (x3 + ((x3.toUInt32 >>> ((8 : Int32).toUInt32 &&& Int32.toUInt32 31)).toInt32)) fun x4 =>
  nm (x4 + ((x4.toUInt32 >>> ((16 : Int32).toUInt32 &&& Int32.toUInt32 31)).toInt32)) fun x5 =>
  some (x5 &&& 63, s0)
def f_X6_mercy_40  (c96 : Int32 → Int32 → Int32 → zMem → Option (Int32 × zMem)) : Nat → Int32 → Int32 → Int32 → Int32 → Int32 → zMem → Option (Int32 × zMem)
  | 0, _, _, _, _, _, _ => none
  | n + 1, x11, x12, x13, x14, x15, s16 =>
    if (s16 9 10) ≤ x15 then
      c96 x12 x13 x14 s16
    else
      bd (f_X6_think s16) fun _ s18 =>
      bd (f_X5_drop 20 x15 s18) fun _ s20 =>
      bd (f_X5_failedIn 20 x11 s20) fun r21 s22 =>
      bd (f_J6_bitCount_0f7a4 r21 s22) fun r23 s24 =>
      if x14 ≤ r23 then
        nm (x15 + 1) fun x25 =>
        f_X6_mercy_40 c96 n x11 x12 x13 x14 x25 s24
      else
        nm (x15 + 1) fun x26 =>
        f_X6_mercy_40 c96 n x11 x12 x15 r23 x26 s24
def f_X6_mercy  (p1 : Int32) (p2 : Int32) (s0 : zMem) : Option (Int32 × zMem) :=
  bd (f_X6_isFromTo p1 0 40 s0) fun r1 s2 =>
  if r1 = 0 then
    some ((-2), s2)
  else
    bd (f_X6_isFromTo p2 0 1 s2) fun r3 s4 =>
    if r3 = 0 then
      some ((-2), s4)
    else
      bd (f_X6_think s4) fun _ s6 =>
      bd (f_X5_failedIn 20 p1 s6) fun r7 s8 =>
      bd (f_J6_bitCount_0f7a4 r7 s8) fun r9 s10 =>
      f_X6_mercy_40 (fun x27 x28 x29 s30 =>
        if x27 = 0 then
          some (x28, s30)
        else
          some (x29, s30)) zN p1 p2 (-1) r9 0 s10
def f_X6_heatOfOthersWithout  (p1 : Int32) (p2 : Int32) (s0 : zMem) : Option (Int32 × zMem) :=
  bd (f_X6_think s0) fun _ s2 =>
  gd (zib p1 6) <|
  nm (zUp s2 21 (zix p1) 0) fun s3 =>
  gd (zib p1 6) <|
  nm (zUp s3 22 (zix p1) 0) fun s4 =>
  bd (f_X5_passNights 20 p2 s4) fun r5 s6 =>
  bd (f_X5_heatOfAll 20 s6) fun r7 s8 =>
  gd (zib p1 6) <|
  some (r7 - (s8 21 (zix p1)), s8)
def f_X6_worst_30  (c76 : Int32 → Int32 → Int32 → zMem → Option (Int32 × zMem)) : Nat → Int32 → Int32 → Int32 → Int32 → Int32 → zMem → Option (Int32 × zMem)
  | 0, _, _, _, _, _, _ => none
  | n + 1, x5, x6, x7, x8, x9, s10 =>
    if (s10 9 9) ≤ x9 then
      c76 x6 x7 x8 s10
    else
      bd (f_X6_heatOfOthersWithout x9 x5 s10) fun r11 s12 =>
      if x7 = (-1) then
        nm (x9 + 1) fun x13 =>
        f_X6_worst_30 c76 n x5 x6 x9 r11 x13 s12
      else
        if x8 ≤ r11 then
          nm (x9 + 1) fun x14 =>
          f_X6_worst_30 c76 n x5 x6 x7 x8 x14 s12
        else
          nm (x9 + 1) fun x15 =>
          f_X6_worst_30 c76 n x5 x6 x9 r11 x15 s12
def f_X6_worst  (p1 : Int32) (p2 : Int32) (s0 : zMem) : Option (Int32 × zMem) :=
  bd (f_X6_isFromTo p1 0 40 s0) fun r1 s2 =>
  if r1 = 0 then
    some ((-2), s2)
  else
    bd (f_X6_isFromTo p2 0 1 s2) fun r3 s4 =>
    if r3 = 0 then
      some ((-2), s4)
    else
      f_X6_worst_30 (fun x16 x17 x18 s19 =>
        if x16 = 0 then
          some (x17, s19)
        else
          some (x18, s19)) zN p1 p2 (-1) (-1) 0 s4
def f_X3_at  (p1 : Int32) (p2 : Int32) (s0 : zMem) : Option (Int32 × zMem) :=
  gd (zib ((p1 * 40) + p2) 160) <|
  some (s0 45 (zix ((p1 * 40) + p2)), s0)
def f_X3_sizeOf  (p1 : Int32) (s0 : zMem) : Option (Int32 × zMem) :=
  gd (zib p1 4) <|
  some (s0 44 (zix p1), s0)
def f_X6_firstOtherwise_13   : Nat → Int32 → Int32 → Int32 → Int32 → zMem → Option (Int32 × zMem)
  | 0, _, _, _, _, _ => none
  | n + 1, x3, x4, x5, x6, s7 =>
    if x5 ≤ x6 then
      some ((-1), s7)
    else
      bd (f_X5_passNight 20 s7) fun r8 s9 =>
      gd (zib x4 6) <|
      bd (f_X3_at x3 x6 s9) fun r10 s11 =>
      if (s9 21 (zix x4)) = r10 then
        nm (x6 + 1) fun x12 =>
        f_X6_firstOtherwise_13 n x3 x4 x5 x12 s11
      else
        some (x6, s11)
def f_X6_firstOtherwise  (p1 : Int32) (p3 : Int32) (s0 : zMem) : Option (Int32 × zMem) :=
  bd (f_X3_sizeOf p1 s0) fun r1 s2 =>
  f_X6_firstOtherwise_13 zN p1 p3 r1 0 s2
def f_X3_isMissing  (p1 : Int32) (s0 : zMem) : Option (Int32 × zMem) :=
  gd (zib p1 4) <|
  if (s0 43 (zix p1)) = (-1) then
    some (1, s0)
  else
    some (0, s0)
def f_X3_isSheet  (p1 : Int32) (s0 : zMem) : Option (Int32 × zMem) :=
  if p1 < 0 then
    some (0, s0)
  else
    if 4 ≤ p1 then
      some (0, s0)
    else
      some (1, s0)
def f_X6_toldRefusal  (p1 : Int32) (s0 : zMem) : Option (Int32 × zMem) :=
  bd (f_X3_isSheet p1 s0) fun r1 s2 =>
  if r1 = 0 then
    some ((-2), s2)
  else
    bd (f_X3_isMissing p1 s2) fun r3 s4 =>
    if r3 = 0 then
      bd (f_X3_sizeOf p1 s4) fun r5 s6 =>
      if r5 ≤ 20 then
        some (0, s6)
      else
        some ((-2), s6)
    else
      some ((-11), s4)
def f_X6_judgeRefusal  (p1 : Int32) (p2 : Int32) (s0 : zMem) : Option (Int32 × zMem) :=
  bd (f_X6_toldRefusal p1 s0) fun r1 s2 =>
  if r1 = 0 then
    bd (f_X5_isHut 9 p2 s2) fun r3 s4 =>
    if r3 = 0 then
      some ((-5), s4)
    else
      some (r1, s4)
  else
    some (r1, s2)
def f_X6_judge  (p1 : Int32) (p2 : Int32) (s0 : zMem) : Option (Int32 × zMem) :=
  bd (f_X6_judgeRefusal p1 p2 s0) fun r1 s2 =>
  if r1 = 0 then
    bd (f_X6_think s2) fun _ s4 =>
    bd (f_X6_firstOtherwise p1 p2 s4) fun r5 s6 =>
    some (r5, s6)
  else
    some (r1, s2)
def f_X6_isTold  (p1 : Int32) (p3 : Int32) (s0 : zMem) : Option (Int32 × zMem) :=
  bd (f_X6_firstOtherwise p1 p3 s0) fun r1 s2 =>
  if r1 = (-1) then
    some (1, s2)
  else
    some (0, s2)
def f_X6_kinds_46  (c34 : Int32 → Int32 → Int32 → Int32 → Int32 → zMem → Option (Int32 × zMem)) (x11 : Int32) (x12 : Int32) (x13 : Int32) (x14 : Int32) (x15 : Int32) (t16 : Int32) (t17 : Int32) (s18 : zMem) : Option (Int32 × zMem) :=
  if t16 < t17 then
    some (x14, s18)
  else
    bd (f_X6_think s18) fun _ s20 =>
    if x13 = 0 then
      gd (zib x12 6) <|
      nm (zUp s20 24 (zix x12) x15) fun s27 =>
      bd (f_X6_isTold x11 x12 s27) fun r28 s29 =>
      if r28 = 0 then
        nm (x15 + 1) fun x30 =>
        c34 x11 x12 x13 x14 x30 s29
      else
        nm (x14 ||| (1 <<< (x15 &&& 31))) fun x31 =>
        nm (x15 + 1) fun x32 =>
        c34 x11 x12 x13 x31 x32 s29
    else
      gd (zib x12 6) <|
      nm (zUp s20 25 (zix x12) x15) fun s21 =>
      bd (f_X6_isTold x11 x12 s21) fun r22 s23 =>
      if r22 = 0 then
        nm (x15 + 1) fun x24 =>
        c34 x11 x12 x13 x14 x24 s23
      else
        nm (x14 ||| (1 <<< (x15 &&& 31))) fun x25 =>
        nm (x15 + 1) fun x26 =>
        c34 x11 x12 x13 x25 x26 s23
def f_X6_kinds_34   : Nat → Int32 → Int32 → Int32 → Int32 → Int32 → zMem → Option (Int32 × zMem)
  | 0, _, _, _, _, _, _ => none
  | n + 1, x5, x6, x7, x8, x9, s10 =>
    if x7 = 0 then
      f_X6_kinds_46 (fun x39 x40 x41 x42 x43 s44 =>
        f_X6_kinds_34 n x39 x40 x41 x42 x43 s44) x5 x6 x7 x8 x9 5 x9 s10
    else
      f_X6_kinds_46 (fun x33 x34 x35 x36 x37 s38 =>
        f_X6_kinds_34 n x33 x34 x35 x36 x37 s38) x5 x6 x7 x8 x9 9 x9 s10
def f_X6_kinds  (p1 : Int32) (p2 : Int32) (p3 : Int32) (s0 : zMem) : Option (Int32 × zMem) :=
  bd (f_X6_judgeRefusal p1 p2 s0) fun r1 s2 =>
  if r1 = 0 then
    bd (f_X6_isFromTo p3 0 1 s2) fun r3 s4 =>
    if r3 = 0 then
      some ((-7), s4)
    else
      f_X6_kinds_34 zN p1 p2 p3 0 0 s4
  else
    some (r1, s2)
def f_X6_states_63  (c111 : Int32 → Int32 → Int32 → zMem → Option (Int32 × zMem)) (c47 : Int32 → Int32 → Int32 → Int32 → Int32 → Int32 → Int32 → zMem → Option (Int32 × zMem)) (x17 : Int32) (x18 : Int32) (x19 : Int32) (x20 : Int32) (x21 : Int32) (x22 : Int32) (x23 : Int32) (t24 : Int32) (t25 : Int32) (s26 : zMem) : Option (Int32 × zMem) :=
  if t24 < t25 then
    c111 x20 x21 x22 s26
  else
    bd (f_X6_think s26) fun _ s28 =>
    bd (f_X5_become 20 x18 x19 x23 s28) fun _ s30 =>
    bd (f_X6_isTold x17 x18 s30) fun r31 s32 =>
    if r31 = 0 then
      nm (x23 + 1) fun x33 =>
      c47 x17 x18 x19 x20 x21 x22 x33 s32
    else
      nm (x21 + 1) fun x34 =>
      if x22 = (-1) then
        nm (x23 + 1) fun x36 =>
        c47 x17 x18 x19 x20 x34 x23 x36 s32
      else
        nm (x23 + 1) fun x35 =>
        c47 x17 x18 x19 x20 x34 x22 x35 s32
def f_X6_states_47  (c111 : Int32 → Int32 → Int32 → zMem → Option (Int32 × zMem)) : Nat → Int32 → Int32 → Int32 → Int32 → Int32 → Int32 → Int32 → zMem → Option (Int32 × zMem)
  | 0, _, _, _, _, _, _, _, _ => none
  | n + 1, x7, x8, x9, x10, x11, x12, x13, s14 =>
    if x9 = 0 then
      f_X6_states_63 (fun x49 x50 x51 s52 =>
        c111 x49 x50 x51 s52) (fun x53 x54 x55 x56 x57 x58 x59 s60 =>
        f_X6_states_47 c111 n x53 x54 x55 x56 x57 x58 x59 s60) x7 x8 x9 x10 x11 x12 x13 299 x13 s14
    else
      bd (f_X6_mostOf x9 s14) fun r15 s16 =>
      f_X6_states_63 (fun x37 x38 x39 s40 =>
        c111 x37 x38 x39 s40) (fun x41 x42 x43 x44 x45 x46 x47 s48 =>
        f_X6_states_47 c111 n x41 x42 x43 x44 x45 x46 x47 s48) x7 x8 x9 x10 x11 x12 x13 r15 x13 s16
def f_X6_states  (p1 : Int32) (p2 : Int32) (p3 : Int32) (p4 : Int32) (s0 : zMem) : Option (Int32 × zMem) :=
  bd (f_X6_judgeRefusal p1 p2 s0) fun r1 s2 =>
  if r1 = 0 then
    bd (f_X6_isFromTo p3 0 2 s2) fun r3 s4 =>
    if r3 = 0 then
      some ((-7), s4)
    else
      bd (f_X6_isFromTo p4 0 1 s4) fun r5 s6 =>
      if r5 = 0 then
        some ((-7), s6)
      else
        f_X6_states_47 (fun x61 x62 x63 s64 =>
          if x61 = 0 then
            some (x62, s64)
          else
            some (x63, s64)) zN p1 p2 p3 p4 0 (-1) 0 s6
  else
    some (r1, s2)
def f_X6_whose_17   : Nat → Int32 → Int32 → Int32 → zMem → Option (Int32 × zMem)
  | 0, _, _, _, _ => none
  | n + 1, x3, x4, x5, s6 =>
    if (s6 9 9) ≤ x5 then
      some (x4, s6)
    else
      bd (f_X6_think s6) fun _ s8 =>
      bd (f_X6_isTold x3 x5 s8) fun r9 s10 =>
      if r9 = 0 then
        nm (x5 + 1) fun x11 =>
        f_X6_whose_17 n x3 x4 x11 s10
      else
        nm (x4 ||| (1 <<< (x5 &&& 31))) fun x12 =>
        nm (x5 + 1) fun x13 =>
        f_X6_whose_17 n x3 x12 x13 s10
def f_X6_whose  (p1 : Int32) (s0 : zMem) : Option (Int32 × zMem) :=
  bd (f_X6_toldRefusal p1 s0) fun r1 s2 =>
  if r1 = 0 then
    f_X6_whose_17 zN p1 0 0 s2
  else
    some (r1, s2)
def f_X6_laws_19   : Nat → Int32 → Int32 → Int32 → Int32 → zMem → Option (Int32 × zMem)
  | 0, _, _, _, _, _ => none
  | n + 1, x3, x4, x5, x6, s7 =>
    if (s7 1 3) ≤ x6 then
      some (x5, s7)
    else
      bd (f_X6_think s7) fun _ s9 =>
      nm (zUp s9 20 12 x6) fun s10 =>
      bd (f_X6_isTold x3 x4 s10) fun r11 s12 =>
      if r11 = 0 then
        nm (x6 + 1) fun x13 =>
        f_X6_laws_19 n x3 x4 x5 x13 s12
      else
        nm (x5 ||| (1 <<< (x6 &&& 31))) fun x14 =>
        nm (x6 + 1) fun x15 =>
        f_X6_laws_19 n x3 x4 x14 x15 s12
def f_X6_laws  (p1 : Int32) (p2 : Int32) (s0 : zMem) : Option (Int32 × zMem) :=
  bd (f_X6_judgeRefusal p1 p2 s0) fun r1 s2 =>
  if r1 = 0 then
    f_X6_laws_19 zN p1 p2 0 0 s2
  else
    some (r1, s2)
def f_X3_renew_17   : Nat → Int32 → Int32 → zMem → Option (Unit × zMem)
  | 0, _, _, _ => none
  | n + 1, x3, x4, s5 =>
    if 40 ≤ x4 then
      some ((), s5)
    else
      gd (zib ((x3 * 40) + x4) 160) <|
      nm (zUp s5 45 (zix ((x3 * 40) + x4)) 0) fun s6 =>
      nm (x4 + 1) fun x7 =>
      f_X3_renew_17 n x3 x7 s6
def f_X3_renew  (p1 : Int32) (p2 : Int32) (p3 : Int32) (s0 : zMem) : Option (Unit × zMem) :=
  gd (zib p1 4) <|
  nm (zUp s0 43 (zix p1) p2) fun s1 =>
  gd (zib p1 4) <|
  nm (zUp s1 44 (zix p1) p3) fun s2 =>
  f_X3_renew_17 zN p1 0 s2
def f_X3_write_16   (x1 : Int32) (x2 : Int32) (x3 : Int32) (x4 : Int32) (s5 : zMem) : Option (Unit × zMem) :=
  gd (zib x1 4) <|
  if (s5 43 (zix x1)) = 1 then
    nm (x3.toInt16.toInt32) fun x7 =>
    gd (zib ((x1 * 40) + x2) 160) <|
    nm (zUp s5 45 (zix ((x1 * 40) + x2)) x7) fun s8 =>
    some ((), s8)
  else
    gd (zib ((x1 * 40) + x2) 160) <|
    nm (zUp s5 45 (zix ((x1 * 40) + x2)) x4) fun s6 =>
    some ((), s6)
def f_X3_write  (p1 : Int32) (p2 : Int32) (p3 : Int32) (s0 : zMem) : Option (Unit × zMem) :=
  gd (zib p1 4) <|
  if (s0 43 (zix p1)) = 0 then
    nm (p3.toInt8.toInt32) fun x9 =>
    f_X3_write_16 p1 p2 p3 x9 s0
  else
    f_X3_write_16 p1 p2 p3 p3 s0
def f_X6_film_60   : Nat → Int32 → Int32 → Int32 → Int32 → zMem → Option (Int32 × zMem)
  | 0, _, _, _, _, _ => none
  | n + 1, x11, x12, x13, x14, s15 =>
    if x13 ≤ x14 then
      some (x13, s15)
    else
      bd (f_X5_passNight 20 s15) fun r16 s17 =>
      gd (zib x12 6) <|
      bd (f_X3_write x11 x14 (s17 21 (zix x12)) s17) fun _ s19 =>
      nm (x14 + 1) fun x20 =>
      f_X6_film_60 n x11 x12 x13 x20 s19
def f_X6_film  (p1 : Int32) (p2 : Int32) (p3 : Int32) (s0 : zMem) : Option (Int32 × zMem) :=
  bd (f_X3_isSheet p1 s0) fun r1 s2 =>
  if r1 = 0 then
    some ((-2), s2)
  else
    bd (f_X5_isHut 9 p2 s2) fun r3 s4 =>
    if r3 = 0 then
      some ((-5), s4)
    else
      bd (f_X6_isFromTo p3 0 20 s4) fun r5 s6 =>
      if r5 = 0 then
        some ((-7), s6)
      else
        bd (f_X3_renew p1 1 p3 s6) fun _ s8 =>
        bd (f_X6_think s8) fun _ s10 =>
        f_X6_film_60 zN p1 p2 p3 0 s10
def f_X5_passSnow_20 (w : Nat)  : Nat → Int32 → Int32 → Int64 → Int32 → zMem → Option (Int32 × zMem)
  | 0, _, _, _, _, _ => none
  | n + 1, x2, x3, x4, x5, s6 =>
    if 5 ≤ x5 then
      some (x3, s6)
    else
      nm (zremL (x4 * 48271) 2147483647) fun x7 =>
      gd (decide (¬ (s6 w 9).toInt64 = 0)) <|
      nm ((zremL x7 ((s6 w 9).toInt64)).toInt32) fun x8 =>
      gd (zib x8 6) <|
      gd (zib x8 6) <|
      nm (zUp s6 (w + 1) (zix x8) (zmax 0 ((s6 (w + 1) (zix x8)) - x2))) fun s9 =>
      bd (f_X5_passNight w s9) fun r10 s11 =>
      nm (x3 ||| r10) fun x12 =>
      nm (x5 + 1) fun x13 =>
      f_X5_passSnow_20 w n x2 x12 x7 x13 s11
def f_X5_passSnow (w : Nat) (p1 : Int32) (p2 : Int32) (s0 : zMem) : Option (Int32 × zMem) :=
  if 0 < (s0 w 9) then
    nm (p1.toInt64 + 1) fun x1 =>
    f_X5_passSnow_20 w zN p2 0 x1 0 s0
  else
    some (0, s0)
def f_X6_isSnow  (p1 : Int32) (p2 : Int32) (s0 : zMem) : Option (Int32 × zMem) :=
  bd (f_X6_isFromTo p1 0 99999 s0) fun r1 s2 =>
  if r1 = 0 then
    some (0, s2)
  else
    bd (f_X6_isFromTo p2 0 999 s2) fun r3 s4 =>
    if r3 = 0 then
      some (0, s4)
    else
      some (1, s4)
def f_X6_drawn  (p1 : Int32) (p2 : Int32) (p3 : Int32) (s0 : zMem) : Option (Int32 × zMem) :=
  bd (f_X6_isSnow p1 p2 s0) fun r1 s2 =>
  if r1 = 0 then
    some ((-2), s2)
  else
    bd (f_X6_isFromTo p3 0 1 s2) fun r3 s4 =>
    if r3 = 0 then
      some ((-2), s4)
    else
      bd (f_X6_think s4) fun _ s6 =>
      bd (f_X5_passSnow 20 p1 p2 s6) fun r7 s8 =>
      if p3 = 0 then
        some (r7, s8)
      else
        bd (f_X5_heatOfAll 20 s8) fun r9 s10 =>
        some (r9, s10)
def f_X6_greatestShared_2   : Nat → Int32 → Int32 → Int32 → zMem → Option (Int32 × zMem)
  | 0, _, _, _, _ => none
  | n + 1, x1, x2, x3, s4 =>
    if x3 ≤ 1 then
      some (1, s4)
    else
      gd (decide (¬ x3 = 0)) <|
      if (zrem x1 x3) = 0 then
        gd (decide (¬ x3 = 0)) <|
        if (zrem x2 x3) = 0 then
          some (x3, s4)
        else
          nm (x3 + (-1)) fun x6 =>
          f_X6_greatestShared_2 n x1 x2 x6 s4
      else
        nm (x3 + (-1)) fun x5 =>
        f_X6_greatestShared_2 n x1 x2 x5 s4
def f_X6_greatestShared  (p1 : Int32) (p2 : Int32) (s0 : zMem) : Option (Int32 × zMem) :=
  f_X6_greatestShared_2 zN p1 p2 p2 s0
def f_X6_odds_49  (c84 : Int32 → Int32 → Int32 → zMem → Option (Int64 × zMem)) : Nat → Int32 → Int32 → Int32 → Int32 → Int32 → Int32 → Int32 → zMem → Option (Int64 × zMem)
  | 0, _, _, _, _, _, _, _, _ => none
  | n + 1, x9, x10, x11, x12, x13, x14, x15, s16 =>
    if x10 ≤ x15 then
      c84 x10 x13 x14 s16
    else
      bd (f_X6_think s16) fun _ s18 =>
      bd (f_X5_passSnow 20 (x9 + x15) x11 s18) fun r19 s20 =>
      bd (f_J6_bitCount_0f7a4 r19 s20) fun r21 s22 =>
      if r21 < x12 then
        nm (x15 + 1) fun x23 =>
        f_X6_odds_49 c84 n x9 x10 x11 x12 x13 x14 x23 s22
      else
        nm (x14 + 1) fun x24 =>
        nm (x15 + 1) fun x25 =>
        f_X6_odds_49 c84 n x9 x10 x11 x12 x13 x24 x25 s22
def f_X6_odds  (p1 : Int32) (p2 : Int32) (p3 : Int32) (p4 : Int32) (p5 : Int32) (s0 : zMem) : Option (Int64 × zMem) :=
  bd (f_X6_isSnow p1 p3 s0) fun r1 s2 =>
  if r1 = 0 then
    some ((-4611686018427387904), s2)
  else
    bd (f_X6_isFromTo p2 1 40 s2) fun r3 s4 =>
    if r3 = 0 then
      some ((-4611686018427387904), s4)
    else
      bd (f_X6_isFromTo p4 0 6 s4) fun r5 s6 =>
      if r5 = 0 then
        some ((-4611686018427387904), s6)
      else
        bd (f_X6_isFromTo p5 0 1 s6) fun r7 s8 =>
        if r7 = 0 then
          some ((-4611686018427387904), s8)
        else
          f_X6_odds_49 (fun x26 x27 x28 s29 =>
            bd (f_X6_greatestShared x28 x26 s29) fun r30 s31 =>
            if x27 = 0 then
              gd (decide (¬ r30 = 0)) <|
              some ((x28 / r30).toInt64, s31)
            else
              gd (decide (¬ r30 = 0)) <|
              some ((x26 / r30).toInt64, s31)) zN p1 p2 p3 p4 p5 0 0 s8
def f_X6_image   (s0 : zMem) : Option (Int32 × zMem) :=
  bd (f_X5_becomeAs 31 9 s0) fun _ s2 =>
  nm (zUp s2 0 7 1) fun s3 =>
  some (s3 9 9, s3)
def f_X6_back   (s0 : zMem) : Option (Int32 × zMem) :=
  if (s0 0 7) = 0 then
    some ((-3), s0)
  else
    bd (f_X5_becomeAs 9 31 s0) fun _ s2 =>
    some (s2 9 9, s2)
def f_X6_sheet_33   (x5 : Int32) (x6 : Int32) (t7 : Int32) (s8 : zMem) : Option (Int32 × zMem) :=
  if t7 ≤ 40 then
    if 0 ≤ t7 then
      bd (f_X3_renew x5 x6 t7 s8) fun _ s10 =>
      some (1, s10)
    else
      some ((-14), s8)
  else
    some ((-2), s8)
def f_X6_sheet  (p1 : Int32) (p2 : Int32) (p3 : Int32) (s0 : zMem) : Option (Int32 × zMem) :=
  bd (f_X3_isSheet p1 s0) fun r1 s2 =>
  if r1 = 0 then
    some ((-2), s2)
  else
    bd (f_X6_isFromTo p2 (-1) 2 s2) fun r3 s4 =>
    if r3 = 0 then
      some ((-2), s4)
    else
      if p2 = (-1) then
        f_X6_sheet_33 p1 p2 0 s4
      else
        f_X6_sheet_33 p1 p2 p3 s4
def f_X3_isPlace  (p1 : Int32) (p2 : Int32) (s0 : zMem) : Option (Int32 × zMem) :=
  if p2 < 0 then
    some (0, s0)
  else
    gd (zib p1 4) <|
    if (s0 44 (zix p1)) ≤ p2 then
      some (0, s0)
    else
      some (1, s0)
def f_X6_cell  (p1 : Int32) (p2 : Int32) (p3 : Int32) (s0 : zMem) : Option (Int32 × zMem) :=
  bd (f_X3_isSheet p1 s0) fun r1 s2 =>
  if r1 = 0 then
    some ((-2), s2)
  else
    bd (f_X3_isMissing p1 s2) fun r3 s4 =>
    if r3 = 0 then
      bd (f_X3_isPlace p1 p2 s4) fun r5 s6 =>
      if r5 = 0 then
        some ((-12), s6)
      else
        bd (f_X3_write p1 p2 p3 s6) fun _ s8 =>
        some (1, s8)
    else
      some ((-11), s4)
def f_X3_isStretch  (p1 : Int32) (p2 : Int32) (p3 : Int32) (s0 : zMem) : Option (Int32 × zMem) :=
  if p2 < 0 then
    some (0, s0)
  else
    if p3 < 0 then
      some (0, s0)
    else
      gd (zib p1 4) <|
      if 0 < (lg_cmp (p2.toInt64 + p3.toInt64) ((s0 44 (zix p1)).toInt64)) then
        some (0, s0)
      else
        some (1, s0)
def f_X3_move  (p1 : Int32) (p2 : Int32) (p3 : Int32) (p4 : Int32) (p5 : Int32) (s0 : zMem) : Option (Unit × zMem) :=
  gd (zcpOk ((p1 * 40) + p2) ((p3 * 40) + p4) p5 160 160) <|
  nm (zCp s0 45 (zix ((p1 * 40) + p2)) 45 (zix ((p3 * 40) + p4)) (zix p5)) fun s1 =>
  some ((), s1)
def f_X3_sortOf  (p1 : Int32) (s0 : zMem) : Option (Int32 × zMem) :=
  gd (zib p1 4) <|
  some (s0 43 (zix p1), s0)
def f_X6_copy  (p1 : Int32) (p2 : Int32) (p3 : Int32) (p4 : Int32) (p5 : Int32) (s0 : zMem) : Option (Int32 × zMem) :=
  bd (f_X3_isSheet p1 s0) fun r1 s2 =>
  if r1 = 0 then
    some ((-2), s2)
  else
    bd (f_X3_isSheet p3 s2) fun r3 s4 =>
    if r3 = 0 then
      some ((-2), s4)
    else
      bd (f_X3_isMissing p1 s4) fun r5 s6 =>
      if r5 = 0 then
        bd (f_X3_isMissing p3 s6) fun r7 s8 =>
        if r7 = 0 then
          bd (f_X3_sortOf p1 s8) fun r9 s10 =>
          bd (f_X3_sortOf p3 s10) fun r11 s12 =>
          if r9 = r11 then
            bd (f_X3_isStretch p1 p2 p5 s12) fun r13 s14 =>
            if r13 = 0 then
              some ((-12), s14)
            else
              bd (f_X3_isStretch p3 p4 p5 s14) fun r15 s16 =>
              if r15 = 0 then
                some ((-12), s16)
              else
                bd (f_X3_move p1 p2 p3 p4 p5 s16) fun _ s18 =>
                some (p5, s18)
          else
            some ((-13), s12)
        else
          some ((-11), s8)
      else
        some ((-11), s6)
def f_X6_hutsBy_69   : Nat → Int32 → Int32 → Int32 → Int32 → Int32 → zMem → Option (Int32 × zMem)
  | 0, _, _, _, _, _, _ => none
  | n + 1, x11, x12, x13, x14, x15, s16 =>
    if x13 ≤ x15 then
      some (x14, s16)
    else
      bd (f_X3_isStretch x11 x12 ((2 * x15) + 2) s16) fun r17 s18 =>
      if r17 = 0 then
        some ((-12), s18)
      else
        nm (x12 + (2 * x15)) fun x19 =>
        bd (f_X3_at x11 x19 s18) fun r20 s21 =>
        bd (f_X3_at x11 (x19 + 1) s21) fun r22 s23 =>
        bd (f_X5_comes 9 r20 r22 s23) fun r24 s25 =>
        if r24 < 0 then
          nm (x15 + 1) fun x26 =>
          f_X6_hutsBy_69 n x11 x12 x13 x14 x26 s25
        else
          nm (x14 + 1) fun x27 =>
          nm (x15 + 1) fun x28 =>
          f_X6_hutsBy_69 n x11 x12 x13 x27 x28 s25
def f_X6_hutsBy  (p1 : Int32) (p2 : Int32) (p3 : Int32) (p4 : Int32) (s0 : zMem) : Option (Int32 × zMem) :=
  bd (f_X3_isSheet p1 s0) fun r1 s2 =>
  if r1 = 0 then
    some ((-2), s2)
  else
    bd (f_X6_isFromTo p2 0 2 s2) fun r3 s4 =>
    if r3 = 0 then
      some ((-2), s4)
    else
      bd (f_X6_isFromTo p4 0 6 s4) fun r5 s6 =>
      if r5 = 0 then
        some ((-2), s6)
      else
        bd (f_X3_isMissing p1 s6) fun r7 s8 =>
        if r7 = 0 then
          bd (f_X3_sortOf p1 s8) fun r9 s10 =>
          if r9 = p2 then
            f_X6_hutsBy_69 zN p1 p3 p4 0 0 s10
          else
            some ((-13), s10)
        else
          some ((-11), s8)
def f_X1_isOne_4   : Nat → Int32 → Int32 → Int32 → zMem → Option (Int32 × zMem)
  | 0, _, _, _, _ => none
  | n + 1, x1, x2, x3, s4 =>
    if 6 ≤ x3 then
      some (0, s4)
    else
      if x2 < 0 then
        some (0, s4)
      else
        if 6 ≤ x2 then
          some (0, s4)
        else
          if x2 = x1 then
            some (1, s4)
          else
            gd (zib x2 6) <|
            nm (zAb.getD (zix x2) 0) fun x5 =>
            nm (x3 + 1) fun x6 =>
            f_X1_isOne_4 n x1 x5 x6 s4
def f_X1_isOne  (p1 : Int32) (p2 : Int32) (s0 : zMem) : Option (Int32 × zMem) :=
  f_X1_isOne_4 zN p2 p1 0 s0
def f_X6_taken_55   (x8 : Int32) (x9 : Int32) (x10 : Int32) (t11 : Int32) (s12 : zMem) : Option (Int32 × zMem) :=
  if x8 < 6 then
    if t11 = 0 then
      gd (zib x10 6) <|
      bd (f_X1_isOne (s12 13 (zix x10)) x9 s12) fun r13 s14 =>
      if r13 = 0 then
        some ((-13), s14)
      else
        some (x10, s14)
    else
      some ((-13), s12)
  else
    if t11 = 0 then
      some ((-13), s12)
    else
      gd (zib x10 6) <|
      some (s12 10 (zix x10), s12)
def f_X6_taken  (p1 : Int32) (p2 : Int32) (s0 : zMem) : Option (Int32 × zMem) :=
  bd (f_X6_isFromTo p2 0 6 s0) fun r1 s2 =>
  if r1 = 0 then
    some ((-2), s2)
  else
    bd (f_X6_isFromTo p1 0 11 s2) fun r3 s4 =>
    if r3 = 0 then
      some ((-12), s4)
    else
      nm (zrem p1 6) fun x5 =>
      bd (f_X5_isHut 9 x5 s4) fun r6 s7 =>
      if r6 = 0 then
        some ((-11), s7)
      else
        if p2 ≤ 5 then
          f_X6_taken_55 p1 p2 x5 0 s7
        else
          f_X6_taken_55 p1 p2 x5 1 s7
def f_X7_in  (p1 : Int32) (p2 : Int32) (p3 : Int32) (s0 : zMem) : Option (Int32 × zMem) :=
  if p1 < p2 then
    some (0, s0)
  else
    if p3 < p1 then
      some (0, s0)
    else
      some (1, s0)
def f_X7_within  (p1 : Int32) (p2 : Int32) (p3 : Int32) (s0 : zMem) : Option (Int32 × zMem) :=
  if p2 ≤ p1 then
    if p1 ≤ p3 then
      some (p1, s0)
    else
      some (p3, s0)
  else
    some (p2, s0)
def f_X7_isHut  (p1 : Int32) (s0 : zMem) : Option (Int32 × zMem) :=
  bd (f_X7_in p1 0 ((s0 47 0) - 1) s0) fun r1 s2 =>
  gd (z01 r1) <|
  some (r1, s2)
def f_X7_isLoan  (p1 : Int32) (s0 : zMem) : Option (Int32 × zMem) :=
  bd (f_X7_in p1 0 ((s0 47 8) - 1) s0) fun r1 s2 =>
  gd (z01 r1) <|
  some (r1, s2)
def f_X7_owedBy_4   : Nat → Int32 → Int32 → Int32 → zMem → Option (Int32 × zMem)
  | 0, _, _, _, _ => none
  | n + 1, x1, x2, x3, s4 =>
    if (s4 47 8) ≤ x3 then
      some (x2, s4)
    else
      gd (zib x3 10) <|
      if (s4 52 (zix x3)) = x1 then
        gd (zib x3 10) <|
        nm (x2 + (s4 53 (zix x3))) fun x7 =>
        nm (x3 + 1) fun x8 =>
        f_X7_owedBy_4 n x1 x7 x8 s4
      else
        nm (x2 + 0) fun x5 =>
        nm (x3 + 1) fun x6 =>
        f_X7_owedBy_4 n x1 x5 x6 s4
def f_X7_owedBy  (p1 : Int32) (s0 : zMem) : Option (Int32 × zMem) :=
  f_X7_owedBy_4 zN p1 0 0 s0
def f_X7_owedTo_4   : Nat → Int32 → Int32 → Int32 → zMem → Option (Int32 × zMem)
  | 0, _, _, _, _ => none
  | n + 1, x1, x2, x3, s4 =>
    if (s4 47 8) ≤ x3 then
      some (x2, s4)
    else
      gd (zib x3 10) <|
      if (s4 51 (zix x3)) = x1 then
        gd (zib x3 10) <|
        nm (x2 + (s4 53 (zix x3))) fun x7 =>
        nm (x3 + 1) fun x8 =>
        f_X7_owedTo_4 n x1 x7 x8 s4
      else
        nm (x2 + 0) fun x5 =>
        nm (x3 + 1) fun x6 =>
        f_X7_owedTo_4 n x1 x5 x6 s4
def f_X7_owedTo  (p1 : Int32) (s0 : zMem) : Option (Int32 × zMem) :=
  f_X7_owedTo_4 zN p1 0 0 s0
def f_X7_lentBy_4   : Nat → Int32 → Int32 → Int32 → zMem → Option (Int32 × zMem)
  | 0, _, _, _, _ => none
  | n + 1, x1, x2, x3, s4 =>
    if (s4 47 8) ≤ x3 then
      some (x2, s4)
    else
      gd (zib x3 10) <|
      if (s4 51 (zix x3)) = x1 then
        nm (x2 + 1) fun x7 =>
        nm (x3 + 1) fun x8 =>
        f_X7_lentBy_4 n x1 x7 x8 s4
      else
        nm (x2 + 0) fun x5 =>
        nm (x3 + 1) fun x6 =>
        f_X7_lentBy_4 n x1 x5 x6 s4
def f_X7_lentBy  (p1 : Int32) (s0 : zMem) : Option (Int32 × zMem) :=
  f_X7_lentBy_4 zN p1 0 0 s0
def f_X7_heatAll_4   : Nat → Int32 → Int32 → zMem → Option (Int32 × zMem)
  | 0, _, _, _ => none
  | n + 1, x1, x2, s3 =>
    if (s3 47 0) ≤ x2 then
      some (x1, s3)
    else
      gd (zib (3 * x2) 18) <|
      nm (x1 + (s3 50 (zix (3 * x2)))) fun x4 =>
      nm (x2 + 1) fun x5 =>
      f_X7_heatAll_4 n x4 x5 s3
def f_X7_heatAll   (s0 : zMem) : Option (Int32 × zMem) :=
  f_X7_heatAll_4 zN 0 0 s0
def f_X7_count  (p1 : Int32) (s0 : zMem) : Option (Int32 × zMem) :=
  if p1 = 0 then
    some (s0 47 0, s0)
  else if p1 = 1 then
    some (s0 47 8, s0)
  else if p1 = 2 then
    some (s0 47 9, s0)
  else if p1 = 3 then
    bd (f_X7_heatAll s0) fun r1 s2 =>
    some (r1, s2)
  else if p1 = 4 then
    some (s0 47 14, s0)
  else if p1 = 5 then
    some (s0 47 15, s0)
  else if p1 = 6 then
    some (s0 47 11, s0)
  else
    some ((-2), s0)
def f_X7_isByte  (p1 : Int32) (s0 : zMem) : Option (Int32 × zMem) :=
  bd (f_X7_in p1 0 255 s0) fun r1 s2 =>
  gd (z01 r1) <|
  some (r1, s2)
def f_X7_feed_68   : Nat → Int32 → Int32 → Int32 → Int32 → Int32 → Int32 → Int32 → zMem → Option (Int32 × zMem)
  | 0, _, _, _, _, _, _, _, _ => none
  | n + 1, x13, x14, x15, x16, x17, x18, x19, s20 =>
    if x13 ≤ x19 then
      some (s20 47 11, s20)
    else
      if x19 = 0 then
        gd (zib (s20 47 11) 160) <|
        nm (zUp s20 55 (zix (s20 47 11)) x14) fun s33 =>
        nm (zUp s33 47 11 ((s33 47 11) + 1)) fun s34 =>
        nm (x19 + 1) fun x35 =>
        f_X7_feed_68 n x13 x14 x15 x16 x17 x18 x35 s34
      else
        if x19 = 1 then
          gd (zib (s20 47 11) 160) <|
          nm (zUp s20 55 (zix (s20 47 11)) x15) fun s30 =>
          nm (zUp s30 47 11 ((s30 47 11) + 1)) fun s31 =>
          nm (x19 + 1) fun x32 =>
          f_X7_feed_68 n x13 x14 x15 x16 x17 x18 x32 s31
        else
          if x19 = 2 then
            gd (zib (s20 47 11) 160) <|
            nm (zUp s20 55 (zix (s20 47 11)) x16) fun s27 =>
            nm (zUp s27 47 11 ((s27 47 11) + 1)) fun s28 =>
            nm (x19 + 1) fun x29 =>
            f_X7_feed_68 n x13 x14 x15 x16 x17 x18 x29 s28
          else
            if x19 = 3 then
              gd (zib (s20 47 11) 160) <|
              nm (zUp s20 55 (zix (s20 47 11)) x17) fun s24 =>
              nm (zUp s24 47 11 ((s24 47 11) + 1)) fun s25 =>
              nm (x19 + 1) fun x26 =>
              f_X7_feed_68 n x13 x14 x15 x16 x17 x18 x26 s25
            else
              gd (zib (s20 47 11) 160) <|
              nm (zUp s20 55 (zix (s20 47 11)) x18) fun s21 =>
              nm (zUp s21 47 11 ((s21 47 11) + 1)) fun s22 =>
              nm (x19 + 1) fun x23 =>
              f_X7_feed_68 n x13 x14 x15 x16 x17 x18 x23 s22
def f_X7_feed  (p1 : Int32) (p2 : Int32) (p3 : Int32) (p4 : Int32) (p5 : Int32) (p6 : Int32) (s0 : zMem) : Option (Int32 × zMem) :=
  bd (f_X7_in p1 1 5 s0) fun r1 s2 =>
  if r1 = 0 then
    some ((-2), s2)
  else
    bd (f_X7_isByte p2 s2) fun r3 s4 =>
    if r3 = 0 then
      some ((-2), s4)
    else
      bd (f_X7_isByte p3 s4) fun r5 s6 =>
      if r5 = 0 then
        some ((-2), s6)
      else
        bd (f_X7_isByte p4 s6) fun r7 s8 =>
        if r7 = 0 then
          some ((-2), s8)
        else
          bd (f_X7_isByte p5 s8) fun r9 s10 =>
          if r9 = 0 then
            some ((-2), s10)
          else
            bd (f_X7_isByte p6 s10) fun r11 s12 =>
            if r11 = 0 then
              some ((-2), s12)
            else
              if ((s12 47 11) + p1) ≤ 160 then
                f_X7_feed_68 zN p1 p2 p3 p4 p5 p6 0 s12
              else
                some ((-4), s12)
def f_X7_wordFrom_26  (c88 : Int32 → Int32 → Int32 → Int32 → zMem → Option (Int32 × zMem)) : Nat → Int32 → Int32 → Int32 → Int32 → Int32 → zMem → Option (Int32 × zMem)
  | 0, _, _, _, _, _, _ => none
  | n + 1, x10, x11, x12, x13, x14, s15 =>
    if 8 ≤ x14 then
      c88 x10 x11 x12 x13 s15
    else
      if x13 = 0 then
        c88 x10 x11 x12 x13 s15
      else
        gd (zib ((8 * x12) + x14) 96) <|
        if x11 ≤ (x10 + x14) then
          if (s15 64 (zix ((8 * x12) + x14))) = 32 then
            nm (x14 + 1) fun x17 =>
            f_X7_wordFrom_26 c88 n x10 x11 x12 1 x17 s15
          else
            nm (x14 + 1) fun x16 =>
            f_X7_wordFrom_26 c88 n x10 x11 x12 0 x16 s15
        else
          gd (zib (x10 + x14) 160) <|
          if (s15 64 (zix ((8 * x12) + x14))) = (s15 55 (zix (x10 + x14))) then
            nm (x14 + 1) fun x19 =>
            f_X7_wordFrom_26 c88 n x10 x11 x12 1 x19 s15
          else
            nm (x14 + 1) fun x18 =>
            f_X7_wordFrom_26 c88 n x10 x11 x12 0 x18 s15
def f_X7_wordFrom_21  (c2 : Int32 → Int32 → Int32 → zMem → Option (Int32 × zMem)) (x5 : Int32) (x6 : Int32) (x7 : Int32) (t8 : Int32) (s9 : zMem) : Option (Int32 × zMem) :=
  f_X7_wordFrom_26 (fun x20 x21 x22 x23 s24 =>
    if x23 = 0 then
      nm (x22 + 1) fun x25 =>
      c2 x20 x21 x25 s24
    else
      some (x22, s24)) zN x5 x6 x7 t8 0 s9
def f_X7_wordFrom_2   : Nat → Int32 → Int32 → Int32 → zMem → Option (Int32 × zMem)
  | 0, _, _, _, _ => none
  | n + 1, x1, x2, x3, s4 =>
    if 12 ≤ x3 then
      some (12, s4)
    else
      if 8 < (x2 - x1) then
        f_X7_wordFrom_21 (fun x26 x27 x28 s29 =>
          f_X7_wordFrom_2 n x26 x27 x28 s29) x1 x2 x3 0 s4
      else
        f_X7_wordFrom_21 (fun x30 x31 x32 s33 =>
          f_X7_wordFrom_2 n x30 x31 x32 s33) x1 x2 x3 1 s4
def f_X7_wordFrom  (p1 : Int32) (p2 : Int32) (s0 : zMem) : Option (Int32 × zMem) :=
  f_X7_wordFrom_2 zN p1 p2 0 s0
def f_X7_next_0  (c52 : zMem → Option (Unit × zMem)) : Nat → zMem → Option (Unit × zMem)
  | 0, _ => none
  | n + 1, s1 =>
    if (s1 47 11) ≤ (s1 47 23) then
      c52 s1
    else
      gd (zib (s1 47 23) 160) <|
      if (s1 55 (zix (s1 47 23))) = 32 then
        nm (zUp s1 47 23 ((s1 47 23) + 1)) fun s2 =>
        f_X7_next_0 c52 n s2
      else
        gd (zib (s1 47 23) 160) <|
        if (s1 55 (zix (s1 47 23))) = 10 then
          nm (zUp s1 47 23 ((s1 47 23) + 1)) fun s3 =>
          f_X7_next_0 c52 n s3
        else
          c52 s1
def f_X7_next_379   (x16 : Int32) (t17 : Int32) (s18 : zMem) : Option (Unit × zMem) :=
  if t17 = 0 then
    nm (zUp s18 47 25 (-1)) fun s19 =>
    nm (zUp s19 47 23 ((s19 47 23) + 1)) fun s20 =>
    some ((), s20)
  else
    nm (zUp s18 47 25 x16) fun s21 =>
    nm (zUp s21 47 23 ((s21 47 23) + 1)) fun s22 =>
    some ((), s22)
def f_X7_next_374   (x14 : Int32) (s15 : zMem) : Option (Unit × zMem) :=
  f_X7_next_379 x14 1 s15
def f_X7_next_230  (c309 : Int32 → zMem → Option (Unit × zMem)) : Nat → Int32 → zMem → Option (Unit × zMem)
  | 0, _, _ => none
  | n + 1, x23, s24 =>
    if (s24 47 11) ≤ (s24 47 23) then
      c309 x23 s24
    else
      gd (zib (s24 47 23) 160) <|
      bd (f_X7_in (s24 55 (zix (s24 47 23))) 48 57 s24) fun r25 s26 =>
      if r25 = 0 then
        c309 x23 s26
      else
        if 4 ≤ x23 then
          nm (zUp s26 47 26 0) fun s27 =>
          nm (x23 + 1) fun x28 =>
          nm (zUp s27 47 23 ((s27 47 23) + 1)) fun s29 =>
          f_X7_next_230 c309 n x28 s29
        else
          gd (zib (s26 47 23) 160) <|
          nm (zUp s26 47 26 (((10 * (s26 47 26)) + (s26 55 (zix (s26 47 23)))) - 48)) fun s30 =>
          nm (x23 + 1) fun x31 =>
          nm (zUp s30 47 23 ((s30 47 23) + 1)) fun s32 =>
          f_X7_next_230 c309 n x31 s32
def f_X7_next_103  (c146 : zMem → Option (Unit × zMem)) : Nat → zMem → Option (Unit × zMem)
  | 0, _ => none
  | n + 1, s37 =>
    if (s37 47 11) ≤ (s37 47 23) then
      c146 s37
    else
      gd (zib (s37 47 23) 160) <|
      bd (f_X7_in (s37 55 (zix (s37 47 23))) 97 122 s37) fun r38 s39 =>
      if r38 = 0 then
        c146 s39
      else
        nm (zUp s39 47 23 ((s39 47 23) + 1)) fun s40 =>
        f_X7_next_103 c146 n s40
def f_X7_next_146   (s42 : zMem) : Option (Unit × zMem) :=
  bd (f_X7_wordFrom (s42 47 24) (s42 47 23) s42) fun r43 s44 =>
  if 3 ≤ r43 then
    if 9 ≤ r43 then
      if r43 = 12 then
        nm (zUp s44 47 25 (-1)) fun s48 =>
        if 3 ≤ r43 then
          nm (zUp s48 47 26 (r43 - 3)) fun s49 =>
          some ((), s49)
        else
          nm (zUp s48 47 26 r43) fun s50 =>
          some ((), s50)
      else
        nm (zUp s44 47 25 ((4 + r43) - 9)) fun s45 =>
        if 3 ≤ r43 then
          nm (zUp s45 47 26 (r43 - 3)) fun s46 =>
          some ((), s46)
        else
          nm (zUp s45 47 26 r43) fun s47 =>
          some ((), s47)
    else
      nm (zUp s44 47 25 2) fun s51 =>
      if 3 ≤ r43 then
        nm (zUp s51 47 26 (r43 - 3)) fun s52 =>
        some ((), s52)
      else
        nm (zUp s51 47 26 r43) fun s53 =>
        some ((), s53)
  else
    nm (zUp s44 47 25 3) fun s54 =>
    if 3 ≤ r43 then
      nm (zUp s54 47 26 (r43 - 3)) fun s55 =>
      some ((), s55)
    else
      nm (zUp s54 47 26 r43) fun s56 =>
      some ((), s56)
def f_X7_next_52   (s5 : zMem) : Option (Unit × zMem) :=
  nm (zUp s5 47 24 (s5 47 23)) fun s6 =>
  nm (zUp s6 47 25 0) fun s7 =>
  nm (zUp s7 47 26 0) fun s8 =>
  if (s8 47 23) = (s8 47 11) then
    some ((), s8)
  else
    gd (zib (s8 47 23) 160) <|
    nm (s8 55 (zix (s8 47 23))) fun x9 =>
    bd (f_X7_in x9 97 122 s8) fun r10 s11 =>
    if r10 = 0 then
      bd (f_X7_in x9 48 57 s11) fun r12 s13 =>
      if r12 = 0 then
        if x9 = 40 then
          f_X7_next_374 x9 s13
        else
          if x9 = 41 then
            f_X7_next_374 x9 s13
          else
            if x9 = 59 then
              f_X7_next_374 x9 s13
            else
              if x9 = 43 then
                f_X7_next_374 x9 s13
              else
                if x9 = 45 then
                  f_X7_next_374 x9 s13
                else
                  if x9 = 42 then
                    f_X7_next_374 x9 s13
                  else
                    if x9 = 60 then
                      f_X7_next_374 x9 s13
                    else
                      if x9 = 61 then
                        f_X7_next_374 x9 s13
                      else
                        f_X7_next_379 x9 0 s13
      else
        f_X7_next_230 (fun x33 s34 =>
          if x33 ≤ 4 then
            nm (zUp s34 47 25 1) fun s35 =>
            some ((), s35)
          else
            nm (zUp s34 47 25 (-1)) fun s36 =>
            some ((), s36)) zN 0 s13
    else
      f_X7_next_103 (fun s41 =>
        f_X7_next_146 s41) zN s11
def f_X7_next   (s0 : zMem) : Option (Unit × zMem) :=
  f_X7_next_0 (fun s4 =>
    f_X7_next_52 s4) zN s0
def f_X7_rank  (p1 : Int32) (s0 : zMem) : Option (Int32 × zMem) :=
  if p1 = 0 then
    some (0, s0)
  else
    if p1 = 11 then
      some (1, s0)
    else
      if p1 = 12 then
        some (2, s0)
      else
        if p1 = 13 then
          some (3, s0)
        else
          if 15 < p1 then
            if 17 < p1 then
              if p1 = 18 then
                some (6, s0)
              else
                some (7, s0)
            else
              some (5, s0)
          else
            some (4, s0)
def f_X7_puts  (p1 : Int32) (s0 : zMem) : Option (Unit × zMem) :=
  gd (zib ((200 * (s0 47 14)) + (s0 47 31)) 1200) <|
  nm (zUp s0 56 (zix ((200 * (s0 47 14)) + (s0 47 31))) p1) fun s1 =>
  nm (zUp s1 47 31 ((s1 47 31) + 1)) fun s2 =>
  some ((), s2)
def f_X7_unwinds_0   : Nat → Int32 → zMem → Option (Unit × zMem)
  | 0, _, _ => none
  | n + 1, x1, s2 =>
    if (s2 47 29) ≤ 0 then
      some ((), s2)
    else
      gd (zib ((s2 47 29) - 1) 200) <|
      bd (f_X7_rank (s2 65 (zix ((s2 47 29) - 1))) s2) fun r3 s4 =>
      if r3 < x1 then
        some ((), s4)
      else
        nm (zUp s4 47 29 ((s4 47 29) - 1)) fun s5 =>
        gd (zib (s5 47 29) 200) <|
        nm (s5 65 (zix (s5 47 29))) fun x6 =>
        if x6 = 13 then
          nm (zUp s5 47 30 ((s5 47 30) - 1)) fun s7 =>
          bd (f_X7_puts x6 s7) fun _ s9 =>
          f_X7_unwinds_0 n x1 s9
        else
          if x6 = 19 then
            nm (zUp s5 47 30 ((s5 47 30) - 1)) fun s13 =>
            bd (f_X7_puts x6 s13) fun _ s15 =>
            f_X7_unwinds_0 n x1 s15
          else
            nm (zUp s5 47 30 ((s5 47 30) - 0)) fun s10 =>
            bd (f_X7_puts x6 s10) fun _ s12 =>
            f_X7_unwinds_0 n x1 s12
def f_X7_unwinds  (p1 : Int32) (s0 : zMem) : Option (Unit × zMem) :=
  f_X7_unwinds_0 zN p1 s0
def f_X7_holds  (p1 : Int32) (s0 : zMem) : Option (Unit × zMem) :=
  gd (zib (s0 47 29) 200) <|
  nm (zUp s0 65 (zix (s0 47 29)) p1) fun s1 =>
  nm (zUp s1 47 29 ((s1 47 29) + 1)) fun s2 =>
  some ((), s2)
def f_X7_opensOne  (p1 : Int32) (s0 : zMem) : Option (Int32 × zMem) :=
  if (s0 47 30) = 5 then
    some (0, s0)
  else
    nm (zUp s0 47 30 ((s0 47 30) + 1)) fun s1 =>
    bd (f_X7_holds p1 s1) fun _ s3 =>
    some (1, s3)
def f_X7_between_17   (x5 : Int32) (t6 : Int32) (s7 : zMem) : Option (Int32 × zMem) :=
  bd (f_X7_unwinds t6 s7) fun _ s9 =>
  bd (f_X7_rank x5 s9) fun r10 s11 =>
  if r10 = 4 then
    if (s11 47 29) ≤ 0 then
      bd (f_X7_holds x5 s11) fun _ s15 =>
      some (1, s15)
    else
      gd (zib ((s11 47 29) - 1) 200) <|
      bd (f_X7_rank (s11 65 (zix ((s11 47 29) - 1))) s11) fun r16 s17 =>
      if r16 = 4 then
        some (0, s17)
      else
        bd (f_X7_holds x5 s17) fun _ s19 =>
        some (1, s19)
  else
    bd (f_X7_holds x5 s11) fun _ s13 =>
    some (1, s13)
def f_X7_between  (p1 : Int32) (s0 : zMem) : Option (Int32 × zMem) :=
  bd (f_X7_rank p1 s0) fun r1 s2 =>
  if r1 = 4 then
    f_X7_between_17 p1 5 s2
  else
    bd (f_X7_rank p1 s2) fun r3 s4 =>
    f_X7_between_17 p1 r3 s4
def f_X7_signOf   (s0 : zMem) : Option (Int32 × zMem) :=
  if (s0 47 25) = 4 then
    some (11, s0)
  else
    if (s0 47 25) = 5 then
      some (12, s0)
    else
      if (s0 47 25) = 60 then
        some (14, s0)
      else
        if (s0 47 25) = 61 then
          some (15, s0)
        else
          if (s0 47 25) = 43 then
            some (16, s0)
          else
            if (s0 47 25) = 45 then
              some (17, s0)
            else
              if (s0 47 25) = 42 then
                some (18, s0)
              else
                some ((-1), s0)
def f_X7_eRead_38  (c14 : Int32 → Int32 → zMem → Option (Int32 × zMem)) (x18 : Int32) (s19 : zMem) : Option (Int32 × zMem) :=
  if (s19 47 25) = 1 then
    bd (f_X7_puts (100000 + (s19 47 26)) s19) fun _ s25 =>
    bd (f_X7_unwinds 7 s25) fun _ s27 =>
    c14 0 x18 s27
  else
    bd (f_X7_puts (s19 47 26) s19) fun _ s21 =>
    bd (f_X7_unwinds 7 s21) fun _ s23 =>
    c14 0 x18 s23
def f_X7_eRead_99  (c14 : Int32 → Int32 → zMem → Option (Int32 × zMem)) (x31 : Int32) (s32 : zMem) : Option (Int32 × zMem) :=
  if (s32 47 25) = 45 then
    bd (f_X7_opensOne 19 s32) fun r35 s36 =>
    if r35 = 0 then
      some (0, s36)
    else
      c14 x31 0 s36
  else
    if (s32 47 25) = 40 then
      bd (f_X7_opensOne 0 s32) fun r33 s34 =>
      if r33 = 0 then
        some (0, s34)
      else
        c14 x31 1 s34
    else
      some (0, s32)
def f_X7_eRead_14  (c159 : zMem → Option (Int32 × zMem)) : Nat → Int32 → Int32 → zMem → Option (Int32 × zMem)
  | 0, _, _, _ => none
  | n + 1, x3, x4, s5 =>
    bd (f_X7_next s5) fun _ s7 =>
    if x3 = 0 then
      if (s7 47 25) = 59 then
        c159 s7
      else
        if (s7 47 25) = 41 then
          bd (f_X7_unwinds 1 s7) fun _ s13 =>
          if (s13 47 29) = 0 then
            some (0, s13)
          else
            nm (zUp s13 47 29 ((s13 47 29) - 1)) fun s14 =>
            nm (zUp s14 47 30 ((s14 47 30) - 1)) fun s15 =>
            bd (f_X7_unwinds 7 s15) fun _ s17 =>
            f_X7_eRead_14 c159 n x3 x4 s17
        else
          bd (f_X7_signOf s7) fun r8 s9 =>
          if r8 = (-1) then
            some (0, s9)
          else
            bd (f_X7_between r8 s9) fun r10 s11 =>
            if r10 = 0 then
              some (0, s11)
            else
              if 12 < r8 then
                f_X7_eRead_14 c159 n 1 0 s11
              else
                f_X7_eRead_14 c159 n 1 1 s11
    else
      if (s7 47 25) = 1 then
        f_X7_eRead_38 (fun x28 x29 s30 =>
          f_X7_eRead_14 c159 n x28 x29 s30) x4 s7
      else
        if (s7 47 25) = 2 then
          f_X7_eRead_38 (fun x45 x46 s47 =>
            f_X7_eRead_14 c159 n x45 x46 s47) x4 s7
        else
          if (s7 47 25) = 6 then
            if x4 = 0 then
              f_X7_eRead_99 (fun x40 x41 s42 =>
                f_X7_eRead_14 c159 n x40 x41 s42) x3 s7
            else
              bd (f_X7_opensOne 13 s7) fun r43 s44 =>
              if r43 = 0 then
                some (0, s44)
              else
                f_X7_eRead_14 c159 n x3 x4 s44
          else
            f_X7_eRead_99 (fun x37 x38 s39 =>
              f_X7_eRead_14 c159 n x37 x38 s39) x3 s7
def f_X7_eRead   (s0 : zMem) : Option (Int32 × zMem) :=
  nm (zUp s0 47 29 0) fun s1 =>
  nm (zUp s1 47 30 0) fun s2 =>
  f_X7_eRead_14 (fun s48 =>
    bd (f_X7_unwinds 1 s48) fun _ s50 =>
    if (s50 47 29) = 0 then
      some (1, s50)
    else
      some (0, s50)) zN 1 1 s2
def f_X7_text_60  (c26 : Int32 → Int32 → zMem → Option (Int32 × zMem)) (x10 : Int32) (t11 : Int32) (s12 : zMem) : Option (Int32 × zMem) :=
  gd (zib ((4 * (s12 47 14)) + x10) 24) <|
  nm (zUp s12 57 (zix ((4 * (s12 47 14)) + x10)) (s12 47 31)) fun s13 =>
  if t11 = 0 then
    nm (x10 + 1) fun x14 =>
    c26 0 x14 s13
  else
    bd (f_X7_eRead s13) fun r15 s16 =>
    if r15 = 0 then
      nm (x10 + 1) fun x17 =>
      c26 0 x17 s16
    else
      nm (x10 + 1) fun x18 =>
      c26 1 x18 s16
def f_X7_text_59  (c26 : Int32 → Int32 → zMem → Option (Int32 × zMem)) (x8 : Int32) (s9 : zMem) : Option (Int32 × zMem) :=
  f_X7_text_60 (fun x19 x20 s21 =>
    c26 x19 x20 s21) x8 0 s9
def f_X7_text_26  (c101 : Int32 → zMem → Option (Int32 × zMem)) : Nat → Int32 → Int32 → zMem → Option (Int32 × zMem)
  | 0, _, _, _ => none
  | n + 1, x3, x4, s5 =>
    if 3 ≤ x4 then
      c101 x3 s5
    else
      if x3 = 0 then
        c101 x3 s5
      else
        bd (f_X7_next s5) fun _ s7 =>
        if (s7 47 25) = 3 then
          if (s7 47 26) = x4 then
            f_X7_text_60 (fun x28 x29 s30 =>
              f_X7_text_26 c101 n x28 x29 s30) x4 1 s7
          else
            f_X7_text_59 (fun x25 x26 s27 =>
              f_X7_text_26 c101 n x25 x26 s27) x4 s7
        else
          f_X7_text_59 (fun x22 x23 s24 =>
            f_X7_text_26 c101 n x22 x23 s24) x4 s7
def f_X7_text_122   (x35 : Int32) (s36 : zMem) : Option (Int32 × zMem) :=
  gd (zib ((4 * (s36 47 14)) + 3) 24) <|
  nm (zUp s36 57 (zix ((4 * (s36 47 14)) + 3)) (s36 47 31)) fun s37 =>
  nm (zUp s37 47 11 0) fun s38 =>
  if x35 = 0 then
    some ((-100) - (s38 47 24), s38)
  else
    nm (zUp s38 47 14 ((s38 47 14) + 1)) fun s39 =>
    some ((s39 47 14) - 1, s39)
def f_X7_text_121   (t42 : Int32) (s43 : zMem) : Option (Int32 × zMem) :=
  f_X7_text_122 t42 s43
def f_X7_text_101   (x33 : Int32) (s34 : zMem) : Option (Int32 × zMem) :=
  if x33 = 0 then
    f_X7_text_122 x33 s34
  else
    bd (f_X7_next s34) fun _ s41 =>
    if (s41 47 25) = 0 then
      f_X7_text_121 1 s41
    else
      f_X7_text_121 0 s41
def f_X7_text   (s0 : zMem) : Option (Int32 × zMem) :=
  if (s0 47 14) = 6 then
    some ((-4), s0)
  else
    nm (zUp s0 47 23 0) fun s1 =>
    nm (zUp s1 47 31 0) fun s2 =>
    f_X7_text_26 (fun x31 s32 =>
      f_X7_text_101 x31 s32) zN 1 0 s2
def f_X7_two  (p1 : Int32) (p2 : Int32) (p3 : Int32) (s0 : zMem) : Option (Int32 × zMem) :=
  if p1 = 11 then
    if p2 = 0 then
      if p3 = 0 then
        some (0, s0)
      else
        some (1, s0)
    else
      some (1, s0)
  else if p1 = 12 then
    if p2 = 0 then
      some (0, s0)
    else
      if p3 = 0 then
        some (0, s0)
      else
        some (1, s0)
  else if p1 = 13 then
    some (p2 * p3, s0)
  else if p1 = 14 then
    if p3 ≤ p2 then
      some (0, s0)
    else
      some (1, s0)
  else if p1 = 15 then
    if p2 = p3 then
      some (1, s0)
    else
      some (0, s0)
  else if p1 = 16 then
    some (p2 + p3, s0)
  else if p1 = 17 then
    some (p2 - p3, s0)
  else
    some (p2 * p3, s0)
def f_X7_says_66  (c16 : Int32 → Int32 → Int32 → zMem → Option (Int32 × zMem)) (x7 : Int32) (x8 : Int32) (x9 : Int32) (x10 : Int32) (s11 : zMem) : Option (Int32 × zMem) :=
  if 11 ≤ x10 then
    gd (zib x8 200) <|
    nm (zUp s11 66 (zix x8) (x10 - 100000)) fun s12 =>
    nm (x8 + 1) fun x13 =>
    nm (x9 + 1) fun x14 =>
    c16 x7 x13 x14 s12
  else
    gd (zib x10 6) <|
    gd (zib x8 200) <|
    nm (zUp s11 66 (zix x8) (s11 67 (zix x10))) fun s15 =>
    nm (x8 + 1) fun x16 =>
    nm (x9 + 1) fun x17 =>
    c16 x7 x16 x17 s15
def f_X7_says_16   : Nat → Int32 → Int32 → Int32 → zMem → Option (Int32 × zMem)
  | 0, _, _, _, _ => none
  | n + 1, x2, x3, x4, s5 =>
    gd (zib (((4 * (s5 47 15)) + x2) + 1) 24) <|
    if (s5 57 (zix (((4 * (s5 47 15)) + x2) + 1))) ≤ x4 then
      gd (zib 0 200) <|
      some (s5 66 (zix 0), s5)
    else
      gd (zib ((200 * (s5 47 15)) + x4) 1200) <|
      nm (s5 56 (zix ((200 * (s5 47 15)) + x4))) fun x6 =>
      if 100000 ≤ x6 then
        f_X7_says_66 (fun x18 x19 x20 s21 =>
          f_X7_says_16 n x18 x19 x20 s21) x2 x3 x4 x6 s5
      else
        if 11 ≤ x6 then
          if x6 = 13 then
            gd (zib (x3 - 1) 200) <|
            if (s5 66 (zix (x3 - 1))) = 0 then
              gd (zib (x3 - 1) 200) <|
              nm (zUp s5 66 (zix (x3 - 1)) 1) fun s31 =>
              nm (x4 + 1) fun x32 =>
              f_X7_says_16 n x2 x3 x32 s31
            else
              gd (zib (x3 - 1) 200) <|
              nm (zUp s5 66 (zix (x3 - 1)) 0) fun s29 =>
              nm (x4 + 1) fun x30 =>
              f_X7_says_16 n x2 x3 x30 s29
          else
            if x6 = 19 then
              gd (zib (x3 - 1) 200) <|
              gd (zib (x3 - 1) 200) <|
              nm (zUp s5 66 (zix (x3 - 1)) (-(s5 66 (zix (x3 - 1))))) fun s27 =>
              nm (x4 + 1) fun x28 =>
              f_X7_says_16 n x2 x3 x28 s27
            else
              nm (x3 + (-1)) fun x22 =>
              gd (zib (x22 - 1) 200) <|
              gd (zib x22 200) <|
              bd (f_X7_two x6 (s5 66 (zix (x22 - 1))) (s5 66 (zix x22)) s5) fun r23 s24 =>
              gd (zib (x22 - 1) 200) <|
              nm (zUp s24 66 (zix (x22 - 1)) r23) fun s25 =>
              nm (x4 + 1) fun x26 =>
              f_X7_says_16 n x2 x22 x26 s25
        else
          f_X7_says_66 (fun x33 x34 x35 s36 =>
            f_X7_says_16 n x33 x34 x35 s36) x2 x3 x4 x6 s5
def f_X7_says  (p1 : Int32) (s0 : zMem) : Option (Int32 × zMem) :=
  gd (zib ((4 * (s0 47 15)) + p1) 24) <|
  nm (s0 57 (zix ((4 * (s0 47 15)) + p1))) fun x1 =>
  f_X7_says_16 zN p1 0 x1 s0
def f_X7_force  (p1 : Int32) (s0 : zMem) : Option (Int32 × zMem) :=
  bd (f_X7_in p1 0 ((s0 47 14) - 1) s0) fun r1 s2 =>
  if r1 = 0 then
    some ((-2), s2)
  else
    nm (s2 47 15) fun x3 =>
    nm (zUp s2 47 15 p1) fun s4 =>
    some (x3, s4)
def f_X7_asksOf  (p1 : Int32) (p2 : Int32) (p3 : Int32) (s0 : zMem) : Option (Int32 × zMem) :=
  gd (zib (3 * p2) 18) <|
  gd (zib 0 6) <|
  nm (zUp s0 67 (zix 0) (s0 50 (zix (3 * p2)))) fun s1 =>
  gd (zib ((3 * p2) + 1) 18) <|
  gd (zib 1 6) <|
  nm (zUp s1 67 (zix 1) (s1 50 (zix ((3 * p2) + 1)))) fun s2 =>
  gd (zib 2 6) <|
  nm (zUp s2 67 (zix 2) (s2 47 9)) fun s3 =>
  gd (zib 3 6) <|
  nm (zUp s3 67 (zix 3) p3) fun s4 =>
  bd (f_X7_owedBy p2 s4) fun r5 s6 =>
  gd (zib 4 6) <|
  nm (zUp s6 67 (zix 4) r5) fun s7 =>
  gd (zib p2 6) <|
  gd (zib 5 6) <|
  nm (zUp s7 67 (zix 5) (s7 49 (zix p2))) fun s8 =>
  bd (f_X7_says p1 s8) fun r9 s10 =>
  bd (f_X7_within r9 0 99 s10) fun r11 s12 =>
  some (r11, s12)
def f_X7_asks  (p1 : Int32) (p2 : Int32) (p3 : Int32) (s0 : zMem) : Option (Int32 × zMem) :=
  bd (f_X7_in p1 0 2 s0) fun r1 s2 =>
  if r1 = 0 then
    some ((-2), s2)
  else
    bd (f_X7_isHut p2 s2) fun r3 s4 =>
    if r3 = 0 then
      some ((-2), s4)
    else
      bd (f_X7_in p3 0 9999 s4) fun r5 s6 =>
      if r5 = 0 then
        some ((-2), s6)
      else
        bd (f_X7_asksOf p1 p2 p3 s6) fun r7 s8 =>
        some (r7, s8)
def f_X7_hut  (p1 : Int32) (p2 : Int32) (s0 : zMem) : Option (Int32 × zMem) :=
  bd (f_X7_in p1 0 59 s0) fun r1 s2 =>
  if r1 = 0 then
    some ((-2), s2)
  else
    bd (f_X7_in p2 0 999999 s2) fun r3 s4 =>
    if r3 = 0 then
      some ((-2), s4)
    else
      if (s4 47 0) = 6 then
        some ((-4), s4)
      else
        gd (zib (s4 47 0) 6) <|
        nm (zUp s4 48 (zix (s4 47 0)) (p1 / 10)) fun s5 =>
        gd (zib (s5 47 0) 6) <|
        nm (zUp s5 49 (zix (s5 47 0)) (zrem p1 10)) fun s6 =>
        gd (zib (3 * (s6 47 0)) 18) <|
        nm (zUp s6 50 (zix (3 * (s6 47 0))) (p2 / 100)) fun s7 =>
        gd (zib ((3 * (s7 47 0)) + 1) 18) <|
        nm (zUp s7 50 (zix ((3 * (s7 47 0)) + 1)) (zrem p2 100)) fun s8 =>
        gd (zib ((3 * (s8 47 0)) + 2) 18) <|
        nm (zUp s8 50 (zix ((3 * (s8 47 0)) + 2)) 0) fun s9 =>
        nm (zUp s9 47 0 ((s9 47 0) + 1)) fun s10 =>
        some ((s10 47 0) - 1, s10)
def f_X7_put_34   (x5 : Int32) (x6 : Int32) (x7 : Int32) (t8 : Int32) (t9 : Int32) (t10 : Int32) (s11 : zMem) : Option (Int32 × zMem) :=
  bd (f_X7_in t10 t9 t8 s11) fun r12 s13 =>
  if r12 = 0 then
    some ((-7), s13)
  else
    gd (zib ((3 * x5) + x6) 18) <|
    nm (s13 50 (zix ((3 * x5) + x6))) fun x14 =>
    gd (zib ((3 * x5) + x6) 18) <|
    nm (zUp s13 50 (zix ((3 * x5) + x6)) x7) fun s15 =>
    some (x14, s15)
def f_X7_put  (p1 : Int32) (p2 : Int32) (p3 : Int32) (s0 : zMem) : Option (Int32 × zMem) :=
  bd (f_X7_isHut p1 s0) fun r1 s2 =>
  if r1 = 0 then
    some ((-5), s2)
  else
    bd (f_X7_in p2 0 2 s2) fun r3 s4 =>
    if r3 = 0 then
      some ((-7), s4)
    else
      if p2 = 0 then
        f_X7_put_34 p1 p2 p3 9999 0 p3 s4
      else
        f_X7_put_34 p1 p2 p3 99 0 p3 s4
def f_X7_told  (p1 : Int32) (p2 : Int32) (s0 : zMem) : Option (Int32 × zMem) :=
  bd (f_X7_isHut p1 s0) fun r1 s2 =>
  if r1 = 0 then
    some ((-5), s2)
  else
    if p2 = 0 then
      gd (zib ((3 * p1) + p2) 18) <|
      some (s2 50 (zix ((3 * p1) + p2)), s2)
    else if p2 = 1 then
      gd (zib ((3 * p1) + p2) 18) <|
      some (s2 50 (zix ((3 * p1) + p2)), s2)
    else if p2 = 2 then
      gd (zib ((3 * p1) + p2) 18) <|
      some (s2 50 (zix ((3 * p1) + p2)), s2)
    else if p2 = 3 then
      gd (zib p1 6) <|
      some (s2 48 (zix p1), s2)
    else if p2 = 4 then
      gd (zib p1 6) <|
      some (s2 49 (zix p1), s2)
    else if p2 = 5 then
      bd (f_X7_owedBy p1 s2) fun r3 s4 =>
      some (r3, s4)
    else if p2 = 6 then
      bd (f_X7_owedTo p1 s2) fun r5 s6 =>
      some (r5, s6)
    else if p2 = 7 then
      bd (f_X7_lentBy p1 s2) fun r7 s8 =>
      some (r7, s8)
    else
      some ((-7), s2)
def f_X7_areCoalNights  (p1 : Int32) (s0 : zMem) : Option (Int32 × zMem) :=
  bd (f_X7_in p1 101 999999 s0) fun r1 s2 =>
  if r1 = 0 then
    some (0, s2)
  else
    if (zrem p1 100) ≤ 0 then
      some (0, s2)
    else
      some (1, s2)
def f_X7_mayLend  (p1 : Int32) (p2 : Int32) (s0 : zMem) : Option (Int32 × zMem) :=
  gd (zib ((3 * p1) + 2) 18) <|
  if (s0 50 (zix ((3 * p1) + 2))) = 0 then
    gd (zib (3 * p1) 18) <|
    if (s0 50 (zix (3 * p1))) < p2 then
      some (0, s0)
    else
      some (1, s0)
  else
    some (0, s0)
def f_X7_moves  (p1 : Int32) (p2 : Int32) (p3 : Int32) (s0 : zMem) : Option (Unit × zMem) :=
  gd (zib (3 * p1) 18) <|
  gd (zib (3 * p1) 18) <|
  nm (zUp s0 50 (zix (3 * p1)) ((s0 50 (zix (3 * p1))) - p3)) fun s1 =>
  gd (zib (3 * p2) 18) <|
  bd (f_X7_within ((s1 50 (zix (3 * p2))) + p3) 0 9999 s1) fun r2 s3 =>
  gd (zib (3 * p2) 18) <|
  nm (zUp s3 50 (zix (3 * p2)) r2) fun s4 =>
  some ((), s4)
def f_X7_lends  (p1 : Int32) (p2 : Int32) (p3 : Int32) (s0 : zMem) : Option (Unit × zMem) :=
  gd (zib (s0 47 8) 10) <|
  nm (zUp s0 51 (zix (s0 47 8)) p1) fun s1 =>
  gd (zib (s1 47 8) 10) <|
  nm (zUp s1 52 (zix (s1 47 8)) p2) fun s2 =>
  gd (zib (s2 47 8) 10) <|
  nm (zUp s2 53 (zix (s2 47 8)) (p3 / 100)) fun s3 =>
  gd (zib (s3 47 8) 10) <|
  nm (zUp s3 54 (zix (s3 47 8)) ((s3 47 9) + (zrem p3 100))) fun s4 =>
  bd (f_X7_moves p1 p2 (p3 / 100) s4) fun _ s6 =>
  nm (zUp s6 47 8 ((s6 47 8) + 1)) fun s7 =>
  some ((), s7)
def f_X7_lend  (p1 : Int32) (p2 : Int32) (s0 : zMem) : Option (Int32 × zMem) :=
  nm (p1 / 10) fun x1 =>
  nm (zrem p1 10) fun x2 =>
  bd (f_X7_in p1 0 55 s0) fun r3 s4 =>
  if r3 = 0 then
    some ((-5), s4)
  else
    bd (f_X7_isHut x1 s4) fun r5 s6 =>
    if r5 = 0 then
      some ((-5), s6)
    else
      bd (f_X7_isHut x2 s6) fun r7 s8 =>
      if r7 = 0 then
        some ((-5), s8)
      else
        if x1 = x2 then
          some ((-5), s8)
        else
          bd (f_X7_areCoalNights p2 s8) fun r9 s10 =>
          if r9 = 0 then
            some ((-7), s10)
          else
            if (s10 47 8) = 10 then
              some ((-4), s10)
            else
              bd (f_X7_mayLend x1 (p2 / 100) s10) fun r11 s12 =>
              if r11 = 0 then
                some ((-3), s12)
              else
                bd (f_X7_lends x1 x2 p2 s12) fun _ s14 =>
                some ((s14 47 8) - 1, s14)
def f_X7_loan  (p1 : Int32) (p2 : Int32) (s0 : zMem) : Option (Int32 × zMem) :=
  bd (f_X7_isLoan p1 s0) fun r1 s2 =>
  if r1 = 0 then
    some ((-5), s2)
  else
    if p2 = 0 then
      gd (zib p1 10) <|
      some (s2 51 (zix p1), s2)
    else if p2 = 1 then
      gd (zib p1 10) <|
      some (s2 52 (zix p1), s2)
    else if p2 = 2 then
      gd (zib p1 10) <|
      some (s2 53 (zix p1), s2)
    else if p2 = 3 then
      gd (zib p1 10) <|
      some (s2 54 (zix p1), s2)
    else
      some ((-7), s2)
def f_X7_drops_2  (c74 : zMem → Option (Unit × zMem)) : Nat → Int32 → zMem → Option (Unit × zMem)
  | 0, _, _ => none
  | n + 1, x1, s2 =>
    if (s2 47 8) ≤ (x1 + 1) then
      c74 s2
    else
      gd (zib (x1 + 1) 10) <|
      gd (zib x1 10) <|
      nm (zUp s2 51 (zix x1) (s2 51 (zix (x1 + 1)))) fun s3 =>
      gd (zib (x1 + 1) 10) <|
      gd (zib x1 10) <|
      nm (zUp s3 52 (zix x1) (s3 52 (zix (x1 + 1)))) fun s4 =>
      gd (zib (x1 + 1) 10) <|
      gd (zib x1 10) <|
      nm (zUp s4 53 (zix x1) (s4 53 (zix (x1 + 1)))) fun s5 =>
      gd (zib (x1 + 1) 10) <|
      gd (zib x1 10) <|
      nm (zUp s5 54 (zix x1) (s5 54 (zix (x1 + 1)))) fun s6 =>
      nm (x1 + 1) fun x7 =>
      f_X7_drops_2 c74 n x7 s6
def f_X7_drops  (p1 : Int32) (s0 : zMem) : Option (Unit × zMem) :=
  f_X7_drops_2 (fun s8 =>
    nm (zUp s8 47 8 ((s8 47 8) - 1)) fun s9 =>
    some ((), s9)) zN p1 s0
def f_X7_repay  (p1 : Int32) (s0 : zMem) : Option (Int32 × zMem) :=
  bd (f_X7_isLoan p1 s0) fun r1 s2 =>
  if r1 = 0 then
    some ((-5), s2)
  else
    gd (zib p1 10) <|
    nm (s2 53 (zix p1)) fun x3 =>
    gd (zib p1 10) <|
    gd (zib (3 * (s2 52 (zix p1))) 18) <|
    if x3 ≤ (s2 50 (zix (3 * (s2 52 (zix p1))))) then
      gd (zib p1 10) <|
      gd (zib p1 10) <|
      bd (f_X7_moves (s2 52 (zix p1)) (s2 51 (zix p1)) x3 s2) fun _ s5 =>
      bd (f_X7_drops p1 s5) fun _ s7 =>
      some (x3, s7)
    else
      some ((-3), s2)
def f_X7_forgive  (p1 : Int32) (s0 : zMem) : Option (Int32 × zMem) :=
  bd (f_X7_isLoan p1 s0) fun r1 s2 =>
  if r1 = 0 then
    some ((-5), s2)
  else
    gd (zib p1 10) <|
    nm (s2 53 (zix p1)) fun x3 =>
    bd (f_X7_drops p1 s2) fun _ s5 =>
    some (x3, s5)
def f_X7_growsOf  (p1 : Int32) (p2 : Int32) (s0 : zMem) : Option (Int32 × zMem) :=
  bd (f_X7_asksOf 0 p1 p2 s0) fun r1 s2 =>
  gd (zib p1 6) <|
  nm (s2 48 (zix p1)) fun x3 =>
  if x3 = 1 then
    if p2 ≤ 50 then
      some (r1, s2)
    else
      gd (zib p1 6) <|
      some (r1 + (s2 49 (zix p1)), s2)
  else if x3 = 2 then
    some (r1, s2)
  else if x3 = 3 then
    if p2 ≤ 50 then
      some (r1, s2)
    else
      gd (zib p1 6) <|
      some (r1 + (s2 49 (zix p1)), s2)
  else if x3 = 4 then
    some ((2 * r1) + 1, s2)
  else if x3 = 5 then
    some (0, s2)
  else
    some (r1, s2)
def f_X7_coolsOf  (p1 : Int32) (s0 : zMem) : Option (Int32 × zMem) :=
  bd (f_X7_asksOf 1 p1 0 s0) fun r1 s2 =>
  gd (zib (3 * p1) 18) <|
  nm (s2 50 (zix (3 * p1))) fun x3 =>
  gd (zib p1 6) <|
  nm (s2 48 (zix p1)) fun x4 =>
  if x4 = 1 then
    some (r1 / 2, s2)
  else if x4 = 2 then
    some (r1 + (x3 / 20), s2)
  else if x4 = 3 then
    if x3 ≤ 200 then
      some (r1 / 2, s2)
    else
      some (x3, s2)
  else if x4 = 4 then
    some (r1 + (x3 / 20), s2)
  else
    some (r1, s2)
def f_X7_burnsOf  (p1 : Int32) (s0 : zMem) : Option (Int32 × zMem) :=
  bd (f_X7_asksOf 2 p1 0 s0) fun r1 s2 =>
  gd (zib p1 6) <|
  nm (s2 48 (zix p1)) fun x3 =>
  if x3 = 2 then
    some (2 * r1, s2)
  else if x3 = 3 then
    gd (zib p1 6) <|
    some (r1 + (s2 49 (zix p1)), s2)
  else if x3 = 4 then
    gd (zib p1 6) <|
    if (s2 49 (zix p1)) ≤ (s2 47 9) then
      some (2 * r1, s2)
    else
      some (0, s2)
  else if x3 = 5 then
    if (zrem (s2 47 9) 2) = 1 then
      some (30, s2)
    else
      some (0, s2)
  else
    some (r1, s2)
def f_X7_hearth_97   (x1 : Int32) (s2 : zMem) : Option (Unit × zMem) :=
  gd (zib (3 * x1) 18) <|
  bd (f_X7_coolsOf x1 s2) fun r3 s4 =>
  nm ((s2 50 (zix (3 * x1))) - r3) fun x5 =>
  if 0 ≤ x5 then
    gd (zib (3 * x1) 18) <|
    nm (zUp s4 50 (zix (3 * x1)) x5) fun s6 =>
    some ((), s6)
  else
    gd (zib (3 * x1) 18) <|
    nm (zUp s4 50 (zix (3 * x1)) 0) fun s7 =>
    some ((), s7)
def f_X7_hearth  (p1 : Int32) (s0 : zMem) : Option (Unit × zMem) :=
  gd (zib ((3 * p1) + 2) 18) <|
  if (s0 50 (zix ((3 * p1) + 2))) ≤ 0 then
    gd (zib ((3 * p1) + 1) 18) <|
    if (s0 50 (zix ((3 * p1) + 1))) ≤ 0 then
      f_X7_hearth_97 p1 s0
    else
      bd (f_X7_burnsOf p1 s0) fun r8 s9 =>
      gd (zib (3 * p1) 18) <|
      bd (f_X7_within ((s9 50 (zix (3 * p1))) + r8) 0 9999 s9) fun r10 s11 =>
      gd (zib (3 * p1) 18) <|
      nm (zUp s11 50 (zix (3 * p1)) r10) fun s12 =>
      gd (zib ((3 * p1) + 1) 18) <|
      gd (zib ((3 * p1) + 1) 18) <|
      nm (zUp s12 50 (zix ((3 * p1) + 1)) ((s12 50 (zix ((3 * p1) + 1))) - 1)) fun s13 =>
      f_X7_hearth_97 p1 s13
  else
    gd (zib ((3 * p1) + 2) 18) <|
    gd (zib ((3 * p1) + 2) 18) <|
    nm (zUp s0 50 (zix ((3 * p1) + 2)) ((s0 50 (zix ((3 * p1) + 2))) - 1)) fun s14 =>
    gd (zib (3 * p1) 18) <|
    nm (zUp s14 50 (zix (3 * p1)) 0) fun s15 =>
    some ((), s15)
def f_X7_nightOf_4  (c54 : Int32 → zMem → Option (Int32 × zMem)) : Nat → Int32 → Int32 → zMem → Option (Int32 × zMem)
  | 0, _, _, _ => none
  | n + 1, x1, x2, s3 =>
    if (s3 47 8) ≤ x2 then
      c54 x1 s3
    else
      gd (zib x2 10) <|
      gd (zib x2 10) <|
      gd (zib x2 10) <|
      bd (f_X7_growsOf (s3 52 (zix x2)) (s3 53 (zix x2)) s3) fun r4 s5 =>
      bd (f_X7_within ((s3 53 (zix x2)) + r4) 0 9999 s5) fun r6 s7 =>
      gd (zib x2 10) <|
      nm (zUp s7 53 (zix x2) r6) fun s8 =>
      nm (x2 + 1) fun x9 =>
      f_X7_nightOf_4 c54 n x1 x9 s8
def f_X7_nightOf_56  (c153 : Int32 → zMem → Option (Int32 × zMem)) : Nat → Int32 → Int32 → zMem → Option (Int32 × zMem)
  | 0, _, _, _ => none
  | n + 1, x12, x13, s14 =>
    if (s14 47 8) ≤ x13 then
      c153 x12 s14
    else
      gd (zib x13 10) <|
      if (s14 54 (zix x13)) ≤ (s14 47 9) then
        gd (zib x13 10) <|
        nm (s14 52 (zix x13)) fun x15 =>
        gd (zib (3 * x15) 18) <|
        gd (zib x13 10) <|
        if (s14 50 (zix (3 * x15))) < (s14 53 (zix x13)) then
          gd (zib ((3 * x15) + 2) 18) <|
          nm (zUp s14 50 (zix ((3 * x15) + 2)) 20) fun s16 =>
          nm (x12 ||| (1 <<< (x15 &&& 31))) fun x17 =>
          bd (f_X7_drops x13 s16) fun _ s19 =>
          f_X7_nightOf_56 c153 n x17 x13 s19
        else
          gd (zib x13 10) <|
          gd (zib x13 10) <|
          bd (f_X7_moves x15 (s14 51 (zix x13)) (s14 53 (zix x13)) s14) fun _ s21 =>
          bd (f_X7_drops x13 s21) fun _ s23 =>
          f_X7_nightOf_56 c153 n x12 x13 s23
      else
        nm (x13 + 1) fun x24 =>
        f_X7_nightOf_56 c153 n x12 x24 s14
def f_X7_nightOf_155  (c174 : Int32 → zMem → Option (Int32 × zMem)) : Nat → Int32 → Int32 → zMem → Option (Int32 × zMem)
  | 0, _, _, _ => none
  | n + 1, x27, x28, s29 =>
    if (s29 47 0) ≤ x28 then
      c174 x27 s29
    else
      bd (f_X7_hearth x28 s29) fun _ s31 =>
      nm (x28 + 1) fun x32 =>
      f_X7_nightOf_155 c174 n x27 x32 s31
def f_X7_nightOf   (s0 : zMem) : Option (Int32 × zMem) :=
  f_X7_nightOf_4 (fun x10 s11 =>
    f_X7_nightOf_56 (fun x25 s26 =>
      f_X7_nightOf_155 (fun x33 s34 =>
        nm (zUp s34 47 9 ((s34 47 9) + 1)) fun s35 =>
        some (x33, s35)) zN x25 0 s26) zN x10 0 s11) zN 0 0 s0
def f_X7_night   (s0 : zMem) : Option (Int32 × zMem) :=
  if (s0 47 9) = 999 then
    some ((-3), s0)
  else
    bd (f_X7_nightOf s0) fun r1 s2 =>
    some (r1, s2)
def f_X7_keeps_2  (c26 : zMem → Option (Unit × zMem)) : Nat → Int32 → zMem → Option (Unit × zMem)
  | 0, _, _ => none
  | n + 1, x1, s2 =>
    if 18 ≤ x1 then
      c26 s2
    else
      gd (zib x1 18) <|
      gd (zib x1 60) <|
      nm (zUp s2 68 (zix x1) (s2 50 (zix x1))) fun s3 =>
      nm (x1 + 1) fun x4 =>
      f_X7_keeps_2 c26 n x4 s3
def f_X7_keeps_28  (c100 : zMem → Option (Unit × zMem)) : Nat → Int32 → zMem → Option (Unit × zMem)
  | 0, _, _ => none
  | n + 1, x6, s7 =>
    if 10 ≤ x6 then
      c100 s7
    else
      gd (zib x6 10) <|
      gd (zib (18 + x6) 60) <|
      nm (zUp s7 68 (zix (18 + x6)) (s7 51 (zix x6))) fun s8 =>
      gd (zib x6 10) <|
      gd (zib (28 + x6) 60) <|
      nm (zUp s8 68 (zix (28 + x6)) (s8 52 (zix x6))) fun s9 =>
      gd (zib x6 10) <|
      gd (zib (38 + x6) 60) <|
      nm (zUp s9 68 (zix (38 + x6)) (s9 53 (zix x6))) fun s10 =>
      gd (zib x6 10) <|
      gd (zib (48 + x6) 60) <|
      nm (zUp s10 68 (zix (48 + x6)) (s10 54 (zix x6))) fun s11 =>
      nm (x6 + 1) fun x12 =>
      f_X7_keeps_28 c100 n x12 s11
def f_X7_keeps   (s0 : zMem) : Option (Unit × zMem) :=
  f_X7_keeps_2 (fun s5 =>
    f_X7_keeps_28 (fun s13 =>
      gd (zib 58 60) <|
      nm (zUp s13 68 (zix 58) (s13 47 8)) fun s14 =>
      gd (zib 59 60) <|
      nm (zUp s14 68 (zix 59) (s14 47 9)) fun s15 =>
      some ((), s15)) zN 0 s5) zN 0 s0
def f_X7_lays_2  (c26 : zMem → Option (Unit × zMem)) : Nat → Int32 → zMem → Option (Unit × zMem)
  | 0, _, _ => none
  | n + 1, x1, s2 =>
    if 18 ≤ x1 then
      c26 s2
    else
      gd (zib x1 60) <|
      gd (zib x1 18) <|
      nm (zUp s2 50 (zix x1) (s2 68 (zix x1))) fun s3 =>
      nm (x1 + 1) fun x4 =>
      f_X7_lays_2 c26 n x4 s3
def f_X7_lays_28  (c100 : zMem → Option (Unit × zMem)) : Nat → Int32 → zMem → Option (Unit × zMem)
  | 0, _, _ => none
  | n + 1, x6, s7 =>
    if 10 ≤ x6 then
      c100 s7
    else
      gd (zib (18 + x6) 60) <|
      gd (zib x6 10) <|
      nm (zUp s7 51 (zix x6) (s7 68 (zix (18 + x6)))) fun s8 =>
      gd (zib (28 + x6) 60) <|
      gd (zib x6 10) <|
      nm (zUp s8 52 (zix x6) (s8 68 (zix (28 + x6)))) fun s9 =>
      gd (zib (38 + x6) 60) <|
      gd (zib x6 10) <|
      nm (zUp s9 53 (zix x6) (s9 68 (zix (38 + x6)))) fun s10 =>
      gd (zib (48 + x6) 60) <|
      gd (zib x6 10) <|
      nm (zUp s10 54 (zix x6) (s10 68 (zix (48 + x6)))) fun s11 =>
      nm (x6 + 1) fun x12 =>
      f_X7_lays_28 c100 n x12 s11
def f_X7_lays   (s0 : zMem) : Option (Unit × zMem) :=
  f_X7_lays_2 (fun s5 =>
    f_X7_lays_28 (fun s13 =>
      gd (zib 58 60) <|
      nm (zUp s13 47 8 (s13 68 (zix 58))) fun s14 =>
      gd (zib 59 60) <|
      nm (zUp s14 47 9 (s14 68 (zix 59))) fun s15 =>
      some ((), s15)) zN 0 s5) zN 0 s0
def f_X7_goes_4   : Nat → Int32 → Int32 → Int32 → zMem → Option (Int32 × zMem)
  | 0, _, _, _, _ => none
  | n + 1, x1, x2, x3, s4 =>
    if x1 ≤ x3 then
      some (x2, s4)
    else
      bd (f_X7_nightOf s4) fun r5 s6 =>
      nm (x2 ||| r5) fun x7 =>
      nm (x3 + 1) fun x8 =>
      f_X7_goes_4 n x1 x7 x8 s6
def f_X7_goes  (p1 : Int32) (s0 : zMem) : Option (Int32 × zMem) :=
  f_X7_goes_4 zN p1 0 0 s0
def f_X7_ones_4   : Nat → Int32 → Int32 → Int32 → zMem → Option (Int32 × zMem)
  | 0, _, _, _, _ => none
  | n + 1, x1, x2, x3, s4 =>
    if 6 ≤ x3 then
      some (x2, s4)
    else
      nm (x2 + ((x1 >>> (x3 &&& 31)) &&& 1)) fun x5 =>
      nm (x3 + 1) fun x6 =>
      f_X7_ones_4 n x1 x5 x6 s4
def f_X7_ones  (p1 : Int32) (s0 : zMem) : Option (Int32 × zMem) :=
  f_X7_ones_4 zN p1 0 0 s0
def f_X7_run_38   (x5 : Int32) (x6 : Int32) (s7 : zMem) : Option (Int32 × zMem) :=
  bd (f_X7_keeps s7) fun _ s9 =>
  bd (f_X7_goes x5 s9) fun r10 s11 =>
  if x6 = 0 then
    bd (f_X7_heatAll s11) fun r22 s23 =>
    bd (f_X7_lays s23) fun _ s25 =>
    some (r22, s25)
  else
    if x6 = 1 then
      bd (f_X7_lays s11) fun _ s21 =>
      some (r10, s21)
    else
      if x6 = 2 then
        nm (s11 47 8) fun x17 =>
        bd (f_X7_lays s11) fun _ s19 =>
        some (x17, s19)
      else
        bd (f_X7_within (x6 - 10) 0 5 s11) fun r12 s13 =>
        gd (zib (3 * r12) 18) <|
        nm (s13 50 (zix (3 * r12))) fun x14 =>
        bd (f_X7_lays s13) fun _ s16 =>
        some (x14, s16)
def f_X7_run  (p1 : Int32) (p2 : Int32) (s0 : zMem) : Option (Int32 × zMem) :=
  bd (f_X7_in p1 0 40 s0) fun r1 s2 =>
  if r1 = 0 then
    some ((-2), s2)
  else
    bd (f_X7_in p2 0 2 s2) fun r3 s4 =>
    if r3 = 0 then
      bd (f_X7_in p2 10 (9 + (s4 47 0)) s4) fun r26 s27 =>
      if r26 = 0 then
        some ((-2), s27)
      else
        f_X7_run_38 p1 p2 s27
    else
      f_X7_run_38 p1 p2 s4
def f_X7_lasts_50  (c126 : Int32 → zMem → Option (Int32 × zMem)) : Nat → Int32 → Int32 → Int32 → Int32 → zMem → Option (Int32 × zMem)
  | 0, _, _, _, _, _ => none
  | n + 1, x11, x12, x13, x14, s15 =>
    if 40 < x14 then
      c126 x13 s15
    else
      if x13 = (-1) then
        bd (f_X7_nightOf s15) fun r16 s17 =>
        if x12 = 0 then
          if ((r16 >>> (x11 &&& 31)) &&& 1) = 1 then
            nm (x14 + 1) fun x21 =>
            f_X7_lasts_50 c126 n x11 x12 x14 x21 s17
          else
            nm (x14 + 1) fun x20 =>
            f_X7_lasts_50 c126 n x11 x12 (-1) x20 s17
        else
          gd (zib (3 * x11) 18) <|
          if (s17 50 (zix (3 * x11))) = 0 then
            nm (x14 + 1) fun x19 =>
            f_X7_lasts_50 c126 n x11 x12 x14 x19 s17
          else
            nm (x14 + 1) fun x18 =>
            f_X7_lasts_50 c126 n x11 x12 (-1) x18 s17
      else
        c126 x13 s15
def f_X7_lasts_47   (x7 : Int32) (x8 : Int32) (x9 : Int32) (s10 : zMem) : Option (Int32 × zMem) :=
  f_X7_lasts_50 (fun x22 s23 =>
    bd (f_X7_lays s23) fun _ s25 =>
    some (x22, s25)) zN x7 x8 x9 1 s10
def f_X7_lasts  (p1 : Int32) (p2 : Int32) (s0 : zMem) : Option (Int32 × zMem) :=
  bd (f_X7_isHut p1 s0) fun r1 s2 =>
  if r1 = 0 then
    some ((-5), s2)
  else
    bd (f_X7_in p2 0 1 s2) fun r3 s4 =>
    if r3 = 0 then
      some ((-7), s4)
    else
      bd (f_X7_keeps s4) fun _ s6 =>
      if p2 = 1 then
        gd (zib (3 * p1) 18) <|
        if (s6 50 (zix (3 * p1))) = 0 then
          f_X7_lasts_47 p1 p2 0 s6
        else
          f_X7_lasts_47 p1 p2 (-1) s6
      else
        f_X7_lasts_47 p1 p2 (-1) s6
def f_X7_net  (p1 : Int32) (s0 : zMem) : Option (Int32 × zMem) :=
  bd (f_X7_isHut p1 s0) fun r1 s2 =>
  if r1 = 0 then
    some ((-1000000), s2)
  else
    bd (f_X7_owedTo p1 s2) fun r3 s4 =>
    bd (f_X7_owedBy p1 s4) fun r5 s6 =>
    some (r3 - r5, s6)
def f_X7_settle_14  (c45 : Int32 → zMem → Option (Int32 × zMem)) : Nat → Int32 → Int32 → zMem → Option (Int32 × zMem)
  | 0, _, _, _ => none
  | n + 1, x3, x4, s5 =>
    if (s5 47 0) ≤ x4 then
      c45 x3 s5
    else
      bd (f_X7_owedTo x4 s5) fun r6 s7 =>
      bd (f_X7_owedBy x4 s7) fun r8 s9 =>
      gd (zib x4 6) <|
      nm (zUp s9 69 (zix x4) (r6 - r8)) fun s10 =>
      nm (x4 + 1) fun x11 =>
      f_X7_settle_14 c45 n x3 x11 s10
def f_X7_settle_99  (c66 : Int32 → Int32 → Int32 → Int32 → Int32 → Int32 → zMem → Option (Int32 × zMem)) (x26 : Int32) (x27 : Int32) (x28 : Int32) (x29 : Int32) (x30 : Int32) (t31 : Int32) (s32 : zMem) : Option (Int32 × zMem) :=
  gd (zib x30 6) <|
  gd (zib x29 6) <|
  if (s32 69 (zix x30)) ≤ (s32 69 (zix x29)) then
    nm (x30 + 1) fun x33 =>
    c66 x26 x27 x28 t31 x29 x33 s32
  else
    nm (x30 + 1) fun x34 =>
    c66 x26 x27 x28 t31 x30 x34 s32
def f_X7_settle_66  (c133 : Int32 → Int32 → Int32 → Int32 → Int32 → zMem → Option (Int32 × zMem)) : Nat → Int32 → Int32 → Int32 → Int32 → Int32 → Int32 → zMem → Option (Int32 × zMem)
  | 0, _, _, _, _, _, _, _ => none
  | n + 1, x19, x20, x21, x22, x23, x24, s25 =>
    if (s25 47 0) ≤ x24 then
      c133 x19 x20 x21 x22 x23 s25
    else
      gd (zib x24 6) <|
      gd (zib x22 6) <|
      if (s25 69 (zix x22)) ≤ (s25 69 (zix x24)) then
        f_X7_settle_99 (fun x35 x36 x37 x38 x39 x40 s41 =>
          f_X7_settle_66 c133 n x35 x36 x37 x38 x39 x40 s41) x19 x20 x21 x23 x24 x22 s25
      else
        f_X7_settle_99 (fun x42 x43 x44 x45 x46 x47 s48 =>
          f_X7_settle_66 c133 n x42 x43 x44 x45 x46 x47 s48) x19 x20 x21 x23 x24 x24 s25
def f_X7_settle_198  (c52 : Int32 → Int32 → Int32 → Int32 → zMem → Option (Int32 × zMem)) (x68 : Int32) (x69 : Int32) (x70 : Int32) (x71 : Int32) (x72 : Int32) (x73 : Int32) (t74 : Int32) (s75 : zMem) : Option (Int32 × zMem) :=
  gd (zib x72 6) <|
  gd (zib x72 6) <|
  nm (zUp s75 69 (zix x72) ((s75 69 (zix x72)) + t74)) fun s76 =>
  gd (zib x73 6) <|
  gd (zib x73 6) <|
  nm (zUp s76 69 (zix x73) ((s76 69 (zix x73)) - t74)) fun s77 =>
  nm (x69 + 1) fun x78 =>
  nm (x70 + t74) fun x79 =>
  c52 x68 x78 x79 x71 s77
def f_X7_settle_155  (c52 : Int32 → Int32 → Int32 → Int32 → zMem → Option (Int32 × zMem)) (x61 : Int32) (x62 : Int32) (x63 : Int32) (x64 : Int32) (x65 : Int32) (t66 : Int32) (s67 : zMem) : Option (Int32 × zMem) :=
  if t66 = 0 then
    c52 x61 x62 x63 t66 s67
  else
    gd (zib x64 6) <|
    gd (zib x65 6) <|
    if (s67 69 (zix x65)) ≤ (-(s67 69 (zix x64))) then
      gd (zib x65 6) <|
      f_X7_settle_198 (fun x80 x81 x82 x83 s84 =>
        c52 x80 x81 x82 x83 s84) x61 x62 x63 t66 x64 x65 (s67 69 (zix x65)) s67
    else
      gd (zib x64 6) <|
      f_X7_settle_198 (fun x85 x86 x87 x88 s89 =>
        c52 x85 x86 x87 x88 s89) x61 x62 x63 t66 x64 x65 (-(s67 69 (zix x64))) s67
def f_X7_settle_154  (c52 : Int32 → Int32 → Int32 → Int32 → zMem → Option (Int32 × zMem)) (x55 : Int32) (x56 : Int32) (x57 : Int32) (x58 : Int32) (x59 : Int32) (s60 : zMem) : Option (Int32 × zMem) :=
  f_X7_settle_155 (fun x90 x91 x92 x93 s94 =>
    c52 x90 x91 x92 x93 s94) x55 x56 x57 x58 x59 0 s60
def f_X7_settle_52  (c235 : Int32 → Int32 → Int32 → zMem → Option (Int32 × zMem)) : Nat → Int32 → Int32 → Int32 → Int32 → zMem → Option (Int32 × zMem)
  | 0, _, _, _, _, _ => none
  | n + 1, x14, x15, x16, x17, s18 =>
    if x17 = 0 then
      c235 x14 x15 x16 s18
    else
      f_X7_settle_66 (fun x49 x50 x51 x52 x53 s54 =>
        gd (zib x52 6) <|
        if 0 ≤ (s54 69 (zix x52)) then
          f_X7_settle_154 (fun x95 x96 x97 x98 s99 =>
            f_X7_settle_52 c235 n x95 x96 x97 x98 s99) x49 x50 x51 x52 x53 s54
        else
          if (s54 47 0) ≤ 0 then
            f_X7_settle_154 (fun x100 x101 x102 x103 s104 =>
              f_X7_settle_52 c235 n x100 x101 x102 x103 s104) x49 x50 x51 x52 x53 s54
          else
            f_X7_settle_155 (fun x105 x106 x107 x108 s109 =>
              f_X7_settle_52 c235 n x105 x106 x107 x108 s109) x49 x50 x51 x52 x53 1 s54) zN x14 x15 x16 0 0 1 s18
def f_X7_settle  (p1 : Int32) (s0 : zMem) : Option (Int32 × zMem) :=
  bd (f_X7_in p1 0 1 s0) fun r1 s2 =>
  if r1 = 0 then
    some ((-2), s2)
  else
    f_X7_settle_14 (fun x12 s13 =>
      f_X7_settle_52 (fun x110 x111 x112 s113 =>
        if x110 = 0 then
          some (x111, s113)
        else
          some (x112, s113)) zN x12 0 0 1 s13) zN p1 0 s2
def f_X7_sourceOf_54  (c14 : Int32 → Int32 → Int32 → Int32 → zMem → Option (Int32 × zMem)) (x15 : Int32) (x16 : Int32) (x17 : Int32) (x18 : Int32) (t19 : Int32) (s20 : zMem) : Option (Int32 × zMem) :=
  if t19 = 0 then
    nm (x16 ||| 0) fun x21 =>
    nm (x18 + 1) fun x22 =>
    c14 x15 x21 x17 x22 s20
  else
    gd (zib x18 10) <|
    nm (x16 ||| (1 <<< ((s20 51 (zix x18)) &&& 31))) fun x23 =>
    nm (x18 + 1) fun x24 =>
    c14 x15 x23 x17 x24 s20
def f_X7_sourceOf_49  (c14 : Int32 → Int32 → Int32 → Int32 → zMem → Option (Int32 × zMem)) (x10 : Int32) (x11 : Int32) (x12 : Int32) (x13 : Int32) (s14 : zMem) : Option (Int32 × zMem) :=
  f_X7_sourceOf_54 (fun x25 x26 x27 x28 s29 =>
    c14 x25 x26 x27 x28 s29) x10 x11 x12 x13 1 s14
def f_X7_sourceOf_14  (c83 : Int32 → Int32 → Int32 → zMem → Option (Int32 × zMem)) : Nat → Int32 → Int32 → Int32 → Int32 → zMem → Option (Int32 × zMem)
  | 0, _, _, _, _, _ => none
  | n + 1, x5, x6, x7, x8, s9 =>
    if (s9 47 8) ≤ x8 then
      c83 x5 x6 x7 s9
    else
      gd (zib x8 10) <|
      if (s9 52 (zix x8)) = x5 then
        f_X7_sourceOf_49 (fun x30 x31 x32 x33 s34 =>
          f_X7_sourceOf_14 c83 n x30 x31 x32 x33 s34) x5 x6 x7 x8 s9
      else
        gd (zib x8 10) <|
        if ((x6 >>> ((s9 52 (zix x8)) &&& 31)) &&& 1) = 1 then
          f_X7_sourceOf_49 (fun x40 x41 x42 x43 s44 =>
            f_X7_sourceOf_14 c83 n x40 x41 x42 x43 s44) x5 x6 x7 x8 s9
        else
          f_X7_sourceOf_54 (fun x35 x36 x37 x38 s39 =>
            f_X7_sourceOf_14 c83 n x35 x36 x37 x38 s39) x5 x6 x7 x8 0 s9
def f_X7_sourceOf_4   : Nat → Int32 → Int32 → Int32 → zMem → Option (Int32 × zMem)
  | 0, _, _, _, _ => none
  | n + 1, x1, x2, x3, s4 =>
    if x3 = x2 then
      some (x2, s4)
    else
      f_X7_sourceOf_14 (fun x45 x46 x47 s48 =>
        f_X7_sourceOf_4 n x45 x46 x47 s48) zN x1 x2 x2 0 s4
def f_X7_sourceOf  (p1 : Int32) (s0 : zMem) : Option (Int32 × zMem) :=
  f_X7_sourceOf_4 zN p1 0 (-1) s0
def f_X7_source  (p1 : Int32) (s0 : zMem) : Option (Int32 × zMem) :=
  bd (f_X7_isHut p1 s0) fun r1 s2 =>
  if r1 = 0 then
    some ((-5), s2)
  else
    bd (f_X7_sourceOf p1 s2) fun r3 s4 =>
    some (r3, s4)
def f_X7_rings_16   : Nat → Int32 → Int32 → Int32 → zMem → Option (Int32 × zMem)
  | 0, _, _, _, _ => none
  | n + 1, x3, x4, x5, s6 =>
    if (s6 47 0) ≤ x5 then
      some (x4, s6)
    else
      bd (f_X7_sourceOf x5 s6) fun r7 s8 =>
      if x3 = 0 then
        if ((r7 >>> (x5 &&& 31)) &&& 1) = 1 then
          nm (x4 ||| (1 <<< (x5 &&& 31))) fun x19 =>
          nm (x5 + 1) fun x20 =>
          f_X7_rings_16 n x3 x19 x20 s8
        else
          nm (x4 ||| 0) fun x17 =>
          nm (x5 + 1) fun x18 =>
          f_X7_rings_16 n x3 x17 x18 s8
      else
        if r7 = 0 then
          bd (f_X7_lentBy x5 s8) fun r11 s12 =>
          if r11 ≤ 0 then
            nm (x4 ||| 0) fun x13 =>
            nm (x5 + 1) fun x14 =>
            f_X7_rings_16 n x3 x13 x14 s12
          else
            nm (x4 ||| (1 <<< (x5 &&& 31))) fun x15 =>
            nm (x5 + 1) fun x16 =>
            f_X7_rings_16 n x3 x15 x16 s12
        else
          nm (x4 ||| 0) fun x9 =>
          nm (x5 + 1) fun x10 =>
          f_X7_rings_16 n x3 x9 x10 s8
def f_X7_rings  (p1 : Int32) (s0 : zMem) : Option (Int32 × zMem) :=
  bd (f_X7_in p1 0 1 s0) fun r1 s2 =>
  if r1 = 0 then
    some ((-2), s2)
  else
    f_X7_rings_16 zN p1 0 0 s2
def f_X7_ask_48  (c156 : Int32 → Int32 → Int32 → zMem → Option (Int32 × zMem)) : Nat → Int32 → Int32 → Int32 → Int32 → Int32 → Int32 → zMem → Option (Int32 × zMem)
  | 0, _, _, _, _, _, _, _ => none
  | n + 1, x7, x8, x9, x10, x11, x12, s13 =>
    if (s13 47 0) ≤ x12 then
      c156 x9 x10 x11 s13
    else
      if x12 = x7 then
        nm (x12 + 1) fun x14 =>
        f_X7_ask_48 c156 n x7 x8 x9 x10 x11 x14 s13
      else
        if 10 ≤ (s13 47 8) then
          nm (x12 + 1) fun x15 =>
          f_X7_ask_48 c156 n x7 x8 x9 x10 x11 x15 s13
        else
          bd (f_X7_mayLend x12 (x8 / 100) s13) fun r16 s17 =>
          if r16 = 0 then
            nm (x12 + 1) fun x18 =>
            f_X7_ask_48 c156 n x7 x8 x9 x10 x11 x18 s17
          else
            bd (f_X7_keeps s17) fun _ s20 =>
            bd (f_X7_lends x12 x7 x8 s20) fun _ s22 =>
            bd (f_X7_goes ((zrem x8 100) + 1) s22) fun r23 s24 =>
            bd (f_X7_heatAll s24) fun r25 s26 =>
            bd (f_X7_lays s26) fun _ s28 =>
            if r25 ≤ x11 then
              if r25 ≤ x11 then
                nm (x12 + 1) fun x29 =>
                f_X7_ask_48 c156 n x7 x8 x9 x10 x11 x29 s28
              else
                nm (x12 + 1) fun x30 =>
                f_X7_ask_48 c156 n x7 x8 x9 x10 r25 x30 s28
            else
              if r25 ≤ x11 then
                nm (x12 + 1) fun x31 =>
                f_X7_ask_48 c156 n x7 x8 x9 x12 x11 x31 s28
              else
                nm (x12 + 1) fun x32 =>
                f_X7_ask_48 c156 n x7 x8 x9 x12 r25 x32 s28
def f_X7_ask  (p1 : Int32) (p2 : Int32) (p3 : Int32) (s0 : zMem) : Option (Int32 × zMem) :=
  bd (f_X7_isHut p1 s0) fun r1 s2 =>
  if r1 = 0 then
    some ((-5), s2)
  else
    bd (f_X7_areCoalNights p2 s2) fun r3 s4 =>
    if r3 = 0 then
      some ((-7), s4)
    else
      if 39 < (zrem p2 100) then
        some ((-7), s4)
      else
        bd (f_X7_in p3 0 1 s4) fun r5 s6 =>
        if r5 = 0 then
          some ((-7), s6)
        else
          f_X7_ask_48 (fun x33 x34 x35 s36 =>
            if x33 = 0 then
              some (x34, s36)
            else
              some (x35, s36)) zN p1 p2 p3 (-1) (-1) 0 s6
def f_X7_needs_26   : Nat → Int32 → Int32 → Int32 → zMem → Option (Int32 × zMem)
  | 0, _, _, _, _ => none
  | n + 1, x5, x6, x7, s8 =>
    if 99 < x7 then
      some ((-1), s8)
    else
      bd (f_X7_keeps s8) fun _ s10 =>
      gd (zib ((3 * x5) + 1) 18) <|
      nm (zUp s10 50 (zix ((3 * x5) + 1)) x7) fun s11 =>
      bd (f_X7_goes x6 s11) fun r12 s13 =>
      bd (f_X7_lays s13) fun _ s15 =>
      if ((r12 >>> (x5 &&& 31)) &&& 1) = 0 then
        some (x7, s15)
      else
        nm (x7 + 1) fun x16 =>
        f_X7_needs_26 n x5 x6 x16 s15
def f_X7_needs  (p1 : Int32) (p2 : Int32) (s0 : zMem) : Option (Int32 × zMem) :=
  bd (f_X7_isHut p1 s0) fun r1 s2 =>
  if r1 = 0 then
    some ((-5), s2)
  else
    bd (f_X7_in p2 0 40 s2) fun r3 s4 =>
    if r3 = 0 then
      some ((-7), s4)
    else
      f_X7_needs_26 zN p1 p2 0 s4
def f_X7_failsBut  (p1 : Int32) (p2 : Int32) (s0 : zMem) : Option (Int32 × zMem) :=
  bd (f_X7_keeps s0) fun _ s2 =>
  if p1 = (-1) then
    bd (f_X7_goes p2 s2) fun r3 s4 =>
    bd (f_X7_ones r3 s4) fun r5 s6 =>
    bd (f_X7_lays s6) fun _ s8 =>
    some (r5, s8)
  else
    bd (f_X7_drops p1 s2) fun _ s10 =>
    bd (f_X7_goes p2 s10) fun r11 s12 =>
    bd (f_X7_ones r11 s12) fun r13 s14 =>
    bd (f_X7_lays s14) fun _ s16 =>
    some (r13, s16)
def f_X7_mercy_35  (c89 : Int32 → Int32 → Int32 → zMem → Option (Int32 × zMem)) : Nat → Int32 → Int32 → Int32 → Int32 → Int32 → zMem → Option (Int32 × zMem)
  | 0, _, _, _, _, _, _ => none
  | n + 1, x7, x8, x9, x10, x11, s12 =>
    if (s12 47 8) ≤ x11 then
      c89 x8 x9 x10 s12
    else
      bd (f_X7_failsBut x11 x7 s12) fun r13 s14 =>
      if x10 ≤ r13 then
        if x10 ≤ r13 then
          nm (x11 + 1) fun x15 =>
          f_X7_mercy_35 c89 n x7 x8 x9 x10 x15 s14
        else
          nm (x11 + 1) fun x16 =>
          f_X7_mercy_35 c89 n x7 x8 x9 r13 x16 s14
      else
        if x10 ≤ r13 then
          nm (x11 + 1) fun x17 =>
          f_X7_mercy_35 c89 n x7 x8 x11 x10 x17 s14
        else
          nm (x11 + 1) fun x18 =>
          f_X7_mercy_35 c89 n x7 x8 x11 r13 x18 s14
def f_X7_mercy  (p1 : Int32) (p2 : Int32) (s0 : zMem) : Option (Int32 × zMem) :=
  bd (f_X7_in p1 0 40 s0) fun r1 s2 =>
  if r1 = 0 then
    some ((-2), s2)
  else
    bd (f_X7_in p2 0 1 s2) fun r3 s4 =>
    if r3 = 0 then
      some ((-2), s4)
    else
      bd (f_X7_failsBut (-1) p1 s4) fun r5 s6 =>
      f_X7_mercy_35 (fun x19 x20 x21 s22 =>
        if x19 = 0 then
          some (x20, s22)
        else
          some (x21, s22)) zN p1 p2 (-1) r5 0 s6
def f_X7_worst_108  (c30 : Int32 → Int32 → Int32 → Int32 → Int32 → zMem → Option (Int32 × zMem)) (x29 : Int32) (x30 : Int32) (x31 : Int32) (x32 : Int32) (x33 : Int32) (x34 : Int32) (t35 : Int32) (s36 : zMem) : Option (Int32 × zMem) :=
  if t35 = 0 then
    if t35 = 0 then
      nm (x33 + 1) fun x37 =>
      c30 x29 x30 x31 x32 x37 s36
    else
      nm (x33 + 1) fun x38 =>
      c30 x29 x30 x31 x34 x38 s36
  else
    if t35 = 0 then
      nm (x33 + 1) fun x39 =>
      c30 x29 x30 x33 x32 x39 s36
    else
      nm (x33 + 1) fun x40 =>
      c30 x29 x30 x33 x34 x40 s36
def f_X7_worst_103  (c30 : Int32 → Int32 → Int32 → Int32 → Int32 → zMem → Option (Int32 × zMem)) (x22 : Int32) (x23 : Int32) (x24 : Int32) (x25 : Int32) (x26 : Int32) (x27 : Int32) (s28 : zMem) : Option (Int32 × zMem) :=
  f_X7_worst_108 (fun x41 x42 x43 x44 x45 s46 =>
    c30 x41 x42 x43 x44 x45 s46) x22 x23 x24 x25 x26 x27 1 s28
def f_X7_worst_30  (c142 : Int32 → Int32 → Int32 → zMem → Option (Int32 × zMem)) : Nat → Int32 → Int32 → Int32 → Int32 → Int32 → zMem → Option (Int32 × zMem)
  | 0, _, _, _, _, _, _ => none
  | n + 1, x5, x6, x7, x8, x9, s10 =>
    if (s10 47 0) ≤ x9 then
      c142 x6 x7 x8 s10
    else
      bd (f_X7_keeps s10) fun _ s12 =>
      gd (zib (3 * x9) 18) <|
      nm (zUp s12 50 (zix (3 * x9)) 0) fun s13 =>
      gd (zib ((3 * x9) + 1) 18) <|
      nm (zUp s13 50 (zix ((3 * x9) + 1)) 0) fun s14 =>
      bd (f_X7_goes x5 s14) fun r15 s16 =>
      bd (f_X7_heatAll s16) fun r17 s18 =>
      gd (zib (3 * x9) 18) <|
      nm (r17 - (s18 50 (zix (3 * x9)))) fun x19 =>
      bd (f_X7_lays s18) fun _ s21 =>
      if x7 = (-1) then
        f_X7_worst_103 (fun x47 x48 x49 x50 x51 s52 =>
          f_X7_worst_30 c142 n x47 x48 x49 x50 x51 s52) x5 x6 x7 x8 x9 x19 s21
      else
        if x8 ≤ x19 then
          f_X7_worst_108 (fun x53 x54 x55 x56 x57 s58 =>
            f_X7_worst_30 c142 n x53 x54 x55 x56 x57 s58) x5 x6 x7 x8 x9 x19 0 s21
        else
          f_X7_worst_103 (fun x59 x60 x61 x62 x63 s64 =>
            f_X7_worst_30 c142 n x59 x60 x61 x62 x63 s64) x5 x6 x7 x8 x9 x19 s21
def f_X7_worst  (p1 : Int32) (p2 : Int32) (s0 : zMem) : Option (Int32 × zMem) :=
  bd (f_X7_in p1 0 40 s0) fun r1 s2 =>
  if r1 = 0 then
    some ((-2), s2)
  else
    bd (f_X7_in p2 0 1 s2) fun r3 s4 =>
    if r3 = 0 then
      some ((-2), s4)
    else
      f_X7_worst_30 (fun x65 x66 x67 s68 =>
        if x65 = 0 then
          some (x66, s68)
        else
          some (x67, s68)) zN p1 p2 (-1) (-1) 0 s4
def f_X7_sheetWrong  (p1 : Int32) (s0 : zMem) : Option (Int32 × zMem) :=
  bd (f_X7_in p1 0 3 s0) fun r1 s2 =>
  if r1 = 0 then
    some ((-2), s2)
  else
    gd (zib p1 4) <|
    if (s2 60 (zix p1)) = (-1) then
      some ((-11), s2)
    else
      gd (zib p1 4) <|
      if (s2 61 (zix p1)) ≤ 20 then
        some (0, s2)
      else
        some ((-2), s2)
def f_X7_toldWrong  (p1 : Int32) (p2 : Int32) (s0 : zMem) : Option (Int32 × zMem) :=
  bd (f_X7_sheetWrong p1 s0) fun r1 s2 =>
  if r1 = 0 then
    bd (f_X7_isHut p2 s2) fun r3 s4 =>
    if r3 = 0 then
      some ((-5), s4)
    else
      some (0, s4)
  else
    some (r1, s2)
def f_X7_unlike_9  (c66 : Int32 → zMem → Option (Int32 × zMem)) : Nat → Int32 → Int32 → Int32 → Int32 → zMem → Option (Int32 × zMem)
  | 0, _, _, _, _, _ => none
  | n + 1, x3, x4, x5, x6, s7 =>
    gd (zib x3 4) <|
    if (s7 61 (zix x3)) ≤ x6 then
      c66 x5 s7
    else
      if x5 = (-1) then
        bd (f_X7_nightOf s7) fun r8 s9 =>
        gd (zib ((40 * x3) + x6) 160) <|
        gd (zib (3 * x4) 18) <|
        if (s9 62 (zix ((40 * x3) + x6))) = (s9 50 (zix (3 * x4))) then
          nm (x6 + 1) fun x11 =>
          f_X7_unlike_9 c66 n x3 x4 (-1) x11 s9
        else
          nm (x6 + 1) fun x10 =>
          f_X7_unlike_9 c66 n x3 x4 x6 x10 s9
      else
        c66 x5 s7
def f_X7_unlike  (p1 : Int32) (p2 : Int32) (s0 : zMem) : Option (Int32 × zMem) :=
  bd (f_X7_keeps s0) fun _ s2 =>
  f_X7_unlike_9 (fun x12 s13 =>
    bd (f_X7_lays s13) fun _ s15 =>
    some (x12, s15)) zN p1 p2 (-1) 0 s2
def f_X7_judge  (p1 : Int32) (p2 : Int32) (s0 : zMem) : Option (Int32 × zMem) :=
  bd (f_X7_toldWrong p1 p2 s0) fun r1 s2 =>
  if r1 = 0 then
    bd (f_X7_unlike p1 p2 s2) fun r3 s4 =>
    some (r3, s4)
  else
    some (r1, s2)
def f_X7_kinds_100  (c50 : Int32 → Int32 → Int32 → Int32 → Int32 → Int32 → Int32 → zMem → Option (Int32 × zMem)) (x36 : Int32) (x37 : Int32) (x38 : Int32) (x39 : Int32) (x40 : Int32) (x41 : Int32) (x42 : Int32) (t43 : Int32) (t44 : Int32) (s45 : zMem) : Option (Int32 × zMem) :=
  gd (zib t44 6) <|
  nm (zUp s45 49 (zix t44) t43) fun s46 =>
  bd (f_X7_unlike x36 x37 s46) fun r47 s48 =>
  if r47 = (-1) then
    nm (x41 ||| (1 <<< (x42 &&& 31))) fun x51 =>
    nm (x42 + 1) fun x52 =>
    c50 x36 x37 x38 x39 x40 x51 x52 s48
  else
    nm (x41 ||| 0) fun x49 =>
    nm (x42 + 1) fun x50 =>
    c50 x36 x37 x38 x39 x40 x49 x50 s48
def f_X7_kinds_82  (c50 : Int32 → Int32 → Int32 → Int32 → Int32 → Int32 → Int32 → zMem → Option (Int32 × zMem)) (x25 : Int32) (x26 : Int32) (x27 : Int32) (x28 : Int32) (x29 : Int32) (x30 : Int32) (x31 : Int32) (t32 : Int32) (t33 : Int32) (s34 : zMem) : Option (Int32 × zMem) :=
  gd (zib t33 6) <|
  nm (zUp s34 48 (zix t33) t32) fun s35 =>
  if x27 = 1 then
    f_X7_kinds_100 (fun x61 x62 x63 x64 x65 x66 x67 s68 =>
      c50 x61 x62 x63 x64 x65 x66 x67 s68) x25 x26 x27 x28 x29 x30 x31 x31 x26 s35
  else
    f_X7_kinds_100 (fun x53 x54 x55 x56 x57 x58 x59 s60 =>
      c50 x53 x54 x55 x56 x57 x58 x59 s60) x25 x26 x27 x28 x29 x30 x31 x29 x26 s35
def f_X7_kinds_63  (c130 : Int32 → Int32 → Int32 → Int32 → zMem → Option (Int32 × zMem)) (c50 : Int32 → Int32 → Int32 → Int32 → Int32 → Int32 → Int32 → zMem → Option (Int32 × zMem)) (x15 : Int32) (x16 : Int32) (x17 : Int32) (x18 : Int32) (x19 : Int32) (x20 : Int32) (x21 : Int32) (t22 : Int32) (t23 : Int32) (s24 : zMem) : Option (Int32 × zMem) :=
  if t22 ≤ t23 then
    c130 x16 x18 x19 x20 s24
  else
    if x17 = 0 then
      f_X7_kinds_82 (fun x77 x78 x79 x80 x81 x82 x83 s84 =>
        c50 x77 x78 x79 x80 x81 x82 x83 s84) x15 x16 x17 x18 x19 x20 x21 x21 x16 s24
    else
      f_X7_kinds_82 (fun x69 x70 x71 x72 x73 x74 x75 s76 =>
        c50 x69 x70 x71 x72 x73 x74 x75 s76) x15 x16 x17 x18 x19 x20 x21 x18 x16 s24
def f_X7_kinds_50  (c130 : Int32 → Int32 → Int32 → Int32 → zMem → Option (Int32 × zMem)) : Nat → Int32 → Int32 → Int32 → Int32 → Int32 → Int32 → Int32 → zMem → Option (Int32 × zMem)
  | 0, _, _, _, _, _, _, _, _ => none
  | n + 1, x7, x8, x9, x10, x11, x12, x13, s14 =>
    if x9 = 0 then
      f_X7_kinds_63 (fun x98 x99 x100 x101 s102 =>
        c130 x98 x99 x100 x101 s102) (fun x103 x104 x105 x106 x107 x108 x109 s110 =>
        f_X7_kinds_50 c130 n x103 x104 x105 x106 x107 x108 x109 s110) x7 x8 x9 x10 x11 x12 x13 6 x13 s14
    else
      f_X7_kinds_63 (fun x85 x86 x87 x88 s89 =>
        c130 x85 x86 x87 x88 s89) (fun x90 x91 x92 x93 x94 x95 x96 s97 =>
        f_X7_kinds_50 c130 n x90 x91 x92 x93 x94 x95 x96 s97) x7 x8 x9 x10 x11 x12 x13 10 x13 s14
def f_X7_kinds  (p1 : Int32) (p2 : Int32) (p3 : Int32) (s0 : zMem) : Option (Int32 × zMem) :=
  bd (f_X7_toldWrong p1 p2 s0) fun r1 s2 =>
  if r1 = 0 then
    bd (f_X7_in p3 0 1 s2) fun r3 s4 =>
    if r3 = 0 then
      some ((-7), s4)
    else
      gd (zib p2 6) <|
      nm (s4 48 (zix p2)) fun x5 =>
      gd (zib p2 6) <|
      nm (s4 49 (zix p2)) fun x6 =>
      f_X7_kinds_50 (fun x111 x112 x113 x114 s115 =>
        gd (zib x111 6) <|
        nm (zUp s115 48 (zix x111) x112) fun s116 =>
        gd (zib x111 6) <|
        nm (zUp s116 49 (zix x111) x113) fun s117 =>
        some (x114, s117)) zN p1 p2 p3 x5 x6 0 0 s4
  else
    some (r1, s2)
def f_X7_states_103  (c59 : Int32 → Int32 → Int32 → Int32 → Int32 → Int32 → Int32 → Int32 → zMem → Option (Int32 × zMem)) (x31 : Int32) (x32 : Int32) (x33 : Int32) (x34 : Int32) (x35 : Int32) (x36 : Int32) (x37 : Int32) (x38 : Int32) (t39 : Int32) (s40 : zMem) : Option (Int32 × zMem) :=
  if t39 = 0 then
    nm (x36 + 0) fun x41 =>
    if t39 = 0 then
      nm (x38 + 1) fun x42 =>
      c59 x31 x32 x33 x34 x35 x41 x37 x42 s40
    else
      if x37 = (-1) then
        nm (x38 + 1) fun x44 =>
        c59 x31 x32 x33 x34 x35 x41 x38 x44 s40
      else
        nm (x38 + 1) fun x43 =>
        c59 x31 x32 x33 x34 x35 x41 x37 x43 s40
  else
    nm (x36 + 1) fun x45 =>
    if t39 = 0 then
      nm (x38 + 1) fun x46 =>
      c59 x31 x32 x33 x34 x35 x45 x37 x46 s40
    else
      if x37 = (-1) then
        nm (x38 + 1) fun x48 =>
        c59 x31 x32 x33 x34 x35 x45 x38 x48 s40
      else
        nm (x38 + 1) fun x47 =>
        c59 x31 x32 x33 x34 x35 x45 x37 x47 s40
def f_X7_states_73  (c146 : Int32 → Int32 → Int32 → Int32 → Int32 → Int32 → zMem → Option (Int32 × zMem)) (c59 : Int32 → Int32 → Int32 → Int32 → Int32 → Int32 → Int32 → Int32 → zMem → Option (Int32 × zMem)) (x17 : Int32) (x18 : Int32) (x19 : Int32) (x20 : Int32) (x21 : Int32) (x22 : Int32) (x23 : Int32) (x24 : Int32) (t25 : Int32) (t26 : Int32) (s27 : zMem) : Option (Int32 × zMem) :=
  if t25 < t26 then
    c146 x18 x19 x20 x21 x22 x23 s27
  else
    gd (zib ((3 * x18) + x19) 18) <|
    nm (zUp s27 50 (zix ((3 * x18) + x19)) x24) fun s28 =>
    bd (f_X7_unlike x17 x18 s28) fun r29 s30 =>
    if r29 = (-1) then
      f_X7_states_103 (fun x58 x59 x60 x61 x62 x63 x64 x65 s66 =>
        c59 x58 x59 x60 x61 x62 x63 x64 x65 s66) x17 x18 x19 x20 x21 x22 x23 x24 1 s30
    else
      f_X7_states_103 (fun x49 x50 x51 x52 x53 x54 x55 x56 s57 =>
        c59 x49 x50 x51 x52 x53 x54 x55 x56 s57) x17 x18 x19 x20 x21 x22 x23 x24 0 s30
def f_X7_states_59  (c146 : Int32 → Int32 → Int32 → Int32 → Int32 → Int32 → zMem → Option (Int32 × zMem)) : Nat → Int32 → Int32 → Int32 → Int32 → Int32 → Int32 → Int32 → Int32 → zMem → Option (Int32 × zMem)
  | 0, _, _, _, _, _, _, _, _, _ => none
  | n + 1, x8, x9, x10, x11, x12, x13, x14, x15, s16 =>
    if x10 = 0 then
      f_X7_states_73 (fun x83 x84 x85 x86 x87 x88 s89 =>
        c146 x83 x84 x85 x86 x87 x88 s89) (fun x90 x91 x92 x93 x94 x95 x96 x97 s98 =>
        f_X7_states_59 c146 n x90 x91 x92 x93 x94 x95 x96 x97 s98) x8 x9 x10 x11 x12 x13 x14 x15 299 x15 s16
    else
      f_X7_states_73 (fun x67 x68 x69 x70 x71 x72 s73 =>
        c146 x67 x68 x69 x70 x71 x72 s73) (fun x74 x75 x76 x77 x78 x79 x80 x81 s82 =>
        f_X7_states_59 c146 n x74 x75 x76 x77 x78 x79 x80 x81 s82) x8 x9 x10 x11 x12 x13 x14 x15 99 x15 s16
def f_X7_states  (p1 : Int32) (p2 : Int32) (p3 : Int32) (p4 : Int32) (s0 : zMem) : Option (Int32 × zMem) :=
  bd (f_X7_toldWrong p1 p2 s0) fun r1 s2 =>
  if r1 = 0 then
    bd (f_X7_in p3 0 2 s2) fun r3 s4 =>
    if r3 = 0 then
      some ((-7), s4)
    else
      bd (f_X7_in p4 0 1 s4) fun r5 s6 =>
      if r5 = 0 then
        some ((-7), s6)
      else
        gd (zib ((3 * p2) + p3) 18) <|
        nm (s6 50 (zix ((3 * p2) + p3))) fun x7 =>
        f_X7_states_59 (fun x99 x100 x101 x102 x103 x104 s105 =>
          gd (zib ((3 * x99) + x100) 18) <|
          nm (zUp s105 50 (zix ((3 * x99) + x100)) x102) fun s106 =>
          if x101 = 0 then
            some (x103, s106)
          else
            some (x104, s106)) zN p1 p2 p3 p4 x7 0 (-1) 0 s6
  else
    some (r1, s2)
def f_X7_whose_17   : Nat → Int32 → Int32 → Int32 → zMem → Option (Int32 × zMem)
  | 0, _, _, _, _ => none
  | n + 1, x3, x4, x5, s6 =>
    if (s6 47 0) ≤ x5 then
      some (x4, s6)
    else
      bd (f_X7_unlike x3 x5 s6) fun r7 s8 =>
      if r7 = (-1) then
        nm (x4 ||| (1 <<< (x5 &&& 31))) fun x11 =>
        nm (x5 + 1) fun x12 =>
        f_X7_whose_17 n x3 x11 x12 s8
      else
        nm (x4 ||| 0) fun x9 =>
        nm (x5 + 1) fun x10 =>
        f_X7_whose_17 n x3 x9 x10 s8
def f_X7_whose  (p1 : Int32) (s0 : zMem) : Option (Int32 × zMem) :=
  bd (f_X7_sheetWrong p1 s0) fun r1 s2 =>
  if r1 = 0 then
    f_X7_whose_17 zN p1 0 0 s2
  else
    some (r1, s2)
def f_X7_laws_25  (c69 : Int32 → Int32 → zMem → Option (Int32 × zMem)) : Nat → Int32 → Int32 → Int32 → Int32 → Int32 → zMem → Option (Int32 × zMem)
  | 0, _, _, _, _, _, _ => none
  | n + 1, x4, x5, x6, x7, x8, s9 =>
    if (s9 47 14) ≤ x8 then
      c69 x6 x7 s9
    else
      nm (zUp s9 47 15 x8) fun s10 =>
      bd (f_X7_unlike x4 x5 s10) fun r11 s12 =>
      if r11 = (-1) then
        nm (x7 ||| (1 <<< (x8 &&& 31))) fun x15 =>
        nm (x8 + 1) fun x16 =>
        f_X7_laws_25 c69 n x4 x5 x6 x15 x16 s12
      else
        nm (x7 ||| 0) fun x13 =>
        nm (x8 + 1) fun x14 =>
        f_X7_laws_25 c69 n x4 x5 x6 x13 x14 s12
def f_X7_laws  (p1 : Int32) (p2 : Int32) (s0 : zMem) : Option (Int32 × zMem) :=
  bd (f_X7_toldWrong p1 p2 s0) fun r1 s2 =>
  if r1 = 0 then
    nm (s2 47 15) fun x3 =>
    f_X7_laws_25 (fun x17 x18 s19 =>
      nm (zUp s19 47 15 x17) fun s20 =>
      some (x18, s20)) zN p1 p2 x3 0 0 s2
  else
    some (r1, s2)
def f_X7_film_57  (c114 : Int32 → zMem → Option (Int32 × zMem)) : Nat → Int32 → Int32 → Int32 → Int32 → zMem → Option (Int32 × zMem)
  | 0, _, _, _, _, _ => none
  | n + 1, x11, x12, x13, x14, s15 =>
    if 40 ≤ x14 then
      c114 x13 s15
    else
      gd (zib ((40 * x11) + x14) 160) <|
      nm (zUp s15 62 (zix ((40 * x11) + x14)) 0) fun s16 =>
      if x13 ≤ x14 then
        nm (x14 + 1) fun x17 =>
        f_X7_film_57 c114 n x11 x12 x13 x17 s16
      else
        bd (f_X7_nightOf s16) fun r18 s19 =>
        gd (zib (3 * x12) 18) <|
        gd (zib ((40 * x11) + x14) 160) <|
        nm (zUp s19 62 (zix ((40 * x11) + x14)) (s19 50 (zix (3 * x12)))) fun s20 =>
        nm (x14 + 1) fun x21 =>
        f_X7_film_57 c114 n x11 x12 x13 x21 s20
def f_X7_film  (p1 : Int32) (p2 : Int32) (p3 : Int32) (s0 : zMem) : Option (Int32 × zMem) :=
  bd (f_X7_in p1 0 3 s0) fun r1 s2 =>
  if r1 = 0 then
    some ((-2), s2)
  else
    bd (f_X7_isHut p2 s2) fun r3 s4 =>
    if r3 = 0 then
      some ((-5), s4)
    else
      bd (f_X7_in p3 0 20 s4) fun r5 s6 =>
      if r5 = 0 then
        some ((-7), s6)
      else
        gd (zib p1 4) <|
        nm (zUp s6 60 (zix p1) 1) fun s7 =>
        gd (zib p1 4) <|
        nm (zUp s7 61 (zix p1) p3) fun s8 =>
        bd (f_X7_keeps s8) fun _ s10 =>
        f_X7_film_57 (fun x22 s23 =>
          bd (f_X7_lays s23) fun _ s25 =>
          some (x22, s25)) zN p1 p2 p3 0 s10
def f_X7_snows_15  (c105 : Int32 → zMem → Option (Int32 × zMem)) : Nat → Int32 → Int64 → Int32 → Int32 → zMem → Option (Int32 × zMem)
  | 0, _, _, _, _, _ => none
  | n + 1, x4, x5, x6, x7, s8 =>
    if 5 ≤ x7 then
      c105 x6 s8
    else
      if (s8 47 0) ≤ 0 then
        c105 x6 s8
      else
        nm (zremL (x5 * 48271) 2147483647) fun x9 =>
        gd (decide (¬ (s8 47 0).toInt64 = 0)) <|
        bd (f_X7_within ((zremL x9 ((s8 47 0).toInt64)).toInt32) 0 5 s8) fun r10 s11 =>
        gd (zib (3 * r10) 18) <|
        if x4 ≤ (s11 50 (zix (3 * r10))) then
          gd (zib (3 * r10) 18) <|
          gd (zib (3 * r10) 18) <|
          nm (zUp s11 50 (zix (3 * r10)) ((s11 50 (zix (3 * r10))) - x4)) fun s12 =>
          bd (f_X7_nightOf s12) fun r13 s14 =>
          nm (x6 ||| r13) fun x15 =>
          nm (x7 + 1) fun x16 =>
          f_X7_snows_15 c105 n x4 x9 x15 x16 s14
        else
          gd (zib (3 * r10) 18) <|
          nm (zUp s11 50 (zix (3 * r10)) 0) fun s17 =>
          bd (f_X7_nightOf s17) fun r18 s19 =>
          nm (x6 ||| r18) fun x20 =>
          nm (x7 + 1) fun x21 =>
          f_X7_snows_15 c105 n x4 x9 x20 x21 s19
def f_X7_snows  (p1 : Int32) (p2 : Int32) (s0 : zMem) : Option (Int32 × zMem) :=
  nm (p1.toInt64 + 1) fun x1 =>
  bd (f_X7_keeps s0) fun _ s3 =>
  f_X7_snows_15 (fun x22 s23 =>
    bd (f_X7_heatAll s23) fun r24 s25 =>
    nm (zUp s25 47 36 r24) fun s26 =>
    bd (f_X7_lays s26) fun _ s28 =>
    some (x22, s28)) zN p2 x1 0 0 s3
def f_X7_drawn  (p1 : Int32) (p2 : Int32) (p3 : Int32) (s0 : zMem) : Option (Int32 × zMem) :=
  bd (f_X7_in p1 0 99999 s0) fun r1 s2 =>
  if r1 = 0 then
    some ((-2), s2)
  else
    bd (f_X7_in p2 0 999 s2) fun r3 s4 =>
    if r3 = 0 then
      some ((-2), s4)
    else
      bd (f_X7_in p3 0 1 s4) fun r5 s6 =>
      if r5 = 0 then
        some ((-2), s6)
      else
        bd (f_X7_snows p1 p2 s6) fun r7 s8 =>
        if p3 = 0 then
          some (r7, s8)
        else
          some (s8 47 36, s8)
def f_X7_lowest_16  (c41 : Int64 → Int64 → Int32 → Int64 → zMem → Option (Int64 × zMem)) : Nat → Int64 → Int64 → Int32 → Int64 → Int64 → zMem → Option (Int64 × zMem)
  | 0, _, _, _, _, _, _ => none
  | n + 1, x1, x2, x3, x4, x5, s6 =>
    if (lg_cmp x5 0) = 0 then
      c41 x1 x2 x3 x4 s6
    else
      gd (decide (¬ x5 = 0)) <|
      nm (zremL x4 x5) fun x7 =>
      f_X7_lowest_16 c41 n x1 x2 x3 x5 x7 s6
def f_X7_lowest  (p1 : Int64) (p2 : Int64) (p3 : Int32) (s0 : zMem) : Option (Int64 × zMem) :=
  if (lg_cmp p1 0) = 0 then
    some (p3.toInt64, s0)
  else
    f_X7_lowest_16 (fun x8 x9 x10 x11 s12 =>
      if x10 = 0 then
        gd (decide (¬ x11 = 0)) <|
        some (x8 / x11, s12)
      else
        gd (decide (¬ x11 = 0)) <|
        some (x9 / x11, s12)) zN p1 p2 p3 p1 p2 s0
def f_X7_odds_75  (c114 : Int32 → Int32 → Int64 → zMem → Option (Int64 × zMem)) : Nat → Int32 → Int32 → Int32 → Int32 → Int32 → Int64 → Int32 → zMem → Option (Int64 × zMem)
  | 0, _, _, _, _, _, _, _, _ => none
  | n + 1, x20, x21, x22, x23, x24, x25, x26, s27 =>
    if x21 ≤ x26 then
      c114 x21 x24 x25 s27
    else
      bd (f_X7_snows (x20 + x26) x22 s27) fun r28 s29 =>
      bd (f_X7_ones r28 s29) fun r30 s31 =>
      if r30 < x23 then
        nm (x25 + 0) fun x32 =>
        nm (x26 + 1) fun x33 =>
        f_X7_odds_75 c114 n x20 x21 x22 x23 x24 x32 x33 s31
      else
        nm (x25 + 1) fun x34 =>
        nm (x26 + 1) fun x35 =>
        f_X7_odds_75 c114 n x20 x21 x22 x23 x24 x34 x35 s31
def f_X7_odds_37   (x9 : Int32) (x10 : Int32) (x11 : Int32) (x12 : Int32) (x13 : Int32) (t14 : Int32) (s15 : zMem) : Option (Int64 × zMem) :=
  if t14 = 0 then
    some ((-4611686018427387904), s15)
  else
    bd (f_X7_in x12 0 6 s15) fun r16 s17 =>
    if r16 = 0 then
      some ((-4611686018427387904), s17)
    else
      bd (f_X7_in x13 0 1 s17) fun r18 s19 =>
      if r18 = 0 then
        some ((-4611686018427387904), s19)
      else
        f_X7_odds_75 (fun x36 x37 x38 s39 =>
          bd (f_X7_lowest x38 x36.toInt64 x37 s39) fun r40 s41 =>
          some (r40, s41)) zN x9 x10 x11 x12 x13 0 0 s19
def f_X7_odds_36   (x3 : Int32) (x4 : Int32) (x5 : Int32) (x6 : Int32) (x7 : Int32) (s8 : zMem) : Option (Int64 × zMem) :=
  f_X7_odds_37 x3 x4 x5 x6 x7 0 s8
def f_X7_odds  (p1 : Int32) (p2 : Int32) (p3 : Int32) (p4 : Int32) (p5 : Int32) (s0 : zMem) : Option (Int64 × zMem) :=
  bd (f_X7_in p1 0 99999 s0) fun r1 s2 =>
  if r1 = 0 then
    f_X7_odds_36 p1 p2 p3 p4 p5 s2
  else
    bd (f_X7_in p2 1 40 s2) fun r42 s43 =>
    if r42 = 0 then
      f_X7_odds_36 p1 p2 p3 p4 p5 s43
    else
      bd (f_X7_in p3 0 999 s43) fun r44 s45 =>
      if r44 = 0 then
        f_X7_odds_36 p1 p2 p3 p4 p5 s45
      else
        f_X7_odds_37 p1 p2 p3 p4 p5 1 s45
def f_X7_image_7  (c31 : zMem → Option (Int32 × zMem)) : Nat → Int32 → zMem → Option (Int32 × zMem)
  | 0, _, _ => none
  | n + 1, x2, s3 =>
    if 18 ≤ x2 then
      c31 s3
    else
      gd (zib x2 18) <|
      gd (zib x2 58) <|
      nm (zUp s3 58 (zix x2) (s3 50 (zix x2))) fun s4 =>
      nm (x2 + 1) fun x5 =>
      f_X7_image_7 c31 n x5 s4
def f_X7_image_33  (c105 : zMem → Option (Int32 × zMem)) : Nat → Int32 → zMem → Option (Int32 × zMem)
  | 0, _, _ => none
  | n + 1, x7, s8 =>
    if 10 ≤ x7 then
      c105 s8
    else
      gd (zib x7 10) <|
      gd (zib (18 + x7) 58) <|
      nm (zUp s8 58 (zix (18 + x7)) (s8 51 (zix x7))) fun s9 =>
      gd (zib x7 10) <|
      gd (zib (28 + x7) 58) <|
      nm (zUp s9 58 (zix (28 + x7)) (s9 52 (zix x7))) fun s10 =>
      gd (zib x7 10) <|
      gd (zib (38 + x7) 58) <|
      nm (zUp s10 58 (zix (38 + x7)) (s10 53 (zix x7))) fun s11 =>
      gd (zib x7 10) <|
      gd (zib (48 + x7) 58) <|
      nm (zUp s11 58 (zix (48 + x7)) (s11 54 (zix x7))) fun s12 =>
      nm (x7 + 1) fun x13 =>
      f_X7_image_33 c105 n x13 s12
def f_X7_image   (s0 : zMem) : Option (Int32 × zMem) :=
  nm (zUp s0 47 16 1) fun s1 =>
  f_X7_image_7 (fun s6 =>
    f_X7_image_33 (fun s14 =>
      gd (zib 0 4) <|
      nm (zUp s14 59 (zix 0) (s14 47 0)) fun s15 =>
      gd (zib 1 4) <|
      nm (zUp s15 59 (zix 1) (s15 47 8)) fun s16 =>
      gd (zib 2 4) <|
      nm (zUp s16 59 (zix 2) (s16 47 9)) fun s17 =>
      gd (zib 3 4) <|
      nm (zUp s17 59 (zix 3) (s17 47 15)) fun s18 =>
      some (s18 47 0, s18)) zN 0 s6) zN 0 s1
def f_X7_back_12  (c36 : zMem → Option (Int32 × zMem)) : Nat → Int32 → zMem → Option (Int32 × zMem)
  | 0, _, _ => none
  | n + 1, x1, s2 =>
    if 18 ≤ x1 then
      c36 s2
    else
      gd (zib x1 58) <|
      gd (zib x1 18) <|
      nm (zUp s2 50 (zix x1) (s2 58 (zix x1))) fun s3 =>
      nm (x1 + 1) fun x4 =>
      f_X7_back_12 c36 n x4 s3
def f_X7_back_38  (c110 : zMem → Option (Int32 × zMem)) : Nat → Int32 → zMem → Option (Int32 × zMem)
  | 0, _, _ => none
  | n + 1, x6, s7 =>
    if 10 ≤ x6 then
      c110 s7
    else
      gd (zib (18 + x6) 58) <|
      gd (zib x6 10) <|
      nm (zUp s7 51 (zix x6) (s7 58 (zix (18 + x6)))) fun s8 =>
      gd (zib (28 + x6) 58) <|
      gd (zib x6 10) <|
      nm (zUp s8 52 (zix x6) (s8 58 (zix (28 + x6)))) fun s9 =>
      gd (zib (38 + x6) 58) <|
      gd (zib x6 10) <|
      nm (zUp s9 53 (zix x6) (s9 58 (zix (38 + x6)))) fun s10 =>
      gd (zib (48 + x6) 58) <|
      gd (zib x6 10) <|
      nm (zUp s10 54 (zix x6) (s10 58 (zix (48 + x6)))) fun s11 =>
      nm (x6 + 1) fun x12 =>
      f_X7_back_38 c110 n x12 s11
def f_X7_back   (s0 : zMem) : Option (Int32 × zMem) :=
  if (s0 47 16) = 0 then
    some ((-3), s0)
  else
    f_X7_back_12 (fun s5 =>
      f_X7_back_38 (fun s13 =>
        gd (zib 0 4) <|
        nm (zUp s13 47 0 (s13 59 (zix 0))) fun s14 =>
        gd (zib 1 4) <|
        nm (zUp s14 47 8 (s14 59 (zix 1))) fun s15 =>
        gd (zib 2 4) <|
        nm (zUp s15 47 9 (s15 59 (zix 2))) fun s16 =>
        gd (zib 3 4) <|
        nm (zUp s16 47 15 (s16 59 (zix 3))) fun s17 =>
        some (s17 47 0, s17)) zN 0 s5) zN 0 s0
def f_X7_sheet_70   : Nat → Int32 → Int32 → zMem → Option (Int32 × zMem)
  | 0, _, _, _ => none
  | n + 1, x19, x20, s21 =>
    if 40 ≤ x20 then
      some (1, s21)
    else
      gd (zib ((40 * x19) + x20) 160) <|
      nm (zUp s21 62 (zix ((40 * x19) + x20)) 0) fun s22 =>
      nm (x20 + 1) fun x23 =>
      f_X7_sheet_70 n x19 x23 s22
def f_X7_sheet_66   (x14 : Int32) (t15 : Int32) (t16 : Int32) (s17 : zMem) : Option (Int32 × zMem) :=
  gd (zib t16 4) <|
  nm (zUp s17 61 (zix t16) t15) fun s18 =>
  f_X7_sheet_70 zN x14 0 s18
def f_X7_sheet_44   (x9 : Int32) (x10 : Int32) (x11 : Int32) (s12 : zMem) : Option (Int32 × zMem) :=
  gd (zib x9 4) <|
  nm (zUp s12 60 (zix x9) x10) fun s13 =>
  if x10 = (-1) then
    f_X7_sheet_66 x9 0 x9 s13
  else
    f_X7_sheet_66 x9 x11 x9 s13
def f_X7_sheet_32   (x5 : Int32) (x6 : Int32) (x7 : Int32) (s8 : zMem) : Option (Int32 × zMem) :=
  if x6 = (-1) then
    f_X7_sheet_44 x5 x6 x7 s8
  else
    if 0 ≤ x7 then
      f_X7_sheet_44 x5 x6 x7 s8
    else
      some ((-14), s8)
def f_X7_sheet  (p1 : Int32) (p2 : Int32) (p3 : Int32) (s0 : zMem) : Option (Int32 × zMem) :=
  bd (f_X7_in p1 0 3 s0) fun r1 s2 =>
  if r1 = 0 then
    some ((-2), s2)
  else
    bd (f_X7_in p2 (-1) 2 s2) fun r3 s4 =>
    if r3 = 0 then
      some ((-2), s4)
    else
      if p2 = (-1) then
        f_X7_sheet_32 p1 p2 p3 s4
      else
        if p3 ≤ 40 then
          f_X7_sheet_32 p1 p2 p3 s4
        else
          some ((-2), s4)
def f_X7_cell  (p1 : Int32) (p2 : Int32) (p3 : Int32) (s0 : zMem) : Option (Int32 × zMem) :=
  bd (f_X7_in p1 0 3 s0) fun r1 s2 =>
  if r1 = 0 then
    some ((-2), s2)
  else
    gd (zib p1 4) <|
    if (s2 60 (zix p1)) = (-1) then
      some ((-11), s2)
    else
      gd (zib p1 4) <|
      bd (f_X7_in p2 0 ((s2 61 (zix p1)) - 1) s2) fun r3 s4 =>
      if r3 = 0 then
        some ((-12), s4)
      else
        gd (zib p1 4) <|
        if (s4 60 (zix p1)) = 0 then
          gd (zib ((40 * p1) + p2) 160) <|
          nm (zUp s4 62 (zix ((40 * p1) + p2)) p3.toInt8.toInt32) fun s7 =>
          some (1, s7)
        else
          gd (zib p1 4) <|
          if (s4 60 (zix p1)) = 1 then
            gd (zib ((40 * p1) + p2) 160) <|
            nm (zUp s4 62 (zix ((40 * p1) + p2)) p3.toInt16.toInt32) fun s6 =>
            some (1, s6)
          else
            gd (zib ((40 * p1) + p2) 160) <|
            nm (zUp s4 62 (zix ((40 * p1) + p2)) p3) fun s5 =>
            some (1, s5)
def f_X7_copy_173  (c147 : Int32 → Int32 → Int32 → Int32 → zMem → Option (Int32 × zMem)) (x12 : Int32) (x13 : Int32) (x14 : Int32) (x15 : Int32) (t16 : Int32) (s17 : zMem) : Option (Int32 × zMem) :=
  gd (zib (x13 + t16) 160) <|
  gd (zib (x14 + t16) 160) <|
  nm (zUp s17 62 (zix (x14 + t16)) (s17 62 (zix (x13 + t16)))) fun s18 =>
  nm (x15 + 1) fun x19 =>
  c147 x12 x13 x14 x19 s18
def f_X7_copy_147   : Nat → Int32 → Int32 → Int32 → Int32 → zMem → Option (Int32 × zMem)
  | 0, _, _, _, _, _ => none
  | n + 1, x7, x8, x9, x10, s11 =>
    if x7 ≤ x10 then
      some (x7, s11)
    else
      if x9 ≤ x8 then
        f_X7_copy_173 (fun x20 x21 x22 x23 s24 =>
          f_X7_copy_147 n x20 x21 x22 x23 s24) x7 x8 x9 x10 x10 s11
      else
        f_X7_copy_173 (fun x25 x26 x27 x28 s29 =>
          f_X7_copy_147 n x25 x26 x27 x28 s29) x7 x8 x9 x10 ((x7 - 1) - x10) s11
def f_X7_copy  (p1 : Int32) (p2 : Int32) (p3 : Int32) (p4 : Int32) (p5 : Int32) (s0 : zMem) : Option (Int32 × zMem) :=
  bd (f_X7_in p1 0 3 s0) fun r1 s2 =>
  if r1 = 0 then
    some ((-2), s2)
  else
    bd (f_X7_in p3 0 3 s2) fun r3 s4 =>
    if r3 = 0 then
      some ((-2), s4)
    else
      gd (zib p1 4) <|
      if (s4 60 (zix p1)) = (-1) then
        some ((-11), s4)
      else
        gd (zib p3 4) <|
        if (s4 60 (zix p3)) = (-1) then
          some ((-11), s4)
        else
          gd (zib p1 4) <|
          gd (zib p3 4) <|
          if (s4 60 (zix p1)) = (s4 60 (zix p3)) then
            if p5 < 0 then
              some ((-12), s4)
            else
              if p2 < 0 then
                some ((-12), s4)
              else
                if p4 < 0 then
                  some ((-12), s4)
                else
                  gd (zib p1 4) <|
                  if (s4 61 (zix p1)) < p2 then
                    some ((-12), s4)
                  else
                    gd (zib p3 4) <|
                    if (s4 61 (zix p3)) < p4 then
                      some ((-12), s4)
                    else
                      gd (zib p1 4) <|
                      if ((s4 61 (zix p1)) - p2) < p5 then
                        some ((-12), s4)
                      else
                        gd (zib p3 4) <|
                        if p5 ≤ ((s4 61 (zix p3)) - p4) then
                          nm ((40 * p1) + p2) fun x5 =>
                          nm ((40 * p3) + p4) fun x6 =>
                          f_X7_copy_147 zN p5 x5 x6 0 s4
                        else
                          some ((-12), s4)
          else
            some ((-13), s4)
def f_X7_hutsBy_64   : Nat → Int32 → Int32 → Int32 → Int32 → Int32 → zMem → Option (Int32 × zMem)
  | 0, _, _, _, _, _, _ => none
  | n + 1, x7, x8, x9, x10, x11, s12 =>
    if x9 ≤ x11 then
      some (x10, s12)
    else
      nm (x8 + (2 * x11)) fun x13 =>
      if x8 < 0 then
        some ((-12), s12)
      else
        if x13 < x8 then
          some ((-12), s12)
        else
          gd (zib x7 4) <|
          if x13 ≤ ((s12 61 (zix x7)) - 2) then
            nm ((40 * x7) + x13) fun x14 =>
            gd (zib x14 160) <|
            gd (zib (x14 + 1) 160) <|
            bd (f_X7_hut (s12 62 (zix x14)) (s12 62 (zix (x14 + 1))) s12) fun r15 s16 =>
            if r15 < 0 then
              nm (x10 + 0) fun x17 =>
              nm (x11 + 1) fun x18 =>
              f_X7_hutsBy_64 n x7 x8 x9 x17 x18 s16
            else
              nm (x10 + 1) fun x19 =>
              nm (x11 + 1) fun x20 =>
              f_X7_hutsBy_64 n x7 x8 x9 x19 x20 s16
          else
            some ((-12), s12)
def f_X7_hutsBy  (p1 : Int32) (p2 : Int32) (p3 : Int32) (p4 : Int32) (s0 : zMem) : Option (Int32 × zMem) :=
  bd (f_X7_in p1 0 3 s0) fun r1 s2 =>
  if r1 = 0 then
    some ((-2), s2)
  else
    bd (f_X7_in p2 0 2 s2) fun r3 s4 =>
    if r3 = 0 then
      some ((-2), s4)
    else
      bd (f_X7_in p4 0 6 s4) fun r5 s6 =>
      if r5 = 0 then
        some ((-2), s6)
      else
        gd (zib p1 4) <|
        if (s6 60 (zix p1)) = (-1) then
          some ((-11), s6)
        else
          gd (zib p1 4) <|
          if (s6 60 (zix p1)) = p2 then
            f_X7_hutsBy_64 zN p1 p3 p4 0 0 s6
          else
            some ((-13), s6)
def f_X7_isUnder  (p1 : Int32) (p2 : Int32) (s0 : zMem) : Option (Int32 × zMem) :=
  if p2 = 0 then
    some (1, s0)
  else
    if p1 = p2 then
      some (1, s0)
    else
      if p2 = 1 then
        if p1 = 3 then
          some (1, s0)
        else
          if p2 = 2 then
            if p1 = 4 then
              some (1, s0)
            else
              some (0, s0)
          else
            some (0, s0)
      else
        if p2 = 2 then
          if p1 = 4 then
            some (1, s0)
          else
            some (0, s0)
        else
          some (0, s0)
def f_X7_taken  (p1 : Int32) (p2 : Int32) (s0 : zMem) : Option (Int32 × zMem) :=
  bd (f_X7_in p2 0 6 s0) fun r1 s2 =>
  if r1 = 0 then
    some ((-2), s2)
  else
    bd (f_X7_in p1 0 11 s2) fun r3 s4 =>
    if r3 = 0 then
      some ((-12), s4)
    else
      if (zrem p1 6) < (s4 47 0) then
        if p1 < 6 then
          if 6 ≤ p2 then
            some ((-13), s4)
          else
            gd (zib p1 6) <|
            bd (f_X7_isUnder (s4 48 (zix p1)) p2 s4) fun r5 s6 =>
            if r5 = 0 then
              some ((-13), s6)
            else
              some (p1, s6)
        else
          if p2 = 6 then
            gd (zib (3 * (p1 - 6)) 18) <|
            some (s4 50 (zix (3 * (p1 - 6))), s4)
          else
            some ((-13), s4)
      else
        some ((-11), s4)
