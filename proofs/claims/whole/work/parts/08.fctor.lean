set_option maxRecDepth 20000 in
def f_X4_init  (s0 : zMem) : Option (Unit × zMem) :=
  nm (zNw s0 2) fun s1 =>
  nm (zNw s1 3) fun s2 =>
  nm (zNw s2 4) fun s3 =>
  some ((), s3)
set_option maxRecDepth 20000 in
def f_X2_init  (s0 : zMem) : Option (Unit × zMem) :=
  nm (zNw s0 6) fun s1 =>
  nm (zNw s1 7) fun s2 =>
  nm (zNw s2 8) fun s3 =>
  some ((), s3)
set_option maxRecDepth 20000 in
def f_X5_init_9  (s0 : zMem) : Option (Unit × zMem) :=
  nm (zNw s0 10) fun s1 =>
  nm (zNw s1 11) fun s2 =>
  nm (zNw s2 12) fun s3 =>
  nm (zNw s3 13) fun s4 =>
  nm (zNw s4 14) fun s5 =>
  nm (zNw s5 15) fun s6 =>
  nm (zNw s6 16) fun s7 =>
  nm (zNw s7 17) fun s8 =>
  nm (zNw s8 18) fun s9 =>
  nm (zNw s9 19) fun s10 =>
  some ((), s10)
set_option maxRecDepth 20000 in
def f_X5_init_20  (s0 : zMem) : Option (Unit × zMem) :=
  nm (zNw s0 21) fun s1 =>
  nm (zNw s1 22) fun s2 =>
  nm (zNw s2 23) fun s3 =>
  nm (zNw s3 24) fun s4 =>
  nm (zNw s4 25) fun s5 =>
  nm (zNw s5 26) fun s6 =>
  nm (zNw s6 27) fun s7 =>
  nm (zNw s7 28) fun s8 =>
  nm (zNw s8 29) fun s9 =>
  nm (zNw s9 30) fun s10 =>
  some ((), s10)
set_option maxRecDepth 20000 in
def f_X5_init_31  (s0 : zMem) : Option (Unit × zMem) :=
  nm (zNw s0 32) fun s1 =>
  nm (zNw s1 33) fun s2 =>
  nm (zNw s2 34) fun s3 =>
  nm (zNw s3 35) fun s4 =>
  nm (zNw s4 36) fun s5 =>
  nm (zNw s5 37) fun s6 =>
  nm (zNw s6 38) fun s7 =>
  nm (zNw s7 39) fun s8 =>
  nm (zNw s8 40) fun s9 =>
  nm (zNw s9 41) fun s10 =>
  some ((), s10)
set_option maxRecDepth 20000 in
def f_X3_init  (s0 : zMem) : Option (Unit × zMem) :=
  nm (zNw s0 43) fun s1 =>
  gd (zib 0 4) <|
  nm (zUp s1 43 (zix 0) (-1)) fun s2 =>
  gd (zib 1 4) <|
  nm (zUp s2 43 (zix 1) (-1)) fun s3 =>
  gd (zib 2 4) <|
  nm (zUp s3 43 (zix 2) (-1)) fun s4 =>
  gd (zib 3 4) <|
  nm (zUp s4 43 (zix 3) (-1)) fun s5 =>
  nm (zNw s5 44) fun s6 =>
  nm (zNw s6 45) fun s7 =>
  some ((), s7)
def f_X6_init_28  (c56 : zMem → Option (Unit × zMem)) : Nat → Int32 → zMem → Option (Unit × zMem)
  | 0, _, _ => none
  | n + 1, x5, s6 =>
    bd (f_J0_length_8abf5 0 s6) fun r7 s8 =>
    if r7 ≤ x5 then
      c56 s8
    else
      bd (f_J0_charAt_5068e 0 x5 s8) fun r9 s10 =>
      bd (f_X2_takeByte r9 s10) fun _ s12 =>
      nm (x5 + 1) fun x13 =>
      f_X6_init_28 c56 n x13 s12
set_option maxRecDepth 20000 in
def f_X6_init  (s0 : zMem) : Option (Unit × zMem) :=
  nm (zNw s0 1) fun s1 =>
  bd (f_X4_init s1) fun _ s2 =>
  nm (zNw s2 5) fun s3 =>
  bd (f_X2_init s3) fun _ s4 =>
  f_X6_init_28 (fun s14 =>
    bd (f_X2_readText s14) fun r15 s16 =>
    bd (f_X4_keep s16) fun r17 s18 =>
    bd (f_X2_clear s18) fun _ s20 =>
    nm (zNw s20 9) fun s21 =>
    bd (f_X5_init_9 s21) fun _ s22 =>
    nm (zNw s22 20) fun s23 =>
    bd (f_X5_init_20 s23) fun _ s24 =>
    nm (zNw s24 31) fun s25 =>
    bd (f_X5_init_31 s25) fun _ s26 =>
    nm (zNw s26 42) fun s27 =>
    bd (f_X3_init s27) fun _ s28 =>
    nm (zNw s28 46) fun s29 =>
    nm (zUp s29 0 7 0) fun s30 =>
    some ((), s30)) zN 0 s4
def f_X7_init_1016  (c1040 : zMem → Option (Unit × zMem)) : Nat → Int32 → zMem → Option (Unit × zMem)
  | 0, _, _ => none
  | n + 1, x165, s166 =>
    if 42 ≤ x165 then
      c1040 s166
    else
      gd (zib x165 42) <|
      gd (zib x165 160) <|
      nm (zUp s166 55 (zix x165) (s166 63 (zix x165))) fun s167 =>
      nm (x165 + 1) fun x168 =>
      f_X7_init_1016 c1040 n x168 s167
set_option maxRecDepth 20000 in
def f_X7_init  (s0 : zMem) : Option (Unit × zMem) :=
  nm (zNw s0 48) fun s1 =>
  nm (zNw s1 49) fun s2 =>
  nm (zNw s2 50) fun s3 =>
  nm (zNw s3 51) fun s4 =>
  nm (zNw s4 52) fun s5 =>
  nm (zNw s5 53) fun s6 =>
  nm (zNw s6 54) fun s7 =>
  nm (zNw s7 55) fun s8 =>
  nm (zNw s8 56) fun s9 =>
  nm (zNw s9 57) fun s10 =>
  nm (zNw s10 58) fun s11 =>
  nm (zNw s11 59) fun s12 =>
  nm (zNw s12 60) fun s13 =>
  gd (zib 0 4) <|
  nm (zUp s13 60 (zix 0) (-1)) fun s14 =>
  gd (zib 1 4) <|
  nm (zUp s14 60 (zix 1) (-1)) fun s15 =>
  gd (zib 2 4) <|
  nm (zUp s15 60 (zix 2) (-1)) fun s16 =>
  gd (zib 3 4) <|
  nm (zUp s16 60 (zix 3) (-1)) fun s17 =>
  nm (zNw s17 61) fun s18 =>
  nm (zNw s18 62) fun s19 =>
  nm (zNw s19 63) fun s20 =>
  gd (zib 0 42) <|
  nm (zUp s20 63 (zix 0) 103) fun s21 =>
  gd (zib 1 42) <|
  nm (zUp s21 63 (zix 1) 114) fun s22 =>
  gd (zib 2 42) <|
  nm (zUp s22 63 (zix 2) 111) fun s23 =>
  gd (zib 3 42) <|
  nm (zUp s23 63 (zix 3) 119) fun s24 =>
  gd (zib 4 42) <|
  nm (zUp s24 63 (zix 4) 115) fun s25 =>
  gd (zib 5 42) <|
  nm (zUp s25 63 (zix 5) 32) fun s26 =>
  gd (zib 6 42) <|
  nm (zUp s26 63 (zix 6) 49) fun s27 =>
  gd (zib 7 42) <|
  nm (zUp s27 63 (zix 7) 32) fun s28 =>
  gd (zib 8 42) <|
  nm (zUp s28 63 (zix 8) 43) fun s29 =>
  gd (zib 9 42) <|
  nm (zUp s29 63 (zix 9) 32) fun s30 =>
  gd (zib 10 42) <|
  nm (zUp s30 63 (zix 10) 99) fun s31 =>
  gd (zib 11 42) <|
  nm (zUp s31 63 (zix 11) 111) fun s32 =>
  gd (zib 12 42) <|
  nm (zUp s32 63 (zix 12) 97) fun s33 =>
  gd (zib 13 42) <|
  nm (zUp s33 63 (zix 13) 108) fun s34 =>
  gd (zib 14 42) <|
  nm (zUp s34 63 (zix 14) 32) fun s35 =>
  gd (zib 15 42) <|
  nm (zUp s35 63 (zix 15) 60) fun s36 =>
  gd (zib 16 42) <|
  nm (zUp s36 63 (zix 16) 32) fun s37 =>
  gd (zib 17 42) <|
  nm (zUp s37 63 (zix 17) 57) fun s38 =>
  gd (zib 18 42) <|
  nm (zUp s38 63 (zix 18) 57) fun s39 =>
  gd (zib 19 42) <|
  nm (zUp s39 63 (zix 19) 32) fun s40 =>
  gd (zib 20 42) <|
  nm (zUp s40 63 (zix 20) 59) fun s41 =>
  gd (zib 21 42) <|
  nm (zUp s41 63 (zix 21) 32) fun s42 =>
  gd (zib 22 42) <|
  nm (zUp s42 63 (zix 22) 99) fun s43 =>
  gd (zib 23 42) <|
  nm (zUp s43 63 (zix 23) 111) fun s44 =>
  gd (zib 24 42) <|
  nm (zUp s44 63 (zix 24) 111) fun s45 =>
  gd (zib 25 42) <|
  nm (zUp s45 63 (zix 25) 108) fun s46 =>
  gd (zib 26 42) <|
  nm (zUp s46 63 (zix 26) 115) fun s47 =>
  gd (zib 27 42) <|
  nm (zUp s47 63 (zix 27) 32) fun s48 =>
  gd (zib 28 42) <|
  nm (zUp s48 63 (zix 28) 50) fun s49 =>
  gd (zib 29 42) <|
  nm (zUp s49 63 (zix 29) 32) fun s50 =>
  gd (zib 30 42) <|
  nm (zUp s50 63 (zix 30) 59) fun s51 =>
  gd (zib 31 42) <|
  nm (zUp s51 63 (zix 31) 32) fun s52 =>
  gd (zib 32 42) <|
  nm (zUp s52 63 (zix 32) 98) fun s53 =>
  gd (zib 33 42) <|
  nm (zUp s53 63 (zix 33) 117) fun s54 =>
  gd (zib 34 42) <|
  nm (zUp s54 63 (zix 34) 114) fun s55 =>
  gd (zib 35 42) <|
  nm (zUp s55 63 (zix 35) 110) fun s56 =>
  gd (zib 36 42) <|
  nm (zUp s56 63 (zix 36) 115) fun s57 =>
  gd (zib 37 42) <|
  nm (zUp s57 63 (zix 37) 32) fun s58 =>
  gd (zib 38 42) <|
  nm (zUp s58 63 (zix 38) 49) fun s59 =>
  gd (zib 39 42) <|
  nm (zUp s59 63 (zix 39) 48) fun s60 =>
  gd (zib 40 42) <|
  nm (zUp s60 63 (zix 40) 32) fun s61 =>
  gd (zib 41 42) <|
  nm (zUp s61 63 (zix 41) 59) fun s62 =>
  nm (zNw s62 64) fun s63 =>
  gd (zib 0 96) <|
  nm (zUp s63 64 (zix 0) 103) fun s64 =>
  gd (zib 1 96) <|
  nm (zUp s64 64 (zix 1) 114) fun s65 =>
  gd (zib 2 96) <|
  nm (zUp s65 64 (zix 2) 111) fun s66 =>
  gd (zib 3 96) <|
  nm (zUp s66 64 (zix 3) 119) fun s67 =>
  gd (zib 4 96) <|
  nm (zUp s67 64 (zix 4) 115) fun s68 =>
  gd (zib 5 96) <|
  nm (zUp s68 64 (zix 5) 32) fun s69 =>
  gd (zib 6 96) <|
  nm (zUp s69 64 (zix 6) 32) fun s70 =>
  gd (zib 7 96) <|
  nm (zUp s70 64 (zix 7) 32) fun s71 =>
  gd (zib 8 96) <|
  nm (zUp s71 64 (zix 8) 99) fun s72 =>
  gd (zib 9 96) <|
  nm (zUp s72 64 (zix 9) 111) fun s73 =>
  gd (zib 10 96) <|
  nm (zUp s73 64 (zix 10) 111) fun s74 =>
  gd (zib 11 96) <|
  nm (zUp s74 64 (zix 11) 108) fun s75 =>
  gd (zib 12 96) <|
  nm (zUp s75 64 (zix 12) 115) fun s76 =>
  gd (zib 13 96) <|
  nm (zUp s76 64 (zix 13) 32) fun s77 =>
  gd (zib 14 96) <|
  nm (zUp s77 64 (zix 14) 32) fun s78 =>
  gd (zib 15 96) <|
  nm (zUp s78 64 (zix 15) 32) fun s79 =>
  gd (zib 16 96) <|
  nm (zUp s79 64 (zix 16) 98) fun s80 =>
  gd (zib 17 96) <|
  nm (zUp s80 64 (zix 17) 117) fun s81 =>
  gd (zib 18 96) <|
  nm (zUp s81 64 (zix 18) 114) fun s82 =>
  gd (zib 19 96) <|
  nm (zUp s82 64 (zix 19) 110) fun s83 =>
  gd (zib 20 96) <|
  nm (zUp s83 64 (zix 20) 115) fun s84 =>
  gd (zib 21 96) <|
  nm (zUp s84 64 (zix 21) 32) fun s85 =>
  gd (zib 22 96) <|
  nm (zUp s85 64 (zix 22) 32) fun s86 =>
  gd (zib 23 96) <|
  nm (zUp s86 64 (zix 23) 32) fun s87 =>
  gd (zib 24 96) <|
  nm (zUp s87 64 (zix 24) 104) fun s88 =>
  gd (zib 25 96) <|
  nm (zUp s88 64 (zix 25) 101) fun s89 =>
  gd (zib 26 96) <|
  nm (zUp s89 64 (zix 26) 97) fun s90 =>
  gd (zib 27 96) <|
  nm (zUp s90 64 (zix 27) 116) fun s91 =>
  gd (zib 28 96) <|
  nm (zUp s91 64 (zix 28) 32) fun s92 =>
  gd (zib 29 96) <|
  nm (zUp s92 64 (zix 29) 32) fun s93 =>
  gd (zib 30 96) <|
  nm (zUp s93 64 (zix 30) 32) fun s94 =>
  gd (zib 31 96) <|
  nm (zUp s94 64 (zix 31) 32) fun s95 =>
  gd (zib 32 96) <|
  nm (zUp s95 64 (zix 32) 119) fun s96 =>
  gd (zib 33 96) <|
  nm (zUp s96 64 (zix 33) 111) fun s97 =>
  gd (zib 34 96) <|
  nm (zUp s97 64 (zix 34) 111) fun s98 =>
  gd (zib 35 96) <|
  nm (zUp s98 64 (zix 35) 100) fun s99 =>
  gd (zib 36 96) <|
  nm (zUp s99 64 (zix 36) 32) fun s100 =>
  gd (zib 37 96) <|
  nm (zUp s100 64 (zix 37) 32) fun s101 =>
  gd (zib 38 96) <|
  nm (zUp s101 64 (zix 38) 32) fun s102 =>
  gd (zib 39 96) <|
  nm (zUp s102 64 (zix 39) 32) fun s103 =>
  gd (zib 40 96) <|
  nm (zUp s103 64 (zix 40) 110) fun s104 =>
  gd (zib 41 96) <|
  nm (zUp s104 64 (zix 41) 105) fun s105 =>
  gd (zib 42 96) <|
  nm (zUp s105 64 (zix 42) 103) fun s106 =>
  gd (zib 43 96) <|
  nm (zUp s106 64 (zix 43) 104) fun s107 =>
  gd (zib 44 96) <|
  nm (zUp s107 64 (zix 44) 116) fun s108 =>
  gd (zib 45 96) <|
  nm (zUp s108 64 (zix 45) 32) fun s109 =>
  gd (zib 46 96) <|
  nm (zUp s109 64 (zix 46) 32) fun s110 =>
  gd (zib 47 96) <|
  nm (zUp s110 64 (zix 47) 32) fun s111 =>
  gd (zib 48 96) <|
  nm (zUp s111 64 (zix 48) 99) fun s112 =>
  gd (zib 49 96) <|
  nm (zUp s112 64 (zix 49) 111) fun s113 =>
  gd (zib 50 96) <|
  nm (zUp s113 64 (zix 50) 97) fun s114 =>
  gd (zib 51 96) <|
  nm (zUp s114 64 (zix 51) 108) fun s115 =>
  gd (zib 52 96) <|
  nm (zUp s115 64 (zix 52) 32) fun s116 =>
  gd (zib 53 96) <|
  nm (zUp s116 64 (zix 53) 32) fun s117 =>
  gd (zib 54 96) <|
  nm (zUp s117 64 (zix 54) 32) fun s118 =>
  gd (zib 55 96) <|
  nm (zUp s118 64 (zix 55) 32) fun s119 =>
  gd (zib 56 96) <|
  nm (zUp s119 64 (zix 56) 111) fun s120 =>
  gd (zib 57 96) <|
  nm (zUp s120 64 (zix 57) 119) fun s121 =>
  gd (zib 58 96) <|
  nm (zUp s121 64 (zix 58) 101) fun s122 =>
  gd (zib 59 96) <|
  nm (zUp s122 64 (zix 59) 100) fun s123 =>
  gd (zib 60 96) <|
  nm (zUp s123 64 (zix 60) 32) fun s124 =>
  gd (zib 61 96) <|
  nm (zUp s124 64 (zix 61) 32) fun s125 =>
  gd (zib 62 96) <|
  nm (zUp s125 64 (zix 62) 32) fun s126 =>
  gd (zib 63 96) <|
  nm (zUp s126 64 (zix 63) 32) fun s127 =>
  gd (zib 64 96) <|
  nm (zUp s127 64 (zix 64) 109) fun s128 =>
  gd (zib 65 96) <|
  nm (zUp s128 64 (zix 65) 111) fun s129 =>
  gd (zib 66 96) <|
  nm (zUp s129 64 (zix 66) 114) fun s130 =>
  gd (zib 67 96) <|
  nm (zUp s130 64 (zix 67) 101) fun s131 =>
  gd (zib 68 96) <|
  nm (zUp s131 64 (zix 68) 32) fun s132 =>
  gd (zib 69 96) <|
  nm (zUp s132 64 (zix 69) 32) fun s133 =>
  gd (zib 70 96) <|
  nm (zUp s133 64 (zix 70) 32) fun s134 =>
  gd (zib 71 96) <|
  nm (zUp s134 64 (zix 71) 32) fun s135 =>
  gd (zib 72 96) <|
  nm (zUp s135 64 (zix 72) 111) fun s136 =>
  gd (zib 73 96) <|
  nm (zUp s136 64 (zix 73) 114) fun s137 =>
  gd (zib 74 96) <|
  nm (zUp s137 64 (zix 74) 32) fun s138 =>
  gd (zib 75 96) <|
  nm (zUp s138 64 (zix 75) 32) fun s139 =>
  gd (zib 76 96) <|
  nm (zUp s139 64 (zix 76) 32) fun s140 =>
  gd (zib 77 96) <|
  nm (zUp s140 64 (zix 77) 32) fun s141 =>
  gd (zib 78 96) <|
  nm (zUp s141 64 (zix 78) 32) fun s142 =>
  gd (zib 79 96) <|
  nm (zUp s142 64 (zix 79) 32) fun s143 =>
  gd (zib 80 96) <|
  nm (zUp s143 64 (zix 80) 97) fun s144 =>
  gd (zib 81 96) <|
  nm (zUp s144 64 (zix 81) 110) fun s145 =>
  gd (zib 82 96) <|
  nm (zUp s145 64 (zix 82) 100) fun s146 =>
  gd (zib 83 96) <|
  nm (zUp s146 64 (zix 83) 32) fun s147 =>
  gd (zib 84 96) <|
  nm (zUp s147 64 (zix 84) 32) fun s148 =>
  gd (zib 85 96) <|
  nm (zUp s148 64 (zix 85) 32) fun s149 =>
  gd (zib 86 96) <|
  nm (zUp s149 64 (zix 86) 32) fun s150 =>
  gd (zib 87 96) <|
  nm (zUp s150 64 (zix 87) 32) fun s151 =>
  gd (zib 88 96) <|
  nm (zUp s151 64 (zix 88) 110) fun s152 =>
  gd (zib 89 96) <|
  nm (zUp s152 64 (zix 89) 111) fun s153 =>
  gd (zib 90 96) <|
  nm (zUp s153 64 (zix 90) 116) fun s154 =>
  gd (zib 91 96) <|
  nm (zUp s154 64 (zix 91) 32) fun s155 =>
  gd (zib 92 96) <|
  nm (zUp s155 64 (zix 92) 32) fun s156 =>
  gd (zib 93 96) <|
  nm (zUp s156 64 (zix 93) 32) fun s157 =>
  gd (zib 94 96) <|
  nm (zUp s157 64 (zix 94) 32) fun s158 =>
  gd (zib 95 96) <|
  nm (zUp s158 64 (zix 95) 32) fun s159 =>
  nm (zNw s159 65) fun s160 =>
  nm (zNw s160 66) fun s161 =>
  nm (zNw s161 67) fun s162 =>
  nm (zNw s162 68) fun s163 =>
  nm (zNw s163 69) fun s164 =>
  f_X7_init_1016 (fun s169 =>
    nm (zUp s169 47 11 42) fun s170 =>
    bd (f_X7_text s170) fun r171 s172 =>
    some ((), s172)) zN 0 s164
def f_law_18 (xs : Nat → Int32) (L9 : Nat)  : Nat → Int32 → zMem → Option (Int32 × zMem)
  | 0, _, _ => none
  | n + 1, x5, s6 =>
    if ((nI L9) - 7) < x5 then
      some (1, s6)
    else
      gd (zib x5 L9) <|
      nm ((xs (zix x5)) &&& 63) fun x7 =>
      if x7 = 0 then
        gd (zib (x5 + 1) L9) <|
        bd (f_X6_count (xs (zix (x5 + 1))) s6) fun r8 s9 =>
        gd (zib (x5 + 1) L9) <|
        bd (f_X7_count (xs (zix (x5 + 1))) s9) fun r10 s11 =>
        if r8 = r10 then
          nm (x5 + 7) fun x12 =>
          f_law_18 xs L9 n x12 s11
        else
          some (0, s11)
      else if x7 = 1 then
        gd (zib (x5 + 1) L9) <|
        gd (zib (x5 + 2) L9) <|
        gd (zib (x5 + 3) L9) <|
        gd (zib (x5 + 4) L9) <|
        gd (zib (x5 + 5) L9) <|
        gd (zib (x5 + 6) L9) <|
        bd (f_X6_feed (xs (zix (x5 + 1))) (xs (zix (x5 + 2))) (xs (zix (x5 + 3))) (xs (zix (x5 + 4))) (xs (zix (x5 + 5))) (xs (zix (x5 + 6))) s6) fun r13 s14 =>
        gd (zib (x5 + 1) L9) <|
        gd (zib (x5 + 2) L9) <|
        gd (zib (x5 + 3) L9) <|
        gd (zib (x5 + 4) L9) <|
        gd (zib (x5 + 5) L9) <|
        gd (zib (x5 + 6) L9) <|
        bd (f_X7_feed (xs (zix (x5 + 1))) (xs (zix (x5 + 2))) (xs (zix (x5 + 3))) (xs (zix (x5 + 4))) (xs (zix (x5 + 5))) (xs (zix (x5 + 6))) s14) fun r15 s16 =>
        if r13 = r15 then
          nm (x5 + 7) fun x17 =>
          f_law_18 xs L9 n x17 s16
        else
          some (0, s16)
      else if x7 = 2 then
        bd (f_X6_text s6) fun r18 s19 =>
        bd (f_X7_text s19) fun r20 s21 =>
        if r18 = r20 then
          nm (x5 + 7) fun x22 =>
          f_law_18 xs L9 n x22 s21
        else
          some (0, s21)
      else if x7 = 3 then
        gd (zib (x5 + 1) L9) <|
        bd (f_X6_force (xs (zix (x5 + 1))) s6) fun r23 s24 =>
        gd (zib (x5 + 1) L9) <|
        bd (f_X7_force (xs (zix (x5 + 1))) s24) fun r25 s26 =>
        if r23 = r25 then
          nm (x5 + 7) fun x27 =>
          f_law_18 xs L9 n x27 s26
        else
          some (0, s26)
      else if x7 = 4 then
        gd (zib (x5 + 1) L9) <|
        gd (zib (x5 + 2) L9) <|
        gd (zib (x5 + 3) L9) <|
        bd (f_X6_asks (xs (zix (x5 + 1))) (xs (zix (x5 + 2))) (xs (zix (x5 + 3))) s6) fun r28 s29 =>
        gd (zib (x5 + 1) L9) <|
        gd (zib (x5 + 2) L9) <|
        gd (zib (x5 + 3) L9) <|
        bd (f_X7_asks (xs (zix (x5 + 1))) (xs (zix (x5 + 2))) (xs (zix (x5 + 3))) s29) fun r30 s31 =>
        if r28 = r30 then
          nm (x5 + 7) fun x32 =>
          f_law_18 xs L9 n x32 s31
        else
          some (0, s31)
      else if x7 = 5 then
        gd (zib (x5 + 1) L9) <|
        gd (zib (x5 + 2) L9) <|
        bd (f_X6_hut (xs (zix (x5 + 1))) (xs (zix (x5 + 2))) s6) fun r33 s34 =>
        gd (zib (x5 + 1) L9) <|
        gd (zib (x5 + 2) L9) <|
        bd (f_X7_hut (xs (zix (x5 + 1))) (xs (zix (x5 + 2))) s34) fun r35 s36 =>
        if r33 = r35 then
          nm (x5 + 7) fun x37 =>
          f_law_18 xs L9 n x37 s36
        else
          some (0, s36)
      else if x7 = 6 then
        gd (zib (x5 + 1) L9) <|
        gd (zib (x5 + 2) L9) <|
        gd (zib (x5 + 3) L9) <|
        bd (f_X6_put (xs (zix (x5 + 1))) (xs (zix (x5 + 2))) (xs (zix (x5 + 3))) s6) fun r38 s39 =>
        gd (zib (x5 + 1) L9) <|
        gd (zib (x5 + 2) L9) <|
        gd (zib (x5 + 3) L9) <|
        bd (f_X7_put (xs (zix (x5 + 1))) (xs (zix (x5 + 2))) (xs (zix (x5 + 3))) s39) fun r40 s41 =>
        if r38 = r40 then
          nm (x5 + 7) fun x42 =>
          f_law_18 xs L9 n x42 s41
        else
          some (0, s41)
      else if x7 = 7 then
        gd (zib (x5 + 1) L9) <|
        gd (zib (x5 + 2) L9) <|
        bd (f_X6_told (xs (zix (x5 + 1))) (xs (zix (x5 + 2))) s6) fun r43 s44 =>
        gd (zib (x5 + 1) L9) <|
        gd (zib (x5 + 2) L9) <|
        bd (f_X7_told (xs (zix (x5 + 1))) (xs (zix (x5 + 2))) s44) fun r45 s46 =>
        if r43 = r45 then
          nm (x5 + 7) fun x47 =>
          f_law_18 xs L9 n x47 s46
        else
          some (0, s46)
      else if x7 = 8 then
        gd (zib (x5 + 1) L9) <|
        gd (zib (x5 + 2) L9) <|
        bd (f_X6_lend (xs (zix (x5 + 1))) (xs (zix (x5 + 2))) s6) fun r48 s49 =>
        gd (zib (x5 + 1) L9) <|
        gd (zib (x5 + 2) L9) <|
        bd (f_X7_lend (xs (zix (x5 + 1))) (xs (zix (x5 + 2))) s49) fun r50 s51 =>
        if r48 = r50 then
          nm (x5 + 7) fun x52 =>
          f_law_18 xs L9 n x52 s51
        else
          some (0, s51)
      else if x7 = 9 then
        gd (zib (x5 + 1) L9) <|
        gd (zib (x5 + 2) L9) <|
        bd (f_X6_loan (xs (zix (x5 + 1))) (xs (zix (x5 + 2))) s6) fun r53 s54 =>
        gd (zib (x5 + 1) L9) <|
        gd (zib (x5 + 2) L9) <|
        bd (f_X7_loan (xs (zix (x5 + 1))) (xs (zix (x5 + 2))) s54) fun r55 s56 =>
        if r53 = r55 then
          nm (x5 + 7) fun x57 =>
          f_law_18 xs L9 n x57 s56
        else
          some (0, s56)
      else if x7 = 10 then
        gd (zib (x5 + 1) L9) <|
        bd (f_X6_repay (xs (zix (x5 + 1))) s6) fun r58 s59 =>
        gd (zib (x5 + 1) L9) <|
        bd (f_X7_repay (xs (zix (x5 + 1))) s59) fun r60 s61 =>
        if r58 = r60 then
          nm (x5 + 7) fun x62 =>
          f_law_18 xs L9 n x62 s61
        else
          some (0, s61)
      else if x7 = 11 then
        gd (zib (x5 + 1) L9) <|
        bd (f_X6_forgive (xs (zix (x5 + 1))) s6) fun r63 s64 =>
        gd (zib (x5 + 1) L9) <|
        bd (f_X7_forgive (xs (zix (x5 + 1))) s64) fun r65 s66 =>
        if r63 = r65 then
          nm (x5 + 7) fun x67 =>
          f_law_18 xs L9 n x67 s66
        else
          some (0, s66)
      else if x7 = 12 then
        bd (f_X6_night s6) fun r68 s69 =>
        bd (f_X7_night s69) fun r70 s71 =>
        if r68 = r70 then
          nm (x5 + 7) fun x72 =>
          f_law_18 xs L9 n x72 s71
        else
          some (0, s71)
      else if x7 = 13 then
        gd (zib (x5 + 1) L9) <|
        gd (zib (x5 + 2) L9) <|
        bd (f_X6_run (xs (zix (x5 + 1))) (xs (zix (x5 + 2))) s6) fun r73 s74 =>
        gd (zib (x5 + 1) L9) <|
        gd (zib (x5 + 2) L9) <|
        bd (f_X7_run (xs (zix (x5 + 1))) (xs (zix (x5 + 2))) s74) fun r75 s76 =>
        if r73 = r75 then
          nm (x5 + 7) fun x77 =>
          f_law_18 xs L9 n x77 s76
        else
          some (0, s76)
      else if x7 = 14 then
        gd (zib (x5 + 1) L9) <|
        gd (zib (x5 + 2) L9) <|
        bd (f_X6_lasts (xs (zix (x5 + 1))) (xs (zix (x5 + 2))) s6) fun r78 s79 =>
        gd (zib (x5 + 1) L9) <|
        gd (zib (x5 + 2) L9) <|
        bd (f_X7_lasts (xs (zix (x5 + 1))) (xs (zix (x5 + 2))) s79) fun r80 s81 =>
        if r78 = r80 then
          nm (x5 + 7) fun x82 =>
          f_law_18 xs L9 n x82 s81
        else
          some (0, s81)
      else if x7 = 15 then
        gd (zib (x5 + 1) L9) <|
        bd (f_X6_net (xs (zix (x5 + 1))) s6) fun r83 s84 =>
        gd (zib (x5 + 1) L9) <|
        bd (f_X7_net (xs (zix (x5 + 1))) s84) fun r85 s86 =>
        if r83 = r85 then
          nm (x5 + 7) fun x87 =>
          f_law_18 xs L9 n x87 s86
        else
          some (0, s86)
      else if x7 = 16 then
        gd (zib (x5 + 1) L9) <|
        bd (f_X6_settle (xs (zix (x5 + 1))) s6) fun r88 s89 =>
        gd (zib (x5 + 1) L9) <|
        bd (f_X7_settle (xs (zix (x5 + 1))) s89) fun r90 s91 =>
        if r88 = r90 then
          nm (x5 + 7) fun x92 =>
          f_law_18 xs L9 n x92 s91
        else
          some (0, s91)
      else if x7 = 17 then
        gd (zib (x5 + 1) L9) <|
        bd (f_X6_source (xs (zix (x5 + 1))) s6) fun r93 s94 =>
        gd (zib (x5 + 1) L9) <|
        bd (f_X7_source (xs (zix (x5 + 1))) s94) fun r95 s96 =>
        if r93 = r95 then
          nm (x5 + 7) fun x97 =>
          f_law_18 xs L9 n x97 s96
        else
          some (0, s96)
      else if x7 = 18 then
        gd (zib (x5 + 1) L9) <|
        bd (f_X6_rings (xs (zix (x5 + 1))) s6) fun r98 s99 =>
        gd (zib (x5 + 1) L9) <|
        bd (f_X7_rings (xs (zix (x5 + 1))) s99) fun r100 s101 =>
        if r98 = r100 then
          nm (x5 + 7) fun x102 =>
          f_law_18 xs L9 n x102 s101
        else
          some (0, s101)
      else if x7 = 19 then
        gd (zib (x5 + 1) L9) <|
        gd (zib (x5 + 2) L9) <|
        gd (zib (x5 + 3) L9) <|
        bd (f_X6_ask (xs (zix (x5 + 1))) (xs (zix (x5 + 2))) (xs (zix (x5 + 3))) s6) fun r103 s104 =>
        gd (zib (x5 + 1) L9) <|
        gd (zib (x5 + 2) L9) <|
        gd (zib (x5 + 3) L9) <|
        bd (f_X7_ask (xs (zix (x5 + 1))) (xs (zix (x5 + 2))) (xs (zix (x5 + 3))) s104) fun r105 s106 =>
        if r103 = r105 then
          nm (x5 + 7) fun x107 =>
          f_law_18 xs L9 n x107 s106
        else
          some (0, s106)
      else if x7 = 20 then
        gd (zib (x5 + 1) L9) <|
        gd (zib (x5 + 2) L9) <|
        bd (f_X6_needs (xs (zix (x5 + 1))) (xs (zix (x5 + 2))) s6) fun r108 s109 =>
        gd (zib (x5 + 1) L9) <|
        gd (zib (x5 + 2) L9) <|
        bd (f_X7_needs (xs (zix (x5 + 1))) (xs (zix (x5 + 2))) s109) fun r110 s111 =>
        if r108 = r110 then
          nm (x5 + 7) fun x112 =>
          f_law_18 xs L9 n x112 s111
        else
          some (0, s111)
      else if x7 = 21 then
        gd (zib (x5 + 1) L9) <|
        gd (zib (x5 + 2) L9) <|
        bd (f_X6_mercy (xs (zix (x5 + 1))) (xs (zix (x5 + 2))) s6) fun r113 s114 =>
        gd (zib (x5 + 1) L9) <|
        gd (zib (x5 + 2) L9) <|
        bd (f_X7_mercy (xs (zix (x5 + 1))) (xs (zix (x5 + 2))) s114) fun r115 s116 =>
        if r113 = r115 then
          nm (x5 + 7) fun x117 =>
          f_law_18 xs L9 n x117 s116
        else
          some (0, s116)
      else if x7 = 22 then
        gd (zib (x5 + 1) L9) <|
        gd (zib (x5 + 2) L9) <|
        bd (f_X6_worst (xs (zix (x5 + 1))) (xs (zix (x5 + 2))) s6) fun r118 s119 =>
        gd (zib (x5 + 1) L9) <|
        gd (zib (x5 + 2) L9) <|
        bd (f_X7_worst (xs (zix (x5 + 1))) (xs (zix (x5 + 2))) s119) fun r120 s121 =>
        if r118 = r120 then
          nm (x5 + 7) fun x122 =>
          f_law_18 xs L9 n x122 s121
        else
          some (0, s121)
      else if x7 = 23 then
        gd (zib (x5 + 1) L9) <|
        gd (zib (x5 + 2) L9) <|
        bd (f_X6_judge (xs (zix (x5 + 1))) (xs (zix (x5 + 2))) s6) fun r123 s124 =>
        gd (zib (x5 + 1) L9) <|
        gd (zib (x5 + 2) L9) <|
        bd (f_X7_judge (xs (zix (x5 + 1))) (xs (zix (x5 + 2))) s124) fun r125 s126 =>
        if r123 = r125 then
          nm (x5 + 7) fun x127 =>
          f_law_18 xs L9 n x127 s126
        else
          some (0, s126)
      else if x7 = 24 then
        gd (zib (x5 + 1) L9) <|
        gd (zib (x5 + 2) L9) <|
        gd (zib (x5 + 3) L9) <|
        bd (f_X6_kinds (xs (zix (x5 + 1))) (xs (zix (x5 + 2))) (xs (zix (x5 + 3))) s6) fun r128 s129 =>
        gd (zib (x5 + 1) L9) <|
        gd (zib (x5 + 2) L9) <|
        gd (zib (x5 + 3) L9) <|
        bd (f_X7_kinds (xs (zix (x5 + 1))) (xs (zix (x5 + 2))) (xs (zix (x5 + 3))) s129) fun r130 s131 =>
        if r128 = r130 then
          nm (x5 + 7) fun x132 =>
          f_law_18 xs L9 n x132 s131
        else
          some (0, s131)
      else if x7 = 25 then
        gd (zib (x5 + 1) L9) <|
        gd (zib (x5 + 2) L9) <|
        gd (zib (x5 + 3) L9) <|
        gd (zib (x5 + 4) L9) <|
        bd (f_X6_states (xs (zix (x5 + 1))) (xs (zix (x5 + 2))) (xs (zix (x5 + 3))) (xs (zix (x5 + 4))) s6) fun r133 s134 =>
        gd (zib (x5 + 1) L9) <|
        gd (zib (x5 + 2) L9) <|
        gd (zib (x5 + 3) L9) <|
        gd (zib (x5 + 4) L9) <|
        bd (f_X7_states (xs (zix (x5 + 1))) (xs (zix (x5 + 2))) (xs (zix (x5 + 3))) (xs (zix (x5 + 4))) s134) fun r135 s136 =>
        if r133 = r135 then
          nm (x5 + 7) fun x137 =>
          f_law_18 xs L9 n x137 s136
        else
          some (0, s136)
      else if x7 = 26 then
        gd (zib (x5 + 1) L9) <|
        bd (f_X6_whose (xs (zix (x5 + 1))) s6) fun r138 s139 =>
        gd (zib (x5 + 1) L9) <|
        bd (f_X7_whose (xs (zix (x5 + 1))) s139) fun r140 s141 =>
        if r138 = r140 then
          nm (x5 + 7) fun x142 =>
          f_law_18 xs L9 n x142 s141
        else
          some (0, s141)
      else if x7 = 27 then
        gd (zib (x5 + 1) L9) <|
        gd (zib (x5 + 2) L9) <|
        bd (f_X6_laws (xs (zix (x5 + 1))) (xs (zix (x5 + 2))) s6) fun r143 s144 =>
        gd (zib (x5 + 1) L9) <|
        gd (zib (x5 + 2) L9) <|
        bd (f_X7_laws (xs (zix (x5 + 1))) (xs (zix (x5 + 2))) s144) fun r145 s146 =>
        if r143 = r145 then
          nm (x5 + 7) fun x147 =>
          f_law_18 xs L9 n x147 s146
        else
          some (0, s146)
      else if x7 = 28 then
        gd (zib (x5 + 1) L9) <|
        gd (zib (x5 + 2) L9) <|
        gd (zib (x5 + 3) L9) <|
        bd (f_X6_film (xs (zix (x5 + 1))) (xs (zix (x5 + 2))) (xs (zix (x5 + 3))) s6) fun r148 s149 =>
        gd (zib (x5 + 1) L9) <|
        gd (zib (x5 + 2) L9) <|
        gd (zib (x5 + 3) L9) <|
        bd (f_X7_film (xs (zix (x5 + 1))) (xs (zix (x5 + 2))) (xs (zix (x5 + 3))) s149) fun r150 s151 =>
        if r148 = r150 then
          nm (x5 + 7) fun x152 =>
          f_law_18 xs L9 n x152 s151
        else
          some (0, s151)
      else if x7 = 29 then
        gd (zib (x5 + 1) L9) <|
        gd (zib (x5 + 2) L9) <|
        gd (zib (x5 + 3) L9) <|
        bd (f_X6_drawn (xs (zix (x5 + 1))) (xs (zix (x5 + 2))) (xs (zix (x5 + 3))) s6) fun r153 s154 =>
        gd (zib (x5 + 1) L9) <|
        gd (zib (x5 + 2) L9) <|
        gd (zib (x5 + 3) L9) <|
        bd (f_X7_drawn (xs (zix (x5 + 1))) (xs (zix (x5 + 2))) (xs (zix (x5 + 3))) s154) fun r155 s156 =>
        if r153 = r155 then
          nm (x5 + 7) fun x157 =>
          f_law_18 xs L9 n x157 s156
        else
          some (0, s156)
      else if x7 = 30 then
        gd (zib (x5 + 1) L9) <|
        gd (zib (x5 + 2) L9) <|
        gd (zib (x5 + 3) L9) <|
        gd (zib (x5 + 4) L9) <|
        gd (zib (x5 + 5) L9) <|
        bd (f_X6_odds (xs (zix (x5 + 1))) (xs (zix (x5 + 2))) (xs (zix (x5 + 3))) (xs (zix (x5 + 4))) (xs (zix (x5 + 5))) s6) fun r158 s159 =>
        gd (zib (x5 + 1) L9) <|
        gd (zib (x5 + 2) L9) <|
        gd (zib (x5 + 3) L9) <|
        gd (zib (x5 + 4) L9) <|
        gd (zib (x5 + 5) L9) <|
        bd (f_X7_odds (xs (zix (x5 + 1))) (xs (zix (x5 + 2))) (xs (zix (x5 + 3))) (xs (zix (x5 + 4))) (xs (zix (x5 + 5))) s159) fun r160 s161 =>
        if (lg_cmp r158 r160) = 0 then
          nm (x5 + 7) fun x162 =>
          f_law_18 xs L9 n x162 s161
        else
          some (0, s161)
      else if x7 = 31 then
        bd (f_X6_image s6) fun r163 s164 =>
        bd (f_X7_image s164) fun r165 s166 =>
        if r163 = r165 then
          nm (x5 + 7) fun x167 =>
          f_law_18 xs L9 n x167 s166
        else
          some (0, s166)
      else if x7 = 32 then
        bd (f_X6_back s6) fun r168 s169 =>
        bd (f_X7_back s169) fun r170 s171 =>
        if r168 = r170 then
          nm (x5 + 7) fun x172 =>
          f_law_18 xs L9 n x172 s171
        else
          some (0, s171)
      else if x7 = 33 then
        gd (zib (x5 + 1) L9) <|
        gd (zib (x5 + 2) L9) <|
        gd (zib (x5 + 3) L9) <|
        bd (f_X6_sheet (xs (zix (x5 + 1))) (xs (zix (x5 + 2))) (xs (zix (x5 + 3))) s6) fun r173 s174 =>
        gd (zib (x5 + 1) L9) <|
        gd (zib (x5 + 2) L9) <|
        gd (zib (x5 + 3) L9) <|
        bd (f_X7_sheet (xs (zix (x5 + 1))) (xs (zix (x5 + 2))) (xs (zix (x5 + 3))) s174) fun r175 s176 =>
        if r173 = r175 then
          nm (x5 + 7) fun x177 =>
          f_law_18 xs L9 n x177 s176
        else
          some (0, s176)
      else if x7 = 34 then
        gd (zib (x5 + 1) L9) <|
        gd (zib (x5 + 2) L9) <|
        gd (zib (x5 + 3) L9) <|
        bd (f_X6_cell (xs (zix (x5 + 1))) (xs (zix (x5 + 2))) (xs (zix (x5 + 3))) s6) fun r178 s179 =>
        gd (zib (x5 + 1) L9) <|
        gd (zib (x5 + 2) L9) <|
        gd (zib (x5 + 3) L9) <|
        bd (f_X7_cell (xs (zix (x5 + 1))) (xs (zix (x5 + 2))) (xs (zix (x5 + 3))) s179) fun r180 s181 =>
        if r178 = r180 then
          nm (x5 + 7) fun x182 =>
          f_law_18 xs L9 n x182 s181
        else
          some (0, s181)
      else if x7 = 35 then
        gd (zib (x5 + 1) L9) <|
        gd (zib (x5 + 2) L9) <|
        gd (zib (x5 + 3) L9) <|
        gd (zib (x5 + 4) L9) <|
        gd (zib (x5 + 5) L9) <|
        bd (f_X6_copy (xs (zix (x5 + 1))) (xs (zix (x5 + 2))) (xs (zix (x5 + 3))) (xs (zix (x5 + 4))) (xs (zix (x5 + 5))) s6) fun r183 s184 =>
        gd (zib (x5 + 1) L9) <|
        gd (zib (x5 + 2) L9) <|
        gd (zib (x5 + 3) L9) <|
        gd (zib (x5 + 4) L9) <|
        gd (zib (x5 + 5) L9) <|
        bd (f_X7_copy (xs (zix (x5 + 1))) (xs (zix (x5 + 2))) (xs (zix (x5 + 3))) (xs (zix (x5 + 4))) (xs (zix (x5 + 5))) s184) fun r185 s186 =>
        if r183 = r185 then
          nm (x5 + 7) fun x187 =>
          f_law_18 xs L9 n x187 s186
        else
          some (0, s186)
      else if x7 = 36 then
        gd (zib (x5 + 1) L9) <|
        gd (zib (x5 + 2) L9) <|
        gd (zib (x5 + 3) L9) <|
        gd (zib (x5 + 4) L9) <|
        bd (f_X6_hutsBy (xs (zix (x5 + 1))) (xs (zix (x5 + 2))) (xs (zix (x5 + 3))) (xs (zix (x5 + 4))) s6) fun r188 s189 =>
        gd (zib (x5 + 1) L9) <|
        gd (zib (x5 + 2) L9) <|
        gd (zib (x5 + 3) L9) <|
        gd (zib (x5 + 4) L9) <|
        bd (f_X7_hutsBy (xs (zix (x5 + 1))) (xs (zix (x5 + 2))) (xs (zix (x5 + 3))) (xs (zix (x5 + 4))) s189) fun r190 s191 =>
        if r188 = r190 then
          nm (x5 + 7) fun x192 =>
          f_law_18 xs L9 n x192 s191
        else
          some (0, s191)
      else if x7 = 37 then
        gd (zib (x5 + 1) L9) <|
        gd (zib (x5 + 2) L9) <|
        bd (f_X6_taken (xs (zix (x5 + 1))) (xs (zix (x5 + 2))) s6) fun r193 s194 =>
        gd (zib (x5 + 1) L9) <|
        gd (zib (x5 + 2) L9) <|
        bd (f_X7_taken (xs (zix (x5 + 1))) (xs (zix (x5 + 2))) s194) fun r195 s196 =>
        if r193 = r195 then
          nm (x5 + 7) fun x197 =>
          f_law_18 xs L9 n x197 s196
        else
          some (0, s196)
      else
        nm (x5 + 7) fun x198 =>
        f_law_18 xs L9 n x198 s6
set_option maxRecDepth 20000 in
def f_law (xs : Nat → Int32) (L9 : Nat) (s0 : zMem) : Option (Int32 × zMem) :=
  nm (zNw s0 0) fun s1 =>
  bd (f_X6_init s1) fun _ s2 =>
  nm (zNw s2 47) fun s3 =>
  bd (f_X7_init s3) fun _ s4 =>
  f_law_18 xs L9 zN 0 s4
