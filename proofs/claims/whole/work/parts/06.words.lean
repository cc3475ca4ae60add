-- words of the tables, by their places
theorem zin1 {w : Cond} (h : w ∈ tables_1_1) (g : goodWord w = true) : w ∈ zW := List.mem_filter.mpr ⟨List.mem_append_right _ (List.mem_append_left _ h), g⟩
theorem zin2 {w : Cond} (h : w ∈ tables_1_2) (g : goodWord w = true) : w ∈ zW := List.mem_filter.mpr ⟨List.mem_append_right _ (List.mem_append_right _ (List.mem_append_left _ h)), g⟩
theorem zin3 {w : Cond} (h : w ∈ tables_1_3) (g : goodWord w = true) : w ∈ zW := List.mem_filter.mpr ⟨List.mem_append_right _ (List.mem_append_right _ (List.mem_append_right _ (List.mem_append_left _ h))), g⟩
theorem zin4 {w : Cond} (h : w ∈ tables_1_4) (g : goodWord w = true) : w ∈ zW := List.mem_filter.mpr ⟨List.mem_append_right _ (List.mem_append_right _ (List.mem_append_right _ (List.mem_append_right _ (List.mem_append_left _ h)))), g⟩
theorem zin5 {w : Cond} (h : w ∈ tables_1_5) (g : goodWord w = true) : w ∈ zW := List.mem_filter.mpr ⟨List.mem_append_right _ (List.mem_append_right _ (List.mem_append_right _ (List.mem_append_right _ (List.mem_append_right _ (List.mem_append_left _ h))))), g⟩
theorem zin6 {w : Cond} (h : w ∈ tables_1_6) (g : goodWord w = true) : w ∈ zW := List.mem_filter.mpr ⟨List.mem_append_right _ (List.mem_append_right _ (List.mem_append_right _ (List.mem_append_right _ (List.mem_append_right _ (List.mem_append_right _ h))))), g⟩
theorem zini_L : Cond.initialized RL ∈ zW := zin1 (List.mem_of_getElem? (i := 0) (by decide +kernel)) rfl
theorem zini_X6 : Cond.initialized RX6 ∈ zW := zin1 (List.mem_of_getElem? (i := 1) (by decide +kernel)) rfl
theorem zini_X4 : Cond.initialized RX4 ∈ zW := zin1 (List.mem_of_getElem? (i := 2) (by decide +kernel)) rfl
theorem zini_X2 : Cond.initialized RX2 ∈ zW := zin1 (List.mem_of_getElem? (i := 3) (by decide +kernel)) rfl
theorem zini_J0 : Cond.initialized RJ0 ∈ zW := zin1 (List.mem_of_getElem? (i := 4) (by decide +kernel)) rfl
theorem zini_J1 : Cond.initialized RJ1 ∈ zW := zin1 (List.mem_of_getElem? (i := 5) (by decide +kernel)) rfl
theorem zini_J3 : Cond.initialized RJ3 ∈ zW := zin1 (List.mem_of_getElem? (i := 6) (by decide +kernel)) rfl
theorem zini_J2 : Cond.initialized RJ2 ∈ zW := zin1 (List.mem_of_getElem? (i := 7) (by decide +kernel)) rfl
theorem zini_X0 : Cond.initialized RX0 ∈ zW := zin1 (List.mem_of_getElem? (i := 8) (by decide +kernel)) rfl
theorem zini_J10 : Cond.initialized RJ10 ∈ zW := zin1 (List.mem_of_getElem? (i := 9) (by decide +kernel)) rfl
theorem zini_X5 : Cond.initialized RX5 ∈ zW := zin1 (List.mem_of_getElem? (i := 10) (by decide +kernel)) rfl
theorem zini_X3 : Cond.initialized RX3 ∈ zW := zin1 (List.mem_of_getElem? (i := 11) (by decide +kernel)) rfl
theorem zini_X7 : Cond.initialized RX7 ∈ zW := zin1 (List.mem_of_getElem? (i := 12) (by decide +kernel)) rfl
theorem zini_J9 : Cond.initialized RJ9 ∈ zW := zin1 (List.mem_of_getElem? (i := 13) (by decide +kernel)) rfl
theorem zini_X1 : Cond.initialized RX1 ∈ zW := zin1 (List.mem_of_getElem? (i := 14) (by decide +kernel)) rfl
theorem zini_J6 : Cond.initialized RJ6 ∈ zW := zin1 (List.mem_of_getElem? (i := 15) (by decide +kernel)) rfl
theorem zce_X2_emit : zCe yX2_emit cX2_emit 2 none 1 := ⟨zin1 (List.mem_of_getElem? (i := 226) rfl) rfl, zini_X2, ⟨by decide +kernel, by decide +kernel⟩, by decide +kernel, by decide⟩
theorem zi_X2_emit : Cond.instanceMethod yX2_emit ∈ zW := zin1 (List.mem_of_getElem? (i := 225) (by decide +kernel)) rfl
theorem zs_X2_emit : Cond.selects yX2_emit.cls yX2_emit yX2_emit ∈ zW := zinp 13 (by decide +kernel) rfl
theorem zce_X2_byteAt : zCe yX2_byteAt cX2_byteAt 2 (some .int) 1 := ⟨zin1 (List.mem_of_getElem? (i := 149) rfl) rfl, zini_X2, ⟨by decide +kernel, by decide +kernel⟩, by decide +kernel, by decide⟩
theorem zi_X2_byteAt : Cond.instanceMethod yX2_byteAt ∈ zW := zin1 (List.mem_of_getElem? (i := 148) (by decide +kernel)) rfl
theorem zs_X2_byteAt : Cond.selects yX2_byteAt.cls yX2_byteAt yX2_byteAt ∈ zW := zinp 1 (by decide +kernel) rfl
theorem zce_X6_isFromTo : zCe yX6_isFromTo cX6_isFromTo 3 (some .boolean) 3 := ⟨zin1 (List.mem_of_getElem? (i := 158) rfl) rfl, zini_X6, ⟨by decide +kernel, by decide +kernel⟩, by decide +kernel, by decide⟩
theorem zt_X6_isFromTo : Cond.static yX6_isFromTo ∈ zW := zin1 (List.mem_of_getElem? (i := 157) (by decide +kernel)) rfl
theorem zce_X2_isLetter : zCe yX2_isLetter cX2_isLetter 1 (some .boolean) 1 := ⟨zin1 (List.mem_of_getElem? (i := 155) rfl) rfl, zini_X2, ⟨by decide +kernel, by decide +kernel⟩, by decide +kernel, by decide⟩
theorem zt_X2_isLetter : Cond.static yX2_isLetter ∈ zW := zin1 (List.mem_of_getElem? (i := 154) (by decide +kernel)) rfl
theorem zce_X2_endOfWord : zCe yX2_endOfWord cX2_endOfWord 3 (some .int) 0 := ⟨zin1 (List.mem_of_getElem? (i := 162) rfl) rfl, zini_X2, ⟨by decide +kernel, by decide +kernel⟩, by decide +kernel, by decide⟩
theorem zi_X2_endOfWord : Cond.instanceMethod yX2_endOfWord ∈ zW := zin1 (List.mem_of_getElem? (i := 161) (by decide +kernel)) rfl
theorem zs_X2_endOfWord : Cond.selects yX2_endOfWord.cls yX2_endOfWord yX2_endOfWord ∈ zW := zinp 2 (by decide +kernel) rfl
theorem zce_X2_isBlank : zCe yX2_isBlank cX2_isBlank 1 (some .boolean) 1 := ⟨zin1 (List.mem_of_getElem? (i := 152) rfl) rfl, zini_X2, ⟨by decide +kernel, by decide +kernel⟩, by decide +kernel, by decide⟩
theorem zt_X2_isBlank : Cond.static yX2_isBlank ∈ zW := zin1 (List.mem_of_getElem? (i := 151) (by decide +kernel)) rfl
theorem zce_X2_isDigit : zCe yX2_isDigit cX2_isDigit 1 (some .boolean) 1 := ⟨zin1 (List.mem_of_getElem? (i := 191) rfl) rfl, zini_X2, ⟨by decide +kernel, by decide +kernel⟩, by decide +kernel, by decide⟩
theorem zt_X2_isDigit : Cond.static yX2_isDigit ∈ zW := zin1 (List.mem_of_getElem? (i := 190) (by decide +kernel)) rfl
theorem zce_X2_isSign : zCe yX2_isSign cX2_isSign 1 (some .boolean) 1 := ⟨zin1 (List.mem_of_getElem? (i := 198) rfl) rfl, zini_X2, ⟨by decide +kernel, by decide +kernel⟩, by decide +kernel, by decide⟩
theorem zt_X2_isSign : Cond.static yX2_isSign ∈ zW := zin1 (List.mem_of_getElem? (i := 197) (by decide +kernel)) rfl
theorem zce_J0_isLatin1_aae02 : zCe yJ0_isLatin1_aae02 cJ0_isLatin1_aae02 1 (some .boolean) 0 := ⟨zin1 (List.mem_of_getElem? (i := 103) rfl) rfl, zini_J0, ⟨by decide +kernel, by decide +kernel⟩, by decide +kernel, by decide⟩
theorem zi_J0_isLatin1_aae02 : Cond.instanceMethod yJ0_isLatin1_aae02 ∈ zW := zin1 (List.mem_of_getElem? (i := 101) (by decide +kernel)) rfl
theorem zs_J0_isLatin1_aae02 : Cond.selects yJ0_isLatin1_aae02.cls yJ0_isLatin1_aae02 yJ0_isLatin1_aae02 ∈ zW := zin1 (List.mem_of_getElem? (i := 102) (by decide +kernel)) rfl
theorem zce_J3_checkIndex_8e157 : zCe yJ3_checkIndex_8e157 cJ3_checkIndex_8e157 3 (some .int) 3 := ⟨zin1 (List.mem_of_getElem? (i := 114) rfl) rfl, zini_J3, ⟨by decide +kernel, by decide +kernel⟩, by decide +kernel, by decide⟩
theorem zt_J3_checkIndex_8e157 : Cond.static yJ3_checkIndex_8e157 ∈ zW := zin1 (List.mem_of_getElem? (i := 113) (by decide +kernel)) rfl
theorem zce_J0_checkIndex_df160 : zCe yJ0_checkIndex_df160 cJ0_checkIndex_df160 2 none 2 := ⟨zin1 (List.mem_of_getElem? (i := 109) rfl) rfl, zini_J0, ⟨by decide +kernel, by decide +kernel⟩, by decide +kernel, by decide⟩
theorem zt_J0_checkIndex_df160 : Cond.static yJ0_checkIndex_df160 ∈ zW := zin1 (List.mem_of_getElem? (i := 108) (by decide +kernel)) rfl
theorem zce_J1_charAt_3b067 : zCe yJ1_charAt_3b067 cJ1_charAt_3b067 2 (some .char) 2 := ⟨zin1 (List.mem_of_getElem? (i := 106) rfl) rfl, zini_J1, ⟨by decide +kernel, by decide +kernel⟩, by decide +kernel, by decide⟩
theorem zt_J1_charAt_3b067 : Cond.static yJ1_charAt_3b067 ∈ zW := zin1 (List.mem_of_getElem? (i := 105) (by decide +kernel)) rfl
theorem zce_J0_charAt_5068e : zCe yJ0_charAt_5068e cJ0_charAt_5068e 2 (some .char) 1 := ⟨zin1 (List.mem_of_getElem? (i := 99) rfl) rfl, zini_J0, ⟨by decide +kernel, by decide +kernel⟩, by decide +kernel, by decide⟩
theorem zi_J0_charAt_5068e : Cond.instanceMethod yJ0_charAt_5068e ∈ zW := zin1 (List.mem_of_getElem? (i := 97) (by decide +kernel)) rfl
theorem zs_J0_charAt_5068e : Cond.selects yJ0_charAt_5068e.cls yJ0_charAt_5068e yJ0_charAt_5068e ∈ zW := zin1 (List.mem_of_getElem? (i := 98) (by decide +kernel)) rfl
theorem zce_J0_coder_7d493 : zCe yJ0_coder_7d493 cJ0_coder_7d493 1 (some .byte) 0 := ⟨zin1 (List.mem_of_getElem? (i := 93) rfl) rfl, zini_J0, ⟨by decide +kernel, by decide +kernel⟩, by decide +kernel, by decide⟩
theorem zi_J0_coder_7d493 : Cond.instanceMethod yJ0_coder_7d493 ∈ zW := zin1 (List.mem_of_getElem? (i := 91) (by decide +kernel)) rfl
theorem zs_J0_coder_7d493 : Cond.selects yJ0_coder_7d493.cls yJ0_coder_7d493 yJ0_coder_7d493 ∈ zW := zin1 (List.mem_of_getElem? (i := 92) (by decide +kernel)) rfl
theorem zce_J0_length_8abf5 : zCe yJ0_length_8abf5 cJ0_length_8abf5 1 (some .int) 0 := ⟨zin1 (List.mem_of_getElem? (i := 89) rfl) rfl, zini_J0, ⟨by decide +kernel, by decide +kernel⟩, by decide +kernel, by decide⟩
theorem zi_J0_length_8abf5 : Cond.instanceMethod yJ0_length_8abf5 ∈ zW := zin1 (List.mem_of_getElem? (i := 87) (by decide +kernel)) rfl
theorem zs_J0_length_8abf5 : Cond.selects yJ0_length_8abf5.cls yJ0_length_8abf5 yJ0_length_8abf5 ∈ zW := zin1 (List.mem_of_getElem? (i := 88) (by decide +kernel)) rfl
theorem zce_X2_isRead : zCe yX2_isRead cX2_isRead 3 (some .boolean) 1 := ⟨zin1 (List.mem_of_getElem? (i := 171) rfl) rfl, zini_X2, ⟨by decide +kernel, by decide +kernel⟩, by decide +kernel, by decide⟩
theorem zi_X2_isRead : Cond.instanceMethod yX2_isRead ∈ zW := zin1 (List.mem_of_getElem? (i := 170) (by decide +kernel)) rfl
theorem zs_X2_isRead : Cond.selects yX2_isRead.cls yX2_isRead yX2_isRead ∈ zW := zinp 4 (by decide +kernel) rfl
theorem zce_X2_keyRead : zCe yX2_keyRead cX2_keyRead 1 (some .int) 0 := ⟨zin1 (List.mem_of_getElem? (i := 182) rfl) rfl, zini_X2, ⟨by decide +kernel, by decide +kernel⟩, by decide +kernel, by decide⟩
theorem zi_X2_keyRead : Cond.instanceMethod yX2_keyRead ∈ zW := zin1 (List.mem_of_getElem? (i := 181) (by decide +kernel)) rfl
theorem zs_X2_keyRead : Cond.selects yX2_keyRead.cls yX2_keyRead yX2_keyRead ∈ zW := zinp 5 (by decide +kernel) rfl
theorem zce_X2_nameRead : zCe yX2_nameRead cX2_nameRead 1 (some .int) 0 := ⟨zin1 (List.mem_of_getElem? (i := 166) rfl) rfl, zini_X2, ⟨by decide +kernel, by decide +kernel⟩, by decide +kernel, by decide⟩
theorem zi_X2_nameRead : Cond.instanceMethod yX2_nameRead ∈ zW := zin1 (List.mem_of_getElem? (i := 165) (by decide +kernel)) rfl
theorem zs_X2_nameRead : Cond.selects yX2_nameRead.cls yX2_nameRead yX2_nameRead ∈ zW := zinp 3 (by decide +kernel) rfl
theorem zce_X2_readNumber : zCe yX2_readNumber cX2_readNumber 2 none 0 := ⟨zin1 (List.mem_of_getElem? (i := 195) rfl) rfl, zini_X2, ⟨by decide +kernel, by decide +kernel⟩, by decide +kernel, by decide⟩
theorem zi_X2_readNumber : Cond.instanceMethod yX2_readNumber ∈ zW := zin1 (List.mem_of_getElem? (i := 194) (by decide +kernel)) rfl
theorem zs_X2_readNumber : Cond.selects yX2_readNumber.cls yX2_readNumber yX2_readNumber ∈ zW := zinp 6 (by decide +kernel) rfl
theorem zce_X2_readToken : zCe yX2_readToken cX2_readToken 2 none 0 := ⟨zin1 (List.mem_of_getElem? (i := 145) rfl) rfl, zini_X2, ⟨by decide +kernel, by decide +kernel⟩, by decide +kernel, by decide⟩
theorem zi_X2_readToken : Cond.instanceMethod yX2_readToken ∈ zW := zin1 (List.mem_of_getElem? (i := 144) (by decide +kernel)) rfl
theorem zs_X2_readToken : Cond.selects yX2_readToken.cls yX2_readToken yX2_readToken ∈ zW := zinp 0 (by decide +kernel) rfl
theorem zce_X2_readOr : zCe yX2_readOr cX2_readOr 3 none 1 := ⟨zin1 (List.mem_of_getElem? (i := 210) rfl) rfl, zini_X2, ⟨by decide +kernel, by decide +kernel⟩, by decide +kernel, by decide⟩
theorem zi_X2_readOr : Cond.instanceMethod yX2_readOr ∈ zW := zin1 (List.mem_of_getElem? (i := 209) (by decide +kernel)) rfl
theorem zs_X2_readOr : Cond.selects yX2_readOr.cls yX2_readOr yX2_readOr ∈ zW := zinp 9 (by decide +kernel) rfl
theorem zce_X2_readAnd : zCe yX2_readAnd cX2_readAnd 3 none 1 := ⟨zin1 (List.mem_of_getElem? (i := 214) rfl) rfl, zini_X2, ⟨by decide +kernel, by decide +kernel⟩, by decide +kernel, by decide⟩
theorem zi_X2_readAnd : Cond.instanceMethod yX2_readAnd ∈ zW := zin1 (List.mem_of_getElem? (i := 213) (by decide +kernel)) rfl
theorem zs_X2_readAnd : Cond.selects yX2_readAnd.cls yX2_readAnd yX2_readAnd ∈ zW := zinp 10 (by decide +kernel) rfl
theorem zce_X2_fail : zCe yX2_fail cX2_fail 1 none 0 := ⟨zin1 (List.mem_of_getElem? (i := 206) rfl) rfl, zini_X2, ⟨by decide +kernel, by decide +kernel⟩, by decide +kernel, by decide⟩
theorem zi_X2_fail : Cond.instanceMethod yX2_fail ∈ zW := zin1 (List.mem_of_getElem? (i := 205) (by decide +kernel)) rfl
theorem zs_X2_fail : Cond.selects yX2_fail.cls yX2_fail yX2_fail ∈ zW := zinp 8 (by decide +kernel) rfl
theorem zce_X2_opens : zCe yX2_opens cX2_opens 2 (some .boolean) 1 := ⟨zin1 (List.mem_of_getElem? (i := 222) rfl) rfl, zini_X2, ⟨by decide +kernel, by decide +kernel⟩, by decide +kernel, by decide⟩
theorem zi_X2_opens : Cond.instanceMethod yX2_opens ∈ zW := zin1 (List.mem_of_getElem? (i := 221) (by decide +kernel)) rfl
theorem zs_X2_opens : Cond.selects yX2_opens.cls yX2_opens yX2_opens ∈ zW := zinp 12 (by decide +kernel) rfl
theorem zce_X2_readNot : zCe yX2_readNot cX2_readNot 3 none 1 := ⟨zin1 (List.mem_of_getElem? (i := 218) rfl) rfl, zini_X2, ⟨by decide +kernel, by decide +kernel⟩, by decide +kernel, by decide⟩
theorem zi_X2_readNot : Cond.instanceMethod yX2_readNot ∈ zW := zin1 (List.mem_of_getElem? (i := 217) (by decide +kernel)) rfl
theorem zs_X2_readNot : Cond.selects yX2_readNot.cls yX2_readNot yX2_readNot ∈ zW := zinp 11 (by decide +kernel) rfl
theorem zce_X2_readSum : zCe yX2_readSum cX2_readSum 4 none 1 := ⟨zin1 (List.mem_of_getElem? (i := 230) rfl) rfl, zini_X2, ⟨by decide +kernel, by decide +kernel⟩, by decide +kernel, by decide⟩
theorem zi_X2_readSum : Cond.instanceMethod yX2_readSum ∈ zW := zin1 (List.mem_of_getElem? (i := 229) (by decide +kernel)) rfl
theorem zs_X2_readSum : Cond.selects yX2_readSum.cls yX2_readSum yX2_readSum ∈ zW := zinp 14 (by decide +kernel) rfl
theorem zce_X2_readTerm : zCe yX2_readTerm cX2_readTerm 3 none 1 := ⟨zin1 (List.mem_of_getElem? (i := 234) rfl) rfl, zini_X2, ⟨by decide +kernel, by decide +kernel⟩, by decide +kernel, by decide⟩
theorem zi_X2_readTerm : Cond.instanceMethod yX2_readTerm ∈ zW := zin1 (List.mem_of_getElem? (i := 233) (by decide +kernel)) rfl
theorem zs_X2_readTerm : Cond.selects yX2_readTerm.cls yX2_readTerm yX2_readTerm ∈ zW := zinp 15 (by decide +kernel) rfl
theorem zce_X0_ofName : zCe yX0_ofName cX0_ofName 1 (some .int) 1 := ⟨zin2 (List.mem_of_getElem? (i := 1) rfl) rfl, zini_X0, ⟨by decide +kernel, by decide +kernel⟩, by decide +kernel, by decide⟩
theorem zt_X0_ofName : Cond.static yX0_ofName ∈ zW := zin2 (List.mem_of_getElem? (i := 0) (by decide +kernel)) rfl
theorem zce_X2_expect : zCe yX2_expect cX2_expect 2 none 1 := ⟨zin1 (List.mem_of_getElem? (i := 202) rfl) rfl, zini_X2, ⟨by decide +kernel, by decide +kernel⟩, by decide +kernel, by decide⟩
theorem zi_X2_expect : Cond.instanceMethod yX2_expect ∈ zW := zin1 (List.mem_of_getElem? (i := 201) (by decide +kernel)) rfl
theorem zs_X2_expect : Cond.selects yX2_expect.cls yX2_expect yX2_expect ∈ zW := zinp 7 (by decide +kernel) rfl
theorem zce_X2_readOne : zCe yX2_readOne cX2_readOne 2 none 1 := ⟨zin1 (List.mem_of_getElem? (i := 238) rfl) rfl, zini_X2, ⟨by decide +kernel, by decide +kernel⟩, by decide +kernel, by decide⟩
theorem zi_X2_readOne : Cond.instanceMethod yX2_readOne ∈ zW := zin1 (List.mem_of_getElem? (i := 237) (by decide +kernel)) rfl
theorem zs_X2_readOne : Cond.selects yX2_readOne.cls yX2_readOne yX2_readOne ∈ zW := zinp 16 (by decide +kernel) rfl
theorem zce_X5_heatOfAll : zCe yX5_heatOfAll cX5_heatOfAll 3 (some .int) 0 := ⟨zin2 (List.mem_of_getElem? (i := 126) rfl) rfl, zini_X5, ⟨by decide +kernel, by decide +kernel⟩, by decide +kernel, by decide⟩
theorem zi_X5_heatOfAll : Cond.instanceMethod yX5_heatOfAll ∈ zW := zin2 (List.mem_of_getElem? (i := 124) (by decide +kernel)) rfl
theorem zs_X5_heatOfAll : Cond.selects yX5_heatOfAll.cls yX5_heatOfAll yX5_heatOfAll ∈ zW := zin2 (List.mem_of_getElem? (i := 125) (by decide +kernel)) rfl
theorem zce_X6_count : zCe yX6_count cX6_count 2 (some .int) 1 := ⟨zin2 (List.mem_of_getElem? (i := 122) rfl) rfl, zini_X6, ⟨by decide +kernel, by decide +kernel⟩, by decide +kernel, by decide⟩
theorem zi_X6_count : Cond.instanceMethod yX6_count ∈ zW := zin2 (List.mem_of_getElem? (i := 120) (by decide +kernel)) rfl
theorem zs_X6_count : Cond.selects yX6_count.cls yX6_count yX6_count ∈ zW := zin2 (List.mem_of_getElem? (i := 121) (by decide +kernel)) rfl
theorem zce_X2_takeByte : zCe yX2_takeByte cX2_takeByte 2 none 1 := ⟨zin1 (List.mem_of_getElem? (i := 137) rfl) rfl, zini_X2, ⟨by decide +kernel, by decide +kernel⟩, by decide +kernel, by decide⟩
theorem zi_X2_takeByte : Cond.instanceMethod yX2_takeByte ∈ zW := zin1 (List.mem_of_getElem? (i := 135) (by decide +kernel)) rfl
theorem zs_X2_takeByte : Cond.selects yX2_takeByte.cls yX2_takeByte yX2_takeByte ∈ zW := zin1 (List.mem_of_getElem? (i := 136) (by decide +kernel)) rfl
theorem zce_X6_isByte : zCe yX6_isByte cX6_isByte 1 (some .boolean) 1 := ⟨zin2 (List.mem_of_getElem? (i := 134) rfl) rfl, zini_X6, ⟨by decide +kernel, by decide +kernel⟩, by decide +kernel, by decide⟩
theorem zt_X6_isByte : Cond.static yX6_isByte ∈ zW := zin2 (List.mem_of_getElem? (i := 133) (by decide +kernel)) rfl
theorem zce_X6_feed : zCe yX6_feed cX6_feed 7 (some .int) 6 := ⟨zin2 (List.mem_of_getElem? (i := 130) rfl) rfl, zini_X6, ⟨by decide +kernel, by decide +kernel⟩, by decide +kernel, by decide⟩
theorem zi_X6_feed : Cond.instanceMethod yX6_feed ∈ zW := zin2 (List.mem_of_getElem? (i := 128) (by decide +kernel)) rfl
theorem zs_X6_feed : Cond.selects yX6_feed.cls yX6_feed yX6_feed ∈ zW := zin2 (List.mem_of_getElem? (i := 129) (by decide +kernel)) rfl
theorem zce_X2_clear : zCe yX2_clear cX2_clear 1 none 0 := ⟨zin2 (List.mem_of_getElem? (i := 12) rfl) rfl, zini_X2, ⟨by decide +kernel, by decide +kernel⟩, by decide +kernel, by decide⟩
theorem zi_X2_clear : Cond.instanceMethod yX2_clear ∈ zW := zin2 (List.mem_of_getElem? (i := 10) (by decide +kernel)) rfl
theorem zs_X2_clear : Cond.selects yX2_clear.cls yX2_clear yX2_clear ∈ zW := zin2 (List.mem_of_getElem? (i := 11) (by decide +kernel)) rfl
theorem zce_X2_readText : zCe yX2_readText cX2_readText 2 (some .int) 0 := ⟨zin1 (List.mem_of_getElem? (i := 141) rfl) rfl, zini_X2, ⟨by decide +kernel, by decide +kernel⟩, by decide +kernel, by decide⟩
theorem zi_X2_readText : Cond.instanceMethod yX2_readText ∈ zW := zin1 (List.mem_of_getElem? (i := 139) (by decide +kernel)) rfl
theorem zs_X2_readText : Cond.selects yX2_readText.cls yX2_readText yX2_readText ∈ zW := zin1 (List.mem_of_getElem? (i := 140) (by decide +kernel)) rfl
theorem zce_X4_keep : zCe yX4_keep cX4_keep 2 (some .int) 1 := ⟨zin2 (List.mem_of_getElem? (i := 5) rfl) rfl, zini_X4, ⟨by decide +kernel, by decide +kernel⟩, by decide +kernel, by decide⟩
theorem zi_X4_keep : Cond.instanceMethod yX4_keep ∈ zW := zin2 (List.mem_of_getElem? (i := 3) (by decide +kernel)) rfl
theorem zs_X4_keep : Cond.selects yX4_keep.cls yX4_keep yX4_keep ∈ zW := zin2 (List.mem_of_getElem? (i := 4) (by decide +kernel)) rfl
theorem zce_X6_text : zCe yX6_text cX6_text 3 (some .int) 0 := ⟨zin2 (List.mem_of_getElem? (i := 138) rfl) rfl, zini_X6, ⟨by decide +kernel, by decide +kernel⟩, by decide +kernel, by decide⟩
theorem zi_X6_text : Cond.instanceMethod yX6_text ∈ zW := zin2 (List.mem_of_getElem? (i := 136) (by decide +kernel)) rfl
theorem zs_X6_text : Cond.selects yX6_text.cls yX6_text yX6_text ∈ zW := zin2 (List.mem_of_getElem? (i := 137) (by decide +kernel)) rfl
theorem zce_X6_force : zCe yX6_force cX6_force 3 (some .int) 1 := ⟨zin2 (List.mem_of_getElem? (i := 142) rfl) rfl, zini_X6, ⟨by decide +kernel, by decide +kernel⟩, by decide +kernel, by decide⟩
theorem zi_X6_force : Cond.instanceMethod yX6_force ∈ zW := zin2 (List.mem_of_getElem? (i := 140) (by decide +kernel)) rfl
theorem zs_X6_force : Cond.selects yX6_force.cls yX6_force yX6_force ∈ zW := zin2 (List.mem_of_getElem? (i := 141) (by decide +kernel)) rfl
theorem zce_X5_isHut : zCe yX5_isHut cX5_isHut 2 (some .boolean) 1 := ⟨zin2 (List.mem_of_getElem? (i := 150) rfl) rfl, zini_X5, ⟨by decide +kernel, by decide +kernel⟩, by decide +kernel, by decide⟩
theorem zi_X5_isHut : Cond.instanceMethod yX5_isHut ∈ zW := zin2 (List.mem_of_getElem? (i := 148) (by decide +kernel)) rfl
theorem zs_X5_isHut : Cond.selects yX5_isHut.cls yX5_isHut yX5_isHut ∈ zW := zin2 (List.mem_of_getElem? (i := 149) (by decide +kernel)) rfl
theorem zce_X0_isName : zCe yX0_isName cX0_isName 1 (some .boolean) 1 := ⟨zin2 (List.mem_of_getElem? (i := 181) rfl) rfl, zini_X0, ⟨by decide +kernel, by decide +kernel⟩, by decide +kernel, by decide⟩
theorem zt_X0_isName : Cond.static yX0_isName ∈ zW := zin2 (List.mem_of_getElem? (i := 180) (by decide +kernel)) rfl
theorem zce_X0_isOfOne : zCe yX0_isOfOne cX0_isOfOne 1 (some .boolean) 1 := ⟨zin2 (List.mem_of_getElem? (i := 175) rfl) rfl, zini_X0, ⟨by decide +kernel, by decide +kernel⟩, by decide +kernel, by decide⟩
theorem zt_X0_isOfOne : Cond.static yX0_isOfOne ∈ zW := zin2 (List.mem_of_getElem? (i := 174) (by decide +kernel)) rfl
theorem zce_X0_isOfTwo : zCe yX0_isOfTwo cX0_isOfTwo 1 (some .boolean) 1 := ⟨zin2 (List.mem_of_getElem? (i := 169) rfl) rfl, zini_X0, ⟨by decide +kernel, by decide +kernel⟩, by decide +kernel, by decide⟩
theorem zt_X0_isOfTwo : Cond.static yX0_isOfTwo ∈ zW := zin2 (List.mem_of_getElem? (i := 168) (by decide +kernel)) rfl
theorem zce_X0_ofOne : zCe yX0_ofOne cX0_ofOne 2 (some .int) 2 := ⟨zin2 (List.mem_of_getElem? (i := 178) rfl) rfl, zini_X0, ⟨by decide +kernel, by decide +kernel⟩, by decide +kernel, by decide⟩
theorem zt_X0_ofOne : Cond.static yX0_ofOne ∈ zW := zin2 (List.mem_of_getElem? (i := 177) (by decide +kernel)) rfl
theorem zce_X0_ofTwo : zCe yX0_ofTwo cX0_ofTwo 3 (some .int) 3 := ⟨zin2 (List.mem_of_getElem? (i := 172) rfl) rfl, zini_X0, ⟨by decide +kernel, by decide +kernel⟩, by decide +kernel, by decide⟩
theorem zt_X0_ofTwo : Cond.static yX0_ofTwo ∈ zW := zin2 (List.mem_of_getElem? (i := 171) (by decide +kernel)) rfl
theorem zce_X4_valueOf : zCe yX4_valueOf cX4_valueOf 10 (some .int) 3 := ⟨zin2 (List.mem_of_getElem? (i := 166) rfl) rfl, zini_X4, ⟨by decide +kernel, by decide +kernel⟩, by decide +kernel, by decide⟩
theorem zi_X4_valueOf : Cond.instanceMethod yX4_valueOf ∈ zW := zin2 (List.mem_of_getElem? (i := 164) (by decide +kernel)) rfl
theorem zs_X4_valueOf : Cond.selects yX4_valueOf.cls yX4_valueOf yX4_valueOf ∈ zW := zin2 (List.mem_of_getElem? (i := 165) (by decide +kernel)) rfl
theorem zce_X5_coalsWhere : zCe yX5_coalsWhere cX5_coalsWhere 5 (some .int) 2 := ⟨zin2 (List.mem_of_getElem? (i := 162) rfl) rfl, zini_X5, ⟨by decide +kernel, by decide +kernel⟩, by decide +kernel, by decide⟩
theorem zi_X5_coalsWhere : Cond.instanceMethod yX5_coalsWhere ∈ zW := zin2 (List.mem_of_getElem? (i := 161) (by decide +kernel)) rfl
theorem zs_X5_coalsWhere : Cond.selects yX5_coalsWhere.cls yX5_coalsWhere yX5_coalsWhere ∈ zW := zinp 17 (by decide +kernel) rfl
theorem zce_X5_owes : zCe yX5_owes cX5_owes 2 (some .int) 1 := ⟨zin2 (List.mem_of_getElem? (i := 158) rfl) rfl, zini_X5, ⟨by decide +kernel, by decide +kernel⟩, by decide +kernel, by decide⟩
theorem zi_X5_owes : Cond.instanceMethod yX5_owes ∈ zW := zin2 (List.mem_of_getElem? (i := 156) (by decide +kernel)) rfl
theorem zs_X5_owes : Cond.selects yX5_owes.cls yX5_owes yX5_owes ∈ zW := zin2 (List.mem_of_getElem? (i := 157) (by decide +kernel)) rfl
theorem zce_X5_says : zCe yX5_says cX5_says 4 (some .int) 3 := ⟨zin2 (List.mem_of_getElem? (i := 154) rfl) rfl, zini_X5, ⟨by decide +kernel, by decide +kernel⟩, by decide +kernel, by decide⟩
theorem zi_X5_says : Cond.instanceMethod yX5_says ∈ zW := zin2 (List.mem_of_getElem? (i := 152) (by decide +kernel)) rfl
theorem zs_X5_says : Cond.selects yX5_says.cls yX5_says yX5_says ∈ zW := zin2 (List.mem_of_getElem? (i := 153) (by decide +kernel)) rfl
theorem zce_X6_asks : zCe yX6_asks cX6_asks 4 (some .int) 3 := ⟨zin2 (List.mem_of_getElem? (i := 146) rfl) rfl, zini_X6, ⟨by decide +kernel, by decide +kernel⟩, by decide +kernel, by decide⟩
theorem zi_X6_asks : Cond.instanceMethod yX6_asks ∈ zW := zin2 (List.mem_of_getElem? (i := 144) (by decide +kernel)) rfl
theorem zs_X6_asks : Cond.selects yX6_asks.cls yX6_asks yX6_asks ∈ zW := zin2 (List.mem_of_getElem? (i := 145) (by decide +kernel)) rfl
theorem zce_X5_comes : zCe yX5_comes cX5_comes 3 (some .int) 2 := ⟨zin2 (List.mem_of_getElem? (i := 196) rfl) rfl, zini_X5, ⟨by decide +kernel, by decide +kernel⟩, by decide +kernel, by decide⟩
theorem zi_X5_comes : Cond.instanceMethod yX5_comes ∈ zW := zin2 (List.mem_of_getElem? (i := 194) (by decide +kernel)) rfl
theorem zs_X5_comes : Cond.selects yX5_comes.cls yX5_comes yX5_comes ∈ zW := zin2 (List.mem_of_getElem? (i := 195) (by decide +kernel)) rfl
theorem zce_X6_hut : zCe yX6_hut cX6_hut 3 (some .int) 2 := ⟨zin2 (List.mem_of_getElem? (i := 192) rfl) rfl, zini_X6, ⟨by decide +kernel, by decide +kernel⟩, by decide +kernel, by decide⟩
theorem zi_X6_hut : Cond.instanceMethod yX6_hut ∈ zW := zin2 (List.mem_of_getElem? (i := 190) (by decide +kernel)) rfl
theorem zs_X6_hut : Cond.selects yX6_hut.cls yX6_hut yX6_hut ∈ zW := zin2 (List.mem_of_getElem? (i := 191) (by decide +kernel)) rfl
theorem zce_X5_become : zCe yX5_become cX5_become 4 none 3 := ⟨zin2 (List.mem_of_getElem? (i := 213) rfl) rfl, zini_X5, ⟨by decide +kernel, by decide +kernel⟩, by decide +kernel, by decide⟩
theorem zi_X5_become : Cond.instanceMethod yX5_become ∈ zW := zin2 (List.mem_of_getElem? (i := 211) (by decide +kernel)) rfl
theorem zs_X5_become : Cond.selects yX5_become.cls yX5_become yX5_become ∈ zW := zin2 (List.mem_of_getElem? (i := 212) (by decide +kernel)) rfl
theorem zce_X5_stateOf : zCe yX5_stateOf cX5_stateOf 3 (some .int) 2 := ⟨zin2 (List.mem_of_getElem? (i := 209) rfl) rfl, zini_X5, ⟨by decide +kernel, by decide +kernel⟩, by decide +kernel, by decide⟩
theorem zi_X5_stateOf : Cond.instanceMethod yX5_stateOf ∈ zW := zin2 (List.mem_of_getElem? (i := 207) (by decide +kernel)) rfl
theorem zs_X5_stateOf : Cond.selects yX5_stateOf.cls yX5_stateOf yX5_stateOf ∈ zW := zin2 (List.mem_of_getElem? (i := 208) (by decide +kernel)) rfl
theorem zce_X6_mostOf : zCe yX6_mostOf cX6_mostOf 1 (some .int) 1 := ⟨zin2 (List.mem_of_getElem? (i := 205) rfl) rfl, zini_X6, ⟨by decide +kernel, by decide +kernel⟩, by decide +kernel, by decide⟩
theorem zt_X6_mostOf : Cond.static yX6_mostOf ∈ zW := zin2 (List.mem_of_getElem? (i := 204) (by decide +kernel)) rfl
theorem zce_X6_put : zCe yX6_put cX6_put 5 (some .int) 3 := ⟨zin2 (List.mem_of_getElem? (i := 202) rfl) rfl, zini_X6, ⟨by decide +kernel, by decide +kernel⟩, by decide +kernel, by decide⟩
theorem zi_X6_put : Cond.instanceMethod yX6_put ∈ zW := zin2 (List.mem_of_getElem? (i := 200) (by decide +kernel)) rfl
theorem zs_X6_put : Cond.selects yX6_put.cls yX6_put yX6_put ∈ zW := zin2 (List.mem_of_getElem? (i := 201) (by decide +kernel)) rfl
theorem zce_X5_isOwed : zCe yX5_isOwed cX5_isOwed 2 (some .int) 1 := ⟨zin2 (List.mem_of_getElem? (i := 222) rfl) rfl, zini_X5, ⟨by decide +kernel, by decide +kernel⟩, by decide +kernel, by decide⟩
theorem zi_X5_isOwed : Cond.instanceMethod yX5_isOwed ∈ zW := zin2 (List.mem_of_getElem? (i := 220) (by decide +kernel)) rfl
theorem zs_X5_isOwed : Cond.selects yX5_isOwed.cls yX5_isOwed yX5_isOwed ∈ zW := zin2 (List.mem_of_getElem? (i := 221) (by decide +kernel)) rfl
theorem zce_X5_loansFrom : zCe yX5_loansFrom cX5_loansFrom 4 (some .int) 1 := ⟨zin2 (List.mem_of_getElem? (i := 226) rfl) rfl, zini_X5, ⟨by decide +kernel, by decide +kernel⟩, by decide +kernel, by decide⟩
theorem zi_X5_loansFrom : Cond.instanceMethod yX5_loansFrom ∈ zW := zin2 (List.mem_of_getElem? (i := 224) (by decide +kernel)) rfl
theorem zs_X5_loansFrom : Cond.selects yX5_loansFrom.cls yX5_loansFrom yX5_loansFrom ∈ zW := zin2 (List.mem_of_getElem? (i := 225) (by decide +kernel)) rfl
theorem zce_X6_told : zCe yX6_told cX6_told 3 (some .int) 2 := ⟨zin2 (List.mem_of_getElem? (i := 217) rfl) rfl, zini_X6, ⟨by decide +kernel, by decide +kernel⟩, by decide +kernel, by decide⟩
theorem zi_X6_told : Cond.instanceMethod yX6_told ∈ zW := zin2 (List.mem_of_getElem? (i := 215) (by decide +kernel)) rfl
theorem zs_X6_told : Cond.selects yX6_told.cls yX6_told yX6_told ∈ zW := zin2 (List.mem_of_getElem? (i := 216) (by decide +kernel)) rfl
theorem zce_X5_pass : zCe yX5_pass cX5_pass 4 none 3 := ⟨zin3 (List.mem_of_getElem? (i := 1) rfl) rfl, zini_X5, ⟨by decide +kernel, by decide +kernel⟩, by decide +kernel, by decide⟩
theorem zi_X5_pass : Cond.instanceMethod yX5_pass ∈ zW := zin3 (List.mem_of_getElem? (i := 0) (by decide +kernel)) rfl
theorem zs_X5_pass : Cond.selects yX5_pass.cls yX5_pass yX5_pass ∈ zW := zinp 18 (by decide +kernel) rfl
theorem zce_X5_lends : zCe yX5_lends cX5_lends 5 (some .int) 4 := ⟨zin2 (List.mem_of_getElem? (i := 237) rfl) rfl, zini_X5, ⟨by decide +kernel, by decide +kernel⟩, by decide +kernel, by decide⟩
theorem zi_X5_lends : Cond.instanceMethod yX5_lends ∈ zW := zin2 (List.mem_of_getElem? (i := 235) (by decide +kernel)) rfl
theorem zs_X5_lends : Cond.selects yX5_lends.cls yX5_lends yX5_lends ∈ zW := zin2 (List.mem_of_getElem? (i := 236) (by decide +kernel)) rfl
theorem zce_X6_isCoalNights : zCe yX6_isCoalNights cX6_isCoalNights 2 (some .boolean) 2 := ⟨zin2 (List.mem_of_getElem? (i := 233) rfl) rfl, zini_X6, ⟨by decide +kernel, by decide +kernel⟩, by decide +kernel, by decide⟩
theorem zt_X6_isCoalNights : Cond.static yX6_isCoalNights ∈ zW := zin2 (List.mem_of_getElem? (i := 232) (by decide +kernel)) rfl
theorem zce_X6_lend : zCe yX6_lend cX6_lend 5 (some .int) 2 := ⟨zin2 (List.mem_of_getElem? (i := 230) rfl) rfl, zini_X6, ⟨by decide +kernel, by decide +kernel⟩, by decide +kernel, by decide⟩
theorem zi_X6_lend : Cond.instanceMethod yX6_lend ∈ zW := zin2 (List.mem_of_getElem? (i := 228) (by decide +kernel)) rfl
theorem zs_X6_lend : Cond.selects yX6_lend.cls yX6_lend yX6_lend ∈ zW := zin2 (List.mem_of_getElem? (i := 229) (by decide +kernel)) rfl
theorem zce_X5_isLoan : zCe yX5_isLoan cX5_isLoan 2 (some .boolean) 1 := ⟨zin3 (List.mem_of_getElem? (i := 9) rfl) rfl, zini_X5, ⟨by decide +kernel, by decide +kernel⟩, by decide +kernel, by decide⟩
theorem zi_X5_isLoan : Cond.instanceMethod yX5_isLoan ∈ zW := zin3 (List.mem_of_getElem? (i := 7) (by decide +kernel)) rfl
theorem zs_X5_isLoan : Cond.selects yX5_isLoan.cls yX5_isLoan yX5_isLoan ∈ zW := zin3 (List.mem_of_getElem? (i := 8) (by decide +kernel)) rfl
theorem zce_X6_loan : zCe yX6_loan cX6_loan 3 (some .int) 2 := ⟨zin3 (List.mem_of_getElem? (i := 5) rfl) rfl, zini_X6, ⟨by decide +kernel, by decide +kernel⟩, by decide +kernel, by decide⟩
theorem zi_X6_loan : Cond.instanceMethod yX6_loan ∈ zW := zin3 (List.mem_of_getElem? (i := 3) (by decide +kernel)) rfl
theorem zs_X6_loan : Cond.selects yX6_loan.cls yX6_loan yX6_loan ∈ zW := zin3 (List.mem_of_getElem? (i := 4) (by decide +kernel)) rfl
theorem zce_X5_canRepay : zCe yX5_canRepay cX5_canRepay 2 (some .boolean) 1 := ⟨zin3 (List.mem_of_getElem? (i := 17) rfl) rfl, zini_X5, ⟨by decide +kernel, by decide +kernel⟩, by decide +kernel, by decide⟩
theorem zi_X5_canRepay : Cond.instanceMethod yX5_canRepay ∈ zW := zin3 (List.mem_of_getElem? (i := 15) (by decide +kernel)) rfl
theorem zs_X5_canRepay : Cond.selects yX5_canRepay.cls yX5_canRepay yX5_canRepay ∈ zW := zin3 (List.mem_of_getElem? (i := 16) (by decide +kernel)) rfl
theorem zce_X5_drop : zCe yX5_drop cX5_drop 3 none 1 := ⟨zin3 (List.mem_of_getElem? (i := 25) rfl) rfl, zini_X5, ⟨by decide +kernel, by decide +kernel⟩, by decide +kernel, by decide⟩
theorem zi_X5_drop : Cond.instanceMethod yX5_drop ∈ zW := zin3 (List.mem_of_getElem? (i := 23) (by decide +kernel)) rfl
theorem zs_X5_drop : Cond.selects yX5_drop.cls yX5_drop yX5_drop ∈ zW := zin3 (List.mem_of_getElem? (i := 24) (by decide +kernel)) rfl
theorem zce_X5_payBack : zCe yX5_payBack cX5_payBack 2 none 1 := ⟨zin3 (List.mem_of_getElem? (i := 21) rfl) rfl, zini_X5, ⟨by decide +kernel, by decide +kernel⟩, by decide +kernel, by decide⟩
theorem zi_X5_payBack : Cond.instanceMethod yX5_payBack ∈ zW := zin3 (List.mem_of_getElem? (i := 19) (by decide +kernel)) rfl
theorem zs_X5_payBack : Cond.selects yX5_payBack.cls yX5_payBack yX5_payBack ∈ zW := zin3 (List.mem_of_getElem? (i := 20) (by decide +kernel)) rfl
theorem zce_X6_repay : zCe yX6_repay cX6_repay 3 (some .int) 1 := ⟨zin3 (List.mem_of_getElem? (i := 13) rfl) rfl, zini_X6, ⟨by decide +kernel, by decide +kernel⟩, by decide +kernel, by decide⟩
theorem zi_X6_repay : Cond.instanceMethod yX6_repay ∈ zW := zin3 (List.mem_of_getElem? (i := 11) (by decide +kernel)) rfl
theorem zs_X6_repay : Cond.selects yX6_repay.cls yX6_repay yX6_repay ∈ zW := zin3 (List.mem_of_getElem? (i := 12) (by decide +kernel)) rfl
theorem zce_X6_forgive : zCe yX6_forgive cX6_forgive 3 (some .int) 1 := ⟨zin3 (List.mem_of_getElem? (i := 29) rfl) rfl, zini_X6, ⟨by decide +kernel, by decide +kernel⟩, by decide +kernel, by decide⟩
theorem zi_X6_forgive : Cond.instanceMethod yX6_forgive ∈ zW := zin3 (List.mem_of_getElem? (i := 27) (by decide +kernel)) rfl
theorem zs_X6_forgive : Cond.selects yX6_forgive.cls yX6_forgive yX6_forgive ∈ zW := zin3 (List.mem_of_getElem? (i := 28) (by decide +kernel)) rfl
theorem zce_X5_endDueLoans : zCe yX5_endDueLoans cX5_endDueLoans 4 (some .int) 0 := ⟨zin3 (List.mem_of_getElem? (i := 49) rfl) rfl, zini_X5, ⟨by decide +kernel, by decide +kernel⟩, by decide +kernel, by decide⟩
theorem zi_X5_endDueLoans : Cond.instanceMethod yX5_endDueLoans ∈ zW := zin3 (List.mem_of_getElem? (i := 48) (by decide +kernel)) rfl
theorem zs_X5_endDueLoans : Cond.selects yX5_endDueLoans.cls yX5_endDueLoans yX5_endDueLoans ∈ zW := zinp 20 (by decide +kernel) rfl
theorem zce_X1_growth : zCe yX1_growth cX1_growth 4 (some .int) 4 := ⟨zin3 (List.mem_of_getElem? (i := 45) rfl) rfl, zini_X1, ⟨by decide +kernel, by decide +kernel⟩, by decide +kernel, by decide⟩
theorem zt_X1_growth : Cond.static yX1_growth ∈ zW := zin3 (List.mem_of_getElem? (i := 44) (by decide +kernel)) rfl
theorem zce_X5_grow : zCe yX5_grow cX5_grow 4 none 1 := ⟨zin3 (List.mem_of_getElem? (i := 41) rfl) rfl, zini_X5, ⟨by decide +kernel, by decide +kernel⟩, by decide +kernel, by decide⟩
theorem zi_X5_grow : Cond.instanceMethod yX5_grow ∈ zW := zin3 (List.mem_of_getElem? (i := 40) (by decide +kernel)) rfl
theorem zs_X5_grow : Cond.selects yX5_grow.cls yX5_grow yX5_grow ∈ zW := zinp 19 (by decide +kernel) rfl
theorem zce_X1_burning : zCe yX1_burning cX1_burning 4 (some .int) 4 := ⟨zin3 (List.mem_of_getElem? (i := 59) rfl) rfl, zini_X1, ⟨by decide +kernel, by decide +kernel⟩, by decide +kernel, by decide⟩
theorem zt_X1_burning : Cond.static yX1_burning ∈ zW := zin3 (List.mem_of_getElem? (i := 58) (by decide +kernel)) rfl
theorem zce_X1_cooling : zCe yX1_cooling cX1_cooling 3 (some .int) 3 := ⟨zin3 (List.mem_of_getElem? (i := 62) rfl) rfl, zini_X1, ⟨by decide +kernel, by decide +kernel⟩, by decide +kernel, by decide⟩
theorem zt_X1_cooling : Cond.static yX1_cooling ∈ zW := zin3 (List.mem_of_getElem? (i := 61) (by decide +kernel)) rfl
theorem zce_X5_warm : zCe yX5_warm cX5_warm 3 none 1 := ⟨zin3 (List.mem_of_getElem? (i := 56) rfl) rfl, zini_X5, ⟨by decide +kernel, by decide +kernel⟩, by decide +kernel, by decide⟩
theorem zi_X5_warm : Cond.instanceMethod yX5_warm ∈ zW := zin3 (List.mem_of_getElem? (i := 55) (by decide +kernel)) rfl
theorem zs_X5_warm : Cond.selects yX5_warm.cls yX5_warm yX5_warm ∈ zW := zinp 21 (by decide +kernel) rfl
theorem zce_X5_passNight : zCe yX5_passNight cX5_passNight 3 (some .int) 0 := ⟨zin3 (List.mem_of_getElem? (i := 37) rfl) rfl, zini_X5, ⟨by decide +kernel, by decide +kernel⟩, by decide +kernel, by decide⟩
theorem zi_X5_passNight : Cond.instanceMethod yX5_passNight ∈ zW := zin3 (List.mem_of_getElem? (i := 35) (by decide +kernel)) rfl
theorem zs_X5_passNight : Cond.selects yX5_passNight.cls yX5_passNight yX5_passNight ∈ zW := zin3 (List.mem_of_getElem? (i := 36) (by decide +kernel)) rfl
theorem zce_X6_night : zCe yX6_night cX6_night 1 (some .int) 0 := ⟨zin3 (List.mem_of_getElem? (i := 33) rfl) rfl, zini_X6, ⟨by decide +kernel, by decide +kernel⟩, by decide +kernel, by decide⟩
theorem zi_X6_night : Cond.instanceMethod yX6_night ∈ zW := zin3 (List.mem_of_getElem? (i := 31) (by decide +kernel)) rfl
theorem zs_X6_night : Cond.selects yX6_night.cls yX6_night yX6_night ∈ zW := zin3 (List.mem_of_getElem? (i := 32) (by decide +kernel)) rfl
theorem zce_X5_passNights : zCe yX5_passNights cX5_passNights 4 (some .int) 1 := ⟨zin3 (List.mem_of_getElem? (i := 79) rfl) rfl, zini_X5, ⟨by decide +kernel, by decide +kernel⟩, by decide +kernel, by decide⟩
theorem zi_X5_passNights : Cond.instanceMethod yX5_passNights ∈ zW := zin3 (List.mem_of_getElem? (i := 77) (by decide +kernel)) rfl
theorem zs_X5_passNights : Cond.selects yX5_passNights.cls yX5_passNights yX5_passNights ∈ zW := zin3 (List.mem_of_getElem? (i := 78) (by decide +kernel)) rfl
theorem zce_X5_becomeAs : zCe yX5_becomeAs cX5_becomeAs 2 none 1 := ⟨zin3 (List.mem_of_getElem? (i := 74) rfl) rfl, zini_X5, ⟨by decide +kernel, by decide +kernel⟩, by decide +kernel, by decide⟩
theorem zi_X5_becomeAs : Cond.instanceMethod yX5_becomeAs ∈ zW := zin3 (List.mem_of_getElem? (i := 72) (by decide +kernel)) rfl
theorem zs_X5_becomeAs : Cond.selects yX5_becomeAs.cls yX5_becomeAs yX5_becomeAs ∈ zW := zin3 (List.mem_of_getElem? (i := 73) (by decide +kernel)) rfl
theorem zce_X6_think : zCe yX6_think cX6_think 1 (some (.object "CoalIsLent$World")) 0 := ⟨zin3 (List.mem_of_getElem? (i := 70) rfl) rfl, zini_X6, ⟨by decide +kernel, by decide +kernel⟩, by decide +kernel, by decide⟩
theorem zi_X6_think : Cond.instanceMethod yX6_think ∈ zW := zin3 (List.mem_of_getElem? (i := 69) (by decide +kernel)) rfl
theorem zs_X6_think : Cond.selects yX6_think.cls yX6_think yX6_think ∈ zW := zinp 22 (by decide +kernel) rfl
theorem zce_X6_run : zCe yX6_run cX6_run 6 (some .int) 2 := ⟨zin3 (List.mem_of_getElem? (i := 66) rfl) rfl, zini_X6, ⟨by decide +kernel, by decide +kernel⟩, by decide +kernel, by decide⟩
theorem zi_X6_run : Cond.instanceMethod yX6_run ∈ zW := zin3 (List.mem_of_getElem? (i := 64) (by decide +kernel)) rfl
theorem zs_X6_run : Cond.selects yX6_run.cls yX6_run yX6_run ∈ zW := zin3 (List.mem_of_getElem? (i := 65) (by decide +kernel)) rfl
theorem zce_X6_has : zCe yX6_has cX6_has 2 (some .boolean) 2 := ⟨zin3 (List.mem_of_getElem? (i := 91) rfl) rfl, zini_X6, ⟨by decide +kernel, by decide +kernel⟩, by decide +kernel, by decide⟩
theorem zt_X6_has : Cond.static yX6_has ∈ zW := zin3 (List.mem_of_getElem? (i := 90) (by decide +kernel)) rfl
theorem zce_X6_nightsToFailing : zCe yX6_nightsToFailing cX6_nightsToFailing 4 (some .int) 1 := ⟨zin3 (List.mem_of_getElem? (i := 88) rfl) rfl, zini_X6, ⟨by decide +kernel, by decide +kernel⟩, by decide +kernel, by decide⟩
theorem zi_X6_nightsToFailing : Cond.instanceMethod yX6_nightsToFailing ∈ zW := zin3 (List.mem_of_getElem? (i := 87) (by decide +kernel)) rfl
theorem zs_X6_nightsToFailing : Cond.selects yX6_nightsToFailing.cls yX6_nightsToFailing yX6_nightsToFailing ∈ zW := zinp 23 (by decide +kernel) rfl
theorem zce_X6_nightsToNoHeat : zCe yX6_nightsToNoHeat cX6_nightsToNoHeat 4 (some .int) 1 := ⟨zin3 (List.mem_of_getElem? (i := 95) rfl) rfl, zini_X6, ⟨by decide +kernel, by decide +kernel⟩, by decide +kernel, by decide⟩
theorem zi_X6_nightsToNoHeat : Cond.instanceMethod yX6_nightsToNoHeat ∈ zW := zin3 (List.mem_of_getElem? (i := 94) (by decide +kernel)) rfl
theorem zs_X6_nightsToNoHeat : Cond.selects yX6_nightsToNoHeat.cls yX6_nightsToNoHeat yX6_nightsToNoHeat ∈ zW := zinp 24 (by decide +kernel) rfl
theorem zce_X6_lasts : zCe yX6_lasts cX6_lasts 3 (some .int) 2 := ⟨zin3 (List.mem_of_getElem? (i := 84) rfl) rfl, zini_X6, ⟨by decide +kernel, by decide +kernel⟩, by decide +kernel, by decide⟩
theorem zi_X6_lasts : Cond.instanceMethod yX6_lasts ∈ zW := zin3 (List.mem_of_getElem? (i := 82) (by decide +kernel)) rfl
theorem zs_X6_lasts : Cond.selects yX6_lasts.cls yX6_lasts yX6_lasts ∈ zW := zin3 (List.mem_of_getElem? (i := 83) (by decide +kernel)) rfl
theorem zce_X6_net : zCe yX6_net cX6_net 2 (some .int) 1 := ⟨zin3 (List.mem_of_getElem? (i := 99) rfl) rfl, zini_X6, ⟨by decide +kernel, by decide +kernel⟩, by decide +kernel, by decide⟩
theorem zi_X6_net : Cond.instanceMethod yX6_net ∈ zW := zin3 (List.mem_of_getElem? (i := 97) (by decide +kernel)) rfl
theorem zs_X6_net : Cond.selects yX6_net.cls yX6_net yX6_net ∈ zW := zin3 (List.mem_of_getElem? (i := 98) (by decide +kernel)) rfl
theorem zce_X6_payOnce : zCe yX6_payOnce cX6_payOnce 4 (some .int) 0 := ⟨zin3 (List.mem_of_getElem? (i := 109) rfl) rfl, zini_X6, ⟨by decide +kernel, by decide +kernel⟩, by decide +kernel, by decide⟩
theorem zi_X6_payOnce : Cond.instanceMethod yX6_payOnce ∈ zW := zin3 (List.mem_of_getElem? (i := 108) (by decide +kernel)) rfl
theorem zs_X6_payOnce : Cond.selects yX6_payOnce.cls yX6_payOnce yX6_payOnce ∈ zW := zinp 25 (by decide +kernel) rfl
theorem zce_X6_settle : zCe yX6_settle cX6_settle 6 (some .int) 1 := ⟨zin3 (List.mem_of_getElem? (i := 104) rfl) rfl, zini_X6, ⟨by decide +kernel, by decide +kernel⟩, by decide +kernel, by decide⟩
theorem zi_X6_settle : Cond.instanceMethod yX6_settle ∈ zW := zin3 (List.mem_of_getElem? (i := 102) (by decide +kernel)) rfl
theorem zs_X6_settle : Cond.selects yX6_settle.cls yX6_settle yX6_settle ∈ zW := zin3 (List.mem_of_getElem? (i := 103) (by decide +kernel)) rfl
theorem zce_X5_sourceOf : zCe yX5_sourceOf cX5_sourceOf 5 (some .int) 1 := ⟨zin3 (List.mem_of_getElem? (i := 118) rfl) rfl, zini_X5, ⟨by decide +kernel, by decide +kernel⟩, by decide +kernel, by decide⟩
theorem zi_X5_sourceOf : Cond.instanceMethod yX5_sourceOf ∈ zW := zin3 (List.mem_of_getElem? (i := 116) (by decide +kernel)) rfl
theorem zs_X5_sourceOf : Cond.selects yX5_sourceOf.cls yX5_sourceOf yX5_sourceOf ∈ zW := zin3 (List.mem_of_getElem? (i := 117) (by decide +kernel)) rfl
theorem zce_X6_source : zCe yX6_source cX6_source 2 (some .int) 1 := ⟨zin3 (List.mem_of_getElem? (i := 114) rfl) rfl, zini_X6, ⟨by decide +kernel, by decide +kernel⟩, by decide +kernel, by decide⟩
theorem zi_X6_source : Cond.instanceMethod yX6_source ∈ zW := zin3 (List.mem_of_getElem? (i := 112) (by decide +kernel)) rfl
theorem zs_X6_source : Cond.selects yX6_source.cls yX6_source yX6_source ∈ zW := zin3 (List.mem_of_getElem? (i := 113) (by decide +kernel)) rfl
theorem zce_X6_rings : zCe yX6_rings cX6_rings 6 (some .int) 1 := ⟨zin3 (List.mem_of_getElem? (i := 123) rfl) rfl, zini_X6, ⟨by decide +kernel, by decide +kernel⟩, by decide +kernel, by decide⟩
theorem zi_X6_rings : Cond.instanceMethod yX6_rings ∈ zW := zin3 (List.mem_of_getElem? (i := 121) (by decide +kernel)) rfl
theorem zs_X6_rings : Cond.selects yX6_rings.cls yX6_rings yX6_rings ∈ zW := zin3 (List.mem_of_getElem? (i := 122) (by decide +kernel)) rfl
theorem zce_X6_heatIfLent : zCe yX6_heatIfLent cX6_heatIfLent 6 (some .int) 3 := ⟨zin3 (List.mem_of_getElem? (i := 131) rfl) rfl, zini_X6, ⟨by decide +kernel, by decide +kernel⟩, by decide +kernel, by decide⟩
theorem zi_X6_heatIfLent : Cond.instanceMethod yX6_heatIfLent ∈ zW := zin3 (List.mem_of_getElem? (i := 130) (by decide +kernel)) rfl
theorem zs_X6_heatIfLent : Cond.selects yX6_heatIfLent.cls yX6_heatIfLent yX6_heatIfLent ∈ zW := zinp 26 (by decide +kernel) rfl
theorem zce_X6_ask : zCe yX6_ask cX6_ask 8 (some .int) 3 := ⟨zin3 (List.mem_of_getElem? (i := 127) rfl) rfl, zini_X6, ⟨by decide +kernel, by decide +kernel⟩, by decide +kernel, by decide⟩
theorem zi_X6_ask : Cond.instanceMethod yX6_ask ∈ zW := zin3 (List.mem_of_getElem? (i := 125) (by decide +kernel)) rfl
theorem zs_X6_ask : Cond.selects yX6_ask.cls yX6_ask yX6_ask ∈ zW := zin3 (List.mem_of_getElem? (i := 126) (by decide +kernel)) rfl
theorem zce_X5_failedIn : zCe yX5_failedIn cX5_failedIn 4 (some .int) 1 := ⟨zin3 (List.mem_of_getElem? (i := 139) rfl) rfl, zini_X5, ⟨by decide +kernel, by decide +kernel⟩, by decide +kernel, by decide⟩
theorem zi_X5_failedIn : Cond.instanceMethod yX5_failedIn ∈ zW := zin3 (List.mem_of_getElem? (i := 137) (by decide +kernel)) rfl
theorem zs_X5_failedIn : Cond.selects yX5_failedIn.cls yX5_failedIn yX5_failedIn ∈ zW := zin3 (List.mem_of_getElem? (i := 138) (by decide +kernel)) rfl
theorem zce_X6_needs : zCe yX6_needs cX6_needs 5 (some .int) 2 := ⟨zin3 (List.mem_of_getElem? (i := 135) rfl) rfl, zini_X6, ⟨by decide +kernel, by decide +kernel⟩, by decide +kernel, by decide⟩
theorem zi_X6_needs : Cond.instanceMethod yX6_needs ∈ zW := zin3 (List.mem_of_getElem? (i := 133) (by decide +kernel)) rfl
theorem zs_X6_needs : Cond.selects yX6_needs.cls yX6_needs yX6_needs ∈ zW := zin3 (List.mem_of_getElem? (i := 134) (by decide +kernel)) rfl
theorem zce_J6_bitCount_0f7a4 : zCe yJ6_bitCount_0f7a4 cJ6_bitCount_0f7a4 1 (some .int) 1 := ⟨zin3 (List.mem_of_getElem? (i := 146) rfl) rfl, zini_J6, ⟨by decide +kernel, by decide +kernel⟩, by decide +kernel, by decide⟩
theorem zt_J6_bitCount_0f7a4 : Cond.static yJ6_bitCount_0f7a4 ∈ zW := zin3 (List.mem_of_getElem? (i := 145) (by decide +kernel)) rfl
theorem zce_X6_mercy : zCe yX6_mercy cX6_mercy 8 (some .int) 2 := ⟨zin3 (List.mem_of_getElem? (i := 143) rfl) rfl, zini_X6, ⟨by decide +kernel, by decide +kernel⟩, by decide +kernel, by decide⟩
theorem zi_X6_mercy : Cond.instanceMethod yX6_mercy ∈ zW := zin3 (List.mem_of_getElem? (i := 141) (by decide +kernel)) rfl
theorem zs_X6_mercy : Cond.selects yX6_mercy.cls yX6_mercy yX6_mercy ∈ zW := zin3 (List.mem_of_getElem? (i := 142) (by decide +kernel)) rfl
theorem zce_X6_heatOfOthersWithout : zCe yX6_heatOfOthersWithout cX6_heatOfOthersWithout 4 (some .int) 2 := ⟨zin3 (List.mem_of_getElem? (i := 157) rfl) rfl, zini_X6, ⟨by decide +kernel, by decide +kernel⟩, by decide +kernel, by decide⟩
theorem zi_X6_heatOfOthersWithout : Cond.instanceMethod yX6_heatOfOthersWithout ∈ zW := zin3 (List.mem_of_getElem? (i := 156) (by decide +kernel)) rfl
theorem zs_X6_heatOfOthersWithout : Cond.selects yX6_heatOfOthersWithout.cls yX6_heatOfOthersWithout yX6_heatOfOthersWithout ∈ zW := zinp 27 (by decide +kernel) rfl
theorem zce_X6_worst : zCe yX6_worst cX6_worst 7 (some .int) 2 := ⟨zin3 (List.mem_of_getElem? (i := 153) rfl) rfl, zini_X6, ⟨by decide +kernel, by decide +kernel⟩, by decide +kernel, by decide⟩
theorem zi_X6_worst : Cond.instanceMethod yX6_worst ∈ zW := zin3 (List.mem_of_getElem? (i := 151) (by decide +kernel)) rfl
theorem zs_X6_worst : Cond.selects yX6_worst.cls yX6_worst yX6_worst ∈ zW := zin3 (List.mem_of_getElem? (i := 152) (by decide +kernel)) rfl
theorem zce_X3_at : zCe yX3_at cX3_at 3 (some .int) 2 := ⟨zin3 (List.mem_of_getElem? (i := 189) rfl) rfl, zini_X3, ⟨by decide +kernel, by decide +kernel⟩, by decide +kernel, by decide⟩
theorem zi_X3_at : Cond.instanceMethod yX3_at ∈ zW := zin3 (List.mem_of_getElem? (i := 187) (by decide +kernel)) rfl
theorem zs_X3_at : Cond.selects yX3_at.cls yX3_at yX3_at ∈ zW := zin3 (List.mem_of_getElem? (i := 188) (by decide +kernel)) rfl
theorem zce_X3_sizeOf : zCe yX3_sizeOf cX3_sizeOf 2 (some .int) 1 := ⟨zin3 (List.mem_of_getElem? (i := 181) rfl) rfl, zini_X3, ⟨by decide +kernel, by decide +kernel⟩, by decide +kernel, by decide⟩
theorem zi_X3_sizeOf : Cond.instanceMethod yX3_sizeOf ∈ zW := zin3 (List.mem_of_getElem? (i := 179) (by decide +kernel)) rfl
theorem zs_X3_sizeOf : Cond.selects yX3_sizeOf.cls yX3_sizeOf yX3_sizeOf ∈ zW := zin3 (List.mem_of_getElem? (i := 180) (by decide +kernel)) rfl
theorem zce_X6_firstOtherwise : zCe yX6_firstOtherwise cX6_firstOtherwise 6 (some .int) 3 := ⟨zin3 (List.mem_of_getElem? (i := 185) rfl) rfl, zini_X6, ⟨by decide +kernel, by decide +kernel⟩, by decide +kernel, by decide⟩
theorem zi_X6_firstOtherwise : Cond.instanceMethod yX6_firstOtherwise ∈ zW := zin3 (List.mem_of_getElem? (i := 184) (by decide +kernel)) rfl
theorem zs_X6_firstOtherwise : Cond.selects yX6_firstOtherwise.cls yX6_firstOtherwise yX6_firstOtherwise ∈ zW := zinp 30 (by decide +kernel) rfl
theorem zce_X3_isMissing : zCe yX3_isMissing cX3_isMissing 2 (some .boolean) 1 := ⟨zin3 (List.mem_of_getElem? (i := 177) rfl) rfl, zini_X3, ⟨by decide +kernel, by decide +kernel⟩, by decide +kernel, by decide⟩
theorem zi_X3_isMissing : Cond.instanceMethod yX3_isMissing ∈ zW := zin3 (List.mem_of_getElem? (i := 175) (by decide +kernel)) rfl
theorem zs_X3_isMissing : Cond.selects yX3_isMissing.cls yX3_isMissing yX3_isMissing ∈ zW := zin3 (List.mem_of_getElem? (i := 176) (by decide +kernel)) rfl
theorem zce_X3_isSheet : zCe yX3_isSheet cX3_isSheet 2 (some .boolean) 1 := ⟨zin3 (List.mem_of_getElem? (i := 173) rfl) rfl, zini_X3, ⟨by decide +kernel, by decide +kernel⟩, by decide +kernel, by decide⟩
theorem zi_X3_isSheet : Cond.instanceMethod yX3_isSheet ∈ zW := zin3 (List.mem_of_getElem? (i := 171) (by decide +kernel)) rfl
theorem zs_X3_isSheet : Cond.selects yX3_isSheet.cls yX3_isSheet yX3_isSheet ∈ zW := zin3 (List.mem_of_getElem? (i := 172) (by decide +kernel)) rfl
theorem zce_X6_toldRefusal : zCe yX6_toldRefusal cX6_toldRefusal 2 (some .int) 1 := ⟨zin3 (List.mem_of_getElem? (i := 169) rfl) rfl, zini_X6, ⟨by decide +kernel, by decide +kernel⟩, by decide +kernel, by decide⟩
theorem zi_X6_toldRefusal : Cond.instanceMethod yX6_toldRefusal ∈ zW := zin3 (List.mem_of_getElem? (i := 168) (by decide +kernel)) rfl
theorem zs_X6_toldRefusal : Cond.selects yX6_toldRefusal.cls yX6_toldRefusal yX6_toldRefusal ∈ zW := zinp 29 (by decide +kernel) rfl
theorem zce_X6_judgeRefusal : zCe yX6_judgeRefusal cX6_judgeRefusal 4 (some .int) 2 := ⟨zin3 (List.mem_of_getElem? (i := 165) rfl) rfl, zini_X6, ⟨by decide +kernel, by decide +kernel⟩, by decide +kernel, by decide⟩
theorem zi_X6_judgeRefusal : Cond.instanceMethod yX6_judgeRefusal ∈ zW := zin3 (List.mem_of_getElem? (i := 164) (by decide +kernel)) rfl
theorem zs_X6_judgeRefusal : Cond.selects yX6_judgeRefusal.cls yX6_judgeRefusal yX6_judgeRefusal ∈ zW := zinp 28 (by decide +kernel) rfl
theorem zce_X6_judge : zCe yX6_judge cX6_judge 4 (some .int) 2 := ⟨zin3 (List.mem_of_getElem? (i := 161) rfl) rfl, zini_X6, ⟨by decide +kernel, by decide +kernel⟩, by decide +kernel, by decide⟩
theorem zi_X6_judge : Cond.instanceMethod yX6_judge ∈ zW := zin3 (List.mem_of_getElem? (i := 159) (by decide +kernel)) rfl
theorem zs_X6_judge : Cond.selects yX6_judge.cls yX6_judge yX6_judge ∈ zW := zin3 (List.mem_of_getElem? (i := 160) (by decide +kernel)) rfl
theorem zce_X6_isTold : zCe yX6_isTold cX6_isTold 4 (some .boolean) 3 := ⟨zin3 (List.mem_of_getElem? (i := 197) rfl) rfl, zini_X6, ⟨by decide +kernel, by decide +kernel⟩, by decide +kernel, by decide⟩
theorem zi_X6_isTold : Cond.instanceMethod yX6_isTold ∈ zW := zin3 (List.mem_of_getElem? (i := 196) (by decide +kernel)) rfl
theorem zs_X6_isTold : Cond.selects yX6_isTold.cls yX6_isTold yX6_isTold ∈ zW := zinp 31 (by decide +kernel) rfl
theorem zce_X6_kinds : zCe yX6_kinds cX6_kinds 8 (some .int) 3 := ⟨zin3 (List.mem_of_getElem? (i := 193) rfl) rfl, zini_X6, ⟨by decide +kernel, by decide +kernel⟩, by decide +kernel, by decide⟩
theorem zi_X6_kinds : Cond.instanceMethod yX6_kinds ∈ zW := zin3 (List.mem_of_getElem? (i := 191) (by decide +kernel)) rfl
theorem zs_X6_kinds : Cond.selects yX6_kinds.cls yX6_kinds yX6_kinds ∈ zW := zin3 (List.mem_of_getElem? (i := 192) (by decide +kernel)) rfl
theorem zce_X6_states : zCe yX6_states cX6_states 10 (some .int) 4 := ⟨zin3 (List.mem_of_getElem? (i := 201) rfl) rfl, zini_X6, ⟨by decide +kernel, by decide +kernel⟩, by decide +kernel, by decide⟩
theorem zi_X6_states : Cond.instanceMethod yX6_states ∈ zW := zin3 (List.mem_of_getElem? (i := 199) (by decide +kernel)) rfl
theorem zs_X6_states : Cond.selects yX6_states.cls yX6_states yX6_states ∈ zW := zin3 (List.mem_of_getElem? (i := 200) (by decide +kernel)) rfl
theorem zce_X6_whose : zCe yX6_whose cX6_whose 5 (some .int) 1 := ⟨zin3 (List.mem_of_getElem? (i := 205) rfl) rfl, zini_X6, ⟨by decide +kernel, by decide +kernel⟩, by decide +kernel, by decide⟩
theorem zi_X6_whose : Cond.instanceMethod yX6_whose ∈ zW := zin3 (List.mem_of_getElem? (i := 203) (by decide +kernel)) rfl
theorem zs_X6_whose : Cond.selects yX6_whose.cls yX6_whose yX6_whose ∈ zW := zin3 (List.mem_of_getElem? (i := 204) (by decide +kernel)) rfl
theorem zce_X6_laws : zCe yX6_laws cX6_laws 7 (some .int) 2 := ⟨zin3 (List.mem_of_getElem? (i := 209) rfl) rfl, zini_X6, ⟨by decide +kernel, by decide +kernel⟩, by decide +kernel, by decide⟩
theorem zi_X6_laws : Cond.instanceMethod yX6_laws ∈ zW := zin3 (List.mem_of_getElem? (i := 207) (by decide +kernel)) rfl
theorem zs_X6_laws : Cond.selects yX6_laws.cls yX6_laws yX6_laws ∈ zW := zin3 (List.mem_of_getElem? (i := 208) (by decide +kernel)) rfl
theorem zce_X3_renew : zCe yX3_renew cX3_renew 5 none 3 := ⟨zin3 (List.mem_of_getElem? (i := 217) rfl) rfl, zini_X3, ⟨by decide +kernel, by decide +kernel⟩, by decide +kernel, by decide⟩
theorem zi_X3_renew : Cond.instanceMethod yX3_renew ∈ zW := zin3 (List.mem_of_getElem? (i := 215) (by decide +kernel)) rfl
theorem zs_X3_renew : Cond.selects yX3_renew.cls yX3_renew yX3_renew ∈ zW := zin3 (List.mem_of_getElem? (i := 216) (by decide +kernel)) rfl
theorem zce_X3_write : zCe yX3_write cX3_write 5 none 3 := ⟨zin3 (List.mem_of_getElem? (i := 221) rfl) rfl, zini_X3, ⟨by decide +kernel, by decide +kernel⟩, by decide +kernel, by decide⟩
theorem zi_X3_write : Cond.instanceMethod yX3_write ∈ zW := zin3 (List.mem_of_getElem? (i := 219) (by decide +kernel)) rfl
theorem zs_X3_write : Cond.selects yX3_write.cls yX3_write yX3_write ∈ zW := zin3 (List.mem_of_getElem? (i := 220) (by decide +kernel)) rfl
theorem zce_X6_film : zCe yX6_film cX6_film 6 (some .int) 3 := ⟨zin3 (List.mem_of_getElem? (i := 213) rfl) rfl, zini_X6, ⟨by decide +kernel, by decide +kernel⟩, by decide +kernel, by decide⟩
theorem zi_X6_film : Cond.instanceMethod yX6_film ∈ zW := zin3 (List.mem_of_getElem? (i := 211) (by decide +kernel)) rfl
theorem zs_X6_film : Cond.selects yX6_film.cls yX6_film yX6_film ∈ zW := zin3 (List.mem_of_getElem? (i := 212) (by decide +kernel)) rfl
theorem zce_X5_passSnow : zCe yX5_passSnow cX5_passSnow 8 (some .int) 2 := ⟨zin3 (List.mem_of_getElem? (i := 233) rfl) rfl, zini_X5, ⟨by decide +kernel, by decide +kernel⟩, by decide +kernel, by decide⟩
theorem zi_X5_passSnow : Cond.instanceMethod yX5_passSnow ∈ zW := zin3 (List.mem_of_getElem? (i := 231) (by decide +kernel)) rfl
theorem zs_X5_passSnow : Cond.selects yX5_passSnow.cls yX5_passSnow yX5_passSnow ∈ zW := zin3 (List.mem_of_getElem? (i := 232) (by decide +kernel)) rfl
theorem zce_X6_isSnow : zCe yX6_isSnow cX6_isSnow 2 (some .boolean) 2 := ⟨zin3 (List.mem_of_getElem? (i := 228) rfl) rfl, zini_X6, ⟨by decide +kernel, by decide +kernel⟩, by decide +kernel, by decide⟩
theorem zt_X6_isSnow : Cond.static yX6_isSnow ∈ zW := zin3 (List.mem_of_getElem? (i := 227) (by decide +kernel)) rfl
theorem zce_X6_drawn : zCe yX6_drawn cX6_drawn 6 (some .int) 3 := ⟨zin3 (List.mem_of_getElem? (i := 225) rfl) rfl, zini_X6, ⟨by decide +kernel, by decide +kernel⟩, by decide +kernel, by decide⟩
theorem zi_X6_drawn : Cond.instanceMethod yX6_drawn ∈ zW := zin3 (List.mem_of_getElem? (i := 223) (by decide +kernel)) rfl
theorem zs_X6_drawn : Cond.selects yX6_drawn.cls yX6_drawn yX6_drawn ∈ zW := zin3 (List.mem_of_getElem? (i := 224) (by decide +kernel)) rfl
theorem zce_X6_greatestShared : zCe yX6_greatestShared cX6_greatestShared 3 (some .int) 2 := ⟨zin4 (List.mem_of_getElem? (i := 3) rfl) rfl, zini_X6, ⟨by decide +kernel, by decide +kernel⟩, by decide +kernel, by decide⟩
theorem zt_X6_greatestShared : Cond.static yX6_greatestShared ∈ zW := zin4 (List.mem_of_getElem? (i := 2) (by decide +kernel)) rfl
theorem zce_X6_odds : zCe yX6_odds cX6_odds 8 (some .long) 5 := ⟨zin3 (List.mem_of_getElem? (i := 239) rfl) rfl, zini_X6, ⟨by decide +kernel, by decide +kernel⟩, by decide +kernel, by decide⟩
theorem zi_X6_odds : Cond.instanceMethod yX6_odds ∈ zW := zin3 (List.mem_of_getElem? (i := 237) (by decide +kernel)) rfl
theorem zs_X6_odds : Cond.selects yX6_odds.cls yX6_odds yX6_odds ∈ zW := zin3 (List.mem_of_getElem? (i := 238) (by decide +kernel)) rfl
theorem zce_X6_image : zCe yX6_image cX6_image 1 (some .int) 0 := ⟨zin4 (List.mem_of_getElem? (i := 7) rfl) rfl, zini_X6, ⟨by decide +kernel, by decide +kernel⟩, by decide +kernel, by decide⟩
theorem zi_X6_image : Cond.instanceMethod yX6_image ∈ zW := zin4 (List.mem_of_getElem? (i := 5) (by decide +kernel)) rfl
theorem zs_X6_image : Cond.selects yX6_image.cls yX6_image yX6_image ∈ zW := zin4 (List.mem_of_getElem? (i := 6) (by decide +kernel)) rfl
theorem zce_X6_back : zCe yX6_back cX6_back 1 (some .int) 0 := ⟨zin4 (List.mem_of_getElem? (i := 11) rfl) rfl, zini_X6, ⟨by decide +kernel, by decide +kernel⟩, by decide +kernel, by decide⟩
theorem zi_X6_back : Cond.instanceMethod yX6_back ∈ zW := zin4 (List.mem_of_getElem? (i := 9) (by decide +kernel)) rfl
theorem zs_X6_back : Cond.selects yX6_back.cls yX6_back yX6_back ∈ zW := zin4 (List.mem_of_getElem? (i := 10) (by decide +kernel)) rfl
theorem zce_X6_sheet : zCe yX6_sheet cX6_sheet 5 (some .int) 3 := ⟨zin4 (List.mem_of_getElem? (i := 15) rfl) rfl, zini_X6, ⟨by decide +kernel, by decide +kernel⟩, by decide +kernel, by decide⟩
theorem zi_X6_sheet : Cond.instanceMethod yX6_sheet ∈ zW := zin4 (List.mem_of_getElem? (i := 13) (by decide +kernel)) rfl
theorem zs_X6_sheet : Cond.selects yX6_sheet.cls yX6_sheet yX6_sheet ∈ zW := zin4 (List.mem_of_getElem? (i := 14) (by decide +kernel)) rfl
theorem zce_X3_isPlace : zCe yX3_isPlace cX3_isPlace 3 (some .boolean) 2 := ⟨zin4 (List.mem_of_getElem? (i := 23) rfl) rfl, zini_X3, ⟨by decide +kernel, by decide +kernel⟩, by decide +kernel, by decide⟩
theorem zi_X3_isPlace : Cond.instanceMethod yX3_isPlace ∈ zW := zin4 (List.mem_of_getElem? (i := 21) (by decide +kernel)) rfl
theorem zs_X3_isPlace : Cond.selects yX3_isPlace.cls yX3_isPlace yX3_isPlace ∈ zW := zin4 (List.mem_of_getElem? (i := 22) (by decide +kernel)) rfl
theorem zce_X6_cell : zCe yX6_cell cX6_cell 4 (some .int) 3 := ⟨zin4 (List.mem_of_getElem? (i := 19) rfl) rfl, zini_X6, ⟨by decide +kernel, by decide +kernel⟩, by decide +kernel, by decide⟩
theorem zi_X6_cell : Cond.instanceMethod yX6_cell ∈ zW := zin4 (List.mem_of_getElem? (i := 17) (by decide +kernel)) rfl
theorem zs_X6_cell : Cond.selects yX6_cell.cls yX6_cell yX6_cell ∈ zW := zin4 (List.mem_of_getElem? (i := 18) (by decide +kernel)) rfl
theorem zce_X3_isStretch : zCe yX3_isStretch cX3_isStretch 4 (some .boolean) 3 := ⟨zin4 (List.mem_of_getElem? (i := 35) rfl) rfl, zini_X3, ⟨by decide +kernel, by decide +kernel⟩, by decide +kernel, by decide⟩
theorem zi_X3_isStretch : Cond.instanceMethod yX3_isStretch ∈ zW := zin4 (List.mem_of_getElem? (i := 33) (by decide +kernel)) rfl
theorem zs_X3_isStretch : Cond.selects yX3_isStretch.cls yX3_isStretch yX3_isStretch ∈ zW := zin4 (List.mem_of_getElem? (i := 34) (by decide +kernel)) rfl
theorem zce_X3_move : zCe yX3_move cX3_move 6 none 5 := ⟨zin4 (List.mem_of_getElem? (i := 39) rfl) rfl, zini_X3, ⟨by decide +kernel, by decide +kernel⟩, by decide +kernel, by decide⟩
theorem zi_X3_move : Cond.instanceMethod yX3_move ∈ zW := zin4 (List.mem_of_getElem? (i := 37) (by decide +kernel)) rfl
theorem zs_X3_move : Cond.selects yX3_move.cls yX3_move yX3_move ∈ zW := zin4 (List.mem_of_getElem? (i := 38) (by decide +kernel)) rfl
theorem zce_X3_sortOf : zCe yX3_sortOf cX3_sortOf 2 (some .int) 1 := ⟨zin4 (List.mem_of_getElem? (i := 31) rfl) rfl, zini_X3, ⟨by decide +kernel, by decide +kernel⟩, by decide +kernel, by decide⟩
theorem zi_X3_sortOf : Cond.instanceMethod yX3_sortOf ∈ zW := zin4 (List.mem_of_getElem? (i := 29) (by decide +kernel)) rfl
theorem zs_X3_sortOf : Cond.selects yX3_sortOf.cls yX3_sortOf yX3_sortOf ∈ zW := zin4 (List.mem_of_getElem? (i := 30) (by decide +kernel)) rfl
theorem zce_X6_copy : zCe yX6_copy cX6_copy 6 (some .int) 5 := ⟨zin4 (List.mem_of_getElem? (i := 27) rfl) rfl, zini_X6, ⟨by decide +kernel, by decide +kernel⟩, by decide +kernel, by decide⟩
theorem zi_X6_copy : Cond.instanceMethod yX6_copy ∈ zW := zin4 (List.mem_of_getElem? (i := 25) (by decide +kernel)) rfl
theorem zs_X6_copy : Cond.selects yX6_copy.cls yX6_copy yX6_copy ∈ zW := zin4 (List.mem_of_getElem? (i := 26) (by decide +kernel)) rfl
theorem zce_X6_hutsBy : zCe yX6_hutsBy cX6_hutsBy 8 (some .int) 4 := ⟨zin4 (List.mem_of_getElem? (i := 44) rfl) rfl, zini_X6, ⟨by decide +kernel, by decide +kernel⟩, by decide +kernel, by decide⟩
theorem zi_X6_hutsBy : Cond.instanceMethod yX6_hutsBy ∈ zW := zin4 (List.mem_of_getElem? (i := 42) (by decide +kernel)) rfl
theorem zs_X6_hutsBy : Cond.selects yX6_hutsBy.cls yX6_hutsBy yX6_hutsBy ∈ zW := zin4 (List.mem_of_getElem? (i := 43) (by decide +kernel)) rfl
theorem zce_X1_isOne : zCe yX1_isOne cX1_isOne 4 (some .boolean) 2 := ⟨zin4 (List.mem_of_getElem? (i := 51) rfl) rfl, zini_X1, ⟨by decide +kernel, by decide +kernel⟩, by decide +kernel, by decide⟩
theorem zt_X1_isOne : Cond.static yX1_isOne ∈ zW := zin4 (List.mem_of_getElem? (i := 50) (by decide +kernel)) rfl
theorem zce_X6_taken : zCe yX6_taken cX6_taken 5 (some .int) 2 := ⟨zin4 (List.mem_of_getElem? (i := 48) rfl) rfl, zini_X6, ⟨by decide +kernel, by decide +kernel⟩, by decide +kernel, by decide⟩
theorem zi_X6_taken : Cond.instanceMethod yX6_taken ∈ zW := zin4 (List.mem_of_getElem? (i := 46) (by decide +kernel)) rfl
theorem zs_X6_taken : Cond.selects yX6_taken.cls yX6_taken yX6_taken ∈ zW := zin4 (List.mem_of_getElem? (i := 47) (by decide +kernel)) rfl
theorem zce_X7_in : zCe yX7_in cX7_in 3 (some .boolean) 3 := ⟨zin4 (List.mem_of_getElem? (i := 70) rfl) rfl, zini_X7, ⟨by decide +kernel, by decide +kernel⟩, by decide +kernel, by decide⟩
theorem zt_X7_in : Cond.static yX7_in ∈ zW := zin4 (List.mem_of_getElem? (i := 69) (by decide +kernel)) rfl
theorem zce_X7_within : zCe yX7_within cX7_within 3 (some .int) 3 := ⟨zin5 (List.mem_of_getElem? (i := 24) rfl) rfl, zini_X7, ⟨by decide +kernel, by decide +kernel⟩, by decide +kernel, by decide⟩
theorem zt_X7_within : Cond.static yX7_within ∈ zW := zin5 (List.mem_of_getElem? (i := 23) (by decide +kernel)) rfl
theorem zce_X7_isHut : zCe yX7_isHut cX7_isHut 2 (some .boolean) 1 := ⟨zin5 (List.mem_of_getElem? (i := 6) rfl) rfl, zini_X7, ⟨by decide +kernel, by decide +kernel⟩, by decide +kernel, by decide⟩
theorem zi_X7_isHut : Cond.instanceMethod yX7_isHut ∈ zW := zin5 (List.mem_of_getElem? (i := 5) (by decide +kernel)) rfl
theorem zs_X7_isHut : Cond.selects yX7_isHut.cls yX7_isHut yX7_isHut ∈ zW := zinp 42 (by decide +kernel) rfl
theorem zce_X7_isLoan : zCe yX7_isLoan cX7_isLoan 2 (some .boolean) 1 := ⟨zin5 (List.mem_of_getElem? (i := 72) rfl) rfl, zini_X7, ⟨by decide +kernel, by decide +kernel⟩, by decide +kernel, by decide⟩
theorem zi_X7_isLoan : Cond.instanceMethod yX7_isLoan ∈ zW := zin5 (List.mem_of_getElem? (i := 71) (by decide +kernel)) rfl
theorem zs_X7_isLoan : Cond.selects yX7_isLoan.cls yX7_isLoan yX7_isLoan ∈ zW := zinp 51 (by decide +kernel) rfl
theorem zce_X7_owedBy : zCe yX7_owedBy cX7_owedBy 4 (some .int) 1 := ⟨zin5 (List.mem_of_getElem? (i := 14) rfl) rfl, zini_X7, ⟨by decide +kernel, by decide +kernel⟩, by decide +kernel, by decide⟩
theorem zi_X7_owedBy : Cond.instanceMethod yX7_owedBy ∈ zW := zin5 (List.mem_of_getElem? (i := 13) (by decide +kernel)) rfl
theorem zs_X7_owedBy : Cond.selects yX7_owedBy.cls yX7_owedBy yX7_owedBy ∈ zW := zinp 44 (by decide +kernel) rfl
theorem zce_X7_owedTo : zCe yX7_owedTo cX7_owedTo 4 (some .int) 1 := ⟨zin5 (List.mem_of_getElem? (i := 41) rfl) rfl, zini_X7, ⟨by decide +kernel, by decide +kernel⟩, by decide +kernel, by decide⟩
theorem zi_X7_owedTo : Cond.instanceMethod yX7_owedTo ∈ zW := zin5 (List.mem_of_getElem? (i := 40) (by decide +kernel)) rfl
theorem zs_X7_owedTo : Cond.selects yX7_owedTo.cls yX7_owedTo yX7_owedTo ∈ zW := zinp 46 (by decide +kernel) rfl
theorem zce_X7_lentBy : zCe yX7_lentBy cX7_lentBy 4 (some .int) 1 := ⟨zin5 (List.mem_of_getElem? (i := 45) rfl) rfl, zini_X7, ⟨by decide +kernel, by decide +kernel⟩, by decide +kernel, by decide⟩
theorem zi_X7_lentBy : Cond.instanceMethod yX7_lentBy ∈ zW := zin5 (List.mem_of_getElem? (i := 44) (by decide +kernel)) rfl
theorem zs_X7_lentBy : Cond.selects yX7_lentBy.cls yX7_lentBy yX7_lentBy ∈ zW := zinp 47 (by decide +kernel) rfl
theorem zce_X7_heatAll : zCe yX7_heatAll cX7_heatAll 3 (some .int) 0 := ⟨zin4 (List.mem_of_getElem? (i := 226) rfl) rfl, zini_X7, ⟨by decide +kernel, by decide +kernel⟩, by decide +kernel, by decide⟩
theorem zi_X7_heatAll : Cond.instanceMethod yX7_heatAll ∈ zW := zin4 (List.mem_of_getElem? (i := 225) (by decide +kernel)) rfl
theorem zs_X7_heatAll : Cond.selects yX7_heatAll.cls yX7_heatAll yX7_heatAll ∈ zW := zinp 41 (by decide +kernel) rfl
theorem zce_X7_count : zCe yX7_count cX7_count 2 (some .int) 1 := ⟨zin4 (List.mem_of_getElem? (i := 222) rfl) rfl, zini_X7, ⟨by decide +kernel, by decide +kernel⟩, by decide +kernel, by decide⟩
theorem zi_X7_count : Cond.instanceMethod yX7_count ∈ zW := zin4 (List.mem_of_getElem? (i := 220) (by decide +kernel)) rfl
theorem zs_X7_count : Cond.selects yX7_count.cls yX7_count yX7_count ∈ zW := zin4 (List.mem_of_getElem? (i := 221) (by decide +kernel)) rfl
theorem zce_X7_isByte : zCe yX7_isByte cX7_isByte 1 (some .boolean) 1 := ⟨zin4 (List.mem_of_getElem? (i := 233) rfl) rfl, zini_X7, ⟨by decide +kernel, by decide +kernel⟩, by decide +kernel, by decide⟩
theorem zt_X7_isByte : Cond.static yX7_isByte ∈ zW := zin4 (List.mem_of_getElem? (i := 232) (by decide +kernel)) rfl
theorem zce_X7_feed : zCe yX7_feed cX7_feed 8 (some .int) 6 := ⟨zin4 (List.mem_of_getElem? (i := 230) rfl) rfl, zini_X7, ⟨by decide +kernel, by decide +kernel⟩, by decide +kernel, by decide⟩
theorem zi_X7_feed : Cond.instanceMethod yX7_feed ∈ zW := zin4 (List.mem_of_getElem? (i := 228) (by decide +kernel)) rfl
theorem zs_X7_feed : Cond.selects yX7_feed.cls yX7_feed yX7_feed ∈ zW := zin4 (List.mem_of_getElem? (i := 229) (by decide +kernel)) rfl
theorem zce_X7_wordFrom : zCe yX7_wordFrom cX7_wordFrom 6 (some .int) 2 := ⟨zin4 (List.mem_of_getElem? (i := 74) rfl) rfl, zini_X7, ⟨by decide +kernel, by decide +kernel⟩, by decide +kernel, by decide⟩
theorem zi_X7_wordFrom : Cond.instanceMethod yX7_wordFrom ∈ zW := zin4 (List.mem_of_getElem? (i := 73) (by decide +kernel)) rfl
theorem zs_X7_wordFrom : Cond.selects yX7_wordFrom.cls yX7_wordFrom yX7_wordFrom ∈ zW := zinp 33 (by decide +kernel) rfl
theorem zce_X7_next : zCe yX7_next cX7_next 3 none 0 := ⟨zin4 (List.mem_of_getElem? (i := 67) rfl) rfl, zini_X7, ⟨by decide +kernel, by decide +kernel⟩, by decide +kernel, by decide⟩
theorem zi_X7_next : Cond.instanceMethod yX7_next ∈ zW := zin4 (List.mem_of_getElem? (i := 66) (by decide +kernel)) rfl
theorem zs_X7_next : Cond.selects yX7_next.cls yX7_next yX7_next ∈ zW := zinp 32 (by decide +kernel) rfl
theorem zce_X7_rank : zCe yX7_rank cX7_rank 1 (some .int) 1 := ⟨zin4 (List.mem_of_getElem? (i := 90) rfl) rfl, zini_X7, ⟨by decide +kernel, by decide +kernel⟩, by decide +kernel, by decide⟩
theorem zt_X7_rank : Cond.static yX7_rank ∈ zW := zin4 (List.mem_of_getElem? (i := 89) (by decide +kernel)) rfl
theorem zce_X7_puts : zCe yX7_puts cX7_puts 2 none 1 := ⟨zin4 (List.mem_of_getElem? (i := 83) rfl) rfl, zini_X7, ⟨by decide +kernel, by decide +kernel⟩, by decide +kernel, by decide⟩
theorem zi_X7_puts : Cond.instanceMethod yX7_puts ∈ zW := zin4 (List.mem_of_getElem? (i := 82) (by decide +kernel)) rfl
theorem zs_X7_puts : Cond.selects yX7_puts.cls yX7_puts yX7_puts ∈ zW := zinp 35 (by decide +kernel) rfl
theorem zce_X7_unwinds : zCe yX7_unwinds cX7_unwinds 3 none 1 := ⟨zin4 (List.mem_of_getElem? (i := 87) rfl) rfl, zini_X7, ⟨by decide +kernel, by decide +kernel⟩, by decide +kernel, by decide⟩
theorem zi_X7_unwinds : Cond.instanceMethod yX7_unwinds ∈ zW := zin4 (List.mem_of_getElem? (i := 86) (by decide +kernel)) rfl
theorem zs_X7_unwinds : Cond.selects yX7_unwinds.cls yX7_unwinds yX7_unwinds ∈ zW := zinp 36 (by decide +kernel) rfl
theorem zce_X7_holds : zCe yX7_holds cX7_holds 2 none 1 := ⟨zin4 (List.mem_of_getElem? (i := 98) rfl) rfl, zini_X7, ⟨by decide +kernel, by decide +kernel⟩, by decide +kernel, by decide⟩
theorem zi_X7_holds : Cond.instanceMethod yX7_holds ∈ zW := zin4 (List.mem_of_getElem? (i := 97) (by decide +kernel)) rfl
theorem zs_X7_holds : Cond.selects yX7_holds.cls yX7_holds yX7_holds ∈ zW := zinp 38 (by decide +kernel) rfl
theorem zce_X7_opensOne : zCe yX7_opensOne cX7_opensOne 2 (some .boolean) 1 := ⟨zin4 (List.mem_of_getElem? (i := 94) rfl) rfl, zini_X7, ⟨by decide +kernel, by decide +kernel⟩, by decide +kernel, by decide⟩
theorem zi_X7_opensOne : Cond.instanceMethod yX7_opensOne ∈ zW := zin4 (List.mem_of_getElem? (i := 93) (by decide +kernel)) rfl
theorem zs_X7_opensOne : Cond.selects yX7_opensOne.cls yX7_opensOne yX7_opensOne ∈ zW := zinp 37 (by decide +kernel) rfl
theorem zce_X7_between : zCe yX7_between cX7_between 2 (some .boolean) 1 := ⟨zin4 (List.mem_of_getElem? (i := 106) rfl) rfl, zini_X7, ⟨by decide +kernel, by decide +kernel⟩, by decide +kernel, by decide⟩
theorem zi_X7_between : Cond.instanceMethod yX7_between ∈ zW := zin4 (List.mem_of_getElem? (i := 105) (by decide +kernel)) rfl
theorem zs_X7_between : Cond.selects yX7_between.cls yX7_between yX7_between ∈ zW := zinp 40 (by decide +kernel) rfl
theorem zce_X7_signOf : zCe yX7_signOf cX7_signOf 1 (some .int) 0 := ⟨zin4 (List.mem_of_getElem? (i := 102) rfl) rfl, zini_X7, ⟨by decide +kernel, by decide +kernel⟩, by decide +kernel, by decide⟩
theorem zi_X7_signOf : Cond.instanceMethod yX7_signOf ∈ zW := zin4 (List.mem_of_getElem? (i := 101) (by decide +kernel)) rfl
theorem zs_X7_signOf : Cond.selects yX7_signOf.cls yX7_signOf yX7_signOf ∈ zW := zinp 39 (by decide +kernel) rfl
theorem zce_X7_eRead : zCe yX7_eRead cX7_eRead 4 (some .boolean) 0 := ⟨zin4 (List.mem_of_getElem? (i := 78) rfl) rfl, zini_X7, ⟨by decide +kernel, by decide +kernel⟩, by decide +kernel, by decide⟩
theorem zi_X7_eRead : Cond.instanceMethod yX7_eRead ∈ zW := zin4 (List.mem_of_getElem? (i := 77) (by decide +kernel)) rfl
theorem zs_X7_eRead : Cond.selects yX7_eRead.cls yX7_eRead yX7_eRead ∈ zW := zinp 34 (by decide +kernel) rfl
theorem zce_X7_text : zCe yX7_text cX7_text 3 (some .int) 0 := ⟨zin4 (List.mem_of_getElem? (i := 63) rfl) rfl, zini_X7, ⟨by decide +kernel, by decide +kernel⟩, by decide +kernel, by decide⟩
theorem zi_X7_text : Cond.instanceMethod yX7_text ∈ zW := zin4 (List.mem_of_getElem? (i := 61) (by decide +kernel)) rfl
theorem zs_X7_text : Cond.selects yX7_text.cls yX7_text yX7_text ∈ zW := zin4 (List.mem_of_getElem? (i := 62) (by decide +kernel)) rfl
theorem zce_X7_two : zCe yX7_two cX7_two 3 (some .int) 3 := ⟨zin5 (List.mem_of_getElem? (i := 21) rfl) rfl, zini_X7, ⟨by decide +kernel, by decide +kernel⟩, by decide +kernel, by decide⟩
theorem zt_X7_two : Cond.static yX7_two ∈ zW := zin5 (List.mem_of_getElem? (i := 20) (by decide +kernel)) rfl
theorem zce_X7_says : zCe yX7_says cX7_says 5 (some .int) 1 := ⟨zin5 (List.mem_of_getElem? (i := 18) rfl) rfl, zini_X7, ⟨by decide +kernel, by decide +kernel⟩, by decide +kernel, by decide⟩
theorem zi_X7_says : Cond.instanceMethod yX7_says ∈ zW := zin5 (List.mem_of_getElem? (i := 17) (by decide +kernel)) rfl
theorem zs_X7_says : Cond.selects yX7_says.cls yX7_says yX7_says ∈ zW := zinp 45 (by decide +kernel) rfl
theorem zce_X7_force : zCe yX7_force cX7_force 3 (some .int) 1 := ⟨zin4 (List.mem_of_getElem? (i := 238) rfl) rfl, zini_X7, ⟨by decide +kernel, by decide +kernel⟩, by decide +kernel, by decide⟩
theorem zi_X7_force : Cond.instanceMethod yX7_force ∈ zW := zin4 (List.mem_of_getElem? (i := 236) (by decide +kernel)) rfl
theorem zs_X7_force : Cond.selects yX7_force.cls yX7_force yX7_force ∈ zW := zin4 (List.mem_of_getElem? (i := 237) (by decide +kernel)) rfl
theorem zce_X7_asksOf : zCe yX7_asksOf cX7_asksOf 4 (some .int) 3 := ⟨zin5 (List.mem_of_getElem? (i := 10) rfl) rfl, zini_X7, ⟨by decide +kernel, by decide +kernel⟩, by decide +kernel, by decide⟩
theorem zi_X7_asksOf : Cond.instanceMethod yX7_asksOf ∈ zW := zin5 (List.mem_of_getElem? (i := 9) (by decide +kernel)) rfl
theorem zs_X7_asksOf : Cond.selects yX7_asksOf.cls yX7_asksOf yX7_asksOf ∈ zW := zinp 43 (by decide +kernel) rfl
theorem zce_X7_asks : zCe yX7_asks cX7_asks 4 (some .int) 3 := ⟨zin5 (List.mem_of_getElem? (i := 2) rfl) rfl, zini_X7, ⟨by decide +kernel, by decide +kernel⟩, by decide +kernel, by decide⟩
theorem zi_X7_asks : Cond.instanceMethod yX7_asks ∈ zW := zin5 (List.mem_of_getElem? (i := 0) (by decide +kernel)) rfl
theorem zs_X7_asks : Cond.selects yX7_asks.cls yX7_asks yX7_asks ∈ zW := zin5 (List.mem_of_getElem? (i := 1) (by decide +kernel)) rfl
theorem zce_X7_hut : zCe yX7_hut cX7_hut 3 (some .int) 2 := ⟨zin5 (List.mem_of_getElem? (i := 28) rfl) rfl, zini_X7, ⟨by decide +kernel, by decide +kernel⟩, by decide +kernel, by decide⟩
theorem zi_X7_hut : Cond.instanceMethod yX7_hut ∈ zW := zin5 (List.mem_of_getElem? (i := 26) (by decide +kernel)) rfl
theorem zs_X7_hut : Cond.selects yX7_hut.cls yX7_hut yX7_hut ∈ zW := zin5 (List.mem_of_getElem? (i := 27) (by decide +kernel)) rfl
theorem zce_X7_put : zCe yX7_put cX7_put 5 (some .int) 3 := ⟨zin5 (List.mem_of_getElem? (i := 33) rfl) rfl, zini_X7, ⟨by decide +kernel, by decide +kernel⟩, by decide +kernel, by decide⟩
theorem zi_X7_put : Cond.instanceMethod yX7_put ∈ zW := zin5 (List.mem_of_getElem? (i := 31) (by decide +kernel)) rfl
theorem zs_X7_put : Cond.selects yX7_put.cls yX7_put yX7_put ∈ zW := zin5 (List.mem_of_getElem? (i := 32) (by decide +kernel)) rfl
theorem zce_X7_told : zCe yX7_told cX7_told 3 (some .int) 2 := ⟨zin5 (List.mem_of_getElem? (i := 37) rfl) rfl, zini_X7, ⟨by decide +kernel, by decide +kernel⟩, by decide +kernel, by decide⟩
theorem zi_X7_told : Cond.instanceMethod yX7_told ∈ zW := zin5 (List.mem_of_getElem? (i := 35) (by decide +kernel)) rfl
theorem zs_X7_told : Cond.selects yX7_told.cls yX7_told yX7_told ∈ zW := zin5 (List.mem_of_getElem? (i := 36) (by decide +kernel)) rfl
theorem zce_X7_areCoalNights : zCe yX7_areCoalNights cX7_areCoalNights 1 (some .boolean) 1 := ⟨zin5 (List.mem_of_getElem? (i := 52) rfl) rfl, zini_X7, ⟨by decide +kernel, by decide +kernel⟩, by decide +kernel, by decide⟩
theorem zt_X7_areCoalNights : Cond.static yX7_areCoalNights ∈ zW := zin5 (List.mem_of_getElem? (i := 51) (by decide +kernel)) rfl
theorem zce_X7_mayLend : zCe yX7_mayLend cX7_mayLend 3 (some .boolean) 2 := ⟨zin5 (List.mem_of_getElem? (i := 56) rfl) rfl, zini_X7, ⟨by decide +kernel, by decide +kernel⟩, by decide +kernel, by decide⟩
theorem zi_X7_mayLend : Cond.instanceMethod yX7_mayLend ∈ zW := zin5 (List.mem_of_getElem? (i := 55) (by decide +kernel)) rfl
theorem zs_X7_mayLend : Cond.selects yX7_mayLend.cls yX7_mayLend yX7_mayLend ∈ zW := zinp 48 (by decide +kernel) rfl
theorem zce_X7_moves : zCe yX7_moves cX7_moves 4 none 3 := ⟨zin5 (List.mem_of_getElem? (i := 64) rfl) rfl, zini_X7, ⟨by decide +kernel, by decide +kernel⟩, by decide +kernel, by decide⟩
theorem zi_X7_moves : Cond.instanceMethod yX7_moves ∈ zW := zin5 (List.mem_of_getElem? (i := 63) (by decide +kernel)) rfl
theorem zs_X7_moves : Cond.selects yX7_moves.cls yX7_moves yX7_moves ∈ zW := zinp 50 (by decide +kernel) rfl
theorem zce_X7_lends : zCe yX7_lends cX7_lends 4 none 3 := ⟨zin5 (List.mem_of_getElem? (i := 60) rfl) rfl, zini_X7, ⟨by decide +kernel, by decide +kernel⟩, by decide +kernel, by decide⟩
theorem zi_X7_lends : Cond.instanceMethod yX7_lends ∈ zW := zin5 (List.mem_of_getElem? (i := 59) (by decide +kernel)) rfl
theorem zs_X7_lends : Cond.selects yX7_lends.cls yX7_lends yX7_lends ∈ zW := zinp 49 (by decide +kernel) rfl
theorem zce_X7_lend : zCe yX7_lend cX7_lend 5 (some .int) 2 := ⟨zin5 (List.mem_of_getElem? (i := 49) rfl) rfl, zini_X7, ⟨by decide +kernel, by decide +kernel⟩, by decide +kernel, by decide⟩
theorem zi_X7_lend : Cond.instanceMethod yX7_lend ∈ zW := zin5 (List.mem_of_getElem? (i := 47) (by decide +kernel)) rfl
theorem zs_X7_lend : Cond.selects yX7_lend.cls yX7_lend yX7_lend ∈ zW := zin5 (List.mem_of_getElem? (i := 48) (by decide +kernel)) rfl
theorem zce_X7_loan : zCe yX7_loan cX7_loan 3 (some .int) 2 := ⟨zin5 (List.mem_of_getElem? (i := 68) rfl) rfl, zini_X7, ⟨by decide +kernel, by decide +kernel⟩, by decide +kernel, by decide⟩
theorem zi_X7_loan : Cond.instanceMethod yX7_loan ∈ zW := zin5 (List.mem_of_getElem? (i := 66) (by decide +kernel)) rfl
theorem zs_X7_loan : Cond.selects yX7_loan.cls yX7_loan yX7_loan ∈ zW := zin5 (List.mem_of_getElem? (i := 67) (by decide +kernel)) rfl
theorem zce_X7_drops : zCe yX7_drops cX7_drops 3 none 1 := ⟨zin5 (List.mem_of_getElem? (i := 80) rfl) rfl, zini_X7, ⟨by decide +kernel, by decide +kernel⟩, by decide +kernel, by decide⟩
theorem zi_X7_drops : Cond.instanceMethod yX7_drops ∈ zW := zin5 (List.mem_of_getElem? (i := 79) (by decide +kernel)) rfl
theorem zs_X7_drops : Cond.selects yX7_drops.cls yX7_drops yX7_drops ∈ zW := zinp 52 (by decide +kernel) rfl
theorem zce_X7_repay : zCe yX7_repay cX7_repay 3 (some .int) 1 := ⟨zin5 (List.mem_of_getElem? (i := 76) rfl) rfl, zini_X7, ⟨by decide +kernel, by decide +kernel⟩, by decide +kernel, by decide⟩
theorem zi_X7_repay : Cond.instanceMethod yX7_repay ∈ zW := zin5 (List.mem_of_getElem? (i := 74) (by decide +kernel)) rfl
theorem zs_X7_repay : Cond.selects yX7_repay.cls yX7_repay yX7_repay ∈ zW := zin5 (List.mem_of_getElem? (i := 75) (by decide +kernel)) rfl
theorem zce_X7_forgive : zCe yX7_forgive cX7_forgive 3 (some .int) 1 := ⟨zin5 (List.mem_of_getElem? (i := 84) rfl) rfl, zini_X7, ⟨by decide +kernel, by decide +kernel⟩, by decide +kernel, by decide⟩
theorem zi_X7_forgive : Cond.instanceMethod yX7_forgive ∈ zW := zin5 (List.mem_of_getElem? (i := 82) (by decide +kernel)) rfl
theorem zs_X7_forgive : Cond.selects yX7_forgive.cls yX7_forgive yX7_forgive ∈ zW := zin5 (List.mem_of_getElem? (i := 83) (by decide +kernel)) rfl
theorem zce_X7_growsOf : zCe yX7_growsOf cX7_growsOf 4 (some .int) 2 := ⟨zin5 (List.mem_of_getElem? (i := 96) rfl) rfl, zini_X7, ⟨by decide +kernel, by decide +kernel⟩, by decide +kernel, by decide⟩
theorem zi_X7_growsOf : Cond.instanceMethod yX7_growsOf ∈ zW := zin5 (List.mem_of_getElem? (i := 95) (by decide +kernel)) rfl
theorem zs_X7_growsOf : Cond.selects yX7_growsOf.cls yX7_growsOf yX7_growsOf ∈ zW := zinp 54 (by decide +kernel) rfl
theorem zce_X7_coolsOf : zCe yX7_coolsOf cX7_coolsOf 4 (some .int) 1 := ⟨zin5 (List.mem_of_getElem? (i := 108) rfl) rfl, zini_X7, ⟨by decide +kernel, by decide +kernel⟩, by decide +kernel, by decide⟩
theorem zi_X7_coolsOf : Cond.instanceMethod yX7_coolsOf ∈ zW := zin5 (List.mem_of_getElem? (i := 107) (by decide +kernel)) rfl
theorem zs_X7_coolsOf : Cond.selects yX7_coolsOf.cls yX7_coolsOf yX7_coolsOf ∈ zW := zinp 57 (by decide +kernel) rfl
theorem zce_X7_burnsOf : zCe yX7_burnsOf cX7_burnsOf 3 (some .int) 1 := ⟨zin5 (List.mem_of_getElem? (i := 104) rfl) rfl, zini_X7, ⟨by decide +kernel, by decide +kernel⟩, by decide +kernel, by decide⟩
theorem zi_X7_burnsOf : Cond.instanceMethod yX7_burnsOf ∈ zW := zin5 (List.mem_of_getElem? (i := 103) (by decide +kernel)) rfl
theorem zs_X7_burnsOf : Cond.selects yX7_burnsOf.cls yX7_burnsOf yX7_burnsOf ∈ zW := zinp 56 (by decide +kernel) rfl
theorem zce_X7_hearth : zCe yX7_hearth cX7_hearth 3 none 1 := ⟨zin5 (List.mem_of_getElem? (i := 100) rfl) rfl, zini_X7, ⟨by decide +kernel, by decide +kernel⟩, by decide +kernel, by decide⟩
theorem zi_X7_hearth : Cond.instanceMethod yX7_hearth ∈ zW := zin5 (List.mem_of_getElem? (i := 99) (by decide +kernel)) rfl
theorem zs_X7_hearth : Cond.selects yX7_hearth.cls yX7_hearth yX7_hearth ∈ zW := zinp 55 (by decide +kernel) rfl
theorem zce_X7_nightOf : zCe yX7_nightOf cX7_nightOf 4 (some .int) 0 := ⟨zin5 (List.mem_of_getElem? (i := 92) rfl) rfl, zini_X7, ⟨by decide +kernel, by decide +kernel⟩, by decide +kernel, by decide⟩
theorem zi_X7_nightOf : Cond.instanceMethod yX7_nightOf ∈ zW := zin5 (List.mem_of_getElem? (i := 91) (by decide +kernel)) rfl
theorem zs_X7_nightOf : Cond.selects yX7_nightOf.cls yX7_nightOf yX7_nightOf ∈ zW := zinp 53 (by decide +kernel) rfl
theorem zce_X7_night : zCe yX7_night cX7_night 1 (some .int) 0 := ⟨zin5 (List.mem_of_getElem? (i := 88) rfl) rfl, zini_X7, ⟨by decide +kernel, by decide +kernel⟩, by decide +kernel, by decide⟩
theorem zi_X7_night : Cond.instanceMethod yX7_night ∈ zW := zin5 (List.mem_of_getElem? (i := 86) (by decide +kernel)) rfl
theorem zs_X7_night : Cond.selects yX7_night.cls yX7_night yX7_night ∈ zW := zin5 (List.mem_of_getElem? (i := 87) (by decide +kernel)) rfl
theorem zce_X7_keeps : zCe yX7_keeps cX7_keeps 2 none 0 := ⟨zin5 (List.mem_of_getElem? (i := 116) rfl) rfl, zini_X7, ⟨by decide +kernel, by decide +kernel⟩, by decide +kernel, by decide⟩
theorem zi_X7_keeps : Cond.instanceMethod yX7_keeps ∈ zW := zin5 (List.mem_of_getElem? (i := 115) (by decide +kernel)) rfl
theorem zs_X7_keeps : Cond.selects yX7_keeps.cls yX7_keeps yX7_keeps ∈ zW := zinp 58 (by decide +kernel) rfl
theorem zce_X7_lays : zCe yX7_lays cX7_lays 2 none 0 := ⟨zin5 (List.mem_of_getElem? (i := 124) rfl) rfl, zini_X7, ⟨by decide +kernel, by decide +kernel⟩, by decide +kernel, by decide⟩
theorem zi_X7_lays : Cond.instanceMethod yX7_lays ∈ zW := zin5 (List.mem_of_getElem? (i := 123) (by decide +kernel)) rfl
theorem zs_X7_lays : Cond.selects yX7_lays.cls yX7_lays yX7_lays ∈ zW := zinp 60 (by decide +kernel) rfl
theorem zce_X7_goes : zCe yX7_goes cX7_goes 4 (some .int) 1 := ⟨zin5 (List.mem_of_getElem? (i := 120) rfl) rfl, zini_X7, ⟨by decide +kernel, by decide +kernel⟩, by decide +kernel, by decide⟩
theorem zi_X7_goes : Cond.instanceMethod yX7_goes ∈ zW := zin5 (List.mem_of_getElem? (i := 119) (by decide +kernel)) rfl
theorem zs_X7_goes : Cond.selects yX7_goes.cls yX7_goes yX7_goes ∈ zW := zinp 59 (by decide +kernel) rfl
theorem zce_X7_ones : zCe yX7_ones cX7_ones 3 (some .int) 1 := ⟨zin5 (List.mem_of_getElem? (i := 168) rfl) rfl, zini_X7, ⟨by decide +kernel, by decide +kernel⟩, by decide +kernel, by decide⟩
theorem zt_X7_ones : Cond.static yX7_ones ∈ zW := zin5 (List.mem_of_getElem? (i := 167) (by decide +kernel)) rfl
theorem zce_X7_run : zCe yX7_run cX7_run 5 (some .int) 2 := ⟨zin5 (List.mem_of_getElem? (i := 112) rfl) rfl, zini_X7, ⟨by decide +kernel, by decide +kernel⟩, by decide +kernel, by decide⟩
theorem zi_X7_run : Cond.instanceMethod yX7_run ∈ zW := zin5 (List.mem_of_getElem? (i := 110) (by decide +kernel)) rfl
theorem zs_X7_run : Cond.selects yX7_run.cls yX7_run yX7_run ∈ zW := zin5 (List.mem_of_getElem? (i := 111) (by decide +kernel)) rfl
theorem zce_X7_lasts : zCe yX7_lasts cX7_lasts 7 (some .int) 2 := ⟨zin5 (List.mem_of_getElem? (i := 128) rfl) rfl, zini_X7, ⟨by decide +kernel, by decide +kernel⟩, by decide +kernel, by decide⟩
theorem zi_X7_lasts : Cond.instanceMethod yX7_lasts ∈ zW := zin5 (List.mem_of_getElem? (i := 126) (by decide +kernel)) rfl
theorem zs_X7_lasts : Cond.selects yX7_lasts.cls yX7_lasts yX7_lasts ∈ zW := zin5 (List.mem_of_getElem? (i := 127) (by decide +kernel)) rfl
theorem zce_X7_net : zCe yX7_net cX7_net 2 (some .int) 1 := ⟨zin5 (List.mem_of_getElem? (i := 132) rfl) rfl, zini_X7, ⟨by decide +kernel, by decide +kernel⟩, by decide +kernel, by decide⟩
theorem zi_X7_net : Cond.instanceMethod yX7_net ∈ zW := zin5 (List.mem_of_getElem? (i := 130) (by decide +kernel)) rfl
theorem zs_X7_net : Cond.selects yX7_net.cls yX7_net yX7_net ∈ zW := zin5 (List.mem_of_getElem? (i := 131) (by decide +kernel)) rfl
theorem zce_X7_settle : zCe yX7_settle cX7_settle 8 (some .int) 1 := ⟨zin5 (List.mem_of_getElem? (i := 137) rfl) rfl, zini_X7, ⟨by decide +kernel, by decide +kernel⟩, by decide +kernel, by decide⟩
theorem zi_X7_settle : Cond.instanceMethod yX7_settle ∈ zW := zin5 (List.mem_of_getElem? (i := 135) (by decide +kernel)) rfl
theorem zs_X7_settle : Cond.selects yX7_settle.cls yX7_settle yX7_settle ∈ zW := zin5 (List.mem_of_getElem? (i := 136) (by decide +kernel)) rfl
theorem zce_X7_sourceOf : zCe yX7_sourceOf cX7_sourceOf 6 (some .int) 1 := ⟨zin5 (List.mem_of_getElem? (i := 145) rfl) rfl, zini_X7, ⟨by decide +kernel, by decide +kernel⟩, by decide +kernel, by decide⟩
theorem zi_X7_sourceOf : Cond.instanceMethod yX7_sourceOf ∈ zW := zin5 (List.mem_of_getElem? (i := 144) (by decide +kernel)) rfl
theorem zs_X7_sourceOf : Cond.selects yX7_sourceOf.cls yX7_sourceOf yX7_sourceOf ∈ zW := zinp 61 (by decide +kernel) rfl
theorem zce_X7_source : zCe yX7_source cX7_source 2 (some .int) 1 := ⟨zin5 (List.mem_of_getElem? (i := 141) rfl) rfl, zini_X7, ⟨by decide +kernel, by decide +kernel⟩, by decide +kernel, by decide⟩
theorem zi_X7_source : Cond.instanceMethod yX7_source ∈ zW := zin5 (List.mem_of_getElem? (i := 139) (by decide +kernel)) rfl
theorem zs_X7_source : Cond.selects yX7_source.cls yX7_source yX7_source ∈ zW := zin5 (List.mem_of_getElem? (i := 140) (by decide +kernel)) rfl
theorem zce_X7_rings : zCe yX7_rings cX7_rings 6 (some .int) 1 := ⟨zin5 (List.mem_of_getElem? (i := 149) rfl) rfl, zini_X7, ⟨by decide +kernel, by decide +kernel⟩, by decide +kernel, by decide⟩
theorem zi_X7_rings : Cond.instanceMethod yX7_rings ∈ zW := zin5 (List.mem_of_getElem? (i := 147) (by decide +kernel)) rfl
theorem zs_X7_rings : Cond.selects yX7_rings.cls yX7_rings yX7_rings ∈ zW := zin5 (List.mem_of_getElem? (i := 148) (by decide +kernel)) rfl
theorem zce_X7_ask : zCe yX7_ask cX7_ask 8 (some .int) 3 := ⟨zin5 (List.mem_of_getElem? (i := 153) rfl) rfl, zini_X7, ⟨by decide +kernel, by decide +kernel⟩, by decide +kernel, by decide⟩
theorem zi_X7_ask : Cond.instanceMethod yX7_ask ∈ zW := zin5 (List.mem_of_getElem? (i := 151) (by decide +kernel)) rfl
theorem zs_X7_ask : Cond.selects yX7_ask.cls yX7_ask yX7_ask ∈ zW := zin5 (List.mem_of_getElem? (i := 152) (by decide +kernel)) rfl
theorem zce_X7_needs : zCe yX7_needs cX7_needs 5 (some .int) 2 := ⟨zin5 (List.mem_of_getElem? (i := 157) rfl) rfl, zini_X7, ⟨by decide +kernel, by decide +kernel⟩, by decide +kernel, by decide⟩
theorem zi_X7_needs : Cond.instanceMethod yX7_needs ∈ zW := zin5 (List.mem_of_getElem? (i := 155) (by decide +kernel)) rfl
theorem zs_X7_needs : Cond.selects yX7_needs.cls yX7_needs yX7_needs ∈ zW := zin5 (List.mem_of_getElem? (i := 156) (by decide +kernel)) rfl
theorem zce_X7_failsBut : zCe yX7_failsBut cX7_failsBut 4 (some .int) 2 := ⟨zin5 (List.mem_of_getElem? (i := 165) rfl) rfl, zini_X7, ⟨by decide +kernel, by decide +kernel⟩, by decide +kernel, by decide⟩
theorem zi_X7_failsBut : Cond.instanceMethod yX7_failsBut ∈ zW := zin5 (List.mem_of_getElem? (i := 164) (by decide +kernel)) rfl
theorem zs_X7_failsBut : Cond.selects yX7_failsBut.cls yX7_failsBut yX7_failsBut ∈ zW := zinp 62 (by decide +kernel) rfl
theorem zce_X7_mercy : zCe yX7_mercy cX7_mercy 7 (some .int) 2 := ⟨zin5 (List.mem_of_getElem? (i := 161) rfl) rfl, zini_X7, ⟨by decide +kernel, by decide +kernel⟩, by decide +kernel, by decide⟩
theorem zi_X7_mercy : Cond.instanceMethod yX7_mercy ∈ zW := zin5 (List.mem_of_getElem? (i := 159) (by decide +kernel)) rfl
theorem zs_X7_mercy : Cond.selects yX7_mercy.cls yX7_mercy yX7_mercy ∈ zW := zin5 (List.mem_of_getElem? (i := 160) (by decide +kernel)) rfl
theorem zce_X7_worst : zCe yX7_worst cX7_worst 8 (some .int) 2 := ⟨zin5 (List.mem_of_getElem? (i := 172) rfl) rfl, zini_X7, ⟨by decide +kernel, by decide +kernel⟩, by decide +kernel, by decide⟩
theorem zi_X7_worst : Cond.instanceMethod yX7_worst ∈ zW := zin5 (List.mem_of_getElem? (i := 170) (by decide +kernel)) rfl
theorem zs_X7_worst : Cond.selects yX7_worst.cls yX7_worst yX7_worst ∈ zW := zin5 (List.mem_of_getElem? (i := 171) (by decide +kernel)) rfl
theorem zce_X7_sheetWrong : zCe yX7_sheetWrong cX7_sheetWrong 2 (some .int) 1 := ⟨zin5 (List.mem_of_getElem? (i := 184) rfl) rfl, zini_X7, ⟨by decide +kernel, by decide +kernel⟩, by decide +kernel, by decide⟩
theorem zi_X7_sheetWrong : Cond.instanceMethod yX7_sheetWrong ∈ zW := zin5 (List.mem_of_getElem? (i := 183) (by decide +kernel)) rfl
theorem zs_X7_sheetWrong : Cond.selects yX7_sheetWrong.cls yX7_sheetWrong yX7_sheetWrong ∈ zW := zinp 64 (by decide +kernel) rfl
theorem zce_X7_toldWrong : zCe yX7_toldWrong cX7_toldWrong 4 (some .int) 2 := ⟨zin5 (List.mem_of_getElem? (i := 180) rfl) rfl, zini_X7, ⟨by decide +kernel, by decide +kernel⟩, by decide +kernel, by decide⟩
theorem zi_X7_toldWrong : Cond.instanceMethod yX7_toldWrong ∈ zW := zin5 (List.mem_of_getElem? (i := 179) (by decide +kernel)) rfl
theorem zs_X7_toldWrong : Cond.selects yX7_toldWrong.cls yX7_toldWrong yX7_toldWrong ∈ zW := zinp 63 (by decide +kernel) rfl
theorem zce_X7_unlike : zCe yX7_unlike cX7_unlike 5 (some .int) 2 := ⟨zin5 (List.mem_of_getElem? (i := 188) rfl) rfl, zini_X7, ⟨by decide +kernel, by decide +kernel⟩, by decide +kernel, by decide⟩
theorem zi_X7_unlike : Cond.instanceMethod yX7_unlike ∈ zW := zin5 (List.mem_of_getElem? (i := 187) (by decide +kernel)) rfl
theorem zs_X7_unlike : Cond.selects yX7_unlike.cls yX7_unlike yX7_unlike ∈ zW := zinp 65 (by decide +kernel) rfl
theorem zce_X7_judge : zCe yX7_judge cX7_judge 4 (some .int) 2 := ⟨zin5 (List.mem_of_getElem? (i := 176) rfl) rfl, zini_X7, ⟨by decide +kernel, by decide +kernel⟩, by decide +kernel, by decide⟩
theorem zi_X7_judge : Cond.instanceMethod yX7_judge ∈ zW := zin5 (List.mem_of_getElem? (i := 174) (by decide +kernel)) rfl
theorem zs_X7_judge : Cond.selects yX7_judge.cls yX7_judge yX7_judge ∈ zW := zin5 (List.mem_of_getElem? (i := 175) (by decide +kernel)) rfl
theorem zce_X7_kinds : zCe yX7_kinds cX7_kinds 9 (some .int) 3 := ⟨zin5 (List.mem_of_getElem? (i := 192) rfl) rfl, zini_X7, ⟨by decide +kernel, by decide +kernel⟩, by decide +kernel, by decide⟩
theorem zi_X7_kinds : Cond.instanceMethod yX7_kinds ∈ zW := zin5 (List.mem_of_getElem? (i := 190) (by decide +kernel)) rfl
theorem zs_X7_kinds : Cond.selects yX7_kinds.cls yX7_kinds yX7_kinds ∈ zW := zin5 (List.mem_of_getElem? (i := 191) (by decide +kernel)) rfl
theorem zce_X7_states : zCe yX7_states cX7_states 11 (some .int) 4 := ⟨zin5 (List.mem_of_getElem? (i := 196) rfl) rfl, zini_X7, ⟨by decide +kernel, by decide +kernel⟩, by decide +kernel, by decide⟩
theorem zi_X7_states : Cond.instanceMethod yX7_states ∈ zW := zin5 (List.mem_of_getElem? (i := 194) (by decide +kernel)) rfl
theorem zs_X7_states : Cond.selects yX7_states.cls yX7_states yX7_states ∈ zW := zin5 (List.mem_of_getElem? (i := 195) (by decide +kernel)) rfl
theorem zce_X7_whose : zCe yX7_whose cX7_whose 5 (some .int) 1 := ⟨zin5 (List.mem_of_getElem? (i := 200) rfl) rfl, zini_X7, ⟨by decide +kernel, by decide +kernel⟩, by decide +kernel, by decide⟩
theorem zi_X7_whose : Cond.instanceMethod yX7_whose ∈ zW := zin5 (List.mem_of_getElem? (i := 198) (by decide +kernel)) rfl
theorem zs_X7_whose : Cond.selects yX7_whose.cls yX7_whose yX7_whose ∈ zW := zin5 (List.mem_of_getElem? (i := 199) (by decide +kernel)) rfl
theorem zce_X7_laws : zCe yX7_laws cX7_laws 7 (some .int) 2 := ⟨zin5 (List.mem_of_getElem? (i := 204) rfl) rfl, zini_X7, ⟨by decide +kernel, by decide +kernel⟩, by decide +kernel, by decide⟩
theorem zi_X7_laws : Cond.instanceMethod yX7_laws ∈ zW := zin5 (List.mem_of_getElem? (i := 202) (by decide +kernel)) rfl
theorem zs_X7_laws : Cond.selects yX7_laws.cls yX7_laws yX7_laws ∈ zW := zin5 (List.mem_of_getElem? (i := 203) (by decide +kernel)) rfl
theorem zce_X7_film : zCe yX7_film cX7_film 5 (some .int) 3 := ⟨zin5 (List.mem_of_getElem? (i := 208) rfl) rfl, zini_X7, ⟨by decide +kernel, by decide +kernel⟩, by decide +kernel, by decide⟩
theorem zi_X7_film : Cond.instanceMethod yX7_film ∈ zW := zin5 (List.mem_of_getElem? (i := 206) (by decide +kernel)) rfl
theorem zs_X7_film : Cond.selects yX7_film.cls yX7_film yX7_film ∈ zW := zin5 (List.mem_of_getElem? (i := 207) (by decide +kernel)) rfl
theorem zce_X7_snows : zCe yX7_snows cX7_snows 8 (some .int) 2 := ⟨zin5 (List.mem_of_getElem? (i := 217) rfl) rfl, zini_X7, ⟨by decide +kernel, by decide +kernel⟩, by decide +kernel, by decide⟩
theorem zi_X7_snows : Cond.instanceMethod yX7_snows ∈ zW := zin5 (List.mem_of_getElem? (i := 216) (by decide +kernel)) rfl
theorem zs_X7_snows : Cond.selects yX7_snows.cls yX7_snows yX7_snows ∈ zW := zinp 66 (by decide +kernel) rfl
theorem zce_X7_drawn : zCe yX7_drawn cX7_drawn 5 (some .int) 3 := ⟨zin5 (List.mem_of_getElem? (i := 212) rfl) rfl, zini_X7, ⟨by decide +kernel, by decide +kernel⟩, by decide +kernel, by decide⟩
theorem zi_X7_drawn : Cond.instanceMethod yX7_drawn ∈ zW := zin5 (List.mem_of_getElem? (i := 210) (by decide +kernel)) rfl
theorem zs_X7_drawn : Cond.selects yX7_drawn.cls yX7_drawn yX7_drawn ∈ zW := zin5 (List.mem_of_getElem? (i := 211) (by decide +kernel)) rfl
theorem zce_X7_lowest : zCe yX7_lowest cX7_lowest 11 (some .long) 3 := ⟨zin5 (List.mem_of_getElem? (i := 227) rfl) rfl, zini_X7, ⟨by decide +kernel, by decide +kernel⟩, by decide +kernel, by decide⟩
theorem zt_X7_lowest : Cond.static yX7_lowest ∈ zW := zin5 (List.mem_of_getElem? (i := 226) (by decide +kernel)) rfl
theorem zce_X7_odds : zCe yX7_odds cX7_odds 10 (some .long) 5 := ⟨zin5 (List.mem_of_getElem? (i := 223) rfl) rfl, zini_X7, ⟨by decide +kernel, by decide +kernel⟩, by decide +kernel, by decide⟩
theorem zi_X7_odds : Cond.instanceMethod yX7_odds ∈ zW := zin5 (List.mem_of_getElem? (i := 221) (by decide +kernel)) rfl
theorem zs_X7_odds : Cond.selects yX7_odds.cls yX7_odds yX7_odds ∈ zW := zin5 (List.mem_of_getElem? (i := 222) (by decide +kernel)) rfl
theorem zce_X7_image : zCe yX7_image cX7_image 2 (some .int) 0 := ⟨zin5 (List.mem_of_getElem? (i := 231) rfl) rfl, zini_X7, ⟨by decide +kernel, by decide +kernel⟩, by decide +kernel, by decide⟩
theorem zi_X7_image : Cond.instanceMethod yX7_image ∈ zW := zin5 (List.mem_of_getElem? (i := 229) (by decide +kernel)) rfl
theorem zs_X7_image : Cond.selects yX7_image.cls yX7_image yX7_image ∈ zW := zin5 (List.mem_of_getElem? (i := 230) (by decide +kernel)) rfl
theorem zce_X7_back : zCe yX7_back cX7_back 2 (some .int) 0 := ⟨zin5 (List.mem_of_getElem? (i := 235) rfl) rfl, zini_X7, ⟨by decide +kernel, by decide +kernel⟩, by decide +kernel, by decide⟩
theorem zi_X7_back : Cond.instanceMethod yX7_back ∈ zW := zin5 (List.mem_of_getElem? (i := 233) (by decide +kernel)) rfl
theorem zs_X7_back : Cond.selects yX7_back.cls yX7_back yX7_back ∈ zW := zin5 (List.mem_of_getElem? (i := 234) (by decide +kernel)) rfl
theorem zce_X7_sheet : zCe yX7_sheet cX7_sheet 5 (some .int) 3 := ⟨zin5 (List.mem_of_getElem? (i := 239) rfl) rfl, zini_X7, ⟨by decide +kernel, by decide +kernel⟩, by decide +kernel, by decide⟩
theorem zi_X7_sheet : Cond.instanceMethod yX7_sheet ∈ zW := zin5 (List.mem_of_getElem? (i := 237) (by decide +kernel)) rfl
theorem zs_X7_sheet : Cond.selects yX7_sheet.cls yX7_sheet yX7_sheet ∈ zW := zin5 (List.mem_of_getElem? (i := 238) (by decide +kernel)) rfl
theorem zce_X7_cell : zCe yX7_cell cX7_cell 4 (some .int) 3 := ⟨zin6 (List.mem_of_getElem? (i := 3) rfl) rfl, zini_X7, ⟨by decide +kernel, by decide +kernel⟩, by decide +kernel, by decide⟩
theorem zi_X7_cell : Cond.instanceMethod yX7_cell ∈ zW := zin6 (List.mem_of_getElem? (i := 1) (by decide +kernel)) rfl
theorem zs_X7_cell : Cond.selects yX7_cell.cls yX7_cell yX7_cell ∈ zW := zin6 (List.mem_of_getElem? (i := 2) (by decide +kernel)) rfl
theorem zce_X7_copy : zCe yX7_copy cX7_copy 10 (some .int) 5 := ⟨zin6 (List.mem_of_getElem? (i := 7) rfl) rfl, zini_X7, ⟨by decide +kernel, by decide +kernel⟩, by decide +kernel, by decide⟩
theorem zi_X7_copy : Cond.instanceMethod yX7_copy ∈ zW := zin6 (List.mem_of_getElem? (i := 5) (by decide +kernel)) rfl
theorem zs_X7_copy : Cond.selects yX7_copy.cls yX7_copy yX7_copy ∈ zW := zin6 (List.mem_of_getElem? (i := 6) (by decide +kernel)) rfl
theorem zce_X7_hutsBy : zCe yX7_hutsBy cX7_hutsBy 9 (some .int) 4 := ⟨zin6 (List.mem_of_getElem? (i := 11) rfl) rfl, zini_X7, ⟨by decide +kernel, by decide +kernel⟩, by decide +kernel, by decide⟩
theorem zi_X7_hutsBy : Cond.instanceMethod yX7_hutsBy ∈ zW := zin6 (List.mem_of_getElem? (i := 9) (by decide +kernel)) rfl
theorem zs_X7_hutsBy : Cond.selects yX7_hutsBy.cls yX7_hutsBy yX7_hutsBy ∈ zW := zin6 (List.mem_of_getElem? (i := 10) (by decide +kernel)) rfl
theorem zce_X7_isUnder : zCe yX7_isUnder cX7_isUnder 2 (some .boolean) 2 := ⟨zin6 (List.mem_of_getElem? (i := 19) rfl) rfl, zini_X7, ⟨by decide +kernel, by decide +kernel⟩, by decide +kernel, by decide⟩
theorem zt_X7_isUnder : Cond.static yX7_isUnder ∈ zW := zin6 (List.mem_of_getElem? (i := 18) (by decide +kernel)) rfl
theorem zce_X7_taken : zCe yX7_taken cX7_taken 3 (some .int) 2 := ⟨zin6 (List.mem_of_getElem? (i := 16) rfl) rfl, zini_X7, ⟨by decide +kernel, by decide +kernel⟩, by decide +kernel, by decide⟩
theorem zi_X7_taken : Cond.instanceMethod yX7_taken ∈ zW := zin6 (List.mem_of_getElem? (i := 14) (by decide +kernel)) rfl
theorem zs_X7_taken : Cond.selects yX7_taken.cls yX7_taken yX7_taken ∈ zW := zin6 (List.mem_of_getElem? (i := 15) (by decide +kernel)) rfl
theorem zce_X2_init : zCe yX2_init cX2_init 1 none 0 := ⟨zin1 (List.mem_of_getElem? (i := 49) rfl) rfl, zini_X2, ⟨by decide +kernel, by decide +kernel⟩, by decide +kernel, by decide⟩
theorem zi_X2_init : Cond.instanceMethod yX2_init ∈ zW := zin1 (List.mem_of_getElem? (i := 48) (by decide +kernel)) rfl
theorem zce_X3_init : zCe yX3_init cX3_init 1 none 0 := ⟨zin2 (List.mem_of_getElem? (i := 82) rfl) rfl, zini_X3, ⟨by decide +kernel, by decide +kernel⟩, by decide +kernel, by decide⟩
theorem zi_X3_init : Cond.instanceMethod yX3_init ∈ zW := zin2 (List.mem_of_getElem? (i := 81) (by decide +kernel)) rfl
theorem zce_X4_init : zCe yX4_init cX4_init 1 none 0 := ⟨zin1 (List.mem_of_getElem? (i := 28) rfl) rfl, zini_X4, ⟨by decide +kernel, by decide +kernel⟩, by decide +kernel, by decide⟩
theorem zi_X4_init : Cond.instanceMethod yX4_init ∈ zW := zin1 (List.mem_of_getElem? (i := 27) (by decide +kernel)) rfl
theorem zce_X5_init : zCe yX5_init cX5_init 2 none 1 := ⟨zin2 (List.mem_of_getElem? (i := 17) rfl) rfl, zini_X5, ⟨by decide +kernel, by decide +kernel⟩, by decide +kernel, by decide⟩
theorem zi_X5_init : Cond.instanceMethod yX5_init ∈ zW := zin2 (List.mem_of_getElem? (i := 16) (by decide +kernel)) rfl
theorem zce_X6_init : zCe yX6_init cX6_init 2 none 0 := ⟨zin1 (List.mem_of_getElem? (i := 20) rfl) rfl, zini_X6, ⟨by decide +kernel, by decide +kernel⟩, by decide +kernel, by decide⟩
theorem zi_X6_init : Cond.instanceMethod yX6_init ∈ zW := zin1 (List.mem_of_getElem? (i := 19) (by decide +kernel)) rfl
theorem zce_X7_init : zCe yX7_init cX7_init 2 none 0 := ⟨zin4 (List.mem_of_getElem? (i := 58) rfl) rfl, zini_X7, ⟨by decide +kernel, by decide +kernel⟩, by decide +kernel, by decide⟩
theorem zi_X7_init : Cond.instanceMethod yX7_init ∈ zW := zin4 (List.mem_of_getElem? (i := 57) (by decide +kernel)) rfl
theorem zcl_L_7 : Cond.classLink RL 7 RX6 ∈ zW := zin1 (List.mem_of_getElem? (i := 16) (by decide +kernel)) rfl
theorem zins_X6 : Cond.instantiable RX6 8 ∈ zW := zin1 (List.mem_of_getElem? (i := 17) (by decide +kernel)) rfl
theorem zm_L_9 : Cond.methodLink RL 9 yX6_init ∈ zW := zin1 (List.mem_of_getElem? (i := 18) (by decide +kernel)) rfl
theorem zm_X6_1 : Cond.methodLink RX6 1 Lib.objectInit ∈ zW := zin1 (List.mem_of_getElem? (i := 21) (by decide +kernel)) rfl
theorem zcl_X6_7 : Cond.classLink RX6 7 RX4 ∈ zW := zin1 (List.mem_of_getElem? (i := 24) (by decide +kernel)) rfl
theorem zins_X4 : Cond.instantiable RX4 4 ∈ zW := zin1 (List.mem_of_getElem? (i := 25) (by decide +kernel)) rfl
theorem zm_X4_3 : Cond.methodLink RX4 3 Lib.objectInit ∈ zW := zin1 (List.mem_of_getElem? (i := 29) (by decide +kernel)) rfl
theorem zcl_X6_16 : Cond.classLink RX6 16 RX2 ∈ zW := zin1 (List.mem_of_getElem? (i := 45) (by decide +kernel)) rfl
theorem zins_X2 : Cond.instantiable RX2 10 ∈ zW := zin1 (List.mem_of_getElem? (i := 46) (by decide +kernel)) rfl
theorem zm_X2_3 : Cond.methodLink RX2 3 Lib.objectInit ∈ zW := zin1 (List.mem_of_getElem? (i := 50) (by decide +kernel)) rfl
theorem zm_X6_25 : Cond.methodLink RX6 25 yJ0_length_8abf5 ∈ zW := zin1 (List.mem_of_getElem? (i := 86) (by decide +kernel)) rfl
theorem zm_J0_335 : Cond.methodLink RJ0 335 yJ0_coder_7d493 ∈ zW := zin1 (List.mem_of_getElem? (i := 90) (by decide +kernel)) rfl
theorem zm_X6_31 : Cond.methodLink RX6 31 yJ0_charAt_5068e ∈ zW := zin1 (List.mem_of_getElem? (i := 96) (by decide +kernel)) rfl
theorem zm_J0_492 : Cond.methodLink RJ0 492 yJ0_isLatin1_aae02 ∈ zW := zin1 (List.mem_of_getElem? (i := 100) (by decide +kernel)) rfl
theorem zm_J0_495 : Cond.methodLink RJ0 495 yJ1_charAt_3b067 ∈ zW := zin1 (List.mem_of_getElem? (i := 104) (by decide +kernel)) rfl
theorem zm_J1_9 : Cond.methodLink RJ1 9 yJ0_checkIndex_df160 ∈ zW := zin1 (List.mem_of_getElem? (i := 107) (by decide +kernel)) rfl
theorem zm_J0_1059 : Cond.methodLink RJ0 1059 yJ3_checkIndex_8e157 ∈ zW := zin1 (List.mem_of_getElem? (i := 112) (by decide +kernel)) rfl
theorem zm_J0_498 : Cond.methodLink RJ0 498 yJ2_charAt_3b067 ∈ zW := zin1 (List.mem_of_getElem? (i := 115) (by decide +kernel)) rfl
theorem zm_J2_67 : Cond.methodLink RJ2 67 yJ2_checkIndex_2214a ∈ zW := zin1 (List.mem_of_getElem? (i := 118) (by decide +kernel)) rfl
theorem zm_J2_48 : Cond.methodLink RJ2 48 yJ2_length_9d52b ∈ zW := zin1 (List.mem_of_getElem? (i := 121) (by decide +kernel)) rfl
theorem zm_J2_414 : Cond.methodLink RJ2 414 yJ0_checkIndex_df160 ∈ zW := zin1 (List.mem_of_getElem? (i := 124) (by decide +kernel)) rfl
theorem zm_J2_71 : Cond.methodLink RJ2 71 yJ2_getChar_3b067 ∈ zW := zin1 (List.mem_of_getElem? (i := 125) (by decide +kernel)) rfl
theorem zm_X6_35 : Cond.methodLink RX6 35 yX2_takeByte ∈ zW := zin1 (List.mem_of_getElem? (i := 134) (by decide +kernel)) rfl
theorem zm_X6_39 : Cond.methodLink RX6 39 yX2_readText ∈ zW := zin1 (List.mem_of_getElem? (i := 138) (by decide +kernel)) rfl
theorem zm_X2_34 : Cond.methodLink RX2 34 yX2_readToken ∈ zW := zin1 (List.mem_of_getElem? (i := 142) (by decide +kernel)) rfl
theorem zm_X2_84 : Cond.methodLink RX2 84 yX2_byteAt ∈ zW := zin1 (List.mem_of_getElem? (i := 146) (by decide +kernel)) rfl
theorem zm_X2_87 : Cond.methodLink RX2 87 yX2_isBlank ∈ zW := zin1 (List.mem_of_getElem? (i := 150) (by decide +kernel)) rfl
theorem zm_X2_90 : Cond.methodLink RX2 90 yX2_isLetter ∈ zW := zin1 (List.mem_of_getElem? (i := 153) (by decide +kernel)) rfl
theorem zm_X2_93 : Cond.methodLink RX2 93 yX2_endOfWord ∈ zW := zin1 (List.mem_of_getElem? (i := 159) (by decide +kernel)) rfl
theorem zm_X2_97 : Cond.methodLink RX2 97 yX2_nameRead ∈ zW := zin1 (List.mem_of_getElem? (i := 163) (by decide +kernel)) rfl
theorem zm_X2_114 : Cond.methodLink RX2 114 yX2_isRead ∈ zW := zin1 (List.mem_of_getElem? (i := 168) (by decide +kernel)) rfl
theorem zm_X2_140 : Cond.methodLink RX2 140 yJ0_length_8abf5 ∈ zW := zin1 (List.mem_of_getElem? (i := 172) (by decide +kernel)) rfl
theorem zm_X2_145 : Cond.methodLink RX2 145 yJ0_charAt_5068e ∈ zW := zin1 (List.mem_of_getElem? (i := 173) (by decide +kernel)) rfl
theorem zm_X2_100 : Cond.methodLink RX2 100 yX2_keyRead ∈ zW := zin1 (List.mem_of_getElem? (i := 179) (by decide +kernel)) rfl
theorem zm_X2_103 : Cond.methodLink RX2 103 yX2_isDigit ∈ zW := zin1 (List.mem_of_getElem? (i := 189) (by decide +kernel)) rfl
theorem zm_X2_106 : Cond.methodLink RX2 106 yX2_readNumber ∈ zW := zin1 (List.mem_of_getElem? (i := 192) (by decide +kernel)) rfl
theorem zm_X2_109 : Cond.methodLink RX2 109 yX2_isSign ∈ zW := zin1 (List.mem_of_getElem? (i := 196) (by decide +kernel)) rfl
theorem zm_X2_37 : Cond.methodLink RX2 37 yX2_expect ∈ zW := zin1 (List.mem_of_getElem? (i := 199) (by decide +kernel)) rfl
theorem zm_X2_47 : Cond.methodLink RX2 47 yX2_fail ∈ zW := zin1 (List.mem_of_getElem? (i := 203) (by decide +kernel)) rfl
theorem zm_X2_41 : Cond.methodLink RX2 41 yX2_readOr ∈ zW := zin1 (List.mem_of_getElem? (i := 207) (by decide +kernel)) rfl
theorem zm_X2_53 : Cond.methodLink RX2 53 yX2_readAnd ∈ zW := zin1 (List.mem_of_getElem? (i := 211) (by decide +kernel)) rfl
theorem zm_X2_61 : Cond.methodLink RX2 61 yX2_readNot ∈ zW := zin1 (List.mem_of_getElem? (i := 215) (by decide +kernel)) rfl
theorem zm_X2_64 : Cond.methodLink RX2 64 yX2_opens ∈ zW := zin1 (List.mem_of_getElem? (i := 219) (by decide +kernel)) rfl
theorem zm_X2_58 : Cond.methodLink RX2 58 yX2_emit ∈ zW := zin1 (List.mem_of_getElem? (i := 223) (by decide +kernel)) rfl
theorem zm_X2_68 : Cond.methodLink RX2 68 yX2_readSum ∈ zW := zin1 (List.mem_of_getElem? (i := 227) (by decide +kernel)) rfl
theorem zm_X2_71 : Cond.methodLink RX2 71 yX2_readTerm ∈ zW := zin1 (List.mem_of_getElem? (i := 231) (by decide +kernel)) rfl
theorem zm_X2_74 : Cond.methodLink RX2 74 yX2_readOne ∈ zW := zin1 (List.mem_of_getElem? (i := 235) (by decide +kernel)) rfl
theorem zm_X2_80 : Cond.methodLink RX2 80 yX0_ofName ∈ zW := zin1 (List.mem_of_getElem? (i := 239) (by decide +kernel)) rfl
theorem zm_X6_42 : Cond.methodLink RX6 42 yX4_keep ∈ zW := zin2 (List.mem_of_getElem? (i := 2) (by decide +kernel)) rfl
theorem zm_X4_28 : Cond.methodLink RX4 28 arraycopyName ∈ zW := zin2 (List.mem_of_getElem? (i := 6) (by decide +kernel)) rfl
theorem zm_X6_46 : Cond.methodLink RX6 46 yX2_clear ∈ zW := zin2 (List.mem_of_getElem? (i := 9) (by decide +kernel)) rfl
theorem zcl_X6_49 : Cond.classLink RX6 49 RX5 ∈ zW := zin2 (List.mem_of_getElem? (i := 13) (by decide +kernel)) rfl
theorem zins_X5 : Cond.instantiable RX5 15 ∈ zW := zin2 (List.mem_of_getElem? (i := 14) (by decide +kernel)) rfl
theorem zm_X6_51 : Cond.methodLink RX6 51 yX5_init ∈ zW := zin2 (List.mem_of_getElem? (i := 15) (by decide +kernel)) rfl
theorem zm_X5_3 : Cond.methodLink RX5 3 Lib.objectInit ∈ zW := zin2 (List.mem_of_getElem? (i := 18) (by decide +kernel)) rfl
theorem zcl_X6_64 : Cond.classLink RX6 64 RX3 ∈ zW := zin2 (List.mem_of_getElem? (i := 78) (by decide +kernel)) rfl
theorem zins_X3 : Cond.instantiable RX3 3 ∈ zW := zin2 (List.mem_of_getElem? (i := 79) (by decide +kernel)) rfl
theorem zm_X3_1 : Cond.methodLink RX3 1 Lib.objectInit ∈ zW := zin2 (List.mem_of_getElem? (i := 83) (by decide +kernel)) rfl
theorem zm_L_13 : Cond.methodLink RL 13 yX6_count ∈ zW := zin2 (List.mem_of_getElem? (i := 119) (by decide +kernel)) rfl
theorem zm_X6_89 : Cond.methodLink RX6 89 yX5_heatOfAll ∈ zW := zin2 (List.mem_of_getElem? (i := 123) (by decide +kernel)) rfl
theorem zm_L_18 : Cond.methodLink RL 18 yX6_feed ∈ zW := zin2 (List.mem_of_getElem? (i := 127) (by decide +kernel)) rfl
theorem zm_X6_101 : Cond.methodLink RX6 101 yX6_isFromTo ∈ zW := zin2 (List.mem_of_getElem? (i := 131) (by decide +kernel)) rfl
theorem zm_X6_105 : Cond.methodLink RX6 105 yX6_isByte ∈ zW := zin2 (List.mem_of_getElem? (i := 132) (by decide +kernel)) rfl
theorem zm_L_23 : Cond.methodLink RL 23 yX6_text ∈ zW := zin2 (List.mem_of_getElem? (i := 135) (by decide +kernel)) rfl
theorem zm_L_28 : Cond.methodLink RL 28 yX6_force ∈ zW := zin2 (List.mem_of_getElem? (i := 139) (by decide +kernel)) rfl
theorem zm_L_32 : Cond.methodLink RL 32 yX6_asks ∈ zW := zin2 (List.mem_of_getElem? (i := 143) (by decide +kernel)) rfl
theorem zm_X6_109 : Cond.methodLink RX6 109 yX5_isHut ∈ zW := zin2 (List.mem_of_getElem? (i := 147) (by decide +kernel)) rfl
theorem zm_X6_112 : Cond.methodLink RX6 112 yX5_says ∈ zW := zin2 (List.mem_of_getElem? (i := 151) (by decide +kernel)) rfl
theorem zm_X5_137 : Cond.methodLink RX5 137 yX5_owes ∈ zW := zin2 (List.mem_of_getElem? (i := 155) (by decide +kernel)) rfl
theorem zm_X5_72 : Cond.methodLink RX5 72 yX5_coalsWhere ∈ zW := zin2 (List.mem_of_getElem? (i := 159) (by decide +kernel)) rfl
theorem zm_X5_141 : Cond.methodLink RX5 141 yX4_valueOf ∈ zW := zin2 (List.mem_of_getElem? (i := 163) (by decide +kernel)) rfl
theorem zm_X4_35 : Cond.methodLink RX4 35 yX0_isOfTwo ∈ zW := zin2 (List.mem_of_getElem? (i := 167) (by decide +kernel)) rfl
theorem zm_X4_41 : Cond.methodLink RX4 41 yX0_ofTwo ∈ zW := zin2 (List.mem_of_getElem? (i := 170) (by decide +kernel)) rfl
theorem zm_X4_45 : Cond.methodLink RX4 45 yX0_isOfOne ∈ zW := zin2 (List.mem_of_getElem? (i := 173) (by decide +kernel)) rfl
theorem zm_X4_48 : Cond.methodLink RX4 48 yX0_ofOne ∈ zW := zin2 (List.mem_of_getElem? (i := 176) (by decide +kernel)) rfl
theorem zm_X4_52 : Cond.methodLink RX4 52 yX0_isName ∈ zW := zin2 (List.mem_of_getElem? (i := 179) (by decide +kernel)) rfl
theorem zm_X4_55 : Cond.methodLink RX4 55 yX0_ofName ∈ zW := zin2 (List.mem_of_getElem? (i := 182) (by decide +kernel)) rfl
theorem zm_X5_84 : Cond.methodLink RX5 84 Lib.Math.min.name ∈ zW := zin2 (List.mem_of_getElem? (i := 183) (by decide +kernel)) rfl
theorem zm_X5_108 : Cond.methodLink RX5 108 Lib.Math.max.name ∈ zW := zin2 (List.mem_of_getElem? (i := 186) (by decide +kernel)) rfl
theorem zm_L_37 : Cond.methodLink RL 37 yX6_hut ∈ zW := zin2 (List.mem_of_getElem? (i := 189) (by decide +kernel)) rfl
theorem zm_X6_116 : Cond.methodLink RX6 116 yX5_comes ∈ zW := zin2 (List.mem_of_getElem? (i := 193) (by decide +kernel)) rfl
theorem zq_X5_71 : Cond.constant RX5 71 (999999) ∈ zW := zin2 (List.mem_of_getElem? (i := 198) (by decide +kernel)) rfl
theorem zm_L_42 : Cond.methodLink RL 42 yX6_put ∈ zW := zin2 (List.mem_of_getElem? (i := 199) (by decide +kernel)) rfl
theorem zm_X6_120 : Cond.methodLink RX6 120 yX6_mostOf ∈ zW := zin2 (List.mem_of_getElem? (i := 203) (by decide +kernel)) rfl
theorem zm_X6_124 : Cond.methodLink RX6 124 yX5_stateOf ∈ zW := zin2 (List.mem_of_getElem? (i := 206) (by decide +kernel)) rfl
theorem zm_X6_127 : Cond.methodLink RX6 127 yX5_become ∈ zW := zin2 (List.mem_of_getElem? (i := 210) (by decide +kernel)) rfl
theorem zm_L_46 : Cond.methodLink RL 46 yX6_told ∈ zW := zin2 (List.mem_of_getElem? (i := 214) (by decide +kernel)) rfl
theorem zm_X6_137 : Cond.methodLink RX6 137 yX5_owes ∈ zW := zin2 (List.mem_of_getElem? (i := 218) (by decide +kernel)) rfl
theorem zm_X6_140 : Cond.methodLink RX6 140 yX5_isOwed ∈ zW := zin2 (List.mem_of_getElem? (i := 219) (by decide +kernel)) rfl
theorem zm_X6_143 : Cond.methodLink RX6 143 yX5_loansFrom ∈ zW := zin2 (List.mem_of_getElem? (i := 223) (by decide +kernel)) rfl
theorem zm_L_50 : Cond.methodLink RL 50 yX6_lend ∈ zW := zin2 (List.mem_of_getElem? (i := 227) (by decide +kernel)) rfl
theorem zm_X6_146 : Cond.methodLink RX6 146 yX6_isCoalNights ∈ zW := zin2 (List.mem_of_getElem? (i := 231) (by decide +kernel)) rfl
theorem zm_X6_150 : Cond.methodLink RX6 150 yX5_lends ∈ zW := zin2 (List.mem_of_getElem? (i := 234) (by decide +kernel)) rfl
theorem zm_X5_80 : Cond.methodLink RX5 80 yX5_pass ∈ zW := zin2 (List.mem_of_getElem? (i := 238) (by decide +kernel)) rfl
theorem zm_L_54 : Cond.methodLink RL 54 yX6_loan ∈ zW := zin3 (List.mem_of_getElem? (i := 2) (by decide +kernel)) rfl
theorem zm_X6_154 : Cond.methodLink RX6 154 yX5_isLoan ∈ zW := zin3 (List.mem_of_getElem? (i := 6) (by decide +kernel)) rfl
theorem zm_L_58 : Cond.methodLink RL 58 yX6_repay ∈ zW := zin3 (List.mem_of_getElem? (i := 10) (by decide +kernel)) rfl
theorem zm_X6_169 : Cond.methodLink RX6 169 yX5_canRepay ∈ zW := zin3 (List.mem_of_getElem? (i := 14) (by decide +kernel)) rfl
theorem zm_X6_172 : Cond.methodLink RX6 172 yX5_payBack ∈ zW := zin3 (List.mem_of_getElem? (i := 18) (by decide +kernel)) rfl
theorem zm_X6_175 : Cond.methodLink RX6 175 yX5_drop ∈ zW := zin3 (List.mem_of_getElem? (i := 22) (by decide +kernel)) rfl
theorem zm_L_62 : Cond.methodLink RL 62 yX6_forgive ∈ zW := zin3 (List.mem_of_getElem? (i := 26) (by decide +kernel)) rfl
theorem zm_L_66 : Cond.methodLink RL 66 yX6_night ∈ zW := zin3 (List.mem_of_getElem? (i := 30) (by decide +kernel)) rfl
theorem zm_X6_178 : Cond.methodLink RX6 178 yX5_passNight ∈ zW := zin3 (List.mem_of_getElem? (i := 34) (by decide +kernel)) rfl
theorem zm_X5_90 : Cond.methodLink RX5 90 yX5_grow ∈ zW := zin3 (List.mem_of_getElem? (i := 38) (by decide +kernel)) rfl
theorem zm_X5_111 : Cond.methodLink RX5 111 yX5_says ∈ zW := zin3 (List.mem_of_getElem? (i := 42) (by decide +kernel)) rfl
theorem zm_X5_115 : Cond.methodLink RX5 115 yX1_growth ∈ zW := zin3 (List.mem_of_getElem? (i := 43) (by decide +kernel)) rfl
theorem zm_X5_94 : Cond.methodLink RX5 94 yX5_endDueLoans ∈ zW := zin3 (List.mem_of_getElem? (i := 46) (by decide +kernel)) rfl
theorem zm_X5_121 : Cond.methodLink RX5 121 yX5_canRepay ∈ zW := zin3 (List.mem_of_getElem? (i := 50) (by decide +kernel)) rfl
theorem zm_X5_125 : Cond.methodLink RX5 125 yX5_payBack ∈ zW := zin3 (List.mem_of_getElem? (i := 51) (by decide +kernel)) rfl
theorem zm_X5_128 : Cond.methodLink RX5 128 yX5_drop ∈ zW := zin3 (List.mem_of_getElem? (i := 52) (by decide +kernel)) rfl
theorem zm_X5_98 : Cond.methodLink RX5 98 yX5_warm ∈ zW := zin3 (List.mem_of_getElem? (i := 53) (by decide +kernel)) rfl
theorem zm_X5_131 : Cond.methodLink RX5 131 yX1_burning ∈ zW := zin3 (List.mem_of_getElem? (i := 57) (by decide +kernel)) rfl
theorem zm_X5_134 : Cond.methodLink RX5 134 yX1_cooling ∈ zW := zin3 (List.mem_of_getElem? (i := 60) (by decide +kernel)) rfl
theorem zm_L_70 : Cond.methodLink RL 70 yX6_run ∈ zW := zin3 (List.mem_of_getElem? (i := 63) (by decide +kernel)) rfl
theorem zm_X6_181 : Cond.methodLink RX6 181 yX6_think ∈ zW := zin3 (List.mem_of_getElem? (i := 67) (by decide +kernel)) rfl
theorem zm_X6_277 : Cond.methodLink RX6 277 yX5_becomeAs ∈ zW := zin3 (List.mem_of_getElem? (i := 71) (by decide +kernel)) rfl
theorem zm_X5_48 : Cond.methodLink RX5 48 arraycopyName ∈ zW := zin3 (List.mem_of_getElem? (i := 75) (by decide +kernel)) rfl
theorem zm_X6_185 : Cond.methodLink RX6 185 yX5_passNights ∈ zW := zin3 (List.mem_of_getElem? (i := 76) (by decide +kernel)) rfl
theorem zm_X5_101 : Cond.methodLink RX5 101 yX5_passNight ∈ zW := zin3 (List.mem_of_getElem? (i := 80) (by decide +kernel)) rfl
theorem zm_L_74 : Cond.methodLink RL 74 yX6_lasts ∈ zW := zin3 (List.mem_of_getElem? (i := 81) (by decide +kernel)) rfl
theorem zm_X6_191 : Cond.methodLink RX6 191 yX6_nightsToFailing ∈ zW := zin3 (List.mem_of_getElem? (i := 85) (by decide +kernel)) rfl
theorem zm_X6_197 : Cond.methodLink RX6 197 yX6_has ∈ zW := zin3 (List.mem_of_getElem? (i := 89) (by decide +kernel)) rfl
theorem zm_X6_194 : Cond.methodLink RX6 194 yX6_nightsToNoHeat ∈ zW := zin3 (List.mem_of_getElem? (i := 92) (by decide +kernel)) rfl
theorem zm_L_78 : Cond.methodLink RL 78 yX6_net ∈ zW := zin3 (List.mem_of_getElem? (i := 96) (by decide +kernel)) rfl
theorem zq_X6_200 : Cond.constant RX6 200 (-1000000) ∈ zW := zin3 (List.mem_of_getElem? (i := 100) (by decide +kernel)) rfl
theorem zm_L_82 : Cond.methodLink RL 82 yX6_settle ∈ zW := zin3 (List.mem_of_getElem? (i := 101) (by decide +kernel)) rfl
theorem zm_X6_201 : Cond.methodLink RX6 201 yX6_net ∈ zW := zin3 (List.mem_of_getElem? (i := 105) (by decide +kernel)) rfl
theorem zm_X6_204 : Cond.methodLink RX6 204 yX6_payOnce ∈ zW := zin3 (List.mem_of_getElem? (i := 106) (by decide +kernel)) rfl
theorem zm_X6_207 : Cond.methodLink RX6 207 Lib.Math.min.name ∈ zW := zin3 (List.mem_of_getElem? (i := 110) (by decide +kernel)) rfl
theorem zm_L_86 : Cond.methodLink RL 86 yX6_source ∈ zW := zin3 (List.mem_of_getElem? (i := 111) (by decide +kernel)) rfl
theorem zm_X6_212 : Cond.methodLink RX6 212 yX5_sourceOf ∈ zW := zin3 (List.mem_of_getElem? (i := 115) (by decide +kernel)) rfl
theorem zm_L_90 : Cond.methodLink RL 90 yX6_rings ∈ zW := zin3 (List.mem_of_getElem? (i := 120) (by decide +kernel)) rfl
theorem zm_L_94 : Cond.methodLink RL 94 yX6_ask ∈ zW := zin3 (List.mem_of_getElem? (i := 124) (by decide +kernel)) rfl
theorem zm_X6_215 : Cond.methodLink RX6 215 yX6_heatIfLent ∈ zW := zin3 (List.mem_of_getElem? (i := 128) (by decide +kernel)) rfl
theorem zm_L_98 : Cond.methodLink RL 98 yX6_needs ∈ zW := zin3 (List.mem_of_getElem? (i := 132) (by decide +kernel)) rfl
theorem zm_X6_221 : Cond.methodLink RX6 221 yX5_failedIn ∈ zW := zin3 (List.mem_of_getElem? (i := 136) (by decide +kernel)) rfl
theorem zm_L_102 : Cond.methodLink RL 102 yX6_mercy ∈ zW := zin3 (List.mem_of_getElem? (i := 140) (by decide +kernel)) rfl
theorem zm_X6_224 : Cond.methodLink RX6 224 yJ6_bitCount_0f7a4 ∈ zW := zin3 (List.mem_of_getElem? (i := 144) (by decide +kernel)) rfl
theorem zq_J6_265 : Cond.constant RJ6 265 (1431655765) ∈ zW := zin3 (List.mem_of_getElem? (i := 147) (by decide +kernel)) rfl
theorem zq_J6_266 : Cond.constant RJ6 266 (858993459) ∈ zW := zin3 (List.mem_of_getElem? (i := 148) (by decide +kernel)) rfl
theorem zq_J6_267 : Cond.constant RJ6 267 (252645135) ∈ zW := zin3 (List.mem_of_getElem? (i := 149) (by decide +kernel)) rfl
theorem zm_L_106 : Cond.methodLink RL 106 yX6_worst ∈ zW := zin3 (List.mem_of_getElem? (i := 150) (by decide +kernel)) rfl
theorem zm_X6_229 : Cond.methodLink RX6 229 yX6_heatOfOthersWithout ∈ zW := zin3 (List.mem_of_getElem? (i := 154) (by decide +kernel)) rfl
theorem zm_L_110 : Cond.methodLink RL 110 yX6_judge ∈ zW := zin3 (List.mem_of_getElem? (i := 158) (by decide +kernel)) rfl
theorem zm_X6_232 : Cond.methodLink RX6 232 yX6_judgeRefusal ∈ zW := zin3 (List.mem_of_getElem? (i := 162) (by decide +kernel)) rfl
theorem zm_X6_245 : Cond.methodLink RX6 245 yX6_toldRefusal ∈ zW := zin3 (List.mem_of_getElem? (i := 166) (by decide +kernel)) rfl
theorem zm_X6_248 : Cond.methodLink RX6 248 yX3_isSheet ∈ zW := zin3 (List.mem_of_getElem? (i := 170) (by decide +kernel)) rfl
theorem zm_X6_263 : Cond.methodLink RX6 263 yX3_isMissing ∈ zW := zin3 (List.mem_of_getElem? (i := 174) (by decide +kernel)) rfl
theorem zm_X6_257 : Cond.methodLink RX6 257 yX3_sizeOf ∈ zW := zin3 (List.mem_of_getElem? (i := 178) (by decide +kernel)) rfl
theorem zm_X6_235 : Cond.methodLink RX6 235 yX6_firstOtherwise ∈ zW := zin3 (List.mem_of_getElem? (i := 182) (by decide +kernel)) rfl
theorem zm_X6_260 : Cond.methodLink RX6 260 yX3_at ∈ zW := zin3 (List.mem_of_getElem? (i := 186) (by decide +kernel)) rfl
theorem zm_L_114 : Cond.methodLink RL 114 yX6_kinds ∈ zW := zin3 (List.mem_of_getElem? (i := 190) (by decide +kernel)) rfl
theorem zm_X6_241 : Cond.methodLink RX6 241 yX6_isTold ∈ zW := zin3 (List.mem_of_getElem? (i := 194) (by decide +kernel)) rfl
theorem zm_L_118 : Cond.methodLink RL 118 yX6_states ∈ zW := zin3 (List.mem_of_getElem? (i := 198) (by decide +kernel)) rfl
theorem zm_L_123 : Cond.methodLink RL 123 yX6_whose ∈ zW := zin3 (List.mem_of_getElem? (i := 202) (by decide +kernel)) rfl
theorem zm_L_127 : Cond.methodLink RL 127 yX6_laws ∈ zW := zin3 (List.mem_of_getElem? (i := 206) (by decide +kernel)) rfl
theorem zm_L_131 : Cond.methodLink RL 131 yX6_film ∈ zW := zin3 (List.mem_of_getElem? (i := 210) (by decide +kernel)) rfl
theorem zm_X6_251 : Cond.methodLink RX6 251 yX3_renew ∈ zW := zin3 (List.mem_of_getElem? (i := 214) (by decide +kernel)) rfl
theorem zm_X6_254 : Cond.methodLink RX6 254 yX3_write ∈ zW := zin3 (List.mem_of_getElem? (i := 218) (by decide +kernel)) rfl
theorem zm_L_135 : Cond.methodLink RL 135 yX6_drawn ∈ zW := zin3 (List.mem_of_getElem? (i := 222) (by decide +kernel)) rfl
theorem zm_X6_266 : Cond.methodLink RX6 266 yX6_isSnow ∈ zW := zin3 (List.mem_of_getElem? (i := 226) (by decide +kernel)) rfl
theorem zq_X6_297 : Cond.constant RX6 297 (99999) ∈ zW := zin3 (List.mem_of_getElem? (i := 229) (by decide +kernel)) rfl
theorem zm_X6_269 : Cond.methodLink RX6 269 yX5_passSnow ∈ zW := zin3 (List.mem_of_getElem? (i := 230) (by decide +kernel)) rfl
theorem zq_X5_104 : Cond.constantLong RX5 104 (48271) ∈ zW := zin3 (List.mem_of_getElem? (i := 234) (by decide +kernel)) rfl
theorem zq_X5_106 : Cond.constantLong RX5 106 (2147483647) ∈ zW := zin3 (List.mem_of_getElem? (i := 235) (by decide +kernel)) rfl
theorem zm_L_139 : Cond.methodLink RL 139 yX6_odds ∈ zW := zin3 (List.mem_of_getElem? (i := 236) (by decide +kernel)) rfl
theorem zq_X6_272 : Cond.constantLong RX6 272 (-4611686018427387904) ∈ zW := zin4 (List.mem_of_getElem? (i := 0) (by decide +kernel)) rfl
theorem zm_X6_274 : Cond.methodLink RX6 274 yX6_greatestShared ∈ zW := zin4 (List.mem_of_getElem? (i := 1) (by decide +kernel)) rfl
theorem zm_L_144 : Cond.methodLink RL 144 yX6_image ∈ zW := zin4 (List.mem_of_getElem? (i := 4) (by decide +kernel)) rfl
theorem zm_L_148 : Cond.methodLink RL 148 yX6_back ∈ zW := zin4 (List.mem_of_getElem? (i := 8) (by decide +kernel)) rfl
theorem zm_L_152 : Cond.methodLink RL 152 yX6_sheet ∈ zW := zin4 (List.mem_of_getElem? (i := 12) (by decide +kernel)) rfl
theorem zm_L_156 : Cond.methodLink RL 156 yX6_cell ∈ zW := zin4 (List.mem_of_getElem? (i := 16) (by decide +kernel)) rfl
theorem zm_X6_281 : Cond.methodLink RX6 281 yX3_isPlace ∈ zW := zin4 (List.mem_of_getElem? (i := 20) (by decide +kernel)) rfl
theorem zm_L_160 : Cond.methodLink RL 160 yX6_copy ∈ zW := zin4 (List.mem_of_getElem? (i := 24) (by decide +kernel)) rfl
theorem zm_X6_284 : Cond.methodLink RX6 284 yX3_sortOf ∈ zW := zin4 (List.mem_of_getElem? (i := 28) (by decide +kernel)) rfl
theorem zm_X6_287 : Cond.methodLink RX6 287 yX3_isStretch ∈ zW := zin4 (List.mem_of_getElem? (i := 32) (by decide +kernel)) rfl
theorem zm_X6_290 : Cond.methodLink RX6 290 yX3_move ∈ zW := zin4 (List.mem_of_getElem? (i := 36) (by decide +kernel)) rfl
theorem zm_X3_19 : Cond.methodLink RX3 19 arraycopyName ∈ zW := zin4 (List.mem_of_getElem? (i := 40) (by decide +kernel)) rfl
theorem zm_L_165 : Cond.methodLink RL 165 yX6_hutsBy ∈ zW := zin4 (List.mem_of_getElem? (i := 41) (by decide +kernel)) rfl
theorem zm_L_169 : Cond.methodLink RL 169 yX6_taken ∈ zW := zin4 (List.mem_of_getElem? (i := 45) (by decide +kernel)) rfl
theorem zm_X6_294 : Cond.methodLink RX6 294 yX1_isOne ∈ zW := zin4 (List.mem_of_getElem? (i := 49) (by decide +kernel)) rfl
theorem zcl_L_10 : Cond.classLink RL 10 RX7 ∈ zW := zin4 (List.mem_of_getElem? (i := 54) (by decide +kernel)) rfl
theorem zins_X7 : Cond.instantiable RX7 37 ∈ zW := zin4 (List.mem_of_getElem? (i := 55) (by decide +kernel)) rfl
theorem zm_L_12 : Cond.methodLink RL 12 yX7_init ∈ zW := zin4 (List.mem_of_getElem? (i := 56) (by decide +kernel)) rfl
theorem zm_X7_1 : Cond.methodLink RX7 1 Lib.objectInit ∈ zW := zin4 (List.mem_of_getElem? (i := 59) (by decide +kernel)) rfl
theorem zm_X7_80 : Cond.methodLink RX7 80 yX7_text ∈ zW := zin4 (List.mem_of_getElem? (i := 60) (by decide +kernel)) rfl
theorem zm_X7_149 : Cond.methodLink RX7 149 yX7_next ∈ zW := zin4 (List.mem_of_getElem? (i := 64) (by decide +kernel)) rfl
theorem zm_X7_87 : Cond.methodLink RX7 87 yX7_in ∈ zW := zin4 (List.mem_of_getElem? (i := 68) (by decide +kernel)) rfl
theorem zm_X7_122 : Cond.methodLink RX7 122 yX7_wordFrom ∈ zW := zin4 (List.mem_of_getElem? (i := 71) (by decide +kernel)) rfl
theorem zm_X7_162 : Cond.methodLink RX7 162 yX7_eRead ∈ zW := zin4 (List.mem_of_getElem? (i := 75) (by decide +kernel)) rfl
theorem zq_X7_152 : Cond.constant RX7 152 (100000) ∈ zW := zin4 (List.mem_of_getElem? (i := 79) (by decide +kernel)) rfl
theorem zm_X7_139 : Cond.methodLink RX7 139 yX7_puts ∈ zW := zin4 (List.mem_of_getElem? (i := 80) (by decide +kernel)) rfl
theorem zm_X7_146 : Cond.methodLink RX7 146 yX7_unwinds ∈ zW := zin4 (List.mem_of_getElem? (i := 84) (by decide +kernel)) rfl
theorem zm_X7_132 : Cond.methodLink RX7 132 yX7_rank ∈ zW := zin4 (List.mem_of_getElem? (i := 88) (by decide +kernel)) rfl
theorem zm_X7_153 : Cond.methodLink RX7 153 yX7_opensOne ∈ zW := zin4 (List.mem_of_getElem? (i := 91) (by decide +kernel)) rfl
theorem zm_X7_143 : Cond.methodLink RX7 143 yX7_holds ∈ zW := zin4 (List.mem_of_getElem? (i := 95) (by decide +kernel)) rfl
theorem zm_X7_156 : Cond.methodLink RX7 156 yX7_signOf ∈ zW := zin4 (List.mem_of_getElem? (i := 99) (by decide +kernel)) rfl
theorem zm_X7_159 : Cond.methodLink RX7 159 yX7_between ∈ zW := zin4 (List.mem_of_getElem? (i := 103) (by decide +kernel)) rfl
theorem zm_L_17 : Cond.methodLink RL 17 yX7_count ∈ zW := zin4 (List.mem_of_getElem? (i := 219) (by decide +kernel)) rfl
theorem zm_X7_97 : Cond.methodLink RX7 97 yX7_heatAll ∈ zW := zin4 (List.mem_of_getElem? (i := 223) (by decide +kernel)) rfl
theorem zm_L_22 : Cond.methodLink RL 22 yX7_feed ∈ zW := zin4 (List.mem_of_getElem? (i := 227) (by decide +kernel)) rfl
theorem zm_X7_106 : Cond.methodLink RX7 106 yX7_isByte ∈ zW := zin4 (List.mem_of_getElem? (i := 231) (by decide +kernel)) rfl
theorem zm_L_27 : Cond.methodLink RL 27 yX7_text ∈ zW := zin4 (List.mem_of_getElem? (i := 234) (by decide +kernel)) rfl
theorem zm_L_31 : Cond.methodLink RL 31 yX7_force ∈ zW := zin4 (List.mem_of_getElem? (i := 235) (by decide +kernel)) rfl
theorem zm_L_36 : Cond.methodLink RL 36 yX7_asks ∈ zW := zin4 (List.mem_of_getElem? (i := 239) (by decide +kernel)) rfl
theorem zm_X7_179 : Cond.methodLink RX7 179 yX7_isHut ∈ zW := zin5 (List.mem_of_getElem? (i := 3) (by decide +kernel)) rfl
theorem zm_X7_182 : Cond.methodLink RX7 182 yX7_asksOf ∈ zW := zin5 (List.mem_of_getElem? (i := 7) (by decide +kernel)) rfl
theorem zm_X7_170 : Cond.methodLink RX7 170 yX7_owedBy ∈ zW := zin5 (List.mem_of_getElem? (i := 11) (by decide +kernel)) rfl
theorem zm_X7_173 : Cond.methodLink RX7 173 yX7_says ∈ zW := zin5 (List.mem_of_getElem? (i := 15) (by decide +kernel)) rfl
theorem zm_X7_166 : Cond.methodLink RX7 166 yX7_two ∈ zW := zin5 (List.mem_of_getElem? (i := 19) (by decide +kernel)) rfl
theorem zm_X7_176 : Cond.methodLink RX7 176 yX7_within ∈ zW := zin5 (List.mem_of_getElem? (i := 22) (by decide +kernel)) rfl
theorem zm_L_41 : Cond.methodLink RL 41 yX7_hut ∈ zW := zin5 (List.mem_of_getElem? (i := 25) (by decide +kernel)) rfl
theorem zq_X7_185 : Cond.constant RX7 185 (999999) ∈ zW := zin5 (List.mem_of_getElem? (i := 29) (by decide +kernel)) rfl
theorem zm_L_45 : Cond.methodLink RL 45 yX7_put ∈ zW := zin5 (List.mem_of_getElem? (i := 30) (by decide +kernel)) rfl
theorem zm_L_49 : Cond.methodLink RL 49 yX7_told ∈ zW := zin5 (List.mem_of_getElem? (i := 34) (by decide +kernel)) rfl
theorem zm_X7_186 : Cond.methodLink RX7 186 yX7_owedTo ∈ zW := zin5 (List.mem_of_getElem? (i := 38) (by decide +kernel)) rfl
theorem zm_X7_189 : Cond.methodLink RX7 189 yX7_lentBy ∈ zW := zin5 (List.mem_of_getElem? (i := 42) (by decide +kernel)) rfl
theorem zm_L_53 : Cond.methodLink RL 53 yX7_lend ∈ zW := zin5 (List.mem_of_getElem? (i := 46) (by decide +kernel)) rfl
theorem zm_X7_196 : Cond.methodLink RX7 196 yX7_areCoalNights ∈ zW := zin5 (List.mem_of_getElem? (i := 50) (by decide +kernel)) rfl
theorem zm_X7_199 : Cond.methodLink RX7 199 yX7_mayLend ∈ zW := zin5 (List.mem_of_getElem? (i := 53) (by decide +kernel)) rfl
theorem zm_X7_203 : Cond.methodLink RX7 203 yX7_lends ∈ zW := zin5 (List.mem_of_getElem? (i := 57) (by decide +kernel)) rfl
theorem zm_X7_192 : Cond.methodLink RX7 192 yX7_moves ∈ zW := zin5 (List.mem_of_getElem? (i := 61) (by decide +kernel)) rfl
theorem zm_L_57 : Cond.methodLink RL 57 yX7_loan ∈ zW := zin5 (List.mem_of_getElem? (i := 65) (by decide +kernel)) rfl
theorem zm_X7_206 : Cond.methodLink RX7 206 yX7_isLoan ∈ zW := zin5 (List.mem_of_getElem? (i := 69) (by decide +kernel)) rfl
theorem zm_L_61 : Cond.methodLink RL 61 yX7_repay ∈ zW := zin5 (List.mem_of_getElem? (i := 73) (by decide +kernel)) rfl
theorem zm_X7_209 : Cond.methodLink RX7 209 yX7_drops ∈ zW := zin5 (List.mem_of_getElem? (i := 77) (by decide +kernel)) rfl
theorem zm_L_65 : Cond.methodLink RL 65 yX7_forgive ∈ zW := zin5 (List.mem_of_getElem? (i := 81) (by decide +kernel)) rfl
theorem zm_L_69 : Cond.methodLink RL 69 yX7_night ∈ zW := zin5 (List.mem_of_getElem? (i := 85) (by decide +kernel)) rfl
theorem zm_X7_224 : Cond.methodLink RX7 224 yX7_nightOf ∈ zW := zin5 (List.mem_of_getElem? (i := 89) (by decide +kernel)) rfl
theorem zm_X7_218 : Cond.methodLink RX7 218 yX7_growsOf ∈ zW := zin5 (List.mem_of_getElem? (i := 93) (by decide +kernel)) rfl
theorem zm_X7_221 : Cond.methodLink RX7 221 yX7_hearth ∈ zW := zin5 (List.mem_of_getElem? (i := 97) (by decide +kernel)) rfl
theorem zm_X7_212 : Cond.methodLink RX7 212 yX7_burnsOf ∈ zW := zin5 (List.mem_of_getElem? (i := 101) (by decide +kernel)) rfl
theorem zm_X7_215 : Cond.methodLink RX7 215 yX7_coolsOf ∈ zW := zin5 (List.mem_of_getElem? (i := 105) (by decide +kernel)) rfl
theorem zm_L_73 : Cond.methodLink RL 73 yX7_run ∈ zW := zin5 (List.mem_of_getElem? (i := 109) (by decide +kernel)) rfl
theorem zm_X7_227 : Cond.methodLink RX7 227 yX7_keeps ∈ zW := zin5 (List.mem_of_getElem? (i := 113) (by decide +kernel)) rfl
theorem zm_X7_230 : Cond.methodLink RX7 230 yX7_goes ∈ zW := zin5 (List.mem_of_getElem? (i := 117) (by decide +kernel)) rfl
theorem zm_X7_233 : Cond.methodLink RX7 233 yX7_lays ∈ zW := zin5 (List.mem_of_getElem? (i := 121) (by decide +kernel)) rfl
theorem zm_L_77 : Cond.methodLink RL 77 yX7_lasts ∈ zW := zin5 (List.mem_of_getElem? (i := 125) (by decide +kernel)) rfl
theorem zm_L_81 : Cond.methodLink RL 81 yX7_net ∈ zW := zin5 (List.mem_of_getElem? (i := 129) (by decide +kernel)) rfl
theorem zq_X7_236 : Cond.constant RX7 236 (-1000000) ∈ zW := zin5 (List.mem_of_getElem? (i := 133) (by decide +kernel)) rfl
theorem zm_L_85 : Cond.methodLink RL 85 yX7_settle ∈ zW := zin5 (List.mem_of_getElem? (i := 134) (by decide +kernel)) rfl
theorem zm_L_89 : Cond.methodLink RL 89 yX7_source ∈ zW := zin5 (List.mem_of_getElem? (i := 138) (by decide +kernel)) rfl
theorem zm_X7_237 : Cond.methodLink RX7 237 yX7_sourceOf ∈ zW := zin5 (List.mem_of_getElem? (i := 142) (by decide +kernel)) rfl
theorem zm_L_93 : Cond.methodLink RL 93 yX7_rings ∈ zW := zin5 (List.mem_of_getElem? (i := 146) (by decide +kernel)) rfl
theorem zm_L_97 : Cond.methodLink RL 97 yX7_ask ∈ zW := zin5 (List.mem_of_getElem? (i := 150) (by decide +kernel)) rfl
theorem zm_L_101 : Cond.methodLink RL 101 yX7_needs ∈ zW := zin5 (List.mem_of_getElem? (i := 154) (by decide +kernel)) rfl
theorem zm_L_105 : Cond.methodLink RL 105 yX7_mercy ∈ zW := zin5 (List.mem_of_getElem? (i := 158) (by decide +kernel)) rfl
theorem zm_X7_243 : Cond.methodLink RX7 243 yX7_failsBut ∈ zW := zin5 (List.mem_of_getElem? (i := 162) (by decide +kernel)) rfl
theorem zm_X7_240 : Cond.methodLink RX7 240 yX7_ones ∈ zW := zin5 (List.mem_of_getElem? (i := 166) (by decide +kernel)) rfl
theorem zm_L_109 : Cond.methodLink RL 109 yX7_worst ∈ zW := zin5 (List.mem_of_getElem? (i := 169) (by decide +kernel)) rfl
theorem zm_L_113 : Cond.methodLink RL 113 yX7_judge ∈ zW := zin5 (List.mem_of_getElem? (i := 173) (by decide +kernel)) rfl
theorem zm_X7_249 : Cond.methodLink RX7 249 yX7_toldWrong ∈ zW := zin5 (List.mem_of_getElem? (i := 177) (by decide +kernel)) rfl
theorem zm_X7_246 : Cond.methodLink RX7 246 yX7_sheetWrong ∈ zW := zin5 (List.mem_of_getElem? (i := 181) (by decide +kernel)) rfl
theorem zm_X7_252 : Cond.methodLink RX7 252 yX7_unlike ∈ zW := zin5 (List.mem_of_getElem? (i := 185) (by decide +kernel)) rfl
theorem zm_L_117 : Cond.methodLink RL 117 yX7_kinds ∈ zW := zin5 (List.mem_of_getElem? (i := 189) (by decide +kernel)) rfl
theorem zm_L_122 : Cond.methodLink RL 122 yX7_states ∈ zW := zin5 (List.mem_of_getElem? (i := 193) (by decide +kernel)) rfl
theorem zm_L_126 : Cond.methodLink RL 126 yX7_whose ∈ zW := zin5 (List.mem_of_getElem? (i := 197) (by decide +kernel)) rfl
theorem zm_L_130 : Cond.methodLink RL 130 yX7_laws ∈ zW := zin5 (List.mem_of_getElem? (i := 201) (by decide +kernel)) rfl
theorem zm_L_134 : Cond.methodLink RL 134 yX7_film ∈ zW := zin5 (List.mem_of_getElem? (i := 205) (by decide +kernel)) rfl
theorem zm_L_138 : Cond.methodLink RL 138 yX7_drawn ∈ zW := zin5 (List.mem_of_getElem? (i := 209) (by decide +kernel)) rfl
theorem zq_X7_262 : Cond.constant RX7 262 (99999) ∈ zW := zin5 (List.mem_of_getElem? (i := 213) (by decide +kernel)) rfl
theorem zm_X7_263 : Cond.methodLink RX7 263 yX7_snows ∈ zW := zin5 (List.mem_of_getElem? (i := 214) (by decide +kernel)) rfl
theorem zq_X7_255 : Cond.constantLong RX7 255 (48271) ∈ zW := zin5 (List.mem_of_getElem? (i := 218) (by decide +kernel)) rfl
theorem zq_X7_257 : Cond.constantLong RX7 257 (2147483647) ∈ zW := zin5 (List.mem_of_getElem? (i := 219) (by decide +kernel)) rfl
theorem zm_L_143 : Cond.methodLink RL 143 yX7_odds ∈ zW := zin5 (List.mem_of_getElem? (i := 220) (by decide +kernel)) rfl
theorem zq_X7_266 : Cond.constantLong RX7 266 (-4611686018427387904) ∈ zW := zin5 (List.mem_of_getElem? (i := 224) (by decide +kernel)) rfl
theorem zm_X7_268 : Cond.methodLink RX7 268 yX7_lowest ∈ zW := zin5 (List.mem_of_getElem? (i := 225) (by decide +kernel)) rfl
theorem zm_L_147 : Cond.methodLink RL 147 yX7_image ∈ zW := zin5 (List.mem_of_getElem? (i := 228) (by decide +kernel)) rfl
theorem zm_L_151 : Cond.methodLink RL 151 yX7_back ∈ zW := zin5 (List.mem_of_getElem? (i := 232) (by decide +kernel)) rfl
theorem zm_L_155 : Cond.methodLink RL 155 yX7_sheet ∈ zW := zin5 (List.mem_of_getElem? (i := 236) (by decide +kernel)) rfl
theorem zm_L_159 : Cond.methodLink RL 159 yX7_cell ∈ zW := zin6 (List.mem_of_getElem? (i := 0) (by decide +kernel)) rfl
theorem zm_L_164 : Cond.methodLink RL 164 yX7_copy ∈ zW := zin6 (List.mem_of_getElem? (i := 4) (by decide +kernel)) rfl
theorem zm_L_168 : Cond.methodLink RL 168 yX7_hutsBy ∈ zW := zin6 (List.mem_of_getElem? (i := 8) (by decide +kernel)) rfl
theorem zm_X7_276 : Cond.methodLink RX7 276 yX7_hut ∈ zW := zin6 (List.mem_of_getElem? (i := 12) (by decide +kernel)) rfl
theorem zm_L_172 : Cond.methodLink RL 172 yX7_taken ∈ zW := zin6 (List.mem_of_getElem? (i := 13) (by decide +kernel)) rfl
theorem zm_X7_279 : Cond.methodLink RX7 279 yX7_isUnder ∈ zW := zin6 (List.mem_of_getElem? (i := 17) (by decide +kernel)) rfl
theorem zw_copy1 : Cond.native arraycopyName ∈ zW := zin2 (List.mem_of_getElem? (i := 8) (by decide +kernel)) rfl
theorem zw_copy2 : Cond.static arraycopyName ∈ zW := zin2 (List.mem_of_getElem? (i := 7) (by decide +kernel)) rfl
theorem zw_sys : Cond.initialized "java/lang/System" ∈ zW := zin1 (List.mem_of_getElem? (i := 9) (by decide +kernel)) rfl
theorem zw_math : Cond.initialized "java/lang/Math" ∈ zW := zin1 (List.mem_of_getElem? (i := 13) (by decide +kernel)) rfl
theorem zw_min1 : Cond.static Lib.Math.min.name ∈ zW := zin2 (List.mem_of_getElem? (i := 184) (by decide +kernel)) rfl
theorem zw_min2 : Cond.code Lib.Math.min.name Lib.Math.min.code 2 (some .int) ∈ zW := zin2 (List.mem_of_getElem? (i := 185) (by decide +kernel)) rfl
theorem zw_max1 : Cond.static Lib.Math.max.name ∈ zW := zin2 (List.mem_of_getElem? (i := 187) (by decide +kernel)) rfl
theorem zw_max2 : Cond.code Lib.Math.max.name Lib.Math.max.code 2 (some .int) ∈ zW := zin2 (List.mem_of_getElem? (i := 188) (by decide +kernel)) rfl
theorem zw_oi : Cond.instanceMethod Lib.objectInit ∈ zW := zin1 (List.mem_of_getElem? (i := 22) (by decide +kernel)) rfl
theorem zw_oc : Cond.code Lib.objectInit ⟨#[0xb1]⟩ 1 none ∈ zW := zin1 (List.mem_of_getElem? (i := 23) (by decide +kernel)) rfl
theorem zw_arr : Cond.arrayClass .int ∈ zW := zin1 (List.mem_of_getElem? (i := 44) (by decide +kernel)) rfl
theorem zlay_X2_0 : u_lay RX2 TX2 0 ∈ zW := zin1 (List.mem_of_getElem? (i := 64) (by decide +kernel)) rfl
theorem zlay_X2_1 : u_lay RX2 TX2 1 ∈ zW := zin1 (List.mem_of_getElem? (i := 66) (by decide +kernel)) rfl
theorem zlay_X2_2 : u_lay RX2 TX2 2 ∈ zW := zin1 (List.mem_of_getElem? (i := 68) (by decide +kernel)) rfl
theorem zlay_X2_3 : u_lay RX2 TX2 3 ∈ zW := zin1 (List.mem_of_getElem? (i := 70) (by decide +kernel)) rfl
theorem zlay_X2_4 : u_lay RX2 TX2 4 ∈ zW := zin1 (List.mem_of_getElem? (i := 72) (by decide +kernel)) rfl
theorem zlay_X2_5 : u_lay RX2 TX2 5 ∈ zW := zin1 (List.mem_of_getElem? (i := 74) (by decide +kernel)) rfl
theorem zlay_X2_6 : u_lay RX2 TX2 6 ∈ zW := zin1 (List.mem_of_getElem? (i := 76) (by decide +kernel)) rfl
theorem zlay_X2_7 : u_lay RX2 TX2 7 ∈ zW := zin1 (List.mem_of_getElem? (i := 78) (by decide +kernel)) rfl
theorem zlay_X2_8 : u_lay RX2 TX2 8 ∈ zW := zin1 (List.mem_of_getElem? (i := 80) (by decide +kernel)) rfl
theorem zlay_X2_9 : u_lay RX2 TX2 9 ∈ zW := zin1 (List.mem_of_getElem? (i := 82) (by decide +kernel)) rfl
theorem zinw_X2 : ∀ w ∈ u_ws RX2 TX2 10, w ∈ zW := fun w hw => by
  obtain ⟨k, hk, rfl⟩ := List.mem_map.mp hw
  have hk := List.mem_range.mp hk
  match k, hk with
  | 0, _ => exact zlay_X2_0
  | 1, _ => exact zlay_X2_1
  | 2, _ => exact zlay_X2_2
  | 3, _ => exact zlay_X2_3
  | 4, _ => exact zlay_X2_4
  | 5, _ => exact zlay_X2_5
  | 6, _ => exact zlay_X2_6
  | 7, _ => exact zlay_X2_7
  | 8, _ => exact zlay_X2_8
  | 9, _ => exact zlay_X2_9
  | k + 10, hk => omega
theorem zlay_X3_0 : u_lay RX3 TX3 0 ∈ zW := zin2 (List.mem_of_getElem? (i := 87) (by decide +kernel)) rfl
theorem zlay_X3_1 : u_lay RX3 TX3 1 ∈ zW := zin2 (List.mem_of_getElem? (i := 89) (by decide +kernel)) rfl
theorem zlay_X3_2 : u_lay RX3 TX3 2 ∈ zW := zin2 (List.mem_of_getElem? (i := 91) (by decide +kernel)) rfl
theorem zinw_X3 : ∀ w ∈ u_ws RX3 TX3 3, w ∈ zW := fun w hw => by
  obtain ⟨k, hk, rfl⟩ := List.mem_map.mp hw
  have hk := List.mem_range.mp hk
  match k, hk with
  | 0, _ => exact zlay_X3_0
  | 1, _ => exact zlay_X3_1
  | 2, _ => exact zlay_X3_2
  | k + 3, hk => omega
theorem zlay_X4_0 : u_lay RX4 TX4 0 ∈ zW := zin1 (List.mem_of_getElem? (i := 35) (by decide +kernel)) rfl
theorem zlay_X4_1 : u_lay RX4 TX4 1 ∈ zW := zin1 (List.mem_of_getElem? (i := 37) (by decide +kernel)) rfl
theorem zlay_X4_2 : u_lay RX4 TX4 2 ∈ zW := zin1 (List.mem_of_getElem? (i := 39) (by decide +kernel)) rfl
theorem zlay_X4_3 : u_lay RX4 TX4 3 ∈ zW := zin1 (List.mem_of_getElem? (i := 41) (by decide +kernel)) rfl
theorem zinw_X4 : ∀ w ∈ u_ws RX4 TX4 4, w ∈ zW := fun w hw => by
  obtain ⟨k, hk, rfl⟩ := List.mem_map.mp hw
  have hk := List.mem_range.mp hk
  match k, hk with
  | 0, _ => exact zlay_X4_0
  | 1, _ => exact zlay_X4_1
  | 2, _ => exact zlay_X4_2
  | 3, _ => exact zlay_X4_3
  | k + 4, hk => omega
theorem zlay_X5_0 : u_lay RX5 TX5 0 ∈ zW := zin2 (List.mem_of_getElem? (i := 46) (by decide +kernel)) rfl
theorem zlay_X5_1 : u_lay RX5 TX5 1 ∈ zW := zin2 (List.mem_of_getElem? (i := 48) (by decide +kernel)) rfl
theorem zlay_X5_2 : u_lay RX5 TX5 2 ∈ zW := zin2 (List.mem_of_getElem? (i := 50) (by decide +kernel)) rfl
theorem zlay_X5_3 : u_lay RX5 TX5 3 ∈ zW := zin2 (List.mem_of_getElem? (i := 52) (by decide +kernel)) rfl
theorem zlay_X5_4 : u_lay RX5 TX5 4 ∈ zW := zin2 (List.mem_of_getElem? (i := 54) (by decide +kernel)) rfl
theorem zlay_X5_5 : u_lay RX5 TX5 5 ∈ zW := zin2 (List.mem_of_getElem? (i := 56) (by decide +kernel)) rfl
theorem zlay_X5_6 : u_lay RX5 TX5 6 ∈ zW := zin2 (List.mem_of_getElem? (i := 58) (by decide +kernel)) rfl
theorem zlay_X5_7 : u_lay RX5 TX5 7 ∈ zW := zin2 (List.mem_of_getElem? (i := 60) (by decide +kernel)) rfl
theorem zlay_X5_8 : u_lay RX5 TX5 8 ∈ zW := zin2 (List.mem_of_getElem? (i := 62) (by decide +kernel)) rfl
theorem zlay_X5_9 : u_lay RX5 TX5 9 ∈ zW := zin2 (List.mem_of_getElem? (i := 64) (by decide +kernel)) rfl
theorem zlay_X5_10 : u_lay RX5 TX5 10 ∈ zW := zin2 (List.mem_of_getElem? (i := 66) (by decide +kernel)) rfl
theorem zlay_X5_11 : u_lay RX5 TX5 11 ∈ zW := zin2 (List.mem_of_getElem? (i := 68) (by decide +kernel)) rfl
theorem zlay_X5_12 : u_lay RX5 TX5 12 ∈ zW := zin2 (List.mem_of_getElem? (i := 70) (by decide +kernel)) rfl
theorem zlay_X5_13 : u_lay RX5 TX5 13 ∈ zW := zin2 (List.mem_of_getElem? (i := 72) (by decide +kernel)) rfl
theorem zlay_X5_14 : u_lay RX5 TX5 14 ∈ zW := zin2 (List.mem_of_getElem? (i := 74) (by decide +kernel)) rfl
theorem zinw_X5 : ∀ w ∈ u_ws RX5 TX5 15, w ∈ zW := fun w hw => by
  obtain ⟨k, hk, rfl⟩ := List.mem_map.mp hw
  have hk := List.mem_range.mp hk
  match k, hk with
  | 0, _ => exact zlay_X5_0
  | 1, _ => exact zlay_X5_1
  | 2, _ => exact zlay_X5_2
  | 3, _ => exact zlay_X5_3
  | 4, _ => exact zlay_X5_4
  | 5, _ => exact zlay_X5_5
  | 6, _ => exact zlay_X5_6
  | 7, _ => exact zlay_X5_7
  | 8, _ => exact zlay_X5_8
  | 9, _ => exact zlay_X5_9
  | 10, _ => exact zlay_X5_10
  | 11, _ => exact zlay_X5_11
  | 12, _ => exact zlay_X5_12
  | 13, _ => exact zlay_X5_13
  | 14, _ => exact zlay_X5_14
  | k + 15, hk => omega
theorem zlay_X6_0 : u_lay RX6 TX6 0 ∈ zW := zin2 (List.mem_of_getElem? (i := 102) (by decide +kernel)) rfl
theorem zlay_X6_1 : u_lay RX6 TX6 1 ∈ zW := zin2 (List.mem_of_getElem? (i := 104) (by decide +kernel)) rfl
theorem zlay_X6_2 : u_lay RX6 TX6 2 ∈ zW := zin2 (List.mem_of_getElem? (i := 106) (by decide +kernel)) rfl
theorem zlay_X6_3 : u_lay RX6 TX6 3 ∈ zW := zin2 (List.mem_of_getElem? (i := 108) (by decide +kernel)) rfl
theorem zlay_X6_4 : u_lay RX6 TX6 4 ∈ zW := zin2 (List.mem_of_getElem? (i := 110) (by decide +kernel)) rfl
theorem zlay_X6_5 : u_lay RX6 TX6 5 ∈ zW := zin2 (List.mem_of_getElem? (i := 112) (by decide +kernel)) rfl
theorem zlay_X6_6 : u_lay RX6 TX6 6 ∈ zW := zin2 (List.mem_of_getElem? (i := 114) (by decide +kernel)) rfl
theorem zlay_X6_7 : u_lay RX6 TX6 7 ∈ zW := zin2 (List.mem_of_getElem? (i := 116) (by decide +kernel)) rfl
theorem zinw_X6 : ∀ w ∈ u_ws RX6 TX6 8, w ∈ zW := fun w hw => by
  obtain ⟨k, hk, rfl⟩ := List.mem_map.mp hw
  have hk := List.mem_range.mp hk
  match k, hk with
  | 0, _ => exact zlay_X6_0
  | 1, _ => exact zlay_X6_1
  | 2, _ => exact zlay_X6_2
  | 3, _ => exact zlay_X6_3
  | 4, _ => exact zlay_X6_4
  | 5, _ => exact zlay_X6_5
  | 6, _ => exact zlay_X6_6
  | 7, _ => exact zlay_X6_7
  | k + 8, hk => omega
theorem zlay_X7_0 : u_lay RX7 TX7 0 ∈ zW := zin4 (List.mem_of_getElem? (i := 144) (by decide +kernel)) rfl
theorem zlay_X7_1 : u_lay RX7 TX7 1 ∈ zW := zin4 (List.mem_of_getElem? (i := 146) (by decide +kernel)) rfl
theorem zlay_X7_2 : u_lay RX7 TX7 2 ∈ zW := zin4 (List.mem_of_getElem? (i := 148) (by decide +kernel)) rfl
theorem zlay_X7_3 : u_lay RX7 TX7 3 ∈ zW := zin4 (List.mem_of_getElem? (i := 150) (by decide +kernel)) rfl
theorem zlay_X7_4 : u_lay RX7 TX7 4 ∈ zW := zin4 (List.mem_of_getElem? (i := 152) (by decide +kernel)) rfl
theorem zlay_X7_5 : u_lay RX7 TX7 5 ∈ zW := zin4 (List.mem_of_getElem? (i := 154) (by decide +kernel)) rfl
theorem zlay_X7_6 : u_lay RX7 TX7 6 ∈ zW := zin4 (List.mem_of_getElem? (i := 156) (by decide +kernel)) rfl
theorem zlay_X7_7 : u_lay RX7 TX7 7 ∈ zW := zin4 (List.mem_of_getElem? (i := 158) (by decide +kernel)) rfl
theorem zlay_X7_8 : u_lay RX7 TX7 8 ∈ zW := zin4 (List.mem_of_getElem? (i := 160) (by decide +kernel)) rfl
theorem zlay_X7_9 : u_lay RX7 TX7 9 ∈ zW := zin4 (List.mem_of_getElem? (i := 162) (by decide +kernel)) rfl
theorem zlay_X7_10 : u_lay RX7 TX7 10 ∈ zW := zin4 (List.mem_of_getElem? (i := 164) (by decide +kernel)) rfl
theorem zlay_X7_11 : u_lay RX7 TX7 11 ∈ zW := zin4 (List.mem_of_getElem? (i := 166) (by decide +kernel)) rfl
theorem zlay_X7_12 : u_lay RX7 TX7 12 ∈ zW := zin4 (List.mem_of_getElem? (i := 168) (by decide +kernel)) rfl
theorem zlay_X7_13 : u_lay RX7 TX7 13 ∈ zW := zin4 (List.mem_of_getElem? (i := 170) (by decide +kernel)) rfl
theorem zlay_X7_14 : u_lay RX7 TX7 14 ∈ zW := zin4 (List.mem_of_getElem? (i := 172) (by decide +kernel)) rfl
theorem zlay_X7_15 : u_lay RX7 TX7 15 ∈ zW := zin4 (List.mem_of_getElem? (i := 174) (by decide +kernel)) rfl
theorem zlay_X7_16 : u_lay RX7 TX7 16 ∈ zW := zin4 (List.mem_of_getElem? (i := 176) (by decide +kernel)) rfl
theorem zlay_X7_17 : u_lay RX7 TX7 17 ∈ zW := zin4 (List.mem_of_getElem? (i := 178) (by decide +kernel)) rfl
theorem zlay_X7_18 : u_lay RX7 TX7 18 ∈ zW := zin4 (List.mem_of_getElem? (i := 180) (by decide +kernel)) rfl
theorem zlay_X7_19 : u_lay RX7 TX7 19 ∈ zW := zin4 (List.mem_of_getElem? (i := 182) (by decide +kernel)) rfl
theorem zlay_X7_20 : u_lay RX7 TX7 20 ∈ zW := zin4 (List.mem_of_getElem? (i := 184) (by decide +kernel)) rfl
theorem zlay_X7_21 : u_lay RX7 TX7 21 ∈ zW := zin4 (List.mem_of_getElem? (i := 186) (by decide +kernel)) rfl
theorem zlay_X7_22 : u_lay RX7 TX7 22 ∈ zW := zin4 (List.mem_of_getElem? (i := 188) (by decide +kernel)) rfl
theorem zlay_X7_23 : u_lay RX7 TX7 23 ∈ zW := zin4 (List.mem_of_getElem? (i := 190) (by decide +kernel)) rfl
theorem zlay_X7_24 : u_lay RX7 TX7 24 ∈ zW := zin4 (List.mem_of_getElem? (i := 192) (by decide +kernel)) rfl
theorem zlay_X7_25 : u_lay RX7 TX7 25 ∈ zW := zin4 (List.mem_of_getElem? (i := 194) (by decide +kernel)) rfl
theorem zlay_X7_26 : u_lay RX7 TX7 26 ∈ zW := zin4 (List.mem_of_getElem? (i := 196) (by decide +kernel)) rfl
theorem zlay_X7_27 : u_lay RX7 TX7 27 ∈ zW := zin4 (List.mem_of_getElem? (i := 198) (by decide +kernel)) rfl
theorem zlay_X7_28 : u_lay RX7 TX7 28 ∈ zW := zin4 (List.mem_of_getElem? (i := 200) (by decide +kernel)) rfl
theorem zlay_X7_29 : u_lay RX7 TX7 29 ∈ zW := zin4 (List.mem_of_getElem? (i := 202) (by decide +kernel)) rfl
theorem zlay_X7_30 : u_lay RX7 TX7 30 ∈ zW := zin4 (List.mem_of_getElem? (i := 204) (by decide +kernel)) rfl
theorem zlay_X7_31 : u_lay RX7 TX7 31 ∈ zW := zin4 (List.mem_of_getElem? (i := 206) (by decide +kernel)) rfl
theorem zlay_X7_32 : u_lay RX7 TX7 32 ∈ zW := zin4 (List.mem_of_getElem? (i := 208) (by decide +kernel)) rfl
theorem zlay_X7_33 : u_lay RX7 TX7 33 ∈ zW := zin4 (List.mem_of_getElem? (i := 210) (by decide +kernel)) rfl
theorem zlay_X7_34 : u_lay RX7 TX7 34 ∈ zW := zin4 (List.mem_of_getElem? (i := 212) (by decide +kernel)) rfl
theorem zlay_X7_35 : u_lay RX7 TX7 35 ∈ zW := zin4 (List.mem_of_getElem? (i := 214) (by decide +kernel)) rfl
theorem zlay_X7_36 : u_lay RX7 TX7 36 ∈ zW := zin4 (List.mem_of_getElem? (i := 216) (by decide +kernel)) rfl
theorem zinw_X7 : ∀ w ∈ u_ws RX7 TX7 37, w ∈ zW := fun w hw => by
  obtain ⟨k, hk, rfl⟩ := List.mem_map.mp hw
  have hk := List.mem_range.mp hk
  match k, hk with
  | 0, _ => exact zlay_X7_0
  | 1, _ => exact zlay_X7_1
  | 2, _ => exact zlay_X7_2
  | 3, _ => exact zlay_X7_3
  | 4, _ => exact zlay_X7_4
  | 5, _ => exact zlay_X7_5
  | 6, _ => exact zlay_X7_6
  | 7, _ => exact zlay_X7_7
  | 8, _ => exact zlay_X7_8
  | 9, _ => exact zlay_X7_9
  | 10, _ => exact zlay_X7_10
  | 11, _ => exact zlay_X7_11
  | 12, _ => exact zlay_X7_12
  | 13, _ => exact zlay_X7_13
  | 14, _ => exact zlay_X7_14
  | 15, _ => exact zlay_X7_15
  | 16, _ => exact zlay_X7_16
  | 17, _ => exact zlay_X7_17
  | 18, _ => exact zlay_X7_18
  | 19, _ => exact zlay_X7_19
  | 20, _ => exact zlay_X7_20
  | 21, _ => exact zlay_X7_21
  | 22, _ => exact zlay_X7_22
  | 23, _ => exact zlay_X7_23
  | 24, _ => exact zlay_X7_24
  | 25, _ => exact zlay_X7_25
  | 26, _ => exact zlay_X7_26
  | 27, _ => exact zlay_X7_27
  | 28, _ => exact zlay_X7_28
  | 29, _ => exact zlay_X7_29
  | 30, _ => exact zlay_X7_30
  | 31, _ => exact zlay_X7_31
  | 32, _ => exact zlay_X7_32
  | 33, _ => exact zlay_X7_33
  | 34, _ => exact zlay_X7_34
  | 35, _ => exact zlay_X7_35
  | 36, _ => exact zlay_X7_36
  | k + 37, hk => omega
theorem zf_X4_9 : zFld RX4 9 2 0 true (.array .int) := ⟨RX4, TX4, 4, tyX4, rfl, by decide, zin1 (List.mem_of_getElem? (i := 30) (by decide +kernel)) rfl, zinw_X4, tyX4_ok, nmX4, rfl, rfl⟩
theorem zf_X4_15 : zFld RX4 15 2 1 true (.array .int) := ⟨RX4, TX4, 4, tyX4, rfl, by decide, zin1 (List.mem_of_getElem? (i := 31) (by decide +kernel)) rfl, zinw_X4, tyX4_ok, nmX4, rfl, rfl⟩
theorem zf_X4_18 : zFld RX4 18 2 2 true (.array .int) := ⟨RX4, TX4, 4, tyX4, rfl, by decide, zin1 (List.mem_of_getElem? (i := 32) (by decide +kernel)) rfl, zinw_X4, tyX4_ok, nmX4, rfl, rfl⟩
theorem zf_X4_21 : zFld RX4 21 2 3 false .int := ⟨RX4, TX4, 4, tyX4, rfl, by decide, zin1 (List.mem_of_getElem? (i := 33) (by decide +kernel)) rfl, zinw_X4, tyX4_ok, nmX4, rfl, rfl⟩
theorem zf_X6_92 : zFld RX6 92 2 3 false .int := ⟨RX4, TX4, 4, tyX4, rfl, by decide, zin1 (List.mem_of_getElem? (i := 34) (by decide +kernel)) rfl, zinw_X4, tyX4_ok, nmX4, rfl, rfl⟩
theorem zf_X2_9 : zFld RX2 9 0 0 true (.array .int) := ⟨RX2, TX2, 10, tyX2, rfl, by decide, zin1 (List.mem_of_getElem? (i := 51) (by decide +kernel)) rfl, zinw_X2, tyX2_ok, nmX2, rfl, rfl⟩
theorem zf_X2_21 : zFld RX2 21 0 1 false .int := ⟨RX2, TX2, 10, tyX2, rfl, by decide, zin1 (List.mem_of_getElem? (i := 52) (by decide +kernel)) rfl, zinw_X2, tyX2_ok, nmX2, rfl, rfl⟩
theorem zf_X6_98 : zFld RX6 98 0 1 false .int := ⟨RX2, TX2, 10, tyX2, rfl, by decide, zin1 (List.mem_of_getElem? (i := 53) (by decide +kernel)) rfl, zinw_X2, tyX2_ok, nmX2, rfl, rfl⟩
theorem zf_X2_15 : zFld RX2 15 0 2 true (.array .int) := ⟨RX2, TX2, 10, tyX2, rfl, by decide, zin1 (List.mem_of_getElem? (i := 54) (by decide +kernel)) rfl, zinw_X2, tyX2_ok, nmX2, rfl, rfl⟩
theorem zf_X4_25 : zFld RX4 25 0 2 true (.array .int) := ⟨RX2, TX2, 10, tyX2, rfl, by decide, zin1 (List.mem_of_getElem? (i := 55) (by decide +kernel)) rfl, zinw_X2, tyX2_ok, nmX2, rfl, rfl⟩
theorem zf_X2_28 : zFld RX2 28 0 3 false .int := ⟨RX2, TX2, 10, tyX2, rfl, by decide, zin1 (List.mem_of_getElem? (i := 56) (by decide +kernel)) rfl, zinw_X2, tyX2_ok, nmX2, rfl, rfl⟩
theorem zf_X2_18 : zFld RX2 18 0 4 true (.array .int) := ⟨RX2, TX2, 10, tyX2, rfl, by decide, zin1 (List.mem_of_getElem? (i := 57) (by decide +kernel)) rfl, zinw_X2, tyX2_ok, nmX2, rfl, rfl⟩
theorem zf_X4_34 : zFld RX4 34 0 4 true (.array .int) := ⟨RX2, TX2, 10, tyX2, rfl, by decide, zin1 (List.mem_of_getElem? (i := 58) (by decide +kernel)) rfl, zinw_X2, tyX2_ok, nmX2, rfl, rfl⟩
theorem zf_X2_25 : zFld RX2 25 0 5 false .int := ⟨RX2, TX2, 10, tyX2, rfl, by decide, zin1 (List.mem_of_getElem? (i := 59) (by decide +kernel)) rfl, zinw_X2, tyX2_ok, nmX2, rfl, rfl⟩
theorem zf_X2_50 : zFld RX2 50 0 6 false .int := ⟨RX2, TX2, 10, tyX2, rfl, by decide, zin1 (List.mem_of_getElem? (i := 60) (by decide +kernel)) rfl, zinw_X2, tyX2_ok, nmX2, rfl, rfl⟩
theorem zf_X2_44 : zFld RX2 44 0 7 false .int := ⟨RX2, TX2, 10, tyX2, rfl, by decide, zin1 (List.mem_of_getElem? (i := 61) (by decide +kernel)) rfl, zinw_X2, tyX2_ok, nmX2, rfl, rfl⟩
theorem zf_X2_77 : zFld RX2 77 0 8 false .int := ⟨RX2, TX2, 10, tyX2, rfl, by decide, zin1 (List.mem_of_getElem? (i := 62) (by decide +kernel)) rfl, zinw_X2, tyX2_ok, nmX2, rfl, rfl⟩
theorem zf_X2_31 : zFld RX2 31 0 9 false .int := ⟨RX2, TX2, 10, tyX2, rfl, by decide, zin1 (List.mem_of_getElem? (i := 63) (by decide +kernel)) rfl, zinw_X2, tyX2_ok, nmX2, rfl, rfl⟩
theorem zfJ_J0_38 : Cond.fieldLink RJ0 38 "java/lang/String" "COMPACT_STRINGS" "Z" ∈ zW := zin1 (List.mem_of_getElem? (i := 94) (by decide +kernel)) rfl
theorem zfJ_J0_1053 : Cond.fieldLink RJ0 1053 "jdk/internal/util/Preconditions" "SIOOBE_FORMATTER" "Ljava/util/function/BiFunction;" ∈ zW := zin1 (List.mem_of_getElem? (i := 110) (by decide +kernel)) rfl
theorem zfJ_J2_44 : Cond.fieldLink RJ2 44 "java/lang/StringUTF16" "$assertionsDisabled" "Z" ∈ zW := zin1 (List.mem_of_getElem? (i := 128) (by decide +kernel)) rfl
theorem zfJ_J2_59 : Cond.fieldLink RJ2 59 "java/lang/StringUTF16" "HI_BYTE_SHIFT" "I" ∈ zW := zin1 (List.mem_of_getElem? (i := 130) (by decide +kernel)) rfl
theorem zfJ_J2_63 : Cond.fieldLink RJ2 63 "java/lang/StringUTF16" "LO_BYTE_SHIFT" "I" ∈ zW := zin1 (List.mem_of_getElem? (i := 132) (by decide +kernel)) rfl
theorem zf_X5_9 : zFld RX5 9 3 0 true (.array .int) := ⟨RX5, TX5, 15, tyX5, rfl, by decide, zin2 (List.mem_of_getElem? (i := 19) (by decide +kernel)) rfl, zinw_X5, tyX5_ok, nmX5, rfl, rfl⟩
theorem zf_X6_188 : zFld RX6 188 3 0 true (.array .int) := ⟨RX5, TX5, 15, tyX5, rfl, by decide, zin2 (List.mem_of_getElem? (i := 20) (by decide +kernel)) rfl, zinw_X5, tyX5_ok, nmX5, rfl, rfl⟩
theorem zf_X5_15 : zFld RX5 15 3 1 true (.array .int) := ⟨RX5, TX5, 15, tyX5, rfl, by decide, zin2 (List.mem_of_getElem? (i := 21) (by decide +kernel)) rfl, zinw_X5, tyX5_ok, nmX5, rfl, rfl⟩
theorem zf_X6_218 : zFld RX6 218 3 1 true (.array .int) := ⟨RX5, TX5, 15, tyX5, rfl, by decide, zin2 (List.mem_of_getElem? (i := 22) (by decide +kernel)) rfl, zinw_X5, tyX5_ok, nmX5, rfl, rfl⟩
theorem zf_X5_18 : zFld RX5 18 3 2 true (.array .int) := ⟨RX5, TX5, 15, tyX5, rfl, by decide, zin2 (List.mem_of_getElem? (i := 23) (by decide +kernel)) rfl, zinw_X5, tyX5_ok, nmX5, rfl, rfl⟩
theorem zf_X5_21 : zFld RX5 21 3 3 true (.array .int) := ⟨RX5, TX5, 15, tyX5, rfl, by decide, zin2 (List.mem_of_getElem? (i := 24) (by decide +kernel)) rfl, zinw_X5, tyX5_ok, nmX5, rfl, rfl⟩
theorem zf_X6_131 : zFld RX6 131 3 3 true (.array .int) := ⟨RX5, TX5, 15, tyX5, rfl, by decide, zin2 (List.mem_of_getElem? (i := 25) (by decide +kernel)) rfl, zinw_X5, tyX5_ok, nmX5, rfl, rfl⟩
theorem zf_X5_24 : zFld RX5 24 3 4 true (.array .int) := ⟨RX5, TX5, 15, tyX5, rfl, by decide, zin2 (List.mem_of_getElem? (i := 26) (by decide +kernel)) rfl, zinw_X5, tyX5_ok, nmX5, rfl, rfl⟩
theorem zf_X6_134 : zFld RX6 134 3 4 true (.array .int) := ⟨RX5, TX5, 15, tyX5, rfl, by decide, zin2 (List.mem_of_getElem? (i := 27) (by decide +kernel)) rfl, zinw_X5, tyX5_ok, nmX5, rfl, rfl⟩
theorem zf_X5_27 : zFld RX5 27 3 5 true (.array .int) := ⟨RX5, TX5, 15, tyX5, rfl, by decide, zin2 (List.mem_of_getElem? (i := 28) (by decide +kernel)) rfl, zinw_X5, tyX5_ok, nmX5, rfl, rfl⟩
theorem zf_X6_157 : zFld RX6 157 3 5 true (.array .int) := ⟨RX5, TX5, 15, tyX5, rfl, by decide, zin2 (List.mem_of_getElem? (i := 29) (by decide +kernel)) rfl, zinw_X5, tyX5_ok, nmX5, rfl, rfl⟩
theorem zf_X5_30 : zFld RX5 30 3 6 true (.array .int) := ⟨RX5, TX5, 15, tyX5, rfl, by decide, zin2 (List.mem_of_getElem? (i := 30) (by decide +kernel)) rfl, zinw_X5, tyX5_ok, nmX5, rfl, rfl⟩
theorem zf_X6_160 : zFld RX6 160 3 6 true (.array .int) := ⟨RX5, TX5, 15, tyX5, rfl, by decide, zin2 (List.mem_of_getElem? (i := 31) (by decide +kernel)) rfl, zinw_X5, tyX5_ok, nmX5, rfl, rfl⟩
theorem zf_X5_33 : zFld RX5 33 3 7 true (.array .int) := ⟨RX5, TX5, 15, tyX5, rfl, by decide, zin2 (List.mem_of_getElem? (i := 32) (by decide +kernel)) rfl, zinw_X5, tyX5_ok, nmX5, rfl, rfl⟩
theorem zf_X6_163 : zFld RX6 163 3 7 true (.array .int) := ⟨RX5, TX5, 15, tyX5, rfl, by decide, zin2 (List.mem_of_getElem? (i := 33) (by decide +kernel)) rfl, zinw_X5, tyX5_ok, nmX5, rfl, rfl⟩
theorem zf_X5_36 : zFld RX5 36 3 8 true (.array .int) := ⟨RX5, TX5, 15, tyX5, rfl, by decide, zin2 (List.mem_of_getElem? (i := 34) (by decide +kernel)) rfl, zinw_X5, tyX5_ok, nmX5, rfl, rfl⟩
theorem zf_X6_166 : zFld RX6 166 3 8 true (.array .int) := ⟨RX5, TX5, 15, tyX5, rfl, by decide, zin2 (List.mem_of_getElem? (i := 35) (by decide +kernel)) rfl, zinw_X5, tyX5_ok, nmX5, rfl, rfl⟩
theorem zf_X6_79 : zFld RX6 79 3 9 false .int := ⟨RX5, TX5, 15, tyX5, rfl, by decide, zin2 (List.mem_of_getElem? (i := 36) (by decide +kernel)) rfl, zinw_X5, tyX5_ok, nmX5, rfl, rfl⟩
theorem zf_X5_54 : zFld RX5 54 3 9 false .int := ⟨RX5, TX5, 15, tyX5, rfl, by decide, zin2 (List.mem_of_getElem? (i := 37) (by decide +kernel)) rfl, zinw_X5, tyX5_ok, nmX5, rfl, rfl⟩
theorem zf_X6_83 : zFld RX6 83 3 10 false .int := ⟨RX5, TX5, 15, tyX5, rfl, by decide, zin2 (List.mem_of_getElem? (i := 38) (by decide +kernel)) rfl, zinw_X5, tyX5_ok, nmX5, rfl, rfl⟩
theorem zf_X5_58 : zFld RX5 58 3 10 false .int := ⟨RX5, TX5, 15, tyX5, rfl, by decide, zin2 (List.mem_of_getElem? (i := 39) (by decide +kernel)) rfl, zinw_X5, tyX5_ok, nmX5, rfl, rfl⟩
theorem zf_X6_86 : zFld RX6 86 3 11 false .int := ⟨RX5, TX5, 15, tyX5, rfl, by decide, zin2 (List.mem_of_getElem? (i := 40) (by decide +kernel)) rfl, zinw_X5, tyX5_ok, nmX5, rfl, rfl⟩
theorem zf_X5_61 : zFld RX5 61 3 11 false .int := ⟨RX5, TX5, 15, tyX5, rfl, by decide, zin2 (List.mem_of_getElem? (i := 41) (by decide +kernel)) rfl, zinw_X5, tyX5_ok, nmX5, rfl, rfl⟩
theorem zf_X6_95 : zFld RX6 95 3 12 false .int := ⟨RX5, TX5, 15, tyX5, rfl, by decide, zin2 (List.mem_of_getElem? (i := 42) (by decide +kernel)) rfl, zinw_X5, tyX5_ok, nmX5, rfl, rfl⟩
theorem zf_X5_64 : zFld RX5 64 3 12 false .int := ⟨RX5, TX5, 15, tyX5, rfl, by decide, zin2 (List.mem_of_getElem? (i := 43) (by decide +kernel)) rfl, zinw_X5, tyX5_ok, nmX5, rfl, rfl⟩
theorem zf_X5_44 : zFld RX5 44 3 13 true (.object "CoalIsLent$Texts") := ⟨RX5, TX5, 15, tyX5, rfl, by decide, zin2 (List.mem_of_getElem? (i := 44) (by decide +kernel)) rfl, zinw_X5, tyX5_ok, nmX5, rfl, rfl⟩
theorem zf_X5_41 : zFld RX5 41 3 14 true (.array .int) := ⟨RX5, TX5, 15, tyX5, rfl, by decide, zin2 (List.mem_of_getElem? (i := 45) (by decide +kernel)) rfl, zinw_X5, tyX5_ok, nmX5, rfl, rfl⟩
theorem zf_X3_9 : zFld RX3 9 1 0 true (.array .int) := ⟨RX3, TX3, 3, tyX3, rfl, by decide, zin2 (List.mem_of_getElem? (i := 84) (by decide +kernel)) rfl, zinw_X3, tyX3_ok, nmX3, rfl, rfl⟩
theorem zf_X3_13 : zFld RX3 13 1 1 true (.array .int) := ⟨RX3, TX3, 3, tyX3, rfl, by decide, zin2 (List.mem_of_getElem? (i := 85) (by decide +kernel)) rfl, zinw_X3, tyX3_ok, nmX3, rfl, rfl⟩
theorem zf_X3_16 : zFld RX3 16 1 2 true (.array .int) := ⟨RX3, TX3, 3, tyX3, rfl, by decide, zin2 (List.mem_of_getElem? (i := 86) (by decide +kernel)) rfl, zinw_X3, tyX3_ok, nmX3, rfl, rfl⟩
theorem zf_X6_10 : zFld RX6 10 4 0 true (.object "CoalIsLent$Texts") := ⟨RX6, TX6, 8, tyX6, rfl, by decide, zin2 (List.mem_of_getElem? (i := 94) (by decide +kernel)) rfl, zinw_X6, tyX6_ok, nmX6, rfl, rfl⟩
theorem zf_X6_19 : zFld RX6 19 4 1 true (.object "CoalIsLent$Reader") := ⟨RX6, TX6, 8, tyX6, rfl, by decide, zin2 (List.mem_of_getElem? (i := 95) (by decide +kernel)) rfl, zinw_X6, tyX6_ok, nmX6, rfl, rfl⟩
theorem zf_X6_54 : zFld RX6 54 4 2 true (.object "CoalIsLent$World") := ⟨RX6, TX6, 8, tyX6, rfl, by decide, zin2 (List.mem_of_getElem? (i := 96) (by decide +kernel)) rfl, zinw_X6, tyX6_ok, nmX6, rfl, rfl⟩
theorem zf_X6_58 : zFld RX6 58 4 3 true (.object "CoalIsLent$World") := ⟨RX6, TX6, 8, tyX6, rfl, by decide, zin2 (List.mem_of_getElem? (i := 97) (by decide +kernel)) rfl, zinw_X6, tyX6_ok, nmX6, rfl, rfl⟩
theorem zf_X6_61 : zFld RX6 61 4 4 true (.object "CoalIsLent$World") := ⟨RX6, TX6, 8, tyX6, rfl, by decide, zin2 (List.mem_of_getElem? (i := 98) (by decide +kernel)) rfl, zinw_X6, tyX6_ok, nmX6, rfl, rfl⟩
theorem zf_X6_67 : zFld RX6 67 4 5 true (.object "CoalIsLent$Sheets") := ⟨RX6, TX6, 8, tyX6, rfl, by decide, zin2 (List.mem_of_getElem? (i := 99) (by decide +kernel)) rfl, zinw_X6, tyX6_ok, nmX6, rfl, rfl⟩
theorem zf_X6_71 : zFld RX6 71 4 6 true (.array .int) := ⟨RX6, TX6, 8, tyX6, rfl, by decide, zin2 (List.mem_of_getElem? (i := 100) (by decide +kernel)) rfl, zinw_X6, tyX6_ok, nmX6, rfl, rfl⟩
theorem zf_X6_75 : zFld RX6 75 4 7 false .boolean := ⟨RX6, TX6, 8, tyX6, rfl, by decide, zin2 (List.mem_of_getElem? (i := 101) (by decide +kernel)) rfl, zinw_X6, tyX6_ok, nmX6, rfl, rfl⟩
theorem zfJ_X1_7 : Cond.fieldLink RX1 7 "CoalIsLent$Kinds" "ABOVE" "[I" ∈ zW := zin4 (List.mem_of_getElem? (i := 52) (by decide +kernel)) rfl
theorem zf_X7_84 : zFld RX7 84 5 0 false .int := ⟨RX7, TX7, 37, tyX7, rfl, by decide, zin4 (List.mem_of_getElem? (i := 107) (by decide +kernel)) rfl, zinw_X7, tyX7_ok, nmX7, rfl, rfl⟩
theorem zf_X7_7 : zFld RX7 7 5 1 true (.array .int) := ⟨RX7, TX7, 37, tyX7, rfl, by decide, zin4 (List.mem_of_getElem? (i := 108) (by decide +kernel)) rfl, zinw_X7, tyX7_ok, nmX7, rfl, rfl⟩
theorem zf_X7_13 : zFld RX7 13 5 2 true (.array .int) := ⟨RX7, TX7, 37, tyX7, rfl, by decide, zin4 (List.mem_of_getElem? (i := 109) (by decide +kernel)) rfl, zinw_X7, tyX7_ok, nmX7, rfl, rfl⟩
theorem zf_X7_16 : zFld RX7 16 5 3 true (.array .int) := ⟨RX7, TX7, 37, tyX7, rfl, by decide, zin4 (List.mem_of_getElem? (i := 110) (by decide +kernel)) rfl, zinw_X7, tyX7_ok, nmX7, rfl, rfl⟩
theorem zf_X7_19 : zFld RX7 19 5 4 true (.array .int) := ⟨RX7, TX7, 37, tyX7, rfl, by decide, zin4 (List.mem_of_getElem? (i := 111) (by decide +kernel)) rfl, zinw_X7, tyX7_ok, nmX7, rfl, rfl⟩
theorem zf_X7_22 : zFld RX7 22 5 5 true (.array .int) := ⟨RX7, TX7, 37, tyX7, rfl, by decide, zin4 (List.mem_of_getElem? (i := 112) (by decide +kernel)) rfl, zinw_X7, tyX7_ok, nmX7, rfl, rfl⟩
theorem zf_X7_25 : zFld RX7 25 5 6 true (.array .int) := ⟨RX7, TX7, 37, tyX7, rfl, by decide, zin4 (List.mem_of_getElem? (i := 113) (by decide +kernel)) rfl, zinw_X7, tyX7_ok, nmX7, rfl, rfl⟩
theorem zf_X7_28 : zFld RX7 28 5 7 true (.array .int) := ⟨RX7, TX7, 37, tyX7, rfl, by decide, zin4 (List.mem_of_getElem? (i := 114) (by decide +kernel)) rfl, zinw_X7, tyX7_ok, nmX7, rfl, rfl⟩
theorem zf_X7_91 : zFld RX7 91 5 8 false .int := ⟨RX7, TX7, 37, tyX7, rfl, by decide, zin4 (List.mem_of_getElem? (i := 115) (by decide +kernel)) rfl, zinw_X7, tyX7_ok, nmX7, rfl, rfl⟩
theorem zf_X7_94 : zFld RX7 94 5 9 false .int := ⟨RX7, TX7, 37, tyX7, rfl, by decide, zin4 (List.mem_of_getElem? (i := 116) (by decide +kernel)) rfl, zinw_X7, tyX7_ok, nmX7, rfl, rfl⟩
theorem zf_X7_31 : zFld RX7 31 5 10 true (.array .int) := ⟨RX7, TX7, 37, tyX7, rfl, by decide, zin4 (List.mem_of_getElem? (i := 117) (by decide +kernel)) rfl, zinw_X7, tyX7_ok, nmX7, rfl, rfl⟩
theorem zf_X7_76 : zFld RX7 76 5 11 false .int := ⟨RX7, TX7, 37, tyX7, rfl, by decide, zin4 (List.mem_of_getElem? (i := 118) (by decide +kernel)) rfl, zinw_X7, tyX7_ok, nmX7, rfl, rfl⟩
theorem zf_X7_34 : zFld RX7 34 5 12 true (.array .int) := ⟨RX7, TX7, 37, tyX7, rfl, by decide, zin4 (List.mem_of_getElem? (i := 119) (by decide +kernel)) rfl, zinw_X7, tyX7_ok, nmX7, rfl, rfl⟩
theorem zf_X7_37 : zFld RX7 37 5 13 true (.array .int) := ⟨RX7, TX7, 37, tyX7, rfl, by decide, zin4 (List.mem_of_getElem? (i := 120) (by decide +kernel)) rfl, zinw_X7, tyX7_ok, nmX7, rfl, rfl⟩
theorem zf_X7_100 : zFld RX7 100 5 14 false .int := ⟨RX7, TX7, 37, tyX7, rfl, by decide, zin4 (List.mem_of_getElem? (i := 121) (by decide +kernel)) rfl, zinw_X7, tyX7_ok, nmX7, rfl, rfl⟩
theorem zf_X7_103 : zFld RX7 103 5 15 false .int := ⟨RX7, TX7, 37, tyX7, rfl, by decide, zin4 (List.mem_of_getElem? (i := 122) (by decide +kernel)) rfl, zinw_X7, tyX7_ok, nmX7, rfl, rfl⟩
theorem zf_X7_272 : zFld RX7 272 5 16 false .boolean := ⟨RX7, TX7, 37, tyX7, rfl, by decide, zin4 (List.mem_of_getElem? (i := 123) (by decide +kernel)) rfl, zinw_X7, tyX7_ok, nmX7, rfl, rfl⟩
theorem zf_X7_40 : zFld RX7 40 5 17 true (.array .int) := ⟨RX7, TX7, 37, tyX7, rfl, by decide, zin4 (List.mem_of_getElem? (i := 124) (by decide +kernel)) rfl, zinw_X7, tyX7_ok, nmX7, rfl, rfl⟩
theorem zf_X7_43 : zFld RX7 43 5 18 true (.array .int) := ⟨RX7, TX7, 37, tyX7, rfl, by decide, zin4 (List.mem_of_getElem? (i := 125) (by decide +kernel)) rfl, zinw_X7, tyX7_ok, nmX7, rfl, rfl⟩
theorem zf_X7_46 : zFld RX7 46 5 19 true (.array .int) := ⟨RX7, TX7, 37, tyX7, rfl, by decide, zin4 (List.mem_of_getElem? (i := 126) (by decide +kernel)) rfl, zinw_X7, tyX7_ok, nmX7, rfl, rfl⟩
theorem zf_X7_49 : zFld RX7 49 5 20 true (.array .int) := ⟨RX7, TX7, 37, tyX7, rfl, by decide, zin4 (List.mem_of_getElem? (i := 127) (by decide +kernel)) rfl, zinw_X7, tyX7_ok, nmX7, rfl, rfl⟩
theorem zf_X7_52 : zFld RX7 52 5 21 true (.array .int) := ⟨RX7, TX7, 37, tyX7, rfl, by decide, zin4 (List.mem_of_getElem? (i := 128) (by decide +kernel)) rfl, zinw_X7, tyX7_ok, nmX7, rfl, rfl⟩
theorem zf_X7_55 : zFld RX7 55 5 22 true (.array .int) := ⟨RX7, TX7, 37, tyX7, rfl, by decide, zin4 (List.mem_of_getElem? (i := 129) (by decide +kernel)) rfl, zinw_X7, tyX7_ok, nmX7, rfl, rfl⟩
theorem zf_X7_110 : zFld RX7 110 5 23 false .int := ⟨RX7, TX7, 37, tyX7, rfl, by decide, zin4 (List.mem_of_getElem? (i := 130) (by decide +kernel)) rfl, zinw_X7, tyX7_ok, nmX7, rfl, rfl⟩
theorem zf_X7_113 : zFld RX7 113 5 24 false .int := ⟨RX7, TX7, 37, tyX7, rfl, by decide, zin4 (List.mem_of_getElem? (i := 131) (by decide +kernel)) rfl, zinw_X7, tyX7_ok, nmX7, rfl, rfl⟩
theorem zf_X7_116 : zFld RX7 116 5 25 false .int := ⟨RX7, TX7, 37, tyX7, rfl, by decide, zin4 (List.mem_of_getElem? (i := 132) (by decide +kernel)) rfl, zinw_X7, tyX7_ok, nmX7, rfl, rfl⟩
theorem zf_X7_119 : zFld RX7 119 5 26 false .int := ⟨RX7, TX7, 37, tyX7, rfl, by decide, zin4 (List.mem_of_getElem? (i := 133) (by decide +kernel)) rfl, zinw_X7, tyX7_ok, nmX7, rfl, rfl⟩
theorem zf_X7_58 : zFld RX7 58 5 27 true (.array .int) := ⟨RX7, TX7, 37, tyX7, rfl, by decide, zin4 (List.mem_of_getElem? (i := 134) (by decide +kernel)) rfl, zinw_X7, tyX7_ok, nmX7, rfl, rfl⟩
theorem zf_X7_61 : zFld RX7 61 5 28 true (.array .int) := ⟨RX7, TX7, 37, tyX7, rfl, by decide, zin4 (List.mem_of_getElem? (i := 135) (by decide +kernel)) rfl, zinw_X7, tyX7_ok, nmX7, rfl, rfl⟩
theorem zf_X7_129 : zFld RX7 129 5 29 false .int := ⟨RX7, TX7, 37, tyX7, rfl, by decide, zin4 (List.mem_of_getElem? (i := 136) (by decide +kernel)) rfl, zinw_X7, tyX7_ok, nmX7, rfl, rfl⟩
theorem zf_X7_136 : zFld RX7 136 5 30 false .int := ⟨RX7, TX7, 37, tyX7, rfl, by decide, zin4 (List.mem_of_getElem? (i := 137) (by decide +kernel)) rfl, zinw_X7, tyX7_ok, nmX7, rfl, rfl⟩
theorem zf_X7_126 : zFld RX7 126 5 31 false .int := ⟨RX7, TX7, 37, tyX7, rfl, by decide, zin4 (List.mem_of_getElem? (i := 138) (by decide +kernel)) rfl, zinw_X7, tyX7_ok, nmX7, rfl, rfl⟩
theorem zf_X7_64 : zFld RX7 64 5 32 true (.array .int) := ⟨RX7, TX7, 37, tyX7, rfl, by decide, zin4 (List.mem_of_getElem? (i := 139) (by decide +kernel)) rfl, zinw_X7, tyX7_ok, nmX7, rfl, rfl⟩
theorem zf_X7_67 : zFld RX7 67 5 33 true (.array .int) := ⟨RX7, TX7, 37, tyX7, rfl, by decide, zin4 (List.mem_of_getElem? (i := 140) (by decide +kernel)) rfl, zinw_X7, tyX7_ok, nmX7, rfl, rfl⟩
theorem zf_X7_70 : zFld RX7 70 5 34 true (.array .int) := ⟨RX7, TX7, 37, tyX7, rfl, by decide, zin4 (List.mem_of_getElem? (i := 141) (by decide +kernel)) rfl, zinw_X7, tyX7_ok, nmX7, rfl, rfl⟩
theorem zf_X7_73 : zFld RX7 73 5 35 true (.array .int) := ⟨RX7, TX7, 37, tyX7, rfl, by decide, zin4 (List.mem_of_getElem? (i := 142) (by decide +kernel)) rfl, zinw_X7, tyX7_ok, nmX7, rfl, rfl⟩
theorem zf_X7_259 : zFld RX7 259 5 36 false .int := ⟨RX7, TX7, 37, tyX7, rfl, by decide, zin4 (List.mem_of_getElem? (i := 143) (by decide +kernel)) rfl, zinw_X7, tyX7_ok, nmX7, rfl, rfl⟩
theorem zfJ_J0_9 : Cond.fieldLink RJ0 9 "java/lang/String" "value" "[B" ∈ zW := zin6 (List.mem_of_getElem? (i := 20) (by decide +kernel)) rfl
theorem zfJ_J0_15 : Cond.fieldLink RJ0 15 "java/lang/String" "coder" "B" ∈ zW := zin6 (List.mem_of_getElem? (i := 21) (by decide +kernel)) rfl
theorem zn_X6_9 : zNest[0]? = some (RX6, 9, yX4_init, "CoalIsLent") := rfl
theorem zn_X6_18 : zNest[1]? = some (RX6, 18, yX2_init, "CoalIsLent") := rfl
theorem zn_X2_149 : zNest[2]? = some (RX2, 149, yX6_isFromTo, "CoalIsLent") := rfl
theorem zn_X6_66 : zNest[3]? = some (RX6, 66, yX3_init, "CoalIsLent") := rfl
theorem zn_X5_67 : zNest[4]? = some (RX5, 67, yX6_isFromTo, "CoalIsLent") := rfl
theorem zn_X5_76 : zNest[5]? = some (RX5, 76, yX6_has, "CoalIsLent") := rfl
theorem zkn : 0 ≤ 0 ∧ 0 ≤ 0 := ⟨Nat.le_refl 0, Nat.le_refl 0⟩
theorem zk_b_m100 : (Int8.ofInt (-100)).toInt32 = ((-100) : Int32) := by decide
theorem zk_b_m27 : (Int8.ofInt (-27)).toInt32 = ((-27) : Int32) := by decide
theorem zk_b_m26 : (Int8.ofInt (-26)).toInt32 = ((-26) : Int32) := by decide
theorem zk_b_m25 : (Int8.ofInt (-25)).toInt32 = ((-25) : Int32) := by decide
theorem zk_b_m24 : (Int8.ofInt (-24)).toInt32 = ((-24) : Int32) := by decide
theorem zk_b_m23 : (Int8.ofInt (-23)).toInt32 = ((-23) : Int32) := by decide
theorem zk_b_m22 : (Int8.ofInt (-22)).toInt32 = ((-22) : Int32) := by decide
theorem zk_b_m21 : (Int8.ofInt (-21)).toInt32 = ((-21) : Int32) := by decide
theorem zk_b_m14 : (Int8.ofInt (-14)).toInt32 = ((-14) : Int32) := by decide
theorem zk_b_m13 : (Int8.ofInt (-13)).toInt32 = ((-13) : Int32) := by decide
theorem zk_b_m12 : (Int8.ofInt (-12)).toInt32 = ((-12) : Int32) := by decide
theorem zk_b_m11 : (Int8.ofInt (-11)).toInt32 = ((-11) : Int32) := by decide
theorem zk_b_m7 : (Int8.ofInt (-7)).toInt32 = ((-7) : Int32) := by decide
theorem zk_b_m5 : (Int8.ofInt (-5)).toInt32 = ((-5) : Int32) := by decide
theorem zk_b_m4 : (Int8.ofInt (-4)).toInt32 = ((-4) : Int32) := by decide
theorem zk_b_m3 : (Int8.ofInt (-3)).toInt32 = ((-3) : Int32) := by decide
theorem zk_b_m2 : (Int8.ofInt (-2)).toInt32 = ((-2) : Int32) := by decide
theorem zk_b_6 : (Int8.ofInt 6).toInt32 = (6 : Int32) := by decide
theorem zk_b_7 : (Int8.ofInt 7).toInt32 = (7 : Int32) := by decide
theorem zk_b_8 : (Int8.ofInt 8).toInt32 = (8 : Int32) := by decide
theorem zk_b_9 : (Int8.ofInt 9).toInt32 = (9 : Int32) := by decide
theorem zk_b_10 : (Int8.ofInt 10).toInt32 = (10 : Int32) := by decide
theorem zk_b_11 : (Int8.ofInt 11).toInt32 = (11 : Int32) := by decide
theorem zk_b_12 : (Int8.ofInt 12).toInt32 = (12 : Int32) := by decide
theorem zk_b_13 : (Int8.ofInt 13).toInt32 = (13 : Int32) := by decide
theorem zk_b_14 : (Int8.ofInt 14).toInt32 = (14 : Int32) := by decide
theorem zk_b_15 : (Int8.ofInt 15).toInt32 = (15 : Int32) := by decide
theorem zk_b_16 : (Int8.ofInt 16).toInt32 = (16 : Int32) := by decide
theorem zk_b_17 : (Int8.ofInt 17).toInt32 = (17 : Int32) := by decide
theorem zk_b_18 : (Int8.ofInt 18).toInt32 = (18 : Int32) := by decide
theorem zk_b_19 : (Int8.ofInt 19).toInt32 = (19 : Int32) := by decide
theorem zk_b_20 : (Int8.ofInt 20).toInt32 = (20 : Int32) := by decide
theorem zk_b_28 : (Int8.ofInt 28).toInt32 = (28 : Int32) := by decide
theorem zk_b_30 : (Int8.ofInt 30).toInt32 = (30 : Int32) := by decide
theorem zk_b_32 : (Int8.ofInt 32).toInt32 = (32 : Int32) := by decide
theorem zk_b_38 : (Int8.ofInt 38).toInt32 = (38 : Int32) := by decide
theorem zk_b_39 : (Int8.ofInt 39).toInt32 = (39 : Int32) := by decide
theorem zk_b_40 : (Int8.ofInt 40).toInt32 = (40 : Int32) := by decide
theorem zk_b_41 : (Int8.ofInt 41).toInt32 = (41 : Int32) := by decide
theorem zk_b_42 : (Int8.ofInt 42).toInt32 = (42 : Int32) := by decide
theorem zk_b_43 : (Int8.ofInt 43).toInt32 = (43 : Int32) := by decide
theorem zk_b_45 : (Int8.ofInt 45).toInt32 = (45 : Int32) := by decide
theorem zk_b_48 : (Int8.ofInt 48).toInt32 = (48 : Int32) := by decide
theorem zk_b_50 : (Int8.ofInt 50).toInt32 = (50 : Int32) := by decide
theorem zk_b_55 : (Int8.ofInt 55).toInt32 = (55 : Int32) := by decide
theorem zk_b_57 : (Int8.ofInt 57).toInt32 = (57 : Int32) := by decide
theorem zk_b_58 : (Int8.ofInt 58).toInt32 = (58 : Int32) := by decide
theorem zk_b_59 : (Int8.ofInt 59).toInt32 = (59 : Int32) := by decide
theorem zk_b_60 : (Int8.ofInt 60).toInt32 = (60 : Int32) := by decide
theorem zk_b_61 : (Int8.ofInt 61).toInt32 = (61 : Int32) := by decide
theorem zk_b_63 : (Int8.ofInt 63).toInt32 = (63 : Int32) := by decide
theorem zk_b_97 : (Int8.ofInt 97).toInt32 = (97 : Int32) := by decide
theorem zk_b_99 : (Int8.ofInt 99).toInt32 = (99 : Int32) := by decide
theorem zk_b_100 : (Int8.ofInt 100).toInt32 = (100 : Int32) := by decide
theorem zk_b_101 : (Int8.ofInt 101).toInt32 = (101 : Int32) := by decide
theorem zk_b_122 : (Int8.ofInt 122).toInt32 = (122 : Int32) := by decide
theorem zk_i_m2 : Int32.ofInt (-2) = ((-2) : Int32) := by decide
theorem zk_i_m1 : Int32.ofInt (-1) = ((-1) : Int32) := by decide
theorem zk_i_0 : Int32.ofInt 0 = (0 : Int32) := by decide
theorem zk_i_1 : Int32.ofInt 1 = (1 : Int32) := by decide
theorem zk_i_2 : Int32.ofInt 2 = (2 : Int32) := by decide
theorem zk_i_3 : Int32.ofInt 3 = (3 : Int32) := by decide
theorem zk_i_4 : Int32.ofInt 4 = (4 : Int32) := by decide
theorem zk_i_5 : Int32.ofInt 5 = (5 : Int32) := by decide
theorem zk_i_7 : Int32.ofInt 7 = (7 : Int32) := by decide
theorem zk_l_0 : Int64.ofNat ((0 : Fin 2) : Nat) = (0 : Int64) := by decide
theorem zk_l_1 : Int64.ofNat ((1 : Fin 2) : Nat) = (1 : Int64) := by decide
theorem zk_n_160 : Int32.ofNat 160 = (160 : Int32) := by decide
theorem zk_s_160 : (Int16.ofInt 160).toInt32 = (160 : Int32) := by decide
theorem zk_s_200 : (Int16.ofInt 200).toInt32 = (200 : Int32) := by decide
theorem zk_s_255 : (Int16.ofInt 255).toInt32 = (255 : Int32) := by decide
theorem zk_s_299 : (Int16.ofInt 299).toInt32 = (299 : Int32) := by decide
theorem zk_s_999 : (Int16.ofInt 999).toInt32 = (999 : Int32) := by decide
theorem zk_s_9999 : (Int16.ofInt 9999).toInt32 = (9999 : Int32) := by decide
def zFull : zLay := [.inr (4, [some (some 1), some (some 5), some (some 9), some (some 20), some (some 31), some (some 42), some (some 46), none]), .inr (2, [some (some 2), some (some 3), some (some 4), none]), .inl 960, .inl 18, .inl 160, .inr (0, [some (some 6), none, some (some 7), none, some (some 8), none, none, none, none, none]), .inl 160, .inl 160, .inl 3, .inr (3, [some (some 10), some (some 11), some (some 12), some (some 13), some (some 14), some (some 15), some (some 16), some (some 17), some (some 18), none, none, none, none, some (some 1), some (some 19)]), .inl 6, .inl 6, .inl 6, .inl 6, .inl 6, .inl 10, .inl 10, .inl 10, .inl 10, .inl 6, .inr (3, [some (some 21), some (some 22), some (some 23), some (some 24), some (some 25), some (some 26), some (some 27), some (some 28), some (some 29), none, none, none, none, some (some 1), some (some 30)]), .inl 6, .inl 6, .inl 6, .inl 6, .inl 6, .inl 10, .inl 10, .inl 10, .inl 10, .inl 6, .inr (3, [some (some 32), some (some 33), some (some 34), some (some 35), some (some 36), some (some 37), some (some 38), some (some 39), some (some 40), none, none, none, none, some (some 1), some (some 41)]), .inl 6, .inl 6, .inl 6, .inl 6, .inl 6, .inl 10, .inl 10, .inl 10, .inl 10, .inl 6, .inr (1, [some (some 43), some (some 44), some (some 45)]), .inl 4, .inl 4, .inl 160, .inl 6, .inr (5, [none, some (some 48), some (some 49), some (some 50), some (some 51), some (some 52), some (some 53), some (some 54), none, none, some (some 55), none, some (some 56), some (some 57), none, none, none, some (some 58), some (some 59), some (some 60), some (some 61), some (some 62), some (some 63), none, none, none, none, some (some 64), some (some 65), none, none, none, some (some 66), some (some 67), some (some 68), some (some 69), none]), .inl 6, .inl 6, .inl 18, .inl 10, .inl 10, .inl 10, .inl 10, .inl 160, .inl 1200, .inl 24, .inl 58, .inl 4, .inl 4, .inl 4, .inl 160, .inl 42, .inl 96, .inl 200, .inl 200, .inl 6, .inl 60, .inl 6]
theorem zl_0 : zFull[0]? = some (.inr (4, [some (some 1), some (some 5), some (some 9), some (some 20), some (some 31), some (some 42), some (some 46), none])) := rfl
theorem zl_1 : zFull[1]? = some (.inr (2, [some (some 2), some (some 3), some (some 4), none])) := rfl
theorem zl_2 : zFull[2]? = some (.inl 960) := rfl
theorem zl_3 : zFull[3]? = some (.inl 18) := rfl
theorem zl_4 : zFull[4]? = some (.inl 160) := rfl
theorem zl_5 : zFull[5]? = some (.inr (0, [some (some 6), none, some (some 7), none, some (some 8), none, none, none, none, none])) := rfl
theorem zl_6 : zFull[6]? = some (.inl 160) := rfl
theorem zl_7 : zFull[7]? = some (.inl 160) := rfl
theorem zl_8 : zFull[8]? = some (.inl 3) := rfl
theorem zl_9 : zFull[9]? = some (.inr (3, [some (some 10), some (some 11), some (some 12), some (some 13), some (some 14), some (some 15), some (some 16), some (some 17), some (some 18), none, none, none, none, some (some 1), some (some 19)])) := rfl
theorem zl_10 : zFull[10]? = some (.inl 6) := rfl
theorem zl_11 : zFull[11]? = some (.inl 6) := rfl
theorem zl_12 : zFull[12]? = some (.inl 6) := rfl
theorem zl_13 : zFull[13]? = some (.inl 6) := rfl
theorem zl_14 : zFull[14]? = some (.inl 6) := rfl
theorem zl_15 : zFull[15]? = some (.inl 10) := rfl
theorem zl_16 : zFull[16]? = some (.inl 10) := rfl
theorem zl_17 : zFull[17]? = some (.inl 10) := rfl
theorem zl_18 : zFull[18]? = some (.inl 10) := rfl
theorem zl_19 : zFull[19]? = some (.inl 6) := rfl
theorem zl_20 : zFull[20]? = some (.inr (3, [some (some 21), some (some 22), some (some 23), some (some 24), some (some 25), some (some 26), some (some 27), some (some 28), some (some 29), none, none, none, none, some (some 1), some (some 30)])) := rfl
theorem zl_21 : zFull[21]? = some (.inl 6) := rfl
theorem zl_22 : zFull[22]? = some (.inl 6) := rfl
theorem zl_23 : zFull[23]? = some (.inl 6) := rfl
theorem zl_24 : zFull[24]? = some (.inl 6) := rfl
theorem zl_25 : zFull[25]? = some (.inl 6) := rfl
theorem zl_26 : zFull[26]? = some (.inl 10) := rfl
theorem zl_27 : zFull[27]? = some (.inl 10) := rfl
theorem zl_28 : zFull[28]? = some (.inl 10) := rfl
theorem zl_29 : zFull[29]? = some (.inl 10) := rfl
theorem zl_30 : zFull[30]? = some (.inl 6) := rfl
theorem zl_31 : zFull[31]? = some (.inr (3, [some (some 32), some (some 33), some (some 34), some (some 35), some (some 36), some (some 37), some (some 38), some (some 39), some (some 40), none, none, none, none, some (some 1), some (some 41)])) := rfl
theorem zl_32 : zFull[32]? = some (.inl 6) := rfl
theorem zl_33 : zFull[33]? = some (.inl 6) := rfl
theorem zl_34 : zFull[34]? = some (.inl 6) := rfl
theorem zl_35 : zFull[35]? = some (.inl 6) := rfl
theorem zl_36 : zFull[36]? = some (.inl 6) := rfl
theorem zl_37 : zFull[37]? = some (.inl 10) := rfl
theorem zl_38 : zFull[38]? = some (.inl 10) := rfl
theorem zl_39 : zFull[39]? = some (.inl 10) := rfl
theorem zl_40 : zFull[40]? = some (.inl 10) := rfl
theorem zl_41 : zFull[41]? = some (.inl 6) := rfl
theorem zl_42 : zFull[42]? = some (.inr (1, [some (some 43), some (some 44), some (some 45)])) := rfl
theorem zl_43 : zFull[43]? = some (.inl 4) := rfl
theorem zl_44 : zFull[44]? = some (.inl 4) := rfl
theorem zl_45 : zFull[45]? = some (.inl 160) := rfl
theorem zl_46 : zFull[46]? = some (.inl 6) := rfl
theorem zl_47 : zFull[47]? = some (.inr (5, [none, some (some 48), some (some 49), some (some 50), some (some 51), some (some 52), some (some 53), some (some 54), none, none, some (some 55), none, some (some 56), some (some 57), none, none, none, some (some 58), some (some 59), some (some 60), some (some 61), some (some 62), some (some 63), none, none, none, none, some (some 64), some (some 65), none, none, none, some (some 66), some (some 67), some (some 68), some (some 69), none])) := rfl
theorem zl_48 : zFull[48]? = some (.inl 6) := rfl
theorem zl_49 : zFull[49]? = some (.inl 6) := rfl
theorem zl_50 : zFull[50]? = some (.inl 18) := rfl
theorem zl_51 : zFull[51]? = some (.inl 10) := rfl
theorem zl_52 : zFull[52]? = some (.inl 10) := rfl
theorem zl_53 : zFull[53]? = some (.inl 10) := rfl
theorem zl_54 : zFull[54]? = some (.inl 10) := rfl
theorem zl_55 : zFull[55]? = some (.inl 160) := rfl
theorem zl_56 : zFull[56]? = some (.inl 1200) := rfl
theorem zl_57 : zFull[57]? = some (.inl 24) := rfl
theorem zl_58 : zFull[58]? = some (.inl 58) := rfl
theorem zl_59 : zFull[59]? = some (.inl 4) := rfl
theorem zl_60 : zFull[60]? = some (.inl 4) := rfl
theorem zl_61 : zFull[61]? = some (.inl 4) := rfl
theorem zl_62 : zFull[62]? = some (.inl 160) := rfl
theorem zl_63 : zFull[63]? = some (.inl 42) := rfl
theorem zl_64 : zFull[64]? = some (.inl 96) := rfl
theorem zl_65 : zFull[65]? = some (.inl 200) := rfl
theorem zl_66 : zFull[66]? = some (.inl 200) := rfl
theorem zl_67 : zFull[67]? = some (.inl 6) := rfl
theorem zl_68 : zFull[68]? = some (.inl 60) := rfl
theorem zl_69 : zFull[69]? = some (.inl 6) := rfl
def zWf (w : Nat) : List (Option (Option Nat)) := [some (some (w + 1)), some (some (w + 2)), some (some (w + 3)), some (some (w + 4)), some (some (w + 5)), some (some (w + 6)), some (some (w + 7)), some (some (w + 8)), some (some (w + 9)), none, none, none, none, some (some 1), some (some (w + 10))]
def zIsW (w : Nat) : Prop := zFull[w]? = some (.inr (3, zWf w)) ∧ zFull[w + 1]? = some (.inl 6) ∧ zFull[w + 2]? = some (.inl 6) ∧ zFull[w + 3]? = some (.inl 6) ∧ zFull[w + 4]? = some (.inl 6) ∧ zFull[w + 5]? = some (.inl 6) ∧ zFull[w + 6]? = some (.inl 10) ∧ zFull[w + 7]? = some (.inl 10) ∧ zFull[w + 8]? = some (.inl 10) ∧ zFull[w + 9]? = some (.inl 10) ∧ zFull[w + 10]? = some (.inl 6)
theorem zIsW_9 : zIsW 9 := ⟨rfl, rfl, rfl, rfl, rfl, rfl, rfl, rfl, rfl, rfl, rfl⟩
theorem zIsW_20 : zIsW 20 := ⟨rfl, rfl, rfl, rfl, rfl, rfl, rfl, rfl, rfl, rfl, rfl⟩
theorem zIsW_31 : zIsW 31 := ⟨rfl, rfl, rfl, rfl, rfl, rfl, rfl, rfl, rfl, rfl, rfl⟩
def zHasT (Λ : zLay) : Prop := ∀ a, 1 ≤ a → a < 9 → Λ[a]? = zFull[a]?
theorem zHasT_full : zHasT zFull := fun _ _ _ => rfl
def zN : Nat := 4000
