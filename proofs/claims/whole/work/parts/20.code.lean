set_option maxRecDepth 20000 in
theorem c_X2_emit (l : Launch) (Λ : zLay) (hΛ : zHasT Λ) (p1 : Int32) (s0 : zMem) : zC l yX2_emit (.code yX2_emit cX2_emit 2 none) 1 [.ref 5, .int p1] Λ s0 (fun _ : Unit => none) (f_X2_emit p1 s0) := by
  refine zC_of (own := RX2) rfl rfl (Nat.le_of_ble_eq_true rfl) [some (.ref 5), some (.int p1)] rfl (fun G T h hR => ?_)
  have e5 := (hΛ 5 (by decide) (by decide)).trans zl_5
  have e7 := (hΛ 7 (by decide) (by decide)).trans zl_7
  unfold f_X2_emit
  refine ze_aload_n h dX2_emit_0 rfl ?_
  refine ze_getI h e5 rfl zf_X2_28 dX2_emit_1 ?_
  refine ze_aload_n h dX2_emit_4 rfl ?_
  refine ze_getR h e5 rfl zf_X2_15 dX2_emit_5 ?_
  refine ze_alen h (v := 160) e7 zk_n_160 dX2_emit_8 ?_
  refine ze_icmp_ge h 32 dX2_emit_9 (by decide) ?_ ?_
  · exact ze_vret hR dX2_emit_32
  · refine ze_aload_n h dX2_emit_12 rfl ?_
    refine ze_getR h e5 rfl zf_X2_15 dX2_emit_13 ?_
    refine ze_aload_n h dX2_emit_16 rfl ?_
    refine ze_getI h e5 rfl zf_X2_28 dX2_emit_17 ?_
    refine ze_iload_n h dX2_emit_20 rfl ?_
    refine ze_iastG h e7 dX2_emit_21 ?_
    refine ze_nmS (fun s1 => ?_)
    refine ze_aload_n h dX2_emit_22 rfl ?_
    refine ze_dup h dX2_emit_23 rfl ?_
    refine ze_getI h e5 rfl zf_X2_28 dX2_emit_24 ?_
    refine ze_iconst h 1 dX2_emit_27 zk_i_1 ?_
    refine ze_iadd h dX2_emit_28 ?_
    refine ze_putI h e5 rfl zf_X2_28 rfl rfl dX2_emit_29 ?_
    refine ze_nmS (fun s2 => ?_)
    exact ze_vret hR dX2_emit_32
set_option maxRecDepth 20000 in
theorem c_X2_byteAt (l : Launch) (Λ : zLay) (hΛ : zHasT Λ) (p1 : Int32) (s0 : zMem) : zC l yX2_byteAt (.code yX2_byteAt cX2_byteAt 2 (some .int)) 1 [.ref 5, .int p1] Λ s0 (fun r : Int32 => some (.int r)) (f_X2_byteAt p1 s0) := by
  refine zC_of (own := RX2) rfl rfl (Nat.le_of_ble_eq_true rfl) [some (.ref 5), some (.int p1)] rfl (fun G T h hR => ?_)
  have e5 := (hΛ 5 (by decide) (by decide)).trans zl_5
  have e6 := (hΛ 6 (by decide) (by decide)).trans zl_6
  unfold f_X2_byteAt
  refine ze_iload_n h dX2_byteAt_0 rfl ?_
  refine ze_if_lt h 22 dX2_byteAt_1 (by decide) ?_ ?_
  · refine ze_iconst h (-1) dX2_byteAt_22 zk_i_m1 ?_
    exact ze_iret hR dX2_byteAt_23
  · refine ze_iload_n h dX2_byteAt_4 rfl ?_
    refine ze_aload_n h dX2_byteAt_5 rfl ?_
    refine ze_getR h e5 rfl zf_X2_9 dX2_byteAt_6 ?_
    refine ze_alen h (v := 160) e6 zk_n_160 dX2_byteAt_9 ?_
    refine ze_icmp_ge h 22 dX2_byteAt_10 (by decide) ?_ ?_
    · refine ze_iconst h (-1) dX2_byteAt_22 zk_i_m1 ?_
      exact ze_iret hR dX2_byteAt_23
    · refine ze_aload_n h dX2_byteAt_13 rfl ?_
      refine ze_getR h e5 rfl zf_X2_9 dX2_byteAt_14 ?_
      refine ze_iload_n h dX2_byteAt_17 rfl ?_
      refine ze_ialdG h e6 dX2_byteAt_18 ?_
      refine ze_goto h 23 dX2_byteAt_19 (by decide) ?_
      exact ze_iret hR dX2_byteAt_23
set_option maxRecDepth 20000 in
theorem c_X6_isFromTo (l : Launch) (Λ : zLay) (p1 : Int32) (p2 : Int32) (p3 : Int32) (s0 : zMem) : zC l yX6_isFromTo (.code yX6_isFromTo cX6_isFromTo 3 (some .boolean)) 1 [.int p1, .int p2, .int p3] Λ s0 (fun r : Int32 => some (.int r)) (f_X6_isFromTo p1 p2 p3 s0) := by
  refine zC_of (own := RX6) rfl rfl (Nat.le_of_ble_eq_true rfl) [some (.int p1), some (.int p2), some (.int p3)] rfl (fun G T h hR => ?_)
  unfold f_X6_isFromTo
  refine ze_iload_n h dX6_isFromTo_0 rfl ?_
  refine ze_iload_n h dX6_isFromTo_1 rfl ?_
  refine ze_icmp_lt h 14 dX6_isFromTo_2 (by decide) ?_ ?_
  · refine ze_iconst h 0 dX6_isFromTo_14 zk_i_0 ?_
    exact ze_zret hR rfl dX6_isFromTo_15
  · refine ze_iload_n h dX6_isFromTo_5 rfl ?_
    refine ze_iload_n h dX6_isFromTo_6 rfl ?_
    refine ze_icmp_gt h 14 dX6_isFromTo_7 (by decide) ?_ ?_
    · refine ze_iconst h 0 dX6_isFromTo_14 zk_i_0 ?_
      exact ze_zret hR rfl dX6_isFromTo_15
    · refine ze_iconst h 1 dX6_isFromTo_10 zk_i_1 ?_
      refine ze_goto h 15 dX6_isFromTo_11 (by decide) ?_
      exact ze_zret hR rfl dX6_isFromTo_15
set_option maxRecDepth 20000 in
theorem c_X2_isLetter (l : Launch) (Λ : zLay) (p1 : Int32) (s0 : zMem) : zC l yX2_isLetter (.code yX2_isLetter cX2_isLetter 1 (some .boolean)) 2 [.int p1] Λ s0 (fun r : Int32 => some (.int r)) (f_X2_isLetter p1 s0) := by
  refine zC_of (own := RX2) rfl rfl (Nat.le_of_ble_eq_true rfl) [some (.int p1)] rfl (fun G T h hR => ?_)
  unfold f_X2_isLetter
  refine ze_iload_n h dX2_isLetter_0 rfl ?_
  refine ze_bipush h 97 dX2_isLetter_1 zk_b_97 ?_
  refine ze_bipush h 122 dX2_isLetter_3 zk_b_122 ?_
  refine ze_callSNi h (st := []) zce_X6_isFromTo zt_X6_isFromTo zn_X2_149 (Nat.le_of_ble_eq_true rfl) zkn (c_X6_isFromTo l Λ p1 97 122 s0) rfl (Nat.le_of_ble_eq_true rfl) rfl dX2_isLetter_5 (fun r1 s2 => ?_)
  exact ze_zretG hR dX2_isLetter_8
set_option maxRecDepth 20000 in
theorem e_X2_endOfWord_10 {l : Launch} {G : zGT} {T : Option Value × zMem} {Λ : zLay} (h : zOk G l cX2_endOfWord RX2 3 3 0 0 false) (hR : zR G cX2_endOfWord (some .int) T Λ 0 0) (hΛ : zHasT Λ)  : ∀ (n : Nat) (x3 : Int32) (x4 : Int32) (s5 : zMem), zE G T (fun r : Int32 => some (.int r)) Λ 0 0 10 [some (.ref 5), some (.int x3), some (.int x4)] [] s5 (f_X2_endOfWord_10 n x3 x4 s5) := by
  have e5 := (hΛ 5 (by decide) (by decide)).trans zl_5
  intro n
  induction n with
  | zero => intro _ _ _; exact ze_none
  | succ n ih =>
    intro x3 x4 s5
    rw [f_X2_endOfWord_10]
    refine ze_iload_n h dX2_endOfWord_10 rfl ?_
    refine ze_aload_n h dX2_endOfWord_11 rfl ?_
    refine ze_getI h e5 rfl zf_X2_21 dX2_endOfWord_12 ?_
    refine ze_icmp_ge h 39 dX2_endOfWord_15 (by decide) ?_ ?_
    · refine ze_iload_n h dX2_endOfWord_39 rfl ?_
      exact ze_iret hR dX2_endOfWord_40
    · refine ze_aload_n h dX2_endOfWord_18 rfl ?_
      refine ze_iload_n h dX2_endOfWord_19 rfl ?_
      refine ze_callVi h (st := []) zce_X2_byteAt zi_X2_byteAt zs_X2_byteAt zm_X2_84 e5 rfl rfl (Nat.le_of_ble_eq_true rfl) zkn (c_X2_byteAt l Λ hΛ x4 s5) rfl (Nat.le_of_ble_eq_true rfl) rfl dX2_endOfWord_20 (fun r6 s7 => ?_)
      refine ze_callSi h (st := []) zce_X2_isLetter zt_X2_isLetter zm_X2_90 (Nat.le_of_ble_eq_true rfl) zkn (c_X2_isLetter l Λ r6 s7) rfl (Nat.le_of_ble_eq_true rfl) rfl dX2_endOfWord_23 (fun r8 s9 => ?_)
      refine ze_if_eq h 39 dX2_endOfWord_26 (by decide) ?_ ?_
      · refine ze_iload_n h dX2_endOfWord_39 rfl ?_
        exact ze_iret hR dX2_endOfWord_40
      · refine ze_iload_n h dX2_endOfWord_29 rfl ?_
        refine ze_iconst h 1 dX2_endOfWord_30 zk_i_1 ?_
        refine ze_iadd h dX2_endOfWord_31 ?_
        refine ze_nmI (fun x10 => ?_)
        refine ze_istore_n h [some (.ref 5), some (.int x10), some (.int x4)] dX2_endOfWord_32 rfl (by decide) rfl ?_
        refine ze_iincN h (fun y9 => [some (.ref 5), some (.int x10), some (.int y9)]) 1 dX2_endOfWord_33 rfl zk_i_1 rfl (by decide) (fun _ => rfl) (fun x11 => ?_)
        refine ze_goto h 10 dX2_endOfWord_36 (by decide) ?_
        exact ih x10 x11 s9
set_option maxRecDepth 20000 in
theorem c_X2_endOfWord (l : Launch) (Λ : zLay) (hΛ : zHasT Λ)  (s0 : zMem) : zC l yX2_endOfWord (.code yX2_endOfWord cX2_endOfWord 3 (some .int)) 3 [.ref 5] Λ s0 (fun r : Int32 => some (.int r)) (f_X2_endOfWord s0) := by
  refine zC_of (own := RX2) rfl rfl (Nat.le_of_ble_eq_true rfl) [some (.ref 5), none, none] rfl (fun G T h hR => ?_)
  have e5 := (hΛ 5 (by decide) (by decide)).trans zl_5
  unfold f_X2_endOfWord
  refine ze_aload_n h dX2_endOfWord_0 rfl ?_
  refine ze_getI h e5 rfl zf_X2_50 dX2_endOfWord_1 ?_
  refine ze_nmI (fun x1 => ?_)
  refine ze_istore_n h [some (.ref 5), some (.int x1), none] dX2_endOfWord_4 rfl (by decide) rfl ?_
  refine ze_aload_n h dX2_endOfWord_5 rfl ?_
  refine ze_getI h e5 rfl zf_X2_50 dX2_endOfWord_6 ?_
  refine ze_nmI (fun x2 => ?_)
  refine ze_istore_n h [some (.ref 5), some (.int x1), some (.int x2)] dX2_endOfWord_9 rfl (by decide) rfl ?_
  exact e_X2_endOfWord_10 h hR hΛ  zN x1 x2 s0
set_option maxRecDepth 20000 in
theorem c_X2_isBlank (l : Launch) (Λ : zLay) (p1 : Int32) (s0 : zMem) : zC l yX2_isBlank (.code yX2_isBlank cX2_isBlank 1 (some .boolean)) 1 [.int p1] Λ s0 (fun r : Int32 => some (.int r)) (f_X2_isBlank p1 s0) := by
  refine zC_of (own := RX2) rfl rfl (Nat.le_of_ble_eq_true rfl) [some (.int p1)] rfl (fun G T h hR => ?_)
  unfold f_X2_isBlank
  refine ze_iload_n h dX2_isBlank_0 rfl ?_
  refine ze_bipush h 32 dX2_isBlank_1 zk_b_32 ?_
  refine ze_icmp_eq h 12 dX2_isBlank_3 (by decide) ?_ ?_
  · refine ze_iconst h 1 dX2_isBlank_12 zk_i_1 ?_
    refine ze_goto h 17 dX2_isBlank_13 (by decide) ?_
    exact ze_zret hR rfl dX2_isBlank_17
  · refine ze_iload_n h dX2_isBlank_6 rfl ?_
    refine ze_bipush h 10 dX2_isBlank_7 zk_b_10 ?_
    refine ze_icmp_ne h 16 dX2_isBlank_9 (by decide) ?_ ?_
    · refine ze_iconst h 0 dX2_isBlank_16 zk_i_0 ?_
      exact ze_zret hR rfl dX2_isBlank_17
    · refine ze_iconst h 1 dX2_isBlank_12 zk_i_1 ?_
      refine ze_goto h 17 dX2_isBlank_13 (by decide) ?_
      exact ze_zret hR rfl dX2_isBlank_17
set_option maxRecDepth 20000 in
theorem c_X2_isDigit (l : Launch) (Λ : zLay) (p1 : Int32) (s0 : zMem) : zC l yX2_isDigit (.code yX2_isDigit cX2_isDigit 1 (some .boolean)) 2 [.int p1] Λ s0 (fun r : Int32 => some (.int r)) (f_X2_isDigit p1 s0) := by
  refine zC_of (own := RX2) rfl rfl (Nat.le_of_ble_eq_true rfl) [some (.int p1)] rfl (fun G T h hR => ?_)
  unfold f_X2_isDigit
  refine ze_iload_n h dX2_isDigit_0 rfl ?_
  refine ze_bipush h 48 dX2_isDigit_1 zk_b_48 ?_
  refine ze_bipush h 57 dX2_isDigit_3 zk_b_57 ?_
  refine ze_callSNi h (st := []) zce_X6_isFromTo zt_X6_isFromTo zn_X2_149 (Nat.le_of_ble_eq_true rfl) zkn (c_X6_isFromTo l Λ p1 48 57 s0) rfl (Nat.le_of_ble_eq_true rfl) rfl dX2_isDigit_5 (fun r1 s2 => ?_)
  exact ze_zretG hR dX2_isDigit_8
set_option maxRecDepth 20000 in
theorem c_X2_isSign (l : Launch) (Λ : zLay) (p1 : Int32) (s0 : zMem) : zC l yX2_isSign (.code yX2_isSign cX2_isSign 1 (some .boolean)) 1 [.int p1] Λ s0 (fun r : Int32 => some (.int r)) (f_X2_isSign p1 s0) := by
  refine zC_of (own := RX2) rfl rfl (Nat.le_of_ble_eq_true rfl) [some (.int p1)] rfl (fun G T h hR => ?_)
  unfold f_X2_isSign
  refine ze_iload_n h dX2_isSign_0 rfl ?_
  refine ze_case 40 (fun q1_0 => ?_) (fun q1_0 => ?_)
  · refine ze_tabIn h 104 dX2_isSign_1 (by decide) (by decide) rfl (by decide) ?_
    refine ze_iconst h 1 dX2_isSign_104 zk_i_1 ?_
    exact ze_zret hR rfl dX2_isSign_105
  refine ze_case 41 (fun q1_1 => ?_) (fun q1_1 => ?_)
  · refine ze_tabIn h 104 dX2_isSign_1 (by decide) (by decide) rfl (by decide) ?_
    refine ze_iconst h 1 dX2_isSign_104 zk_i_1 ?_
    exact ze_zret hR rfl dX2_isSign_105
  refine ze_case 42 (fun q1_2 => ?_) (fun q1_2 => ?_)
  · refine ze_tabIn h 104 dX2_isSign_1 (by decide) (by decide) rfl (by decide) ?_
    refine ze_iconst h 1 dX2_isSign_104 zk_i_1 ?_
    exact ze_zret hR rfl dX2_isSign_105
  refine ze_case 43 (fun q1_3 => ?_) (fun q1_3 => ?_)
  · refine ze_tabIn h 104 dX2_isSign_1 (by decide) (by decide) rfl (by decide) ?_
    refine ze_iconst h 1 dX2_isSign_104 zk_i_1 ?_
    exact ze_zret hR rfl dX2_isSign_105
  refine ze_case 44 (fun q1_4 => ?_) (fun q1_4 => ?_)
  · refine ze_tabIn h 106 dX2_isSign_1 (by decide) (by decide) rfl (by decide) ?_
    refine ze_iconst h 0 dX2_isSign_106 zk_i_0 ?_
    exact ze_zret hR rfl dX2_isSign_107
  refine ze_case 45 (fun q1_5 => ?_) (fun q1_5 => ?_)
  · refine ze_tabIn h 104 dX2_isSign_1 (by decide) (by decide) rfl (by decide) ?_
    refine ze_iconst h 1 dX2_isSign_104 zk_i_1 ?_
    exact ze_zret hR rfl dX2_isSign_105
  refine ze_case 46 (fun q1_6 => ?_) (fun q1_6 => ?_)
  · refine ze_tabIn h 106 dX2_isSign_1 (by decide) (by decide) rfl (by decide) ?_
    refine ze_iconst h 0 dX2_isSign_106 zk_i_0 ?_
    exact ze_zret hR rfl dX2_isSign_107
  refine ze_case 47 (fun q1_7 => ?_) (fun q1_7 => ?_)
  · refine ze_tabIn h 106 dX2_isSign_1 (by decide) (by decide) rfl (by decide) ?_
    refine ze_iconst h 0 dX2_isSign_106 zk_i_0 ?_
    exact ze_zret hR rfl dX2_isSign_107
  refine ze_case 48 (fun q1_8 => ?_) (fun q1_8 => ?_)
  · refine ze_tabIn h 106 dX2_isSign_1 (by decide) (by decide) rfl (by decide) ?_
    refine ze_iconst h 0 dX2_isSign_106 zk_i_0 ?_
    exact ze_zret hR rfl dX2_isSign_107
  refine ze_case 49 (fun q1_9 => ?_) (fun q1_9 => ?_)
  · refine ze_tabIn h 106 dX2_isSign_1 (by decide) (by decide) rfl (by decide) ?_
    refine ze_iconst h 0 dX2_isSign_106 zk_i_0 ?_
    exact ze_zret hR rfl dX2_isSign_107
  refine ze_case 50 (fun q1_10 => ?_) (fun q1_10 => ?_)
  · refine ze_tabIn h 106 dX2_isSign_1 (by decide) (by decide) rfl (by decide) ?_
    refine ze_iconst h 0 dX2_isSign_106 zk_i_0 ?_
    exact ze_zret hR rfl dX2_isSign_107
  refine ze_case 51 (fun q1_11 => ?_) (fun q1_11 => ?_)
  · refine ze_tabIn h 106 dX2_isSign_1 (by decide) (by decide) rfl (by decide) ?_
    refine ze_iconst h 0 dX2_isSign_106 zk_i_0 ?_
    exact ze_zret hR rfl dX2_isSign_107
  refine ze_case 52 (fun q1_12 => ?_) (fun q1_12 => ?_)
  · refine ze_tabIn h 106 dX2_isSign_1 (by decide) (by decide) rfl (by decide) ?_
    refine ze_iconst h 0 dX2_isSign_106 zk_i_0 ?_
    exact ze_zret hR rfl dX2_isSign_107
  refine ze_case 53 (fun q1_13 => ?_) (fun q1_13 => ?_)
  · refine ze_tabIn h 106 dX2_isSign_1 (by decide) (by decide) rfl (by decide) ?_
    refine ze_iconst h 0 dX2_isSign_106 zk_i_0 ?_
    exact ze_zret hR rfl dX2_isSign_107
  refine ze_case 54 (fun q1_14 => ?_) (fun q1_14 => ?_)
  · refine ze_tabIn h 106 dX2_isSign_1 (by decide) (by decide) rfl (by decide) ?_
    refine ze_iconst h 0 dX2_isSign_106 zk_i_0 ?_
    exact ze_zret hR rfl dX2_isSign_107
  refine ze_case 55 (fun q1_15 => ?_) (fun q1_15 => ?_)
  · refine ze_tabIn h 106 dX2_isSign_1 (by decide) (by decide) rfl (by decide) ?_
    refine ze_iconst h 0 dX2_isSign_106 zk_i_0 ?_
    exact ze_zret hR rfl dX2_isSign_107
  refine ze_case 56 (fun q1_16 => ?_) (fun q1_16 => ?_)
  · refine ze_tabIn h 106 dX2_isSign_1 (by decide) (by decide) rfl (by decide) ?_
    refine ze_iconst h 0 dX2_isSign_106 zk_i_0 ?_
    exact ze_zret hR rfl dX2_isSign_107
  refine ze_case 57 (fun q1_17 => ?_) (fun q1_17 => ?_)
  · refine ze_tabIn h 106 dX2_isSign_1 (by decide) (by decide) rfl (by decide) ?_
    refine ze_iconst h 0 dX2_isSign_106 zk_i_0 ?_
    exact ze_zret hR rfl dX2_isSign_107
  refine ze_case 58 (fun q1_18 => ?_) (fun q1_18 => ?_)
  · refine ze_tabIn h 106 dX2_isSign_1 (by decide) (by decide) rfl (by decide) ?_
    refine ze_iconst h 0 dX2_isSign_106 zk_i_0 ?_
    exact ze_zret hR rfl dX2_isSign_107
  refine ze_case 59 (fun q1_19 => ?_) (fun q1_19 => ?_)
  · refine ze_tabIn h 104 dX2_isSign_1 (by decide) (by decide) rfl (by decide) ?_
    refine ze_iconst h 1 dX2_isSign_104 zk_i_1 ?_
    exact ze_zret hR rfl dX2_isSign_105
  refine ze_case 60 (fun q1_20 => ?_) (fun q1_20 => ?_)
  · refine ze_tabIn h 104 dX2_isSign_1 (by decide) (by decide) rfl (by decide) ?_
    refine ze_iconst h 1 dX2_isSign_104 zk_i_1 ?_
    exact ze_zret hR rfl dX2_isSign_105
  refine ze_case 61 (fun q1_21 => ?_) (fun q1_21 => ?_)
  · refine ze_tabIn h 104 dX2_isSign_1 (by decide) (by decide) rfl (by decide) ?_
    refine ze_iconst h 1 dX2_isSign_104 zk_i_1 ?_
    exact ze_zret hR rfl dX2_isSign_105
  refine ze_tabOut h 106 dX2_isSign_1 (by have z0 := lv_neT q1_0 (a := 40) rfl; have z1 := lv_neT q1_1 (a := 41) rfl; have z2 := lv_neT q1_2 (a := 42) rfl; have z3 := lv_neT q1_3 (a := 43) rfl; have z4 := lv_neT q1_4 (a := 44) rfl; have z5 := lv_neT q1_5 (a := 45) rfl; have z6 := lv_neT q1_6 (a := 46) rfl; have z7 := lv_neT q1_7 (a := 47) rfl; have z8 := lv_neT q1_8 (a := 48) rfl; have z9 := lv_neT q1_9 (a := 49) rfl; have z10 := lv_neT q1_10 (a := 50) rfl; have z11 := lv_neT q1_11 (a := 51) rfl; have z12 := lv_neT q1_12 (a := 52) rfl; have z13 := lv_neT q1_13 (a := 53) rfl; have z14 := lv_neT q1_14 (a := 54) rfl; have z15 := lv_neT q1_15 (a := 55) rfl; have z16 := lv_neT q1_16 (a := 56) rfl; have z17 := lv_neT q1_17 (a := 57) rfl; have z18 := lv_neT q1_18 (a := 58) rfl; have z19 := lv_neT q1_19 (a := 59) rfl; have z20 := lv_neT q1_20 (a := 60) rfl; have z21 := lv_neT q1_21 (a := 61) rfl; omega) (by decide) ?_
  refine ze_iconst h 0 dX2_isSign_106 zk_i_0 ?_
  exact ze_zret hR rfl dX2_isSign_107
set_option maxRecDepth 20000 in
theorem c_J0_isLatin1_aae02 (l : Launch) (Λ : zLay) {i : Nat} (hi : i < 13)  (s0 : zMem) : zC l yJ0_isLatin1_aae02 (.code yJ0_isLatin1_aae02 cJ0_isLatin1_aae02 1 (some .boolean)) 1 [.ref (1000 + i)] Λ s0 (fun r : Int32 => some (.int r)) (f_J0_isLatin1_aae02 i s0) := by
  refine zC_of (own := RJ0) rfl rfl (Nat.le_of_ble_eq_true rfl) [some (.ref (1000 + i))] rfl (fun G T h hR => ?_)
  unfold f_J0_isLatin1_aae02
  refine ze_getsC h zfJ_J0_38 dJ0_isLatin1_aae02_0 ?_
  refine ze_if_eqF h 17 dJ0_isLatin1_aae02_3 (by decide) (by decide) ?_
  refine ze_aload_n h dJ0_isLatin1_aae02_6 rfl ?_
  refine ze_getSc h hi zfJ_J0_15 dJ0_isLatin1_aae02_7 ?_
  refine ze_if_neF h 17 dJ0_isLatin1_aae02_10 (by decide) (by decide) ?_
  refine ze_iconst h 1 dJ0_isLatin1_aae02_13 zk_i_1 ?_
  refine ze_goto h 18 dJ0_isLatin1_aae02_14 (by decide) ?_
  exact ze_zret hR rfl dJ0_isLatin1_aae02_18
set_option maxRecDepth 20000 in
theorem c_J3_checkIndex_8e157 (l : Launch) (Λ : zLay) (v9 : Value) (hv9 : v9 = .null ∨ v9 = .ref 1040) (p1 : Int32) (p2 : Int32) (s0 : zMem) : zC l yJ3_checkIndex_8e157 (.code yJ3_checkIndex_8e157 cJ3_checkIndex_8e157 3 (some .int)) 1 [.int p1, .int p2, v9] Λ s0 (fun r : Int32 => some (.int r)) (f_J3_checkIndex_8e157 p1 p2 s0) := by
  rcases hv9 with rfl | rfl
  · refine zC_of (own := RJ3) rfl rfl (Nat.le_of_ble_eq_true rfl) [some (.int p1), some (.int p2), some (.null)] rfl (fun G T h hR => ?_)
    unfold f_J3_checkIndex_8e157
    refine ze_iload_n h dJ3_checkIndex_8e157_0 rfl ?_
    refine ze_if_lt h 9 dJ3_checkIndex_8e157_1 (by decide) ?_ ?_
    · exact ze_none
    · refine ze_iload_n h dJ3_checkIndex_8e157_4 rfl ?_
      refine ze_iload_n h dJ3_checkIndex_8e157_5 rfl ?_
      refine ze_icmp_lt h 16 dJ3_checkIndex_8e157_6 (by decide) ?_ ?_
      · refine ze_iload_n h dJ3_checkIndex_8e157_16 rfl ?_
        exact ze_iret hR dJ3_checkIndex_8e157_17
      · exact ze_none
  · refine zC_of (own := RJ3) rfl rfl (Nat.le_of_ble_eq_true rfl) [some (.int p1), some (.int p2), some (.ref 1040)] rfl (fun G T h hR => ?_)
    unfold f_J3_checkIndex_8e157
    refine ze_iload_n h dJ3_checkIndex_8e157_0 rfl ?_
    refine ze_if_lt h 9 dJ3_checkIndex_8e157_1 (by decide) ?_ ?_
    · exact ze_none
    · refine ze_iload_n h dJ3_checkIndex_8e157_4 rfl ?_
      refine ze_iload_n h dJ3_checkIndex_8e157_5 rfl ?_
      refine ze_icmp_lt h 16 dJ3_checkIndex_8e157_6 (by decide) ?_ ?_
      · refine ze_iload_n h dJ3_checkIndex_8e157_16 rfl ?_
        exact ze_iret hR dJ3_checkIndex_8e157_17
      · exact ze_none
set_option maxRecDepth 20000 in
theorem c_J0_checkIndex_df160 (l : Launch) (Λ : zLay) (p1 : Int32) (p2 : Int32) (s0 : zMem) : zC l yJ0_checkIndex_df160 (.code yJ0_checkIndex_df160 cJ0_checkIndex_df160 2 none) 2 [.int p1, .int p2] Λ s0 (fun _ : Unit => none) (f_J0_checkIndex_df160 p1 p2 s0) := by
  refine zC_of (own := RJ0) rfl rfl (Nat.le_of_ble_eq_true rfl) [some (.int p1), some (.int p2)] rfl (fun G T h hR => ?_)
  unfold f_J0_checkIndex_df160
  refine ze_iload_n h dJ0_checkIndex_df160_0 rfl ?_
  refine ze_iload_n h dJ0_checkIndex_df160_1 rfl ?_
  refine ze_getsF h zfJ_J0_1053 dJ0_checkIndex_df160_2 (fun v9 hv9 => ?_)
  refine ze_callSi h (st := []) zce_J3_checkIndex_8e157 zt_J3_checkIndex_8e157 zm_J0_1059 (Nat.le_of_ble_eq_true rfl) zkn (c_J3_checkIndex_8e157 l Λ v9 hv9 p1 p2 s0) rfl (Nat.le_of_ble_eq_true rfl) rfl dJ0_checkIndex_df160_5 (fun r1 s2 => ?_)
  refine ze_pop h dJ0_checkIndex_df160_8 rfl ?_
  exact ze_vret hR dJ0_checkIndex_df160_9
set_option maxRecDepth 20000 in
theorem c_J1_charAt_3b067 (l : Launch) (Λ : zLay) {i : Nat} (hi : i < 13) (p2 : Int32) (s0 : zMem) : zC l yJ1_charAt_3b067 (.code yJ1_charAt_3b067 cJ1_charAt_3b067 2 (some .char)) 3 [.ref (1020 + i), .int p2] Λ s0 (fun r : Int32 => some (.int r)) (f_J1_charAt_3b067 i p2 s0) := by
  refine zC_of (own := RJ1) rfl rfl (Nat.le_of_ble_eq_true rfl) [some (.ref (1020 + i)), some (.int p2)] rfl (fun G T h hR => ?_)
  unfold f_J1_charAt_3b067
  refine ze_iload_n h dJ1_charAt_3b067_0 rfl ?_
  refine ze_aload_n h dJ1_charAt_3b067_1 rfl ?_
  refine ze_lenB h hi rfl dJ1_charAt_3b067_2 ?_
  refine ze_callSv h (st := []) zce_J0_checkIndex_df160 zt_J0_checkIndex_df160 zm_J1_9 (Nat.le_of_ble_eq_true rfl) zkn (c_J0_checkIndex_df160 l Λ p2 (Int32.ofNat (zLen.getD i 0)) s0) rfl (Nat.le_of_ble_eq_true rfl) rfl dJ1_charAt_3b067_3 (fun _ s2 => ?_)
  refine ze_aload_n h dJ1_charAt_3b067_6 rfl ?_
  refine ze_iload_n h dJ1_charAt_3b067_7 rfl ?_
  refine ze_bald h hi dJ1_charAt_3b067_8 ?_
  refine ze_sipush h 255 dJ1_charAt_3b067_9 zk_s_255 ?_
  refine ze_iand h dJ1_charAt_3b067_12 ?_
  refine ze_i2c h dJ1_charAt_3b067_13 ?_
  exact ze_cretG hR dJ1_charAt_3b067_14
set_option maxRecDepth 20000 in
theorem c_J0_charAt_5068e (l : Launch) (Λ : zLay) {i : Nat} (hi : i < 13) (p1 : Int32) (s0 : zMem) : zC l yJ0_charAt_5068e (.code yJ0_charAt_5068e cJ0_charAt_5068e 2 (some .char)) 4 [.ref (1000 + i), .int p1] Λ s0 (fun r : Int32 => some (.int r)) (f_J0_charAt_5068e i p1 s0) := by
  refine zC_of (own := RJ0) rfl rfl (Nat.le_of_ble_eq_true rfl) [some (.ref (1000 + i)), some (.int p1)] rfl (fun G T h hR => ?_)
  unfold f_J0_charAt_5068e
  refine ze_aload_n h dJ0_charAt_5068e_0 rfl ?_
  refine ze_callTi h (st := []) (i := i) zce_J0_isLatin1_aae02 zi_J0_isLatin1_aae02 zs_J0_isLatin1_aae02 zm_J0_492 rfl hi rfl (Nat.le_of_ble_eq_true rfl) zkn (c_J0_isLatin1_aae02 l Λ hi s0) rfl (Nat.le_of_ble_eq_true rfl) rfl dJ0_charAt_5068e_1 (fun r1 s2 => ?_)
  refine ze_if_eq h 16 dJ0_charAt_5068e_4 (by decide) ?_ ?_
  · refine ze_aload_n h dJ0_charAt_5068e_16 rfl ?_
    refine ze_getSv h hi zfJ_J0_9 dJ0_charAt_5068e_17 ?_
    refine ze_iload_n h dJ0_charAt_5068e_20 rfl ?_
    exact ze_none
  · refine ze_aload_n h dJ0_charAt_5068e_7 rfl ?_
    refine ze_getSv h hi zfJ_J0_9 dJ0_charAt_5068e_8 ?_
    refine ze_iload_n h dJ0_charAt_5068e_11 rfl ?_
    refine ze_callSi h (st := []) zce_J1_charAt_3b067 zt_J1_charAt_3b067 zm_J0_495 (Nat.le_of_ble_eq_true rfl) zkn (c_J1_charAt_3b067 l Λ hi p1 s2) rfl (Nat.le_of_ble_eq_true rfl) rfl dJ0_charAt_5068e_12 (fun r3 s4 => ?_)
    exact ze_cretG hR dJ0_charAt_5068e_15
set_option maxRecDepth 20000 in
theorem c_J0_coder_7d493 (l : Launch) (Λ : zLay) {i : Nat} (hi : i < 13)  (s0 : zMem) : zC l yJ0_coder_7d493 (.code yJ0_coder_7d493 cJ0_coder_7d493 1 (some .byte)) 1 [.ref (1000 + i)] Λ s0 (fun r : Int32 => some (.int r)) (f_J0_coder_7d493 i s0) := by
  refine zC_of (own := RJ0) rfl rfl (Nat.le_of_ble_eq_true rfl) [some (.ref (1000 + i))] rfl (fun G T h hR => ?_)
  unfold f_J0_coder_7d493
  refine ze_getsC h zfJ_J0_38 dJ0_coder_7d493_0 ?_
  refine ze_if_eqF h 13 dJ0_coder_7d493_3 (by decide) (by decide) ?_
  refine ze_aload_n h dJ0_coder_7d493_6 rfl ?_
  refine ze_getSc h hi zfJ_J0_15 dJ0_coder_7d493_7 ?_
  refine ze_goto h 14 dJ0_coder_7d493_10 (by decide) ?_
  exact ze_zret hR rfl dJ0_coder_7d493_14
set_option maxRecDepth 20000 in
theorem c_J0_length_8abf5 (l : Launch) (Λ : zLay) {i : Nat} (hi : i < 13)  (s0 : zMem) : zC l yJ0_length_8abf5 (.code yJ0_length_8abf5 cJ0_length_8abf5 1 (some .int)) 2 [.ref (1000 + i)] Λ s0 (fun r : Int32 => some (.int r)) (f_J0_length_8abf5 i s0) := by
  refine zC_of (own := RJ0) rfl rfl (Nat.le_of_ble_eq_true rfl) [some (.ref (1000 + i))] rfl (fun G T h hR => ?_)
  unfold f_J0_length_8abf5
  refine ze_aload_n h dJ0_length_8abf5_0 rfl ?_
  refine ze_getSv h hi zfJ_J0_9 dJ0_length_8abf5_1 ?_
  refine ze_lenB h hi rfl dJ0_length_8abf5_4 ?_
  refine ze_aload_n h dJ0_length_8abf5_5 rfl ?_
  refine ze_callTi h (st := [.int (Int32.ofNat (zLen.getD i 0))]) (i := i) zce_J0_coder_7d493 zi_J0_coder_7d493 zs_J0_coder_7d493 zm_J0_335 rfl hi rfl (Nat.le_of_ble_eq_true rfl) zkn (c_J0_coder_7d493 l Λ hi s0) rfl (Nat.le_of_ble_eq_true rfl) rfl dJ0_length_8abf5_6 (fun r1 s2 => ?_)
  refine ze_ishr h dJ0_length_8abf5_9 ?_
  exact ze_iret hR dJ0_length_8abf5_10
set_option maxRecDepth 20000 in
theorem e_X2_isRead_20 {l : Launch} {G : zGT} {T : Option Value × zMem} {Λ : zLay} (h : zOk G l cX2_isRead RX2 3 5 0 0 false) (hR : zR G cX2_isRead (some .boolean) T Λ 0 0) (hΛ : zHasT Λ) {i : Nat} (hi : i < 13)  : ∀ (n : Nat) (x3 : Int32) (s4 : zMem), zE G T (fun r : Int32 => some (.int r)) Λ 0 0 20 [some (.ref 5), some (.ref (1000 + i)), some (.int x3)] [] s4 (f_X2_isRead_20 i n x3 s4) := by
  have e5 := (hΛ 5 (by decide) (by decide)).trans zl_5
  intro n
  induction n with
  | zero => intro _ _; exact ze_none
  | succ n ih =>
    intro x3 s4
    rw [f_X2_isRead_20]
    refine ze_iload_n h dX2_isRead_20 rfl ?_
    refine ze_aload_n h dX2_isRead_21 rfl ?_
    refine ze_callTi h (st := [.int x3]) (i := i) zce_J0_length_8abf5 zi_J0_length_8abf5 zs_J0_length_8abf5 zm_X2_140 rfl hi rfl (Nat.le_of_ble_eq_true rfl) zkn (c_J0_length_8abf5 l Λ hi s4) rfl (Nat.le_of_ble_eq_true rfl) rfl dX2_isRead_22 (fun r5 s6 => ?_)
    refine ze_icmp_ge h 54 dX2_isRead_25 (by decide) ?_ ?_
    · refine ze_iconst h 1 dX2_isRead_54 zk_i_1 ?_
      exact ze_zret hR rfl dX2_isRead_55
    · refine ze_aload_n h dX2_isRead_28 rfl ?_
      refine ze_aload_n h dX2_isRead_29 rfl ?_
      refine ze_getI h e5 rfl zf_X2_50 dX2_isRead_30 ?_
      refine ze_iload_n h dX2_isRead_33 rfl ?_
      refine ze_iadd h dX2_isRead_34 ?_
      refine ze_callVi h (st := []) zce_X2_byteAt zi_X2_byteAt zs_X2_byteAt zm_X2_84 e5 rfl rfl (Nat.le_of_ble_eq_true rfl) zkn (c_X2_byteAt l Λ hΛ ((s6 5 6) + x3) s6) rfl (Nat.le_of_ble_eq_true rfl) rfl dX2_isRead_35 (fun r7 s8 => ?_)
      refine ze_aload_n h dX2_isRead_38 rfl ?_
      refine ze_iload_n h dX2_isRead_39 rfl ?_
      refine ze_callTi h (st := [.int r7]) (i := i) zce_J0_charAt_5068e zi_J0_charAt_5068e zs_J0_charAt_5068e zm_X2_145 rfl hi rfl (Nat.le_of_ble_eq_true rfl) zkn (c_J0_charAt_5068e l Λ hi x3 s8) rfl (Nat.le_of_ble_eq_true rfl) rfl dX2_isRead_40 (fun r9 s10 => ?_)
      refine ze_icmp_eq h 48 dX2_isRead_43 (by decide) ?_ ?_
      · refine ze_iincN h (fun y9 => [some (.ref 5), some (.ref (1000 + i)), some (.int y9)]) 1 dX2_isRead_48 rfl zk_i_1 rfl (by decide) (fun _ => rfl) (fun x11 => ?_)
        refine ze_goto h 20 dX2_isRead_51 (by decide) ?_
        exact ih x11 s10
      · refine ze_iconst h 0 dX2_isRead_46 zk_i_0 ?_
        exact ze_zret hR rfl dX2_isRead_47
set_option maxRecDepth 20000 in
theorem c_X2_isRead (l : Launch) (Λ : zLay) (hΛ : zHasT Λ) {i : Nat} (hi : i < 13)  (s0 : zMem) : zC l yX2_isRead (.code yX2_isRead cX2_isRead 3 (some .boolean)) 5 [.ref 5, .ref (1000 + i)] Λ s0 (fun r : Int32 => some (.int r)) (f_X2_isRead i s0) := by
  refine zC_of (own := RX2) rfl rfl (Nat.le_of_ble_eq_true rfl) [some (.ref 5), some (.ref (1000 + i)), none] rfl (fun G T h hR => ?_)
  have e5 := (hΛ 5 (by decide) (by decide)).trans zl_5
  unfold f_X2_isRead
  refine ze_aload_n h dX2_isRead_0 rfl ?_
  refine ze_getI h e5 rfl zf_X2_25 dX2_isRead_1 ?_
  refine ze_aload_n h dX2_isRead_4 rfl ?_
  refine ze_getI h e5 rfl zf_X2_50 dX2_isRead_5 ?_
  refine ze_isub h dX2_isRead_8 ?_
  refine ze_aload_n h dX2_isRead_9 rfl ?_
  refine ze_callTi h (st := [.int ((s0 5 5) - (s0 5 6))]) (i := i) zce_J0_length_8abf5 zi_J0_length_8abf5 zs_J0_length_8abf5 zm_X2_140 rfl hi rfl (Nat.le_of_ble_eq_true rfl) zkn (c_J0_length_8abf5 l Λ hi s0) rfl (Nat.le_of_ble_eq_true rfl) rfl dX2_isRead_10 (fun r1 s2 => ?_)
  refine ze_icmp_eq h 18 dX2_isRead_13 (by decide) ?_ ?_
  · refine ze_iconst h 0 dX2_isRead_18 zk_i_0 ?_
    refine ze_istore_n h [some (.ref 5), some (.ref (1000 + i)), some (.int 0)] dX2_isRead_19 rfl (by decide) rfl ?_
    exact e_X2_isRead_20 h hR hΛ hi  zN 0 s2
  · refine ze_iconst h 0 dX2_isRead_16 zk_i_0 ?_
    exact ze_zret hR rfl dX2_isRead_17
set_option maxRecDepth 20000 in
theorem c_X2_keyRead (l : Launch) (Λ : zLay) (hΛ : zHasT Λ)  (s0 : zMem) : zC l yX2_keyRead (.code yX2_keyRead cX2_keyRead 1 (some .int)) 6 [.ref 5] Λ s0 (fun r : Int32 => some (.int r)) (f_X2_keyRead s0) := by
  refine zC_of (own := RX2) rfl rfl (Nat.le_of_ble_eq_true rfl) [some (.ref 5)] rfl (fun G T h hR => ?_)
  have e5 := (hΛ 5 (by decide) (by decide)).trans zl_5
  unfold f_X2_keyRead
  refine ze_aload_n h dX2_keyRead_0 rfl ?_
  refine ze_ldcS (i := 1) h rfl dX2_keyRead_1 ?_
  refine ze_callVi h (st := []) zce_X2_isRead zi_X2_isRead zs_X2_isRead zm_X2_114 e5 rfl rfl (Nat.le_of_ble_eq_true rfl) zkn (c_X2_isRead l Λ hΛ (by decide) s0) rfl (Nat.le_of_ble_eq_true rfl) rfl dX2_keyRead_3 (fun r1 s2 => ?_)
  refine ze_if_eq h 11 dX2_keyRead_6 (by decide) ?_ ?_
  · refine ze_aload_n h dX2_keyRead_11 rfl ?_
    refine ze_ldcS (i := 2) h rfl dX2_keyRead_12 ?_
    refine ze_callVi h (st := []) zce_X2_isRead zi_X2_isRead zs_X2_isRead zm_X2_114 e5 rfl rfl (Nat.le_of_ble_eq_true rfl) zkn (c_X2_isRead l Λ hΛ (by decide) s2) rfl (Nat.le_of_ble_eq_true rfl) rfl dX2_keyRead_14 (fun r3 s4 => ?_)
    refine ze_if_eq h 22 dX2_keyRead_17 (by decide) ?_ ?_
    · refine ze_aload_n h dX2_keyRead_22 rfl ?_
      refine ze_ldcS (i := 3) h rfl dX2_keyRead_23 ?_
      refine ze_callVi h (st := []) zce_X2_isRead zi_X2_isRead zs_X2_isRead zm_X2_114 e5 rfl rfl (Nat.le_of_ble_eq_true rfl) zkn (c_X2_isRead l Λ hΛ (by decide) s4) rfl (Nat.le_of_ble_eq_true rfl) rfl dX2_keyRead_25 (fun r5 s6 => ?_)
      refine ze_if_eq h 34 dX2_keyRead_28 (by decide) ?_ ?_
      · refine ze_aload_n h dX2_keyRead_34 rfl ?_
        refine ze_ldcS (i := 4) h rfl dX2_keyRead_35 ?_
        refine ze_callVi h (st := []) zce_X2_isRead zi_X2_isRead zs_X2_isRead zm_X2_114 e5 rfl rfl (Nat.le_of_ble_eq_true rfl) zkn (c_X2_isRead l Λ hΛ (by decide) s6) rfl (Nat.le_of_ble_eq_true rfl) rfl dX2_keyRead_37 (fun r7 s8 => ?_)
        refine ze_if_eq h 46 dX2_keyRead_40 (by decide) ?_ ?_
        · refine ze_aload_n h dX2_keyRead_46 rfl ?_
          refine ze_ldcS (i := 5) h rfl dX2_keyRead_47 ?_
          refine ze_callVi h (st := []) zce_X2_isRead zi_X2_isRead zs_X2_isRead zm_X2_114 e5 rfl rfl (Nat.le_of_ble_eq_true rfl) zkn (c_X2_isRead l Λ hΛ (by decide) s8) rfl (Nat.le_of_ble_eq_true rfl) rfl dX2_keyRead_49 (fun r9 s10 => ?_)
          refine ze_if_eq h 58 dX2_keyRead_52 (by decide) ?_ ?_
          · refine ze_aload_n h dX2_keyRead_58 rfl ?_
            refine ze_ldcS (i := 6) h rfl dX2_keyRead_59 ?_
            refine ze_callVi h (st := []) zce_X2_isRead zi_X2_isRead zs_X2_isRead zm_X2_114 e5 rfl rfl (Nat.le_of_ble_eq_true rfl) zkn (c_X2_isRead l Λ hΛ (by decide) s10) rfl (Nat.le_of_ble_eq_true rfl) rfl dX2_keyRead_61 (fun r11 s12 => ?_)
            refine ze_if_eq h 72 dX2_keyRead_64 (by decide) ?_ ?_
            · refine ze_iconst h 1 dX2_keyRead_72 zk_i_1 ?_
              exact ze_iret hR dX2_keyRead_73
            · refine ze_bipush h 9 dX2_keyRead_67 zk_b_9 ?_
              refine ze_goto h 73 dX2_keyRead_69 (by decide) ?_
              exact ze_iret hR dX2_keyRead_73
          · refine ze_bipush h 8 dX2_keyRead_55 zk_b_8 ?_
            exact ze_iret hR dX2_keyRead_57
        · refine ze_bipush h 7 dX2_keyRead_43 zk_b_7 ?_
          exact ze_iret hR dX2_keyRead_45
      · refine ze_bipush h 6 dX2_keyRead_31 zk_b_6 ?_
        exact ze_iret hR dX2_keyRead_33
    · refine ze_iconst h 5 dX2_keyRead_20 zk_i_5 ?_
      exact ze_iret hR dX2_keyRead_21
  · refine ze_iconst h 4 dX2_keyRead_9 zk_i_4 ?_
    exact ze_iret hR dX2_keyRead_10
set_option maxRecDepth 20000 in
theorem c_X2_nameRead (l : Launch) (Λ : zLay) (hΛ : zHasT Λ)  (s0 : zMem) : zC l yX2_nameRead (.code yX2_nameRead cX2_nameRead 1 (some .int)) 6 [.ref 5] Λ s0 (fun r : Int32 => some (.int r)) (f_X2_nameRead s0) := by
  refine zC_of (own := RX2) rfl rfl (Nat.le_of_ble_eq_true rfl) [some (.ref 5)] rfl (fun G T h hR => ?_)
  have e5 := (hΛ 5 (by decide) (by decide)).trans zl_5
  unfold f_X2_nameRead
  refine ze_aload_n h dX2_nameRead_0 rfl ?_
  refine ze_ldcS (i := 7) h rfl dX2_nameRead_1 ?_
  refine ze_callVi h (st := []) zce_X2_isRead zi_X2_isRead zs_X2_isRead zm_X2_114 e5 rfl rfl (Nat.le_of_ble_eq_true rfl) zkn (c_X2_isRead l Λ hΛ (by decide) s0) rfl (Nat.le_of_ble_eq_true rfl) rfl dX2_nameRead_3 (fun r1 s2 => ?_)
  refine ze_if_eq h 11 dX2_nameRead_6 (by decide) ?_ ?_
  · refine ze_aload_n h dX2_nameRead_11 rfl ?_
    refine ze_ldcS (i := 8) h rfl dX2_nameRead_12 ?_
    refine ze_callVi h (st := []) zce_X2_isRead zi_X2_isRead zs_X2_isRead zm_X2_114 e5 rfl rfl (Nat.le_of_ble_eq_true rfl) zkn (c_X2_isRead l Λ hΛ (by decide) s2) rfl (Nat.le_of_ble_eq_true rfl) rfl dX2_nameRead_14 (fun r3 s4 => ?_)
    refine ze_if_eq h 22 dX2_nameRead_17 (by decide) ?_ ?_
    · refine ze_aload_n h dX2_nameRead_22 rfl ?_
      refine ze_ldcS (i := 9) h rfl dX2_nameRead_23 ?_
      refine ze_callVi h (st := []) zce_X2_isRead zi_X2_isRead zs_X2_isRead zm_X2_114 e5 rfl rfl (Nat.le_of_ble_eq_true rfl) zkn (c_X2_isRead l Λ hΛ (by decide) s4) rfl (Nat.le_of_ble_eq_true rfl) rfl dX2_nameRead_25 (fun r5 s6 => ?_)
      refine ze_if_eq h 33 dX2_nameRead_28 (by decide) ?_ ?_
      · refine ze_aload_n h dX2_nameRead_33 rfl ?_
        refine ze_ldcS (i := 10) h rfl dX2_nameRead_34 ?_
        refine ze_callVi h (st := []) zce_X2_isRead zi_X2_isRead zs_X2_isRead zm_X2_114 e5 rfl rfl (Nat.le_of_ble_eq_true rfl) zkn (c_X2_isRead l Λ hΛ (by decide) s6) rfl (Nat.le_of_ble_eq_true rfl) rfl dX2_nameRead_36 (fun r7 s8 => ?_)
        refine ze_if_eq h 44 dX2_nameRead_39 (by decide) ?_ ?_
        · refine ze_aload_n h dX2_nameRead_44 rfl ?_
          refine ze_ldcS (i := 11) h rfl dX2_nameRead_45 ?_
          refine ze_callVi h (st := []) zce_X2_isRead zi_X2_isRead zs_X2_isRead zm_X2_114 e5 rfl rfl (Nat.le_of_ble_eq_true rfl) zkn (c_X2_isRead l Λ hΛ (by decide) s8) rfl (Nat.le_of_ble_eq_true rfl) rfl dX2_nameRead_47 (fun r9 s10 => ?_)
          refine ze_if_eq h 55 dX2_nameRead_50 (by decide) ?_ ?_
          · refine ze_aload_n h dX2_nameRead_55 rfl ?_
            refine ze_ldcS (i := 12) h rfl dX2_nameRead_56 ?_
            refine ze_callVi h (st := []) zce_X2_isRead zi_X2_isRead zs_X2_isRead zm_X2_114 e5 rfl rfl (Nat.le_of_ble_eq_true rfl) zkn (c_X2_isRead l Λ hΛ (by decide) s10) rfl (Nat.le_of_ble_eq_true rfl) rfl dX2_nameRead_58 (fun r11 s12 => ?_)
            refine ze_if_eq h 68 dX2_nameRead_61 (by decide) ?_ ?_
            · refine ze_iconst h (-1) dX2_nameRead_68 zk_i_m1 ?_
              exact ze_iret hR dX2_nameRead_69
            · refine ze_iconst h 5 dX2_nameRead_64 zk_i_5 ?_
              refine ze_goto h 69 dX2_nameRead_65 (by decide) ?_
              exact ze_iret hR dX2_nameRead_69
          · refine ze_iconst h 4 dX2_nameRead_53 zk_i_4 ?_
            exact ze_iret hR dX2_nameRead_54
        · refine ze_iconst h 3 dX2_nameRead_42 zk_i_3 ?_
          exact ze_iret hR dX2_nameRead_43
      · refine ze_iconst h 2 dX2_nameRead_31 zk_i_2 ?_
        exact ze_iret hR dX2_nameRead_32
    · refine ze_iconst h 1 dX2_nameRead_20 zk_i_1 ?_
      exact ze_iret hR dX2_nameRead_21
  · refine ze_iconst h 0 dX2_nameRead_9 zk_i_0 ?_
    exact ze_iret hR dX2_nameRead_10
set_option maxRecDepth 20000 in
theorem e_X2_readNumber_10 {l : Launch} {G : zGT} {T : Option Value × zMem} {Λ : zLay} (h : zOk G l cX2_readNumber RX2 2 3 0 0 false) (hR : zR G cX2_readNumber none T Λ 0 0) (hΛ : zHasT Λ) (c62 : zMem → Option (Unit × zMem)) (hc62 : ∀ (s9 : zMem), zE G T (fun _ : Unit => none) Λ 0 0 62 [some (.ref 5), none] [] s9 (c62 s9)) : ∀ (n : Nat) (x3 : Int32) (s4 : zMem), zE G T (fun _ : Unit => none) Λ 0 0 10 [some (.ref 5), some (.int x3)] [] s4 (f_X2_readNumber_10 c62 n x3 s4) := by
  have e5 := (hΛ 5 (by decide) (by decide)).trans zl_5
  intro n
  induction n with
  | zero => intro _ _; exact ze_none
  | succ n ih =>
    intro x3 s4
    rw [f_X2_readNumber_10]
    refine ze_iload_n h dX2_readNumber_10 rfl ?_
    refine ze_aload_n h dX2_readNumber_11 rfl ?_
    refine ze_getI h e5 rfl zf_X2_21 dX2_readNumber_12 ?_
    refine ze_icmp_ge h 62 dX2_readNumber_15 (by decide) ?_ ?_
    · refine zE_weak h [true, false] rfl ?_
      exact hc62 s4
    · refine ze_aload_n h dX2_readNumber_18 rfl ?_
      refine ze_iload_n h dX2_readNumber_19 rfl ?_
      refine ze_callVi h (st := []) zce_X2_byteAt zi_X2_byteAt zs_X2_byteAt zm_X2_84 e5 rfl rfl (Nat.le_of_ble_eq_true rfl) zkn (c_X2_byteAt l Λ hΛ x3 s4) rfl (Nat.le_of_ble_eq_true rfl) rfl dX2_readNumber_20 (fun r5 s6 => ?_)
      refine ze_callSi h (st := []) zce_X2_isDigit zt_X2_isDigit zm_X2_103 (Nat.le_of_ble_eq_true rfl) zkn (c_X2_isDigit l Λ r5 s6) rfl (Nat.le_of_ble_eq_true rfl) rfl dX2_readNumber_23 (fun r7 s8 => ?_)
      refine ze_if_eq h 62 dX2_readNumber_26 (by decide) ?_ ?_
      · refine zE_weak h [true, false] rfl ?_
        exact hc62 s8
      · refine ze_aload_n h dX2_readNumber_29 rfl ?_
        refine ze_iload_n h dX2_readNumber_30 rfl ?_
        refine ze_iconst h 1 dX2_readNumber_31 zk_i_1 ?_
        refine ze_iadd h dX2_readNumber_32 ?_
        refine ze_putI h e5 rfl zf_X2_25 rfl rfl dX2_readNumber_33 ?_
        refine ze_nmS (fun s9 => ?_)
        refine ze_aload_n h dX2_readNumber_36 rfl ?_
        refine ze_aload_n h dX2_readNumber_37 rfl ?_
        refine ze_getI h e5 rfl zf_X2_77 dX2_readNumber_38 ?_
        refine ze_bipush h 10 dX2_readNumber_41 zk_b_10 ?_
        refine ze_imul h dX2_readNumber_43 ?_
        refine ze_aload_n h dX2_readNumber_44 rfl ?_
        refine ze_iload_n h dX2_readNumber_45 rfl ?_
        refine ze_callVi h (st := [.int ((s9 5 8) * 10), .ref 5]) zce_X2_byteAt zi_X2_byteAt zs_X2_byteAt zm_X2_84 e5 rfl rfl (Nat.le_of_ble_eq_true rfl) zkn (c_X2_byteAt l Λ hΛ x3 s9) rfl (Nat.le_of_ble_eq_true rfl) rfl dX2_readNumber_46 (fun r10 s11 => ?_)
        refine ze_pc 49 rfl ?_
        refine ze_iadd h dX2_readNumber_49 ?_
        refine ze_bipush h 48 dX2_readNumber_50 zk_b_48 ?_
        refine ze_isub h dX2_readNumber_52 ?_
        refine ze_putI h e5 rfl zf_X2_77 rfl rfl dX2_readNumber_53 ?_
        refine ze_nmS (fun s12 => ?_)
        refine ze_iincN h (fun y9 => [some (.ref 5), some (.int y9)]) 1 dX2_readNumber_56 rfl zk_i_1 rfl (by decide) (fun _ => rfl) (fun x13 => ?_)
        refine ze_goto h 10 dX2_readNumber_59 (by decide) ?_
        exact ih x13 s12
set_option maxRecDepth 20000 in
theorem c_X2_readNumber (l : Launch) (Λ : zLay) (hΛ : zHasT Λ)  (s0 : zMem) : zC l yX2_readNumber (.code yX2_readNumber cX2_readNumber 2 none) 3 [.ref 5] Λ s0 (fun _ : Unit => none) (f_X2_readNumber s0) := by
  refine zC_of (own := RX2) rfl rfl (Nat.le_of_ble_eq_true rfl) [some (.ref 5), none] rfl (fun G T h hR => ?_)
  have e5 := (hΛ 5 (by decide) (by decide)).trans zl_5
  unfold f_X2_readNumber
  refine ze_aload_n h dX2_readNumber_0 rfl ?_
  refine ze_iconst h 0 dX2_readNumber_1 zk_i_0 ?_
  refine ze_putI h e5 rfl zf_X2_77 rfl rfl dX2_readNumber_2 ?_
  refine ze_nmS (fun s1 => ?_)
  refine ze_aload_n h dX2_readNumber_5 rfl ?_
  refine ze_getI h e5 rfl zf_X2_50 dX2_readNumber_6 ?_
  refine ze_nmI (fun x2 => ?_)
  refine ze_istore_n h [some (.ref 5), some (.int x2)] dX2_readNumber_9 rfl (by decide) rfl ?_
  refine e_X2_readNumber_10 h hR hΛ _ ?_ zN x2 s1
  · intro s14
    refine ze_aload_n h dX2_readNumber_62 rfl ?_
    refine ze_aload_n h dX2_readNumber_63 rfl ?_
    refine ze_getI h e5 rfl zf_X2_25 dX2_readNumber_64 ?_
    refine ze_aload_n h dX2_readNumber_67 rfl ?_
    refine ze_getI h e5 rfl zf_X2_50 dX2_readNumber_68 ?_
    refine ze_isub h dX2_readNumber_71 ?_
    refine ze_iconst h 4 dX2_readNumber_72 zk_i_4 ?_
    refine ze_icmp_le h 80 dX2_readNumber_73 (by decide) ?_ ?_
    · refine ze_iconst h 2 dX2_readNumber_80 zk_i_2 ?_
      refine ze_putI h e5 rfl zf_X2_44 rfl rfl dX2_readNumber_81 ?_
      refine ze_nmS (fun s15 => ?_)
      exact ze_vret hR dX2_readNumber_84
    · refine ze_iconst h 1 dX2_readNumber_76 zk_i_1 ?_
      refine ze_goto h 81 dX2_readNumber_77 (by decide) ?_
      refine ze_putI h e5 rfl zf_X2_44 rfl rfl dX2_readNumber_81 ?_
      refine ze_nmS (fun s16 => ?_)
      exact ze_vret hR dX2_readNumber_84
set_option maxRecDepth 20000 in
theorem e_X2_readToken_5 {l : Launch} {G : zGT} {T : Option Value × zMem} {Λ : zLay} (h : zOk G l cX2_readToken RX2 2 7 0 0 false) (hR : zR G cX2_readToken none T Λ 0 0) (hΛ : zHasT Λ) (c37 : zMem → Option (Unit × zMem)) (hc37 : ∀ (s9 : zMem), zE G T (fun _ : Unit => none) Λ 0 0 37 [some (.ref 5), none] [] s9 (c37 s9)) : ∀ (n : Nat) (x2 : Int32) (s3 : zMem), zE G T (fun _ : Unit => none) Λ 0 0 5 [some (.ref 5), some (.int x2)] [] s3 (f_X2_readToken_5 c37 n x2 s3) := by
  have e5 := (hΛ 5 (by decide) (by decide)).trans zl_5
  intro n
  induction n with
  | zero => intro _ _; exact ze_none
  | succ n ih =>
    intro x2 s3
    rw [f_X2_readToken_5]
    refine ze_iload_n h dX2_readToken_5 rfl ?_
    refine ze_aload_n h dX2_readToken_6 rfl ?_
    refine ze_getI h e5 rfl zf_X2_21 dX2_readToken_7 ?_
    refine ze_icmp_ge h 37 dX2_readToken_10 (by decide) ?_ ?_
    · refine zE_weak h [true, false] rfl ?_
      exact hc37 s3
    · refine ze_aload_n h dX2_readToken_13 rfl ?_
      refine ze_iload_n h dX2_readToken_14 rfl ?_
      refine ze_callVi h (st := []) zce_X2_byteAt zi_X2_byteAt zs_X2_byteAt zm_X2_84 e5 rfl rfl (Nat.le_of_ble_eq_true rfl) zkn (c_X2_byteAt l Λ hΛ x2 s3) rfl (Nat.le_of_ble_eq_true rfl) rfl dX2_readToken_15 (fun r4 s5 => ?_)
      refine ze_callSi h (st := []) zce_X2_isBlank zt_X2_isBlank zm_X2_87 (Nat.le_of_ble_eq_true rfl) zkn (c_X2_isBlank l Λ r4 s5) rfl (Nat.le_of_ble_eq_true rfl) rfl dX2_readToken_18 (fun r6 s7 => ?_)
      refine ze_if_eq h 37 dX2_readToken_21 (by decide) ?_ ?_
      · refine zE_weak h [true, false] rfl ?_
        exact hc37 s7
      · refine ze_aload_n h dX2_readToken_24 rfl ?_
        refine ze_iload_n h dX2_readToken_25 rfl ?_
        refine ze_iconst h 1 dX2_readToken_26 zk_i_1 ?_
        refine ze_iadd h dX2_readToken_27 ?_
        refine ze_putI h e5 rfl zf_X2_25 rfl rfl dX2_readToken_28 ?_
        refine ze_nmS (fun s8 => ?_)
        refine ze_iincN h (fun y9 => [some (.ref 5), some (.int y9)]) 1 dX2_readToken_31 rfl zk_i_1 rfl (by decide) (fun _ => rfl) (fun x9 => ?_)
        refine ze_goto h 5 dX2_readToken_34 (by decide) ?_
        exact ih x9 s8
set_option maxRecDepth 20000 in
theorem e_X2_readToken_37 {l : Launch} {G : zGT} {T : Option Value × zMem} {Λ : zLay} (h : zOk G l cX2_readToken RX2 2 7 0 0 false) (hR : zR G cX2_readToken none T Λ 0 0) (hΛ : zHasT Λ)  : ∀ (s11 : zMem), zE G T (fun _ : Unit => none) Λ 0 0 37 [some (.ref 5), none] [] s11 (f_X2_readToken_37  s11) := by
  have e5 := (hΛ 5 (by decide) (by decide)).trans zl_5
  intro s11
  unfold f_X2_readToken_37
  refine ze_aload_n h dX2_readToken_37 rfl ?_
  refine ze_aload_n h dX2_readToken_38 rfl ?_
  refine ze_getI h e5 rfl zf_X2_25 dX2_readToken_39 ?_
  refine ze_putI h e5 rfl zf_X2_50 rfl rfl dX2_readToken_42 ?_
  refine ze_nmS (fun s12 => ?_)
  refine ze_aload_n h dX2_readToken_45 rfl ?_
  refine ze_aload_n h dX2_readToken_46 rfl ?_
  refine ze_getI h e5 rfl zf_X2_50 dX2_readToken_47 ?_
  refine ze_callVi h (st := []) zce_X2_byteAt zi_X2_byteAt zs_X2_byteAt zm_X2_84 e5 rfl rfl (Nat.le_of_ble_eq_true rfl) zkn (c_X2_byteAt l Λ hΛ (s12 5 6) s12) rfl (Nat.le_of_ble_eq_true rfl) rfl dX2_readToken_50 (fun r13 s14 => ?_)
  refine ze_istore_n h [some (.ref 5), some (.int r13)] dX2_readToken_53 rfl (by decide) rfl ?_
  refine ze_aload_n h dX2_readToken_54 rfl ?_
  refine ze_getI h e5 rfl zf_X2_50 dX2_readToken_55 ?_
  refine ze_aload_n h dX2_readToken_58 rfl ?_
  refine ze_getI h e5 rfl zf_X2_21 dX2_readToken_59 ?_
  refine ze_pc 62 rfl ?_
  refine ze_icmp_lt h 73 dX2_readToken_62 (by decide) ?_ ?_
  · refine ze_iload_n h dX2_readToken_73 rfl ?_
    refine ze_callSi h (st := []) zce_X2_isLetter zt_X2_isLetter zm_X2_90 (Nat.le_of_ble_eq_true rfl) zkn (c_X2_isLetter l Λ r13 s14) rfl (Nat.le_of_ble_eq_true rfl) rfl dX2_readToken_74 (fun r15 s16 => ?_)
    refine ze_if_eq h 119 dX2_readToken_77 (by decide) ?_ ?_
    · refine ze_iload_n h dX2_readToken_119 rfl ?_
      refine ze_callSi h (st := []) zce_X2_isDigit zt_X2_isDigit zm_X2_103 (Nat.le_of_ble_eq_true rfl) zkn (c_X2_isDigit l Λ r13 s16) rfl (Nat.le_of_ble_eq_true rfl) rfl dX2_readToken_120 (fun r17 s18 => ?_)
      refine ze_if_eq h 133 dX2_readToken_123 (by decide) ?_ ?_
      · refine ze_aload_n h dX2_readToken_133 rfl ?_
        refine ze_aload_n h dX2_readToken_134 rfl ?_
        refine ze_getI h e5 rfl zf_X2_50 dX2_readToken_135 ?_
        refine ze_iconst h 1 dX2_readToken_138 zk_i_1 ?_
        refine ze_iadd h dX2_readToken_139 ?_
        refine ze_putI h e5 rfl zf_X2_25 rfl rfl dX2_readToken_140 ?_
        refine ze_nmS (fun s19 => ?_)
        refine ze_aload_n h dX2_readToken_143 rfl ?_
        refine ze_iload_n h dX2_readToken_144 rfl ?_
        refine ze_callSi h (st := [.ref 5]) zce_X2_isSign zt_X2_isSign zm_X2_109 (Nat.le_of_ble_eq_true rfl) zkn (c_X2_isSign l Λ r13 s19) rfl (Nat.le_of_ble_eq_true rfl) rfl dX2_readToken_145 (fun r20 s21 => ?_)
        refine ze_if_eq h 155 dX2_readToken_148 (by decide) ?_ ?_
        · refine ze_iconst h 1 dX2_readToken_155 zk_i_1 ?_
          refine ze_putI h e5 rfl zf_X2_44 rfl rfl dX2_readToken_156 ?_
          refine ze_nmS (fun s22 => ?_)
          exact ze_vret hR dX2_readToken_159
        · refine ze_iload_n h dX2_readToken_151 rfl ?_
          refine ze_goto h 156 dX2_readToken_152 (by decide) ?_
          refine ze_putI h e5 rfl zf_X2_44 rfl rfl dX2_readToken_156 ?_
          refine ze_nmS (fun s23 => ?_)
          exact ze_vret hR dX2_readToken_159
      · refine ze_aload_n h dX2_readToken_126 rfl ?_
        refine ze_callVv h (st := []) zce_X2_readNumber zi_X2_readNumber zs_X2_readNumber zm_X2_106 e5 rfl rfl (Nat.le_of_ble_eq_true rfl) zkn (c_X2_readNumber l Λ hΛ s18) rfl (Nat.le_of_ble_eq_true rfl) rfl dX2_readToken_127 (fun _ s25 => ?_)
        refine ze_goto h 159 dX2_readToken_130 (by decide) ?_
        exact ze_vret hR dX2_readToken_159
    · refine ze_aload_n h dX2_readToken_80 rfl ?_
      refine ze_aload_n h dX2_readToken_81 rfl ?_
      refine ze_callVi h (st := [.ref 5]) zce_X2_endOfWord zi_X2_endOfWord zs_X2_endOfWord zm_X2_93 e5 rfl rfl (Nat.le_of_ble_eq_true rfl) zkn (c_X2_endOfWord l Λ hΛ s16) rfl (Nat.le_of_ble_eq_true rfl) rfl dX2_readToken_82 (fun r26 s27 => ?_)
      refine ze_putI h e5 rfl zf_X2_25 rfl rfl dX2_readToken_85 ?_
      refine ze_nmS (fun s28 => ?_)
      refine ze_aload_n h dX2_readToken_88 rfl ?_
      refine ze_aload_n h dX2_readToken_89 rfl ?_
      refine ze_callVi h (st := [.ref 5]) zce_X2_nameRead zi_X2_nameRead zs_X2_nameRead zm_X2_97 e5 rfl rfl (Nat.le_of_ble_eq_true rfl) zkn (c_X2_nameRead l Λ hΛ s28) rfl (Nat.le_of_ble_eq_true rfl) rfl dX2_readToken_90 (fun r29 s30 => ?_)
      refine ze_putI h e5 rfl zf_X2_77 rfl rfl dX2_readToken_93 ?_
      refine ze_nmS (fun s31 => ?_)
      refine ze_aload_n h dX2_readToken_96 rfl ?_
      refine ze_aload_n h dX2_readToken_97 rfl ?_
      refine ze_getI h e5 rfl zf_X2_77 dX2_readToken_98 ?_
      refine ze_iconst h (-1) dX2_readToken_101 zk_i_m1 ?_
      refine ze_icmp_ne h 112 dX2_readToken_102 (by decide) ?_ ?_
      · refine ze_iconst h 3 dX2_readToken_112 zk_i_3 ?_
        refine ze_putI h e5 rfl zf_X2_44 rfl rfl dX2_readToken_113 ?_
        refine ze_nmS (fun s32 => ?_)
        refine ze_goto h 159 dX2_readToken_116 (by decide) ?_
        exact ze_vret hR dX2_readToken_159
      · refine ze_aload_n h dX2_readToken_105 rfl ?_
        refine ze_callVi h (st := [.ref 5]) zce_X2_keyRead zi_X2_keyRead zs_X2_keyRead zm_X2_100 e5 rfl rfl (Nat.le_of_ble_eq_true rfl) zkn (c_X2_keyRead l Λ hΛ s31) rfl (Nat.le_of_ble_eq_true rfl) rfl dX2_readToken_106 (fun r33 s34 => ?_)
        refine ze_goto h 113 dX2_readToken_109 (by decide) ?_
        refine ze_putI h e5 rfl zf_X2_44 rfl rfl dX2_readToken_113 ?_
        refine ze_nmS (fun s35 => ?_)
        refine ze_goto h 159 dX2_readToken_116 (by decide) ?_
        exact ze_vret hR dX2_readToken_159
  · refine ze_aload_n h dX2_readToken_65 rfl ?_
    refine ze_iconst h 0 dX2_readToken_66 zk_i_0 ?_
    refine ze_putI h e5 rfl zf_X2_44 rfl rfl dX2_readToken_67 ?_
    refine ze_nmS (fun s36 => ?_)
    refine ze_goto h 159 dX2_readToken_70 (by decide) ?_
    exact ze_vret hR dX2_readToken_159
set_option maxRecDepth 20000 in
theorem c_X2_readToken (l : Launch) (Λ : zLay) (hΛ : zHasT Λ)  (s0 : zMem) : zC l yX2_readToken (.code yX2_readToken cX2_readToken 2 none) 7 [.ref 5] Λ s0 (fun _ : Unit => none) (f_X2_readToken s0) := by
  refine zC_of (own := RX2) rfl rfl (Nat.le_of_ble_eq_true rfl) [some (.ref 5), none] rfl (fun G T h hR => ?_)
  have e5 := (hΛ 5 (by decide) (by decide)).trans zl_5
  unfold f_X2_readToken
  refine ze_aload_n h dX2_readToken_0 rfl ?_
  refine ze_getI h e5 rfl zf_X2_25 dX2_readToken_1 ?_
  refine ze_nmI (fun x1 => ?_)
  refine ze_istore_n h [some (.ref 5), some (.int x1)] dX2_readToken_4 rfl (by decide) rfl ?_
  refine e_X2_readToken_5 h hR hΛ _ ?_ zN x1 s0
  · intro s10
    exact e_X2_readToken_37 h hR hΛ  s10
set_option maxRecDepth 20000 in
theorem c_X2_fail (l : Launch) (Λ : zLay) (hΛ : zHasT Λ)  (s0 : zMem) : zC l yX2_fail (.code yX2_fail cX2_fail 1 none) 1 [.ref 5] Λ s0 (fun _ : Unit => none) (f_X2_fail s0) := by
  refine zC_of (own := RX2) rfl rfl (Nat.le_of_ble_eq_true rfl) [some (.ref 5)] rfl (fun G T h hR => ?_)
  have e5 := (hΛ 5 (by decide) (by decide)).trans zl_5
  unfold f_X2_fail
  refine ze_aload_n h dX2_fail_0 rfl ?_
  refine ze_getI h e5 rfl zf_X2_31 dX2_fail_1 ?_
  refine ze_iconst h (-1) dX2_fail_4 zk_i_m1 ?_
  refine ze_icmp_ne h 16 dX2_fail_5 (by decide) ?_ ?_
  · refine ze_aload_n h dX2_fail_16 rfl ?_
    refine ze_iconst h 1 dX2_fail_17 zk_i_1 ?_
    refine ze_putI h e5 rfl zf_X2_44 rfl rfl dX2_fail_18 ?_
    refine ze_nmS (fun s1 => ?_)
    exact ze_vret hR dX2_fail_21
  · refine ze_aload_n h dX2_fail_8 rfl ?_
    refine ze_aload_n h dX2_fail_9 rfl ?_
    refine ze_getI h e5 rfl zf_X2_50 dX2_fail_10 ?_
    refine ze_putI h e5 rfl zf_X2_31 rfl rfl dX2_fail_13 ?_
    refine ze_nmS (fun s2 => ?_)
    refine ze_aload_n h dX2_fail_16 rfl ?_
    refine ze_iconst h 1 dX2_fail_17 zk_i_1 ?_
    refine ze_putI h e5 rfl zf_X2_44 rfl rfl dX2_fail_18 ?_
    refine ze_nmS (fun s3 => ?_)
    exact ze_vret hR dX2_fail_21
set_option maxRecDepth 20000 in
theorem c_X2_opens (l : Launch) (Λ : zLay) (hΛ : zHasT Λ) (p1 : Int32) (s0 : zMem) : zC l yX2_opens (.code yX2_opens cX2_opens 2 (some .boolean)) 8 [.ref 5, .int p1] Λ s0 (fun r : Int32 => some (.int r)) (f_X2_opens p1 s0) := by
  refine zC_of (own := RX2) rfl rfl (Nat.le_of_ble_eq_true rfl) [some (.ref 5), some (.int p1)] rfl (fun G T h hR => ?_)
  have e5 := (hΛ 5 (by decide) (by decide)).trans zl_5
  unfold f_X2_opens
  refine ze_iload_n h dX2_opens_0 rfl ?_
  refine ze_iconst h 5 dX2_opens_1 zk_i_5 ?_
  refine ze_icmp_lt h 11 dX2_opens_2 (by decide) ?_ ?_
  · refine ze_aload_n h dX2_opens_11 rfl ?_
    refine ze_callVv h (st := []) zce_X2_readToken zi_X2_readToken zs_X2_readToken zm_X2_34 e5 rfl rfl (Nat.le_of_ble_eq_true rfl) zkn (c_X2_readToken l Λ hΛ s0) rfl (Nat.le_of_ble_eq_true rfl) rfl dX2_opens_12 (fun _ s2 => ?_)
    refine ze_iconst h 1 dX2_opens_15 zk_i_1 ?_
    exact ze_zret hR rfl dX2_opens_16
  · refine ze_aload_n h dX2_opens_5 rfl ?_
    refine ze_callVv h (st := []) zce_X2_fail zi_X2_fail zs_X2_fail zm_X2_47 e5 rfl rfl (Nat.le_of_ble_eq_true rfl) zkn (c_X2_fail l Λ hΛ s0) rfl (Nat.le_of_ble_eq_true rfl) rfl dX2_opens_6 (fun _ s4 => ?_)
    refine ze_iconst h 0 dX2_opens_9 zk_i_0 ?_
    exact ze_zret hR rfl dX2_opens_10
set_option maxRecDepth 20000 in
theorem c_X0_ofName (l : Launch) (Λ : zLay) (p1 : Int32) (s0 : zMem) : zC l yX0_ofName (.code yX0_ofName cX0_ofName 1 (some .int)) 1 [.int p1] Λ s0 (fun r : Int32 => some (.int r)) (f_X0_ofName p1 s0) := by
  refine zC_of (own := RX0) rfl rfl (Nat.le_of_ble_eq_true rfl) [some (.int p1)] rfl (fun G T h hR => ?_)
  unfold f_X0_ofName
  refine ze_iconst h (-1) dX0_ofName_0 zk_i_m1 ?_
  refine ze_iload_n h dX0_ofName_1 rfl ?_
  refine ze_isub h dX0_ofName_2 ?_
  exact ze_iret hR dX0_ofName_3
set_option maxRecDepth 20000 in
theorem c_X2_expect (l : Launch) (Λ : zLay) (hΛ : zHasT Λ) (p1 : Int32) (s0 : zMem) : zC l yX2_expect (.code yX2_expect cX2_expect 2 none) 8 [.ref 5, .int p1] Λ s0 (fun _ : Unit => none) (f_X2_expect p1 s0) := by
  refine zC_of (own := RX2) rfl rfl (Nat.le_of_ble_eq_true rfl) [some (.ref 5), some (.int p1)] rfl (fun G T h hR => ?_)
  have e5 := (hΛ 5 (by decide) (by decide)).trans zl_5
  unfold f_X2_expect
  refine ze_aload_n h dX2_expect_0 rfl ?_
  refine ze_getI h e5 rfl zf_X2_44 dX2_expect_1 ?_
  refine ze_iload_n h dX2_expect_4 rfl ?_
  refine ze_icmp_ne h 15 dX2_expect_5 (by decide) ?_ ?_
  · refine ze_aload_n h dX2_expect_15 rfl ?_
    refine ze_callVv h (st := []) zce_X2_fail zi_X2_fail zs_X2_fail zm_X2_47 e5 rfl rfl (Nat.le_of_ble_eq_true rfl) zkn (c_X2_fail l Λ hΛ s0) rfl (Nat.le_of_ble_eq_true rfl) rfl dX2_expect_16 (fun _ s2 => ?_)
    exact ze_vret hR dX2_expect_19
  · refine ze_aload_n h dX2_expect_8 rfl ?_
    refine ze_callVv h (st := []) zce_X2_readToken zi_X2_readToken zs_X2_readToken zm_X2_34 e5 rfl rfl (Nat.le_of_ble_eq_true rfl) zkn (c_X2_readToken l Λ hΛ s0) rfl (Nat.le_of_ble_eq_true rfl) rfl dX2_expect_9 (fun _ s4 => ?_)
    refine ze_goto h 19 dX2_expect_12 (by decide) ?_
    exact ze_vret hR dX2_expect_19
set_option maxRecDepth 20000 in
theorem c_X2_takeByte (l : Launch) (Λ : zLay) (hΛ : zHasT Λ) (p1 : Int32) (s0 : zMem) : zC l yX2_takeByte (.code yX2_takeByte cX2_takeByte 2 none) 1 [.ref 5, .int p1] Λ s0 (fun _ : Unit => none) (f_X2_takeByte p1 s0) := by
  refine zC_of (own := RX2) rfl rfl (Nat.le_of_ble_eq_true rfl) [some (.ref 5), some (.int p1)] rfl (fun G T h hR => ?_)
  have e5 := (hΛ 5 (by decide) (by decide)).trans zl_5
  have e6 := (hΛ 6 (by decide) (by decide)).trans zl_6
  unfold f_X2_takeByte
  refine ze_aload_n h dX2_takeByte_0 rfl ?_
  refine ze_getI h e5 rfl zf_X2_21 dX2_takeByte_1 ?_
  refine ze_aload_n h dX2_takeByte_4 rfl ?_
  refine ze_getR h e5 rfl zf_X2_9 dX2_takeByte_5 ?_
  refine ze_alen h (v := 160) e6 zk_n_160 dX2_takeByte_8 ?_
  refine ze_icmp_ge h 32 dX2_takeByte_9 (by decide) ?_ ?_
  · exact ze_vret hR dX2_takeByte_32
  · refine ze_aload_n h dX2_takeByte_12 rfl ?_
    refine ze_getR h e5 rfl zf_X2_9 dX2_takeByte_13 ?_
    refine ze_aload_n h dX2_takeByte_16 rfl ?_
    refine ze_getI h e5 rfl zf_X2_21 dX2_takeByte_17 ?_
    refine ze_iload_n h dX2_takeByte_20 rfl ?_
    refine ze_iastG h e6 dX2_takeByte_21 ?_
    refine ze_nmS (fun s1 => ?_)
    refine ze_aload_n h dX2_takeByte_22 rfl ?_
    refine ze_dup h dX2_takeByte_23 rfl ?_
    refine ze_getI h e5 rfl zf_X2_21 dX2_takeByte_24 ?_
    refine ze_iconst h 1 dX2_takeByte_27 zk_i_1 ?_
    refine ze_iadd h dX2_takeByte_28 ?_
    refine ze_putI h e5 rfl zf_X2_21 rfl rfl dX2_takeByte_29 ?_
    refine ze_nmS (fun s2 => ?_)
    exact ze_vret hR dX2_takeByte_32
set_option maxRecDepth 20000 in
theorem c_X6_isByte (l : Launch) (Λ : zLay) (p1 : Int32) (s0 : zMem) : zC l yX6_isByte (.code yX6_isByte cX6_isByte 1 (some .boolean)) 2 [.int p1] Λ s0 (fun r : Int32 => some (.int r)) (f_X6_isByte p1 s0) := by
  refine zC_of (own := RX6) rfl rfl (Nat.le_of_ble_eq_true rfl) [some (.int p1)] rfl (fun G T h hR => ?_)
  unfold f_X6_isByte
  refine ze_iload_n h dX6_isByte_0 rfl ?_
  refine ze_iconst h 0 dX6_isByte_1 zk_i_0 ?_
  refine ze_sipush h 255 dX6_isByte_2 zk_s_255 ?_
  refine ze_callSi h (st := []) zce_X6_isFromTo zt_X6_isFromTo zm_X6_101 (Nat.le_of_ble_eq_true rfl) zkn (c_X6_isFromTo l Λ p1 0 255 s0) rfl (Nat.le_of_ble_eq_true rfl) rfl dX6_isByte_5 (fun r1 s2 => ?_)
  exact ze_zretG hR dX6_isByte_8
set_option maxRecDepth 20000 in
theorem c_X2_clear (l : Launch) (Λ : zLay) (hΛ : zHasT Λ)  (s0 : zMem) : zC l yX2_clear (.code yX2_clear cX2_clear 1 none) 1 [.ref 5] Λ s0 (fun _ : Unit => none) (f_X2_clear s0) := by
  refine zC_of (own := RX2) rfl rfl (Nat.le_of_ble_eq_true rfl) [some (.ref 5)] rfl (fun G T h hR => ?_)
  have e5 := (hΛ 5 (by decide) (by decide)).trans zl_5
  unfold f_X2_clear
  refine ze_aload_n h dX2_clear_0 rfl ?_
  refine ze_iconst h 0 dX2_clear_1 zk_i_0 ?_
  refine ze_putI h e5 rfl zf_X2_21 rfl rfl dX2_clear_2 ?_
  refine ze_nmS (fun s1 => ?_)
  exact ze_vret hR dX2_clear_5
set_option maxRecDepth 20000 in
theorem e_X2_readOr_7 {l : Launch} {G : zGT} {T : Option Value × zMem} {Λ : zLay} {d9 dd9 : Nat} (h : zOk G l cX2_readOr RX2 3 d9 0 0 false) (hR : zR G cX2_readOr none T Λ 0 0) (hΛ : zHasT Λ) (rc : Nat → Int32 → zMem → Option (Unit × zMem)) (hrc0 : ∀ (o : Int32) (s : zMem), zC l yX2_readOr (.code yX2_readOr cX2_readOr 3 none) dd9 [.ref 5, .int o] Λ s (fun _ : Unit => none) (rc 0 o s)) (hrc1 : ∀ (o : Int32) (s : zMem), zC l yX2_readAnd (.code yX2_readAnd cX2_readAnd 3 none) dd9 [.ref 5, .int o] Λ s (fun _ : Unit => none) (rc 1 o s)) (hrc2 : ∀ (o : Int32) (s : zMem), zC l yX2_readNot (.code yX2_readNot cX2_readNot 3 none) dd9 [.ref 5, .int o] Λ s (fun _ : Unit => none) (rc 2 o s)) (hrc3 : ∀ (o : Int32) (s : zMem), zC l yX2_readSum (.code yX2_readSum cX2_readSum 4 none) dd9 [.ref 5, .int o] Λ s (fun _ : Unit => none) (rc 3 o s)) (hrc4 : ∀ (o : Int32) (s : zMem), zC l yX2_readTerm (.code yX2_readTerm cX2_readTerm 3 none) dd9 [.ref 5, .int o] Λ s (fun _ : Unit => none) (rc 4 o s)) (hrc5 : ∀ (o : Int32) (s : zMem), zC l yX2_readOne (.code yX2_readOne cX2_readOne 2 none) dd9 [.ref 5, .int o] Λ s (fun _ : Unit => none) (rc 5 o s)) (hd9 : dd9 + 1 ≤ d9 ∧ 12 ≤ d9)  : ∀ (n : Nat) (x3 : Int32) (x4 : Int32) (s5 : zMem), zE G T (fun _ : Unit => none) Λ 0 0 7 [some (.ref 5), some (.int x3), some (.int x4)] [] s5 (f_X2_readOr_7 rc n x3 x4 s5) := by
  have e5 := (hΛ 5 (by decide) (by decide)).trans zl_5
  intro n
  induction n with
  | zero => intro _ _ _; exact ze_none
  | succ n ih =>
    intro x3 x4 s5
    rw [f_X2_readOr_7]
    refine ze_iload_n h dX2_readOr_7 rfl ?_
    refine ze_sipush h 160 dX2_readOr_8 zk_s_160 ?_
    refine ze_icmp_ge h 44 dX2_readOr_11 (by decide) ?_ ?_
    · exact ze_vret hR dX2_readOr_44
    · refine ze_aload_n h dX2_readOr_14 rfl ?_
      refine ze_getI h e5 rfl zf_X2_44 dX2_readOr_15 ?_
      refine ze_bipush h 7 dX2_readOr_18 zk_b_7 ?_
      refine ze_icmp_ne h 44 dX2_readOr_20 (by decide) ?_ ?_
      · exact ze_vret hR dX2_readOr_44
      · refine ze_aload_n h dX2_readOr_23 rfl ?_
        refine ze_callVv h (st := []) zce_X2_readToken zi_X2_readToken zs_X2_readToken zm_X2_34 e5 rfl rfl (by omega) zkn (c_X2_readToken l Λ hΛ s5) rfl (Nat.le_of_ble_eq_true rfl) rfl dX2_readOr_24 (fun _ s7 => ?_)
        refine ze_aload_n h dX2_readOr_27 rfl ?_
        refine ze_iload_n h dX2_readOr_28 rfl ?_
        refine ze_callVv h (st := []) zce_X2_readAnd zi_X2_readAnd zs_X2_readAnd zm_X2_53 e5 rfl rfl (by omega) zkn (hrc1 x3 s7) rfl (Nat.le_of_ble_eq_true rfl) rfl dX2_readOr_29 (fun _ s9 => ?_)
        refine ze_aload_n h dX2_readOr_32 rfl ?_
        refine ze_bipush h (-27) dX2_readOr_33 zk_b_m27 ?_
        refine ze_callVv h (st := []) zce_X2_emit zi_X2_emit zs_X2_emit zm_X2_58 e5 rfl rfl (by omega) zkn (c_X2_emit l Λ hΛ (-27) s9) rfl (Nat.le_of_ble_eq_true rfl) rfl dX2_readOr_35 (fun _ s11 => ?_)
        refine ze_iincN h (fun y9 => [some (.ref 5), some (.int x3), some (.int y9)]) 1 dX2_readOr_38 rfl zk_i_1 rfl (by decide) (fun _ => rfl) (fun x12 => ?_)
        refine ze_goto h 7 dX2_readOr_41 (by decide) ?_
        exact ih x3 x12 s11
set_option maxRecDepth 20000 in
theorem cb_X2_readOr (l : Launch) (Λ : zLay) (hΛ : zHasT Λ) {d9 dd9 : Nat} (rc : Nat → Int32 → zMem → Option (Unit × zMem)) (hrc0 : ∀ (o : Int32) (s : zMem), zC l yX2_readOr (.code yX2_readOr cX2_readOr 3 none) dd9 [.ref 5, .int o] Λ s (fun _ : Unit => none) (rc 0 o s)) (hrc1 : ∀ (o : Int32) (s : zMem), zC l yX2_readAnd (.code yX2_readAnd cX2_readAnd 3 none) dd9 [.ref 5, .int o] Λ s (fun _ : Unit => none) (rc 1 o s)) (hrc2 : ∀ (o : Int32) (s : zMem), zC l yX2_readNot (.code yX2_readNot cX2_readNot 3 none) dd9 [.ref 5, .int o] Λ s (fun _ : Unit => none) (rc 2 o s)) (hrc3 : ∀ (o : Int32) (s : zMem), zC l yX2_readSum (.code yX2_readSum cX2_readSum 4 none) dd9 [.ref 5, .int o] Λ s (fun _ : Unit => none) (rc 3 o s)) (hrc4 : ∀ (o : Int32) (s : zMem), zC l yX2_readTerm (.code yX2_readTerm cX2_readTerm 3 none) dd9 [.ref 5, .int o] Λ s (fun _ : Unit => none) (rc 4 o s)) (hrc5 : ∀ (o : Int32) (s : zMem), zC l yX2_readOne (.code yX2_readOne cX2_readOne 2 none) dd9 [.ref 5, .int o] Λ s (fun _ : Unit => none) (rc 5 o s)) (hd9 : dd9 + 1 ≤ d9 ∧ 12 ≤ d9) (p1 : Int32) (s0 : zMem) : zC l yX2_readOr (.code yX2_readOr cX2_readOr 3 none) d9 [.ref 5, .int p1] Λ s0 (fun _ : Unit => none) (fb_X2_readOr rc p1 s0) := by
  refine zC_of (own := RX2) rfl rfl (Nat.le_of_ble_eq_true rfl) [some (.ref 5), some (.int p1), none] rfl (fun G T h hR => ?_)
  have e5 := (hΛ 5 (by decide) (by decide)).trans zl_5
  unfold fb_X2_readOr
  refine ze_aload_n h dX2_readOr_0 rfl ?_
  refine ze_iload_n h dX2_readOr_1 rfl ?_
  refine ze_callVv h (st := []) zce_X2_readAnd zi_X2_readAnd zs_X2_readAnd zm_X2_53 e5 rfl rfl (by omega) zkn (hrc1 p1 s0) rfl (Nat.le_of_ble_eq_true rfl) rfl dX2_readOr_2 (fun _ s2 => ?_)
  refine ze_iconst h 0 dX2_readOr_5 zk_i_0 ?_
  refine ze_istore_n h [some (.ref 5), some (.int p1), some (.int 0)] dX2_readOr_6 rfl (by decide) rfl ?_
  exact e_X2_readOr_7 h hR hΛ rc hrc0 hrc1 hrc2 hrc3 hrc4 hrc5 hd9  zN p1 0 s2
set_option maxRecDepth 20000 in
theorem e_X2_readAnd_7 {l : Launch} {G : zGT} {T : Option Value × zMem} {Λ : zLay} {d9 dd9 : Nat} (h : zOk G l cX2_readAnd RX2 3 d9 0 0 false) (hR : zR G cX2_readAnd none T Λ 0 0) (hΛ : zHasT Λ) (rc : Nat → Int32 → zMem → Option (Unit × zMem)) (hrc0 : ∀ (o : Int32) (s : zMem), zC l yX2_readOr (.code yX2_readOr cX2_readOr 3 none) dd9 [.ref 5, .int o] Λ s (fun _ : Unit => none) (rc 0 o s)) (hrc1 : ∀ (o : Int32) (s : zMem), zC l yX2_readAnd (.code yX2_readAnd cX2_readAnd 3 none) dd9 [.ref 5, .int o] Λ s (fun _ : Unit => none) (rc 1 o s)) (hrc2 : ∀ (o : Int32) (s : zMem), zC l yX2_readNot (.code yX2_readNot cX2_readNot 3 none) dd9 [.ref 5, .int o] Λ s (fun _ : Unit => none) (rc 2 o s)) (hrc3 : ∀ (o : Int32) (s : zMem), zC l yX2_readSum (.code yX2_readSum cX2_readSum 4 none) dd9 [.ref 5, .int o] Λ s (fun _ : Unit => none) (rc 3 o s)) (hrc4 : ∀ (o : Int32) (s : zMem), zC l yX2_readTerm (.code yX2_readTerm cX2_readTerm 3 none) dd9 [.ref 5, .int o] Λ s (fun _ : Unit => none) (rc 4 o s)) (hrc5 : ∀ (o : Int32) (s : zMem), zC l yX2_readOne (.code yX2_readOne cX2_readOne 2 none) dd9 [.ref 5, .int o] Λ s (fun _ : Unit => none) (rc 5 o s)) (hd9 : dd9 + 1 ≤ d9 ∧ 12 ≤ d9)  : ∀ (n : Nat) (x3 : Int32) (x4 : Int32) (s5 : zMem), zE G T (fun _ : Unit => none) Λ 0 0 7 [some (.ref 5), some (.int x3), some (.int x4)] [] s5 (f_X2_readAnd_7 rc n x3 x4 s5) := by
  have e5 := (hΛ 5 (by decide) (by decide)).trans zl_5
  intro n
  induction n with
  | zero => intro _ _ _; exact ze_none
  | succ n ih =>
    intro x3 x4 s5
    rw [f_X2_readAnd_7]
    refine ze_iload_n h dX2_readAnd_7 rfl ?_
    refine ze_sipush h 160 dX2_readAnd_8 zk_s_160 ?_
    refine ze_icmp_ge h 44 dX2_readAnd_11 (by decide) ?_ ?_
    · exact ze_vret hR dX2_readAnd_44
    · refine ze_aload_n h dX2_readAnd_14 rfl ?_
      refine ze_getI h e5 rfl zf_X2_44 dX2_readAnd_15 ?_
      refine ze_bipush h 8 dX2_readAnd_18 zk_b_8 ?_
      refine ze_icmp_ne h 44 dX2_readAnd_20 (by decide) ?_ ?_
      · exact ze_vret hR dX2_readAnd_44
      · refine ze_aload_n h dX2_readAnd_23 rfl ?_
        refine ze_callVv h (st := []) zce_X2_readToken zi_X2_readToken zs_X2_readToken zm_X2_34 e5 rfl rfl (by omega) zkn (c_X2_readToken l Λ hΛ s5) rfl (Nat.le_of_ble_eq_true rfl) rfl dX2_readAnd_24 (fun _ s7 => ?_)
        refine ze_aload_n h dX2_readAnd_27 rfl ?_
        refine ze_iload_n h dX2_readAnd_28 rfl ?_
        refine ze_callVv h (st := []) zce_X2_readNot zi_X2_readNot zs_X2_readNot zm_X2_61 e5 rfl rfl (by omega) zkn (hrc2 x3 s7) rfl (Nat.le_of_ble_eq_true rfl) rfl dX2_readAnd_29 (fun _ s9 => ?_)
        refine ze_aload_n h dX2_readAnd_32 rfl ?_
        refine ze_bipush h (-26) dX2_readAnd_33 zk_b_m26 ?_
        refine ze_callVv h (st := []) zce_X2_emit zi_X2_emit zs_X2_emit zm_X2_58 e5 rfl rfl (by omega) zkn (c_X2_emit l Λ hΛ (-26) s9) rfl (Nat.le_of_ble_eq_true rfl) rfl dX2_readAnd_35 (fun _ s11 => ?_)
        refine ze_iincN h (fun y9 => [some (.ref 5), some (.int x3), some (.int y9)]) 1 dX2_readAnd_38 rfl zk_i_1 rfl (by decide) (fun _ => rfl) (fun x12 => ?_)
        refine ze_goto h 7 dX2_readAnd_41 (by decide) ?_
        exact ih x3 x12 s11
set_option maxRecDepth 20000 in
theorem cb_X2_readAnd (l : Launch) (Λ : zLay) (hΛ : zHasT Λ) {d9 dd9 : Nat} (rc : Nat → Int32 → zMem → Option (Unit × zMem)) (hrc0 : ∀ (o : Int32) (s : zMem), zC l yX2_readOr (.code yX2_readOr cX2_readOr 3 none) dd9 [.ref 5, .int o] Λ s (fun _ : Unit => none) (rc 0 o s)) (hrc1 : ∀ (o : Int32) (s : zMem), zC l yX2_readAnd (.code yX2_readAnd cX2_readAnd 3 none) dd9 [.ref 5, .int o] Λ s (fun _ : Unit => none) (rc 1 o s)) (hrc2 : ∀ (o : Int32) (s : zMem), zC l yX2_readNot (.code yX2_readNot cX2_readNot 3 none) dd9 [.ref 5, .int o] Λ s (fun _ : Unit => none) (rc 2 o s)) (hrc3 : ∀ (o : Int32) (s : zMem), zC l yX2_readSum (.code yX2_readSum cX2_readSum 4 none) dd9 [.ref 5, .int o] Λ s (fun _ : Unit => none) (rc 3 o s)) (hrc4 : ∀ (o : Int32) (s : zMem), zC l yX2_readTerm (.code yX2_readTerm cX2_readTerm 3 none) dd9 [.ref 5, .int o] Λ s (fun _ : Unit => none) (rc 4 o s)) (hrc5 : ∀ (o : Int32) (s : zMem), zC l yX2_readOne (.code yX2_readOne cX2_readOne 2 none) dd9 [.ref 5, .int o] Λ s (fun _ : Unit => none) (rc 5 o s)) (hd9 : dd9 + 1 ≤ d9 ∧ 12 ≤ d9) (p1 : Int32) (s0 : zMem) : zC l yX2_readAnd (.code yX2_readAnd cX2_readAnd 3 none) d9 [.ref 5, .int p1] Λ s0 (fun _ : Unit => none) (fb_X2_readAnd rc p1 s0) := by
  refine zC_of (own := RX2) rfl rfl (Nat.le_of_ble_eq_true rfl) [some (.ref 5), some (.int p1), none] rfl (fun G T h hR => ?_)
  have e5 := (hΛ 5 (by decide) (by decide)).trans zl_5
  unfold fb_X2_readAnd
  refine ze_aload_n h dX2_readAnd_0 rfl ?_
  refine ze_iload_n h dX2_readAnd_1 rfl ?_
  refine ze_callVv h (st := []) zce_X2_readNot zi_X2_readNot zs_X2_readNot zm_X2_61 e5 rfl rfl (by omega) zkn (hrc2 p1 s0) rfl (Nat.le_of_ble_eq_true rfl) rfl dX2_readAnd_2 (fun _ s2 => ?_)
  refine ze_iconst h 0 dX2_readAnd_5 zk_i_0 ?_
  refine ze_istore_n h [some (.ref 5), some (.int p1), some (.int 0)] dX2_readAnd_6 rfl (by decide) rfl ?_
  exact e_X2_readAnd_7 h hR hΛ rc hrc0 hrc1 hrc2 hrc3 hrc4 hrc5 hd9  zN p1 0 s2
set_option maxRecDepth 20000 in
theorem e_X2_readNot_54 {l : Launch} {G : zGT} {T : Option Value × zMem} {Λ : zLay} {d9 dd9 : Nat} (h : zOk G l cX2_readNot RX2 3 d9 0 0 false) (hR : zR G cX2_readNot none T Λ 0 0) (hΛ : zHasT Λ) (rc : Nat → Int32 → zMem → Option (Unit × zMem)) (hrc0 : ∀ (o : Int32) (s : zMem), zC l yX2_readOr (.code yX2_readOr cX2_readOr 3 none) dd9 [.ref 5, .int o] Λ s (fun _ : Unit => none) (rc 0 o s)) (hrc1 : ∀ (o : Int32) (s : zMem), zC l yX2_readAnd (.code yX2_readAnd cX2_readAnd 3 none) dd9 [.ref 5, .int o] Λ s (fun _ : Unit => none) (rc 1 o s)) (hrc2 : ∀ (o : Int32) (s : zMem), zC l yX2_readNot (.code yX2_readNot cX2_readNot 3 none) dd9 [.ref 5, .int o] Λ s (fun _ : Unit => none) (rc 2 o s)) (hrc3 : ∀ (o : Int32) (s : zMem), zC l yX2_readSum (.code yX2_readSum cX2_readSum 4 none) dd9 [.ref 5, .int o] Λ s (fun _ : Unit => none) (rc 3 o s)) (hrc4 : ∀ (o : Int32) (s : zMem), zC l yX2_readTerm (.code yX2_readTerm cX2_readTerm 3 none) dd9 [.ref 5, .int o] Λ s (fun _ : Unit => none) (rc 4 o s)) (hrc5 : ∀ (o : Int32) (s : zMem), zC l yX2_readOne (.code yX2_readOne cX2_readOne 2 none) dd9 [.ref 5, .int o] Λ s (fun _ : Unit => none) (rc 5 o s)) (hd9 : dd9 + 1 ≤ d9 ∧ 12 ≤ d9)  : ∀ (x3 : Int32) (s4 : zMem), zE G T (fun _ : Unit => none) Λ 0 0 54 [some (.ref 5), some (.int x3), none] [] s4 (f_X2_readNot_54 rc  x3 s4) := by
  have e5 := (hΛ 5 (by decide) (by decide)).trans zl_5
  intro x3 s4
  unfold f_X2_readNot_54
  refine ze_aload_n h dX2_readNot_54 rfl ?_
  refine ze_getI h e5 rfl zf_X2_44 dX2_readNot_55 ?_
  refine ze_bipush h 60 dX2_readNot_58 zk_b_60 ?_
  refine ze_icmp_ne h 68 dX2_readNot_60 (by decide) ?_ ?_
  · refine ze_bipush h (-25) dX2_readNot_68 zk_b_m25 ?_
    refine ze_istore_n h [some (.ref 5), some (.int x3), some (.int (-25))] dX2_readNot_70 rfl (by decide) rfl ?_
    refine ze_aload_n h dX2_readNot_71 rfl ?_
    refine ze_callVv h (st := []) zce_X2_readToken zi_X2_readToken zs_X2_readToken zm_X2_34 e5 rfl rfl (by omega) zkn (c_X2_readToken l Λ hΛ s4) rfl (Nat.le_of_ble_eq_true rfl) rfl dX2_readNot_72 (fun _ s6 => ?_)
    refine ze_aload_n h dX2_readNot_75 rfl ?_
    refine ze_iload_n h dX2_readNot_76 rfl ?_
    refine ze_callVv h (st := []) zce_X2_readSum zi_X2_readSum zs_X2_readSum zm_X2_68 e5 rfl rfl (by omega) zkn (hrc3 x3 s6) rfl (Nat.le_of_ble_eq_true rfl) rfl dX2_readNot_77 (fun _ s8 => ?_)
    refine ze_aload_n h dX2_readNot_80 rfl ?_
    refine ze_iload_n h dX2_readNot_81 rfl ?_
    refine ze_callVv h (st := []) zce_X2_emit zi_X2_emit zs_X2_emit zm_X2_58 e5 rfl rfl (by omega) zkn (c_X2_emit l Λ hΛ (-25) s8) rfl (Nat.le_of_ble_eq_true rfl) rfl dX2_readNot_82 (fun _ s10 => ?_)
    exact ze_vret hR dX2_readNot_85
  · refine ze_bipush h (-24) dX2_readNot_63 zk_b_m24 ?_
    refine ze_goto h 70 dX2_readNot_65 (by decide) ?_
    refine ze_istore_n h [some (.ref 5), some (.int x3), some (.int (-24))] dX2_readNot_70 rfl (by decide) rfl ?_
    refine ze_aload_n h dX2_readNot_71 rfl ?_
    refine ze_callVv h (st := []) zce_X2_readToken zi_X2_readToken zs_X2_readToken zm_X2_34 e5 rfl rfl (by omega) zkn (c_X2_readToken l Λ hΛ s4) rfl (Nat.le_of_ble_eq_true rfl) rfl dX2_readNot_72 (fun _ s12 => ?_)
    refine ze_aload_n h dX2_readNot_75 rfl ?_
    refine ze_iload_n h dX2_readNot_76 rfl ?_
    refine ze_callVv h (st := []) zce_X2_readSum zi_X2_readSum zs_X2_readSum zm_X2_68 e5 rfl rfl (by omega) zkn (hrc3 x3 s12) rfl (Nat.le_of_ble_eq_true rfl) rfl dX2_readNot_77 (fun _ s14 => ?_)
    refine ze_aload_n h dX2_readNot_80 rfl ?_
    refine ze_iload_n h dX2_readNot_81 rfl ?_
    refine ze_callVv h (st := []) zce_X2_emit zi_X2_emit zs_X2_emit zm_X2_58 e5 rfl rfl (by omega) zkn (c_X2_emit l Λ hΛ (-24) s14) rfl (Nat.le_of_ble_eq_true rfl) rfl dX2_readNot_82 (fun _ s16 => ?_)
    exact ze_vret hR dX2_readNot_85
set_option maxRecDepth 20000 in
theorem cb_X2_readNot (l : Launch) (Λ : zLay) (hΛ : zHasT Λ) {d9 dd9 : Nat} (rc : Nat → Int32 → zMem → Option (Unit × zMem)) (hrc0 : ∀ (o : Int32) (s : zMem), zC l yX2_readOr (.code yX2_readOr cX2_readOr 3 none) dd9 [.ref 5, .int o] Λ s (fun _ : Unit => none) (rc 0 o s)) (hrc1 : ∀ (o : Int32) (s : zMem), zC l yX2_readAnd (.code yX2_readAnd cX2_readAnd 3 none) dd9 [.ref 5, .int o] Λ s (fun _ : Unit => none) (rc 1 o s)) (hrc2 : ∀ (o : Int32) (s : zMem), zC l yX2_readNot (.code yX2_readNot cX2_readNot 3 none) dd9 [.ref 5, .int o] Λ s (fun _ : Unit => none) (rc 2 o s)) (hrc3 : ∀ (o : Int32) (s : zMem), zC l yX2_readSum (.code yX2_readSum cX2_readSum 4 none) dd9 [.ref 5, .int o] Λ s (fun _ : Unit => none) (rc 3 o s)) (hrc4 : ∀ (o : Int32) (s : zMem), zC l yX2_readTerm (.code yX2_readTerm cX2_readTerm 3 none) dd9 [.ref 5, .int o] Λ s (fun _ : Unit => none) (rc 4 o s)) (hrc5 : ∀ (o : Int32) (s : zMem), zC l yX2_readOne (.code yX2_readOne cX2_readOne 2 none) dd9 [.ref 5, .int o] Λ s (fun _ : Unit => none) (rc 5 o s)) (hd9 : dd9 + 1 ≤ d9 ∧ 12 ≤ d9) (p1 : Int32) (s0 : zMem) : zC l yX2_readNot (.code yX2_readNot cX2_readNot 3 none) d9 [.ref 5, .int p1] Λ s0 (fun _ : Unit => none) (fb_X2_readNot rc p1 s0) := by
  refine zC_of (own := RX2) rfl rfl (Nat.le_of_ble_eq_true rfl) [some (.ref 5), some (.int p1), none] rfl (fun G T h hR => ?_)
  have e5 := (hΛ 5 (by decide) (by decide)).trans zl_5
  unfold fb_X2_readNot
  refine ze_aload_n h dX2_readNot_0 rfl ?_
  refine ze_getI h e5 rfl zf_X2_44 dX2_readNot_1 ?_
  refine ze_bipush h 9 dX2_readNot_4 zk_b_9 ?_
  refine ze_icmp_ne h 31 dX2_readNot_6 (by decide) ?_ ?_
  · refine ze_aload_n h dX2_readNot_31 rfl ?_
    refine ze_iload_n h dX2_readNot_32 rfl ?_
    refine ze_callVv h (st := []) zce_X2_readSum zi_X2_readSum zs_X2_readSum zm_X2_68 e5 rfl rfl (by omega) zkn (hrc3 p1 s0) rfl (Nat.le_of_ble_eq_true rfl) rfl dX2_readNot_33 (fun _ s2 => ?_)
    refine ze_aload_n h dX2_readNot_36 rfl ?_
    refine ze_getI h e5 rfl zf_X2_44 dX2_readNot_37 ?_
    refine ze_bipush h 60 dX2_readNot_40 zk_b_60 ?_
    refine ze_icmp_eq h 54 dX2_readNot_42 (by decide) ?_ ?_
    · exact e_X2_readNot_54 h hR hΛ rc hrc0 hrc1 hrc2 hrc3 hrc4 hrc5 hd9  p1 s2
    · refine ze_aload_n h dX2_readNot_45 rfl ?_
      refine ze_getI h e5 rfl zf_X2_44 dX2_readNot_46 ?_
      refine ze_bipush h 61 dX2_readNot_49 zk_b_61 ?_
      refine ze_icmp_ne h 85 dX2_readNot_51 (by decide) ?_ ?_
      · exact ze_vret hR dX2_readNot_85
      · exact e_X2_readNot_54 h hR hΛ rc hrc0 hrc1 hrc2 hrc3 hrc4 hrc5 hd9  p1 s2
  · refine ze_aload_n h dX2_readNot_9 rfl ?_
    refine ze_iload_n h dX2_readNot_10 rfl ?_
    refine ze_callVi h (st := []) zce_X2_opens zi_X2_opens zs_X2_opens zm_X2_64 e5 rfl rfl (by omega) zkn (c_X2_opens l Λ hΛ p1 s0) rfl (Nat.le_of_ble_eq_true rfl) rfl dX2_readNot_11 (fun r17 s18 => ?_)
    refine ze_if_eq h 30 dX2_readNot_14 (by decide) ?_ ?_
    · exact ze_vret hR dX2_readNot_30
    · refine ze_aload_n h dX2_readNot_17 rfl ?_
      refine ze_iload_n h dX2_readNot_18 rfl ?_
      refine ze_iconst h 1 dX2_readNot_19 zk_i_1 ?_
      refine ze_iadd h dX2_readNot_20 ?_
      refine ze_callVv h (st := []) zce_X2_readNot zi_X2_readNot zs_X2_readNot zm_X2_61 e5 rfl rfl (by omega) zkn (hrc2 (p1 + 1) s18) rfl (Nat.le_of_ble_eq_true rfl) rfl dX2_readNot_21 (fun _ s20 => ?_)
      refine ze_aload_n h dX2_readNot_24 rfl ?_
      refine ze_bipush h (-12) dX2_readNot_25 zk_b_m12 ?_
      refine ze_callVv h (st := []) zce_X2_emit zi_X2_emit zs_X2_emit zm_X2_58 e5 rfl rfl (by omega) zkn (c_X2_emit l Λ hΛ (-12) s20) rfl (Nat.le_of_ble_eq_true rfl) rfl dX2_readNot_27 (fun _ s22 => ?_)
      exact ze_vret hR dX2_readNot_30
set_option maxRecDepth 20000 in
theorem e_X2_readSum_32 {l : Launch} {G : zGT} {T : Option Value × zMem} {Λ : zLay} {d9 dd9 : Nat} (h : zOk G l cX2_readSum RX2 4 d9 0 0 false) (hR : zR G cX2_readSum none T Λ 0 0) (hΛ : zHasT Λ) (rc : Nat → Int32 → zMem → Option (Unit × zMem)) (hrc0 : ∀ (o : Int32) (s : zMem), zC l yX2_readOr (.code yX2_readOr cX2_readOr 3 none) dd9 [.ref 5, .int o] Λ s (fun _ : Unit => none) (rc 0 o s)) (hrc1 : ∀ (o : Int32) (s : zMem), zC l yX2_readAnd (.code yX2_readAnd cX2_readAnd 3 none) dd9 [.ref 5, .int o] Λ s (fun _ : Unit => none) (rc 1 o s)) (hrc2 : ∀ (o : Int32) (s : zMem), zC l yX2_readNot (.code yX2_readNot cX2_readNot 3 none) dd9 [.ref 5, .int o] Λ s (fun _ : Unit => none) (rc 2 o s)) (hrc3 : ∀ (o : Int32) (s : zMem), zC l yX2_readSum (.code yX2_readSum cX2_readSum 4 none) dd9 [.ref 5, .int o] Λ s (fun _ : Unit => none) (rc 3 o s)) (hrc4 : ∀ (o : Int32) (s : zMem), zC l yX2_readTerm (.code yX2_readTerm cX2_readTerm 3 none) dd9 [.ref 5, .int o] Λ s (fun _ : Unit => none) (rc 4 o s)) (hrc5 : ∀ (o : Int32) (s : zMem), zC l yX2_readOne (.code yX2_readOne cX2_readOne 2 none) dd9 [.ref 5, .int o] Λ s (fun _ : Unit => none) (rc 5 o s)) (hd9 : dd9 + 1 ≤ d9 ∧ 12 ≤ d9) (c7 : Int32 → Int32 → zMem → Option (Unit × zMem)) (hc7 : ∀ (y1 : Int32) (y2 : Int32) (s9 : zMem), zE G T (fun _ : Unit => none) Λ 0 0 7 [some (.ref 5), some (.int y1), some (.int y2), none] [] s9 (c7 y1 y2 s9)) : ∀ (x6 : Int32) (x7 : Int32) (s8 : zMem), zE G T (fun _ : Unit => none) Λ 0 0 32 [some (.ref 5), some (.int x6), some (.int x7), none] [] s8 (f_X2_readSum_32 rc c7  x6 x7 s8) := by
  have e5 := (hΛ 5 (by decide) (by decide)).trans zl_5
  intro x6 x7 s8
  unfold f_X2_readSum_32
  refine ze_aload_n h dX2_readSum_32 rfl ?_
  refine ze_getI h e5 rfl zf_X2_44 dX2_readSum_33 ?_
  refine ze_bipush h 43 dX2_readSum_36 zk_b_43 ?_
  refine ze_icmp_ne h 46 dX2_readSum_38 (by decide) ?_ ?_
  · refine ze_bipush h (-22) dX2_readSum_46 zk_b_m22 ?_
    refine ze_istore_n h [some (.ref 5), some (.int x6), some (.int x7), some (.int (-22))] dX2_readSum_48 rfl (by decide) rfl ?_
    refine ze_aload_n h dX2_readSum_49 rfl ?_
    refine ze_callVv h (st := []) zce_X2_readToken zi_X2_readToken zs_X2_readToken zm_X2_34 e5 rfl rfl (by omega) zkn (c_X2_readToken l Λ hΛ s8) rfl (Nat.le_of_ble_eq_true rfl) rfl dX2_readSum_50 (fun _ s10 => ?_)
    refine ze_aload_n h dX2_readSum_53 rfl ?_
    refine ze_iload_n h dX2_readSum_54 rfl ?_
    refine ze_callVv h (st := []) zce_X2_readTerm zi_X2_readTerm zs_X2_readTerm zm_X2_71 e5 rfl rfl (by omega) zkn (hrc4 x6 s10) rfl (Nat.le_of_ble_eq_true rfl) rfl dX2_readSum_55 (fun _ s12 => ?_)
    refine ze_aload_n h dX2_readSum_58 rfl ?_
    refine ze_iload_n h dX2_readSum_59 rfl ?_
    refine ze_callVv h (st := []) zce_X2_emit zi_X2_emit zs_X2_emit zm_X2_58 e5 rfl rfl (by omega) zkn (c_X2_emit l Λ hΛ (-22) s12) rfl (Nat.le_of_ble_eq_true rfl) rfl dX2_readSum_60 (fun _ s14 => ?_)
    refine ze_iincN h (fun y9 => [some (.ref 5), some (.int x6), some (.int y9), some (.int (-22))]) 1 dX2_readSum_63 rfl zk_i_1 rfl (by decide) (fun _ => rfl) (fun x15 => ?_)
    refine ze_goto h 7 dX2_readSum_66 (by decide) ?_
    refine zE_weak h [true, true, true, false] rfl ?_
    exact hc7 x6 x15 s14
  · refine ze_bipush h (-21) dX2_readSum_41 zk_b_m21 ?_
    refine ze_goto h 48 dX2_readSum_43 (by decide) ?_
    refine ze_istore_n h [some (.ref 5), some (.int x6), some (.int x7), some (.int (-21))] dX2_readSum_48 rfl (by decide) rfl ?_
    refine ze_aload_n h dX2_readSum_49 rfl ?_
    refine ze_callVv h (st := []) zce_X2_readToken zi_X2_readToken zs_X2_readToken zm_X2_34 e5 rfl rfl (by omega) zkn (c_X2_readToken l Λ hΛ s8) rfl (Nat.le_of_ble_eq_true rfl) rfl dX2_readSum_50 (fun _ s17 => ?_)
    refine ze_aload_n h dX2_readSum_53 rfl ?_
    refine ze_iload_n h dX2_readSum_54 rfl ?_
    refine ze_callVv h (st := []) zce_X2_readTerm zi_X2_readTerm zs_X2_readTerm zm_X2_71 e5 rfl rfl (by omega) zkn (hrc4 x6 s17) rfl (Nat.le_of_ble_eq_true rfl) rfl dX2_readSum_55 (fun _ s19 => ?_)
    refine ze_aload_n h dX2_readSum_58 rfl ?_
    refine ze_iload_n h dX2_readSum_59 rfl ?_
    refine ze_callVv h (st := []) zce_X2_emit zi_X2_emit zs_X2_emit zm_X2_58 e5 rfl rfl (by omega) zkn (c_X2_emit l Λ hΛ (-21) s19) rfl (Nat.le_of_ble_eq_true rfl) rfl dX2_readSum_60 (fun _ s21 => ?_)
    refine ze_iincN h (fun y9 => [some (.ref 5), some (.int x6), some (.int y9), some (.int (-21))]) 1 dX2_readSum_63 rfl zk_i_1 rfl (by decide) (fun _ => rfl) (fun x22 => ?_)
    refine ze_goto h 7 dX2_readSum_66 (by decide) ?_
    refine zE_weak h [true, true, true, false] rfl ?_
    exact hc7 x6 x22 s21
set_option maxRecDepth 20000 in
theorem e_X2_readSum_7 {l : Launch} {G : zGT} {T : Option Value × zMem} {Λ : zLay} {d9 dd9 : Nat} (h : zOk G l cX2_readSum RX2 4 d9 0 0 false) (hR : zR G cX2_readSum none T Λ 0 0) (hΛ : zHasT Λ) (rc : Nat → Int32 → zMem → Option (Unit × zMem)) (hrc0 : ∀ (o : Int32) (s : zMem), zC l yX2_readOr (.code yX2_readOr cX2_readOr 3 none) dd9 [.ref 5, .int o] Λ s (fun _ : Unit => none) (rc 0 o s)) (hrc1 : ∀ (o : Int32) (s : zMem), zC l yX2_readAnd (.code yX2_readAnd cX2_readAnd 3 none) dd9 [.ref 5, .int o] Λ s (fun _ : Unit => none) (rc 1 o s)) (hrc2 : ∀ (o : Int32) (s : zMem), zC l yX2_readNot (.code yX2_readNot cX2_readNot 3 none) dd9 [.ref 5, .int o] Λ s (fun _ : Unit => none) (rc 2 o s)) (hrc3 : ∀ (o : Int32) (s : zMem), zC l yX2_readSum (.code yX2_readSum cX2_readSum 4 none) dd9 [.ref 5, .int o] Λ s (fun _ : Unit => none) (rc 3 o s)) (hrc4 : ∀ (o : Int32) (s : zMem), zC l yX2_readTerm (.code yX2_readTerm cX2_readTerm 3 none) dd9 [.ref 5, .int o] Λ s (fun _ : Unit => none) (rc 4 o s)) (hrc5 : ∀ (o : Int32) (s : zMem), zC l yX2_readOne (.code yX2_readOne cX2_readOne 2 none) dd9 [.ref 5, .int o] Λ s (fun _ : Unit => none) (rc 5 o s)) (hd9 : dd9 + 1 ≤ d9 ∧ 12 ≤ d9)  : ∀ (n : Nat) (x3 : Int32) (x4 : Int32) (s5 : zMem), zE G T (fun _ : Unit => none) Λ 0 0 7 [some (.ref 5), some (.int x3), some (.int x4), none] [] s5 (f_X2_readSum_7 rc n x3 x4 s5) := by
  have e5 := (hΛ 5 (by decide) (by decide)).trans zl_5
  intro n
  induction n with
  | zero => intro _ _ _; exact ze_none
  | succ n ih =>
    intro x3 x4 s5
    rw [f_X2_readSum_7]
    refine ze_iload_n h dX2_readSum_7 rfl ?_
    refine ze_sipush h 160 dX2_readSum_8 zk_s_160 ?_
    refine ze_icmp_ge h 69 dX2_readSum_11 (by decide) ?_ ?_
    · exact ze_vret hR dX2_readSum_69
    · refine ze_aload_n h dX2_readSum_14 rfl ?_
      refine ze_getI h e5 rfl zf_X2_44 dX2_readSum_15 ?_
      refine ze_bipush h 43 dX2_readSum_18 zk_b_43 ?_
      refine ze_icmp_eq h 32 dX2_readSum_20 (by decide) ?_ ?_
      · refine e_X2_readSum_32 h hR hΛ rc hrc0 hrc1 hrc2 hrc3 hrc4 hrc5 hd9 _ ?_ x3 x4 s5
        · intro x23 x24 s25
          exact ih x23 x24 s25
      · refine ze_aload_n h dX2_readSum_23 rfl ?_
        refine ze_getI h e5 rfl zf_X2_44 dX2_readSum_24 ?_
        refine ze_bipush h 45 dX2_readSum_27 zk_b_45 ?_
        refine ze_icmp_ne h 69 dX2_readSum_29 (by decide) ?_ ?_
        · exact ze_vret hR dX2_readSum_69
        · refine e_X2_readSum_32 h hR hΛ rc hrc0 hrc1 hrc2 hrc3 hrc4 hrc5 hd9 _ ?_ x3 x4 s5
          · intro x26 x27 s28
            exact ih x26 x27 s28
set_option maxRecDepth 20000 in
theorem cb_X2_readSum (l : Launch) (Λ : zLay) (hΛ : zHasT Λ) {d9 dd9 : Nat} (rc : Nat → Int32 → zMem → Option (Unit × zMem)) (hrc0 : ∀ (o : Int32) (s : zMem), zC l yX2_readOr (.code yX2_readOr cX2_readOr 3 none) dd9 [.ref 5, .int o] Λ s (fun _ : Unit => none) (rc 0 o s)) (hrc1 : ∀ (o : Int32) (s : zMem), zC l yX2_readAnd (.code yX2_readAnd cX2_readAnd 3 none) dd9 [.ref 5, .int o] Λ s (fun _ : Unit => none) (rc 1 o s)) (hrc2 : ∀ (o : Int32) (s : zMem), zC l yX2_readNot (.code yX2_readNot cX2_readNot 3 none) dd9 [.ref 5, .int o] Λ s (fun _ : Unit => none) (rc 2 o s)) (hrc3 : ∀ (o : Int32) (s : zMem), zC l yX2_readSum (.code yX2_readSum cX2_readSum 4 none) dd9 [.ref 5, .int o] Λ s (fun _ : Unit => none) (rc 3 o s)) (hrc4 : ∀ (o : Int32) (s : zMem), zC l yX2_readTerm (.code yX2_readTerm cX2_readTerm 3 none) dd9 [.ref 5, .int o] Λ s (fun _ : Unit => none) (rc 4 o s)) (hrc5 : ∀ (o : Int32) (s : zMem), zC l yX2_readOne (.code yX2_readOne cX2_readOne 2 none) dd9 [.ref 5, .int o] Λ s (fun _ : Unit => none) (rc 5 o s)) (hd9 : dd9 + 1 ≤ d9 ∧ 12 ≤ d9) (p1 : Int32) (s0 : zMem) : zC l yX2_readSum (.code yX2_readSum cX2_readSum 4 none) d9 [.ref 5, .int p1] Λ s0 (fun _ : Unit => none) (fb_X2_readSum rc p1 s0) := by
  refine zC_of (own := RX2) rfl rfl (Nat.le_of_ble_eq_true rfl) [some (.ref 5), some (.int p1), none, none] rfl (fun G T h hR => ?_)
  have e5 := (hΛ 5 (by decide) (by decide)).trans zl_5
  unfold fb_X2_readSum
  refine ze_aload_n h dX2_readSum_0 rfl ?_
  refine ze_iload_n h dX2_readSum_1 rfl ?_
  refine ze_callVv h (st := []) zce_X2_readTerm zi_X2_readTerm zs_X2_readTerm zm_X2_71 e5 rfl rfl (by omega) zkn (hrc4 p1 s0) rfl (Nat.le_of_ble_eq_true rfl) rfl dX2_readSum_2 (fun _ s2 => ?_)
  refine ze_iconst h 0 dX2_readSum_5 zk_i_0 ?_
  refine ze_istore_n h [some (.ref 5), some (.int p1), some (.int 0), none] dX2_readSum_6 rfl (by decide) rfl ?_
  exact e_X2_readSum_7 h hR hΛ rc hrc0 hrc1 hrc2 hrc3 hrc4 hrc5 hd9  zN p1 0 s2
set_option maxRecDepth 20000 in
theorem e_X2_readTerm_7 {l : Launch} {G : zGT} {T : Option Value × zMem} {Λ : zLay} {d9 dd9 : Nat} (h : zOk G l cX2_readTerm RX2 3 d9 0 0 false) (hR : zR G cX2_readTerm none T Λ 0 0) (hΛ : zHasT Λ) (rc : Nat → Int32 → zMem → Option (Unit × zMem)) (hrc0 : ∀ (o : Int32) (s : zMem), zC l yX2_readOr (.code yX2_readOr cX2_readOr 3 none) dd9 [.ref 5, .int o] Λ s (fun _ : Unit => none) (rc 0 o s)) (hrc1 : ∀ (o : Int32) (s : zMem), zC l yX2_readAnd (.code yX2_readAnd cX2_readAnd 3 none) dd9 [.ref 5, .int o] Λ s (fun _ : Unit => none) (rc 1 o s)) (hrc2 : ∀ (o : Int32) (s : zMem), zC l yX2_readNot (.code yX2_readNot cX2_readNot 3 none) dd9 [.ref 5, .int o] Λ s (fun _ : Unit => none) (rc 2 o s)) (hrc3 : ∀ (o : Int32) (s : zMem), zC l yX2_readSum (.code yX2_readSum cX2_readSum 4 none) dd9 [.ref 5, .int o] Λ s (fun _ : Unit => none) (rc 3 o s)) (hrc4 : ∀ (o : Int32) (s : zMem), zC l yX2_readTerm (.code yX2_readTerm cX2_readTerm 3 none) dd9 [.ref 5, .int o] Λ s (fun _ : Unit => none) (rc 4 o s)) (hrc5 : ∀ (o : Int32) (s : zMem), zC l yX2_readOne (.code yX2_readOne cX2_readOne 2 none) dd9 [.ref 5, .int o] Λ s (fun _ : Unit => none) (rc 5 o s)) (hd9 : dd9 + 1 ≤ d9 ∧ 12 ≤ d9)  : ∀ (n : Nat) (x3 : Int32) (x4 : Int32) (s5 : zMem), zE G T (fun _ : Unit => none) Λ 0 0 7 [some (.ref 5), some (.int x3), some (.int x4)] [] s5 (f_X2_readTerm_7 rc n x3 x4 s5) := by
  have e5 := (hΛ 5 (by decide) (by decide)).trans zl_5
  intro n
  induction n with
  | zero => intro _ _ _; exact ze_none
  | succ n ih =>
    intro x3 x4 s5
    rw [f_X2_readTerm_7]
    refine ze_iload_n h dX2_readTerm_7 rfl ?_
    refine ze_sipush h 160 dX2_readTerm_8 zk_s_160 ?_
    refine ze_icmp_ge h 44 dX2_readTerm_11 (by decide) ?_ ?_
    · exact ze_vret hR dX2_readTerm_44
    · refine ze_aload_n h dX2_readTerm_14 rfl ?_
      refine ze_getI h e5 rfl zf_X2_44 dX2_readTerm_15 ?_
      refine ze_bipush h 42 dX2_readTerm_18 zk_b_42 ?_
      refine ze_icmp_ne h 44 dX2_readTerm_20 (by decide) ?_ ?_
      · exact ze_vret hR dX2_readTerm_44
      · refine ze_aload_n h dX2_readTerm_23 rfl ?_
        refine ze_callVv h (st := []) zce_X2_readToken zi_X2_readToken zs_X2_readToken zm_X2_34 e5 rfl rfl (by omega) zkn (c_X2_readToken l Λ hΛ s5) rfl (Nat.le_of_ble_eq_true rfl) rfl dX2_readTerm_24 (fun _ s7 => ?_)
        refine ze_aload_n h dX2_readTerm_27 rfl ?_
        refine ze_iload_n h dX2_readTerm_28 rfl ?_
        refine ze_callVv h (st := []) zce_X2_readOne zi_X2_readOne zs_X2_readOne zm_X2_74 e5 rfl rfl (by omega) zkn (hrc5 x3 s7) rfl (Nat.le_of_ble_eq_true rfl) rfl dX2_readTerm_29 (fun _ s9 => ?_)
        refine ze_aload_n h dX2_readTerm_32 rfl ?_
        refine ze_bipush h (-23) dX2_readTerm_33 zk_b_m23 ?_
        refine ze_callVv h (st := []) zce_X2_emit zi_X2_emit zs_X2_emit zm_X2_58 e5 rfl rfl (by omega) zkn (c_X2_emit l Λ hΛ (-23) s9) rfl (Nat.le_of_ble_eq_true rfl) rfl dX2_readTerm_35 (fun _ s11 => ?_)
        refine ze_iincN h (fun y9 => [some (.ref 5), some (.int x3), some (.int y9)]) 1 dX2_readTerm_38 rfl zk_i_1 rfl (by decide) (fun _ => rfl) (fun x12 => ?_)
        refine ze_goto h 7 dX2_readTerm_41 (by decide) ?_
        exact ih x3 x12 s11
set_option maxRecDepth 20000 in
theorem cb_X2_readTerm (l : Launch) (Λ : zLay) (hΛ : zHasT Λ) {d9 dd9 : Nat} (rc : Nat → Int32 → zMem → Option (Unit × zMem)) (hrc0 : ∀ (o : Int32) (s : zMem), zC l yX2_readOr (.code yX2_readOr cX2_readOr 3 none) dd9 [.ref 5, .int o] Λ s (fun _ : Unit => none) (rc 0 o s)) (hrc1 : ∀ (o : Int32) (s : zMem), zC l yX2_readAnd (.code yX2_readAnd cX2_readAnd 3 none) dd9 [.ref 5, .int o] Λ s (fun _ : Unit => none) (rc 1 o s)) (hrc2 : ∀ (o : Int32) (s : zMem), zC l yX2_readNot (.code yX2_readNot cX2_readNot 3 none) dd9 [.ref 5, .int o] Λ s (fun _ : Unit => none) (rc 2 o s)) (hrc3 : ∀ (o : Int32) (s : zMem), zC l yX2_readSum (.code yX2_readSum cX2_readSum 4 none) dd9 [.ref 5, .int o] Λ s (fun _ : Unit => none) (rc 3 o s)) (hrc4 : ∀ (o : Int32) (s : zMem), zC l yX2_readTerm (.code yX2_readTerm cX2_readTerm 3 none) dd9 [.ref 5, .int o] Λ s (fun _ : Unit => none) (rc 4 o s)) (hrc5 : ∀ (o : Int32) (s : zMem), zC l yX2_readOne (.code yX2_readOne cX2_readOne 2 none) dd9 [.ref 5, .int o] Λ s (fun _ : Unit => none) (rc 5 o s)) (hd9 : dd9 + 1 ≤ d9 ∧ 12 ≤ d9) (p1 : Int32) (s0 : zMem) : zC l yX2_readTerm (.code yX2_readTerm cX2_readTerm 3 none) d9 [.ref 5, .int p1] Λ s0 (fun _ : Unit => none) (fb_X2_readTerm rc p1 s0) := by
  refine zC_of (own := RX2) rfl rfl (Nat.le_of_ble_eq_true rfl) [some (.ref 5), some (.int p1), none] rfl (fun G T h hR => ?_)
  have e5 := (hΛ 5 (by decide) (by decide)).trans zl_5
  unfold fb_X2_readTerm
  refine ze_aload_n h dX2_readTerm_0 rfl ?_
  refine ze_iload_n h dX2_readTerm_1 rfl ?_
  refine ze_callVv h (st := []) zce_X2_readOne zi_X2_readOne zs_X2_readOne zm_X2_74 e5 rfl rfl (by omega) zkn (hrc5 p1 s0) rfl (Nat.le_of_ble_eq_true rfl) rfl dX2_readTerm_2 (fun _ s2 => ?_)
  refine ze_iconst h 0 dX2_readTerm_5 zk_i_0 ?_
  refine ze_istore_n h [some (.ref 5), some (.int p1), some (.int 0)] dX2_readTerm_6 rfl (by decide) rfl ?_
  exact e_X2_readTerm_7 h hR hΛ rc hrc0 hrc1 hrc2 hrc3 hrc4 hrc5 hd9  zN p1 0 s2
set_option maxRecDepth 20000 in
theorem e_X2_readOne_16 {l : Launch} {G : zGT} {T : Option Value × zMem} {Λ : zLay} {d9 dd9 : Nat} (h : zOk G l cX2_readOne RX2 2 d9 0 0 false) (hR : zR G cX2_readOne none T Λ 0 0) (hΛ : zHasT Λ) (rc : Nat → Int32 → zMem → Option (Unit × zMem)) (hrc0 : ∀ (o : Int32) (s : zMem), zC l yX2_readOr (.code yX2_readOr cX2_readOr 3 none) dd9 [.ref 5, .int o] Λ s (fun _ : Unit => none) (rc 0 o s)) (hrc1 : ∀ (o : Int32) (s : zMem), zC l yX2_readAnd (.code yX2_readAnd cX2_readAnd 3 none) dd9 [.ref 5, .int o] Λ s (fun _ : Unit => none) (rc 1 o s)) (hrc2 : ∀ (o : Int32) (s : zMem), zC l yX2_readNot (.code yX2_readNot cX2_readNot 3 none) dd9 [.ref 5, .int o] Λ s (fun _ : Unit => none) (rc 2 o s)) (hrc3 : ∀ (o : Int32) (s : zMem), zC l yX2_readSum (.code yX2_readSum cX2_readSum 4 none) dd9 [.ref 5, .int o] Λ s (fun _ : Unit => none) (rc 3 o s)) (hrc4 : ∀ (o : Int32) (s : zMem), zC l yX2_readTerm (.code yX2_readTerm cX2_readTerm 3 none) dd9 [.ref 5, .int o] Λ s (fun _ : Unit => none) (rc 4 o s)) (hrc5 : ∀ (o : Int32) (s : zMem), zC l yX2_readOne (.code yX2_readOne cX2_readOne 2 none) dd9 [.ref 5, .int o] Λ s (fun _ : Unit => none) (rc 5 o s)) (hd9 : dd9 + 1 ≤ d9 ∧ 12 ≤ d9)  : ∀ (s1 : zMem), zE G T (fun _ : Unit => none) Λ 0 0 16 [some (.ref 5), none] [] s1 (f_X2_readOne_16 rc  s1) := by
  have e5 := (hΛ 5 (by decide) (by decide)).trans zl_5
  intro s1
  unfold f_X2_readOne_16
  refine ze_aload_n h dX2_readOne_16 rfl ?_
  refine ze_aload_n h dX2_readOne_17 rfl ?_
  refine ze_getI h e5 rfl zf_X2_44 dX2_readOne_18 ?_
  refine ze_iconst h 2 dX2_readOne_21 zk_i_2 ?_
  refine ze_icmp_ne h 32 dX2_readOne_22 (by decide) ?_ ?_
  · refine ze_aload_n h dX2_readOne_32 rfl ?_
    refine ze_getI h e5 rfl zf_X2_77 dX2_readOne_33 ?_
    refine ze_callSi h (st := [.ref 5]) zce_X0_ofName zt_X0_ofName zm_X2_80 (by omega) zkn (c_X0_ofName l Λ (s1 5 8) s1) rfl (Nat.le_of_ble_eq_true rfl) rfl dX2_readOne_36 (fun r2 s3 => ?_)
    refine ze_callVv h (st := []) zce_X2_emit zi_X2_emit zs_X2_emit zm_X2_58 e5 rfl rfl (by omega) zkn (c_X2_emit l Λ hΛ r2 s3) rfl (Nat.le_of_ble_eq_true rfl) rfl dX2_readOne_39 (fun _ s5 => ?_)
    refine ze_aload_n h dX2_readOne_42 rfl ?_
    refine ze_callVv h (st := []) zce_X2_readToken zi_X2_readToken zs_X2_readToken zm_X2_34 e5 rfl rfl (by omega) zkn (c_X2_readToken l Λ hΛ s5) rfl (Nat.le_of_ble_eq_true rfl) rfl dX2_readOne_43 (fun _ s7 => ?_)
    refine ze_goto h 119 dX2_readOne_46 (by decide) ?_
    exact ze_vret hR dX2_readOne_119
  · refine ze_aload_n h dX2_readOne_25 rfl ?_
    refine ze_getI h e5 rfl zf_X2_77 dX2_readOne_26 ?_
    refine ze_goto h 39 dX2_readOne_29 (by decide) ?_
    refine ze_callVv h (st := []) zce_X2_emit zi_X2_emit zs_X2_emit zm_X2_58 e5 rfl rfl (by omega) zkn (c_X2_emit l Λ hΛ (s1 5 8) s1) rfl (Nat.le_of_ble_eq_true rfl) rfl dX2_readOne_39 (fun _ s9 => ?_)
    refine ze_aload_n h dX2_readOne_42 rfl ?_
    refine ze_callVv h (st := []) zce_X2_readToken zi_X2_readToken zs_X2_readToken zm_X2_34 e5 rfl rfl (by omega) zkn (c_X2_readToken l Λ hΛ s9) rfl (Nat.le_of_ble_eq_true rfl) rfl dX2_readOne_43 (fun _ s11 => ?_)
    refine ze_goto h 119 dX2_readOne_46 (by decide) ?_
    exact ze_vret hR dX2_readOne_119
set_option maxRecDepth 20000 in
theorem cb_X2_readOne (l : Launch) (Λ : zLay) (hΛ : zHasT Λ) {d9 dd9 : Nat} (rc : Nat → Int32 → zMem → Option (Unit × zMem)) (hrc0 : ∀ (o : Int32) (s : zMem), zC l yX2_readOr (.code yX2_readOr cX2_readOr 3 none) dd9 [.ref 5, .int o] Λ s (fun _ : Unit => none) (rc 0 o s)) (hrc1 : ∀ (o : Int32) (s : zMem), zC l yX2_readAnd (.code yX2_readAnd cX2_readAnd 3 none) dd9 [.ref 5, .int o] Λ s (fun _ : Unit => none) (rc 1 o s)) (hrc2 : ∀ (o : Int32) (s : zMem), zC l yX2_readNot (.code yX2_readNot cX2_readNot 3 none) dd9 [.ref 5, .int o] Λ s (fun _ : Unit => none) (rc 2 o s)) (hrc3 : ∀ (o : Int32) (s : zMem), zC l yX2_readSum (.code yX2_readSum cX2_readSum 4 none) dd9 [.ref 5, .int o] Λ s (fun _ : Unit => none) (rc 3 o s)) (hrc4 : ∀ (o : Int32) (s : zMem), zC l yX2_readTerm (.code yX2_readTerm cX2_readTerm 3 none) dd9 [.ref 5, .int o] Λ s (fun _ : Unit => none) (rc 4 o s)) (hrc5 : ∀ (o : Int32) (s : zMem), zC l yX2_readOne (.code yX2_readOne cX2_readOne 2 none) dd9 [.ref 5, .int o] Λ s (fun _ : Unit => none) (rc 5 o s)) (hd9 : dd9 + 1 ≤ d9 ∧ 12 ≤ d9) (p1 : Int32) (s0 : zMem) : zC l yX2_readOne (.code yX2_readOne cX2_readOne 2 none) d9 [.ref 5, .int p1] Λ s0 (fun _ : Unit => none) (fb_X2_readOne rc p1 s0) := by
  refine zC_of (own := RX2) rfl rfl (Nat.le_of_ble_eq_true rfl) [some (.ref 5), some (.int p1)] rfl (fun G T h hR => ?_)
  have e5 := (hΛ 5 (by decide) (by decide)).trans zl_5
  unfold fb_X2_readOne
  refine ze_aload_n h dX2_readOne_0 rfl ?_
  refine ze_getI h e5 rfl zf_X2_44 dX2_readOne_1 ?_
  refine ze_iconst h 2 dX2_readOne_4 zk_i_2 ?_
  refine ze_icmp_eq h 16 dX2_readOne_5 (by decide) ?_ ?_
  · refine zE_weak h [true, false] rfl ?_
    exact e_X2_readOne_16 h hR hΛ rc hrc0 hrc1 hrc2 hrc3 hrc4 hrc5 hd9  s0
  · refine ze_aload_n h dX2_readOne_8 rfl ?_
    refine ze_getI h e5 rfl zf_X2_44 dX2_readOne_9 ?_
    refine ze_iconst h 3 dX2_readOne_12 zk_i_3 ?_
    refine ze_icmp_ne h 49 dX2_readOne_13 (by decide) ?_ ?_
    · refine ze_aload_n h dX2_readOne_49 rfl ?_
      refine ze_getI h e5 rfl zf_X2_44 dX2_readOne_50 ?_
      refine ze_bipush h 45 dX2_readOne_53 zk_b_45 ?_
      refine ze_icmp_ne h 82 dX2_readOne_55 (by decide) ?_ ?_
      · refine ze_aload_n h dX2_readOne_82 rfl ?_
        refine ze_getI h e5 rfl zf_X2_44 dX2_readOne_83 ?_
        refine ze_bipush h 40 dX2_readOne_86 zk_b_40 ?_
        refine ze_icmp_ne h 115 dX2_readOne_88 (by decide) ?_ ?_
        · refine ze_aload_n h dX2_readOne_115 rfl ?_
          refine ze_callVv h (st := []) zce_X2_fail zi_X2_fail zs_X2_fail zm_X2_47 e5 rfl rfl (by omega) zkn (c_X2_fail l Λ hΛ s0) rfl (Nat.le_of_ble_eq_true rfl) rfl dX2_readOne_116 (fun _ s13 => ?_)
          exact ze_vret hR dX2_readOne_119
        · refine ze_aload_n h dX2_readOne_91 rfl ?_
          refine ze_iload_n h dX2_readOne_92 rfl ?_
          refine ze_callVi h (st := []) zce_X2_opens zi_X2_opens zs_X2_opens zm_X2_64 e5 rfl rfl (by omega) zkn (c_X2_opens l Λ hΛ p1 s0) rfl (Nat.le_of_ble_eq_true rfl) rfl dX2_readOne_93 (fun r14 s15 => ?_)
          refine ze_if_eq h 119 dX2_readOne_96 (by decide) ?_ ?_
          · exact ze_vret hR dX2_readOne_119
          · refine ze_aload_n h dX2_readOne_99 rfl ?_
            refine ze_iload_n h dX2_readOne_100 rfl ?_
            refine ze_iconst h 1 dX2_readOne_101 zk_i_1 ?_
            refine ze_iadd h dX2_readOne_102 ?_
            refine ze_callVv h (st := []) zce_X2_readOr zi_X2_readOr zs_X2_readOr zm_X2_41 e5 rfl rfl (by omega) zkn (hrc0 (p1 + 1) s15) rfl (Nat.le_of_ble_eq_true rfl) rfl dX2_readOne_103 (fun _ s17 => ?_)
            refine ze_aload_n h dX2_readOne_106 rfl ?_
            refine ze_bipush h 41 dX2_readOne_107 zk_b_41 ?_
            refine ze_callVv h (st := []) zce_X2_expect zi_X2_expect zs_X2_expect zm_X2_37 e5 rfl rfl (by omega) zkn (c_X2_expect l Λ hΛ 41 s17) rfl (Nat.le_of_ble_eq_true rfl) rfl dX2_readOne_109 (fun _ s19 => ?_)
            refine ze_goto h 119 dX2_readOne_112 (by decide) ?_
            exact ze_vret hR dX2_readOne_119
      · refine ze_aload_n h dX2_readOne_58 rfl ?_
        refine ze_iload_n h dX2_readOne_59 rfl ?_
        refine ze_callVi h (st := []) zce_X2_opens zi_X2_opens zs_X2_opens zm_X2_64 e5 rfl rfl (by omega) zkn (c_X2_opens l Λ hΛ p1 s0) rfl (Nat.le_of_ble_eq_true rfl) rfl dX2_readOne_60 (fun r20 s21 => ?_)
        refine ze_if_eq h 119 dX2_readOne_63 (by decide) ?_ ?_
        · exact ze_vret hR dX2_readOne_119
        · refine ze_aload_n h dX2_readOne_66 rfl ?_
          refine ze_iload_n h dX2_readOne_67 rfl ?_
          refine ze_iconst h 1 dX2_readOne_68 zk_i_1 ?_
          refine ze_iadd h dX2_readOne_69 ?_
          refine ze_callVv h (st := []) zce_X2_readOne zi_X2_readOne zs_X2_readOne zm_X2_74 e5 rfl rfl (by omega) zkn (hrc5 (p1 + 1) s21) rfl (Nat.le_of_ble_eq_true rfl) rfl dX2_readOne_70 (fun _ s23 => ?_)
          refine ze_aload_n h dX2_readOne_73 rfl ?_
          refine ze_bipush h (-11) dX2_readOne_74 zk_b_m11 ?_
          refine ze_callVv h (st := []) zce_X2_emit zi_X2_emit zs_X2_emit zm_X2_58 e5 rfl rfl (by omega) zkn (c_X2_emit l Λ hΛ (-11) s23) rfl (Nat.le_of_ble_eq_true rfl) rfl dX2_readOne_76 (fun _ s25 => ?_)
          refine ze_goto h 119 dX2_readOne_79 (by decide) ?_
          exact ze_vret hR dX2_readOne_119
    · refine zE_weak h [true, false] rfl ?_
      exact e_X2_readOne_16 h hR hΛ rc hrc0 hrc1 hrc2 hrc3 hrc4 hrc5 hd9  s0
theorem c_rd (l : Launch) (Λ : zLay) (hΛ : zHasT Λ) : ∀ n : Nat, (∀ (o : Int32) (s : zMem), zC l yX2_readOr (.code yX2_readOr cX2_readOr 3 none) (n + 12) [.ref 5, .int o] Λ s (fun _ : Unit => none) (f_rd n 0 o s)) ∧ (∀ (o : Int32) (s : zMem), zC l yX2_readAnd (.code yX2_readAnd cX2_readAnd 3 none) (n + 12) [.ref 5, .int o] Λ s (fun _ : Unit => none) (f_rd n 1 o s)) ∧ (∀ (o : Int32) (s : zMem), zC l yX2_readNot (.code yX2_readNot cX2_readNot 3 none) (n + 12) [.ref 5, .int o] Λ s (fun _ : Unit => none) (f_rd n 2 o s)) ∧ (∀ (o : Int32) (s : zMem), zC l yX2_readSum (.code yX2_readSum cX2_readSum 4 none) (n + 12) [.ref 5, .int o] Λ s (fun _ : Unit => none) (f_rd n 3 o s)) ∧ (∀ (o : Int32) (s : zMem), zC l yX2_readTerm (.code yX2_readTerm cX2_readTerm 3 none) (n + 12) [.ref 5, .int o] Λ s (fun _ : Unit => none) (f_rd n 4 o s)) ∧ (∀ (o : Int32) (s : zMem), zC l yX2_readOne (.code yX2_readOne cX2_readOne 2 none) (n + 12) [.ref 5, .int o] Λ s (fun _ : Unit => none) (f_rd n 5 o s)) := by
  intro n
  induction n with
  | zero => exact ⟨(fun o s r S h => by cases h), (fun o s r S h => by cases h), (fun o s r S h => by cases h), (fun o s r S h => by cases h), (fun o s r S h => by cases h), (fun o s r S h => by cases h)⟩
  | succ n ih =>
    obtain ⟨h0, h1, h2, h3, h4, h5⟩ := ih
    have hd9 : n + 12 + 1 ≤ n + 1 + 12 ∧ 12 ≤ n + 1 + 12 := ⟨by omega, by omega⟩
    exact ⟨fun o s => cb_X2_readOr l Λ hΛ (d9 := n + 1 + 12) (dd9 := n + 12) (f_rd n) h0 h1 h2 h3 h4 h5 hd9 o s, fun o s => cb_X2_readAnd l Λ hΛ (d9 := n + 1 + 12) (dd9 := n + 12) (f_rd n) h0 h1 h2 h3 h4 h5 hd9 o s, fun o s => cb_X2_readNot l Λ hΛ (d9 := n + 1 + 12) (dd9 := n + 12) (f_rd n) h0 h1 h2 h3 h4 h5 hd9 o s, fun o s => cb_X2_readSum l Λ hΛ (d9 := n + 1 + 12) (dd9 := n + 12) (f_rd n) h0 h1 h2 h3 h4 h5 hd9 o s, fun o s => cb_X2_readTerm l Λ hΛ (d9 := n + 1 + 12) (dd9 := n + 12) (f_rd n) h0 h1 h2 h3 h4 h5 hd9 o s, fun o s => cb_X2_readOne l Λ hΛ (d9 := n + 1 + 12) (dd9 := n + 12) (f_rd n) h0 h1 h2 h3 h4 h5 hd9 o s⟩
theorem c_rd0 (l : Launch) (Λ : zLay) (hΛ : zHasT Λ) (n : Nat) (o : Int32) (s : zMem) : zC l yX2_readOr (.code yX2_readOr cX2_readOr 3 none) (n + 12) [.ref 5, .int o] Λ s (fun _ : Unit => none) (f_rd n 0 o s) := (c_rd l Λ hΛ n).1 o s
theorem c_rd1 (l : Launch) (Λ : zLay) (hΛ : zHasT Λ) (n : Nat) (o : Int32) (s : zMem) : zC l yX2_readAnd (.code yX2_readAnd cX2_readAnd 3 none) (n + 12) [.ref 5, .int o] Λ s (fun _ : Unit => none) (f_rd n 1 o s) := (c_rd l Λ hΛ n).2.1 o s
theorem c_rd2 (l : Launch) (Λ : zLay) (hΛ : zHasT Λ) (n : Nat) (o : Int32) (s : zMem) : zC l yX2_readNot (.code yX2_readNot cX2_readNot 3 none) (n + 12) [.ref 5, .int o] Λ s (fun _ : Unit => none) (f_rd n 2 o s) := (c_rd l Λ hΛ n).2.2.1 o s
theorem c_rd3 (l : Launch) (Λ : zLay) (hΛ : zHasT Λ) (n : Nat) (o : Int32) (s : zMem) : zC l yX2_readSum (.code yX2_readSum cX2_readSum 4 none) (n + 12) [.ref 5, .int o] Λ s (fun _ : Unit => none) (f_rd n 3 o s) := (c_rd l Λ hΛ n).2.2.2.1 o s
theorem c_rd4 (l : Launch) (Λ : zLay) (hΛ : zHasT Λ) (n : Nat) (o : Int32) (s : zMem) : zC l yX2_readTerm (.code yX2_readTerm cX2_readTerm 3 none) (n + 12) [.ref 5, .int o] Λ s (fun _ : Unit => none) (f_rd n 4 o s) := (c_rd l Λ hΛ n).2.2.2.2.1 o s
theorem c_rd5 (l : Launch) (Λ : zLay) (hΛ : zHasT Λ) (n : Nat) (o : Int32) (s : zMem) : zC l yX2_readOne (.code yX2_readOne cX2_readOne 2 none) (n + 12) [.ref 5, .int o] Λ s (fun _ : Unit => none) (f_rd n 5 o s) := (c_rd l Λ hΛ n).2.2.2.2.2 o s
set_option maxRecDepth 20000 in
theorem e_X2_readText_21 {l : Launch} {G : zGT} {T : Option Value × zMem} {Λ : zLay} (h : zOk G l cX2_readText RX2 2 73 0 0 false) (hR : zR G cX2_readText (some .int) T Λ 0 0) (hΛ : zHasT Λ) (c60 : zMem → Option (Int32 × zMem)) (hc60 : ∀ (s9 : zMem), zE G T (fun r : Int32 => some (.int r)) Λ 0 0 60 [some (.ref 5), none] [] s9 (c60 s9)) : ∀ (n : Nat) (x6 : Int32) (s7 : zMem), zE G T (fun r : Int32 => some (.int r)) Λ 0 0 21 [some (.ref 5), some (.int x6)] [] s7 (f_X2_readText_21 c60 n x6 s7) := by
  have e5 := (hΛ 5 (by decide) (by decide)).trans zl_5
  have e8 := (hΛ 8 (by decide) (by decide)).trans zl_8
  intro n
  induction n with
  | zero => intro _ _; exact ze_none
  | succ n ih =>
    intro x6 s7
    rw [f_X2_readText_21]
    refine ze_iload_n h dX2_readText_21 rfl ?_
    refine ze_iconst h 3 dX2_readText_22 zk_i_3 ?_
    refine ze_icmp_ge h 60 dX2_readText_23 (by decide) ?_ ?_
    · refine zE_weak h [true, false] rfl ?_
      exact hc60 s7
    · refine ze_aload_n h dX2_readText_26 rfl ?_
      refine ze_iconst h 4 dX2_readText_27 zk_i_4 ?_
      refine ze_iload_n h dX2_readText_28 rfl ?_
      refine ze_iadd h dX2_readText_29 ?_
      refine ze_callVv h (st := []) zce_X2_expect zi_X2_expect zs_X2_expect zm_X2_37 e5 rfl rfl (Nat.le_of_ble_eq_true rfl) zkn (c_X2_expect l Λ hΛ (4 + x6) s7) rfl (Nat.le_of_ble_eq_true rfl) rfl dX2_readText_30 (fun _ s9 => ?_)
      refine ze_aload_n h dX2_readText_33 rfl ?_
      refine ze_iconst h 0 dX2_readText_34 zk_i_0 ?_
      refine ze_callVv h (st := []) zce_X2_readOr zi_X2_readOr zs_X2_readOr zm_X2_41 e5 rfl rfl (Nat.le_of_ble_eq_true rfl) zkn (c_rd0 l Λ hΛ 60 0 s9) rfl (Nat.le_of_ble_eq_true rfl) rfl dX2_readText_35 (fun _ s11 => ?_)
      refine ze_aload_n h dX2_readText_38 rfl ?_
      refine ze_bipush h 59 dX2_readText_39 zk_b_59 ?_
      refine ze_callVv h (st := []) zce_X2_expect zi_X2_expect zs_X2_expect zm_X2_37 e5 rfl rfl (Nat.le_of_ble_eq_true rfl) zkn (c_X2_expect l Λ hΛ 59 s11) rfl (Nat.le_of_ble_eq_true rfl) rfl dX2_readText_41 (fun _ s13 => ?_)
      refine ze_aload_n h dX2_readText_44 rfl ?_
      refine ze_getR h e5 rfl zf_X2_18 dX2_readText_45 ?_
      refine ze_pc 48 rfl ?_
      refine ze_iload_n h dX2_readText_48 rfl ?_
      refine ze_aload_n h dX2_readText_49 rfl ?_
      refine ze_getI h e5 rfl zf_X2_28 dX2_readText_50 ?_
      refine ze_iastG h e8 dX2_readText_53 ?_
      refine ze_nmS (fun s14 => ?_)
      refine ze_iincN h (fun y9 => [some (.ref 5), some (.int y9)]) 1 dX2_readText_54 rfl zk_i_1 rfl (by decide) (fun _ => rfl) (fun x15 => ?_)
      refine ze_goto h 21 dX2_readText_57 (by decide) ?_
      exact ih x15 s14
set_option maxRecDepth 20000 in
theorem c_X2_readText (l : Launch) (Λ : zLay) (hΛ : zHasT Λ)  (s0 : zMem) : zC l yX2_readText (.code yX2_readText cX2_readText 2 (some .int)) 73 [.ref 5] Λ s0 (fun r : Int32 => some (.int r)) (f_X2_readText s0) := by
  refine zC_of (own := RX2) rfl rfl (Nat.le_of_ble_eq_true rfl) [some (.ref 5), none] rfl (fun G T h hR => ?_)
  have e5 := (hΛ 5 (by decide) (by decide)).trans zl_5
  have e8 := (hΛ 8 (by decide) (by decide)).trans zl_8
  unfold f_X2_readText
  refine ze_aload_n h dX2_readText_0 rfl ?_
  refine ze_iconst h 0 dX2_readText_1 zk_i_0 ?_
  refine ze_putI h e5 rfl zf_X2_25 rfl rfl dX2_readText_2 ?_
  refine ze_nmS (fun s1 => ?_)
  refine ze_aload_n h dX2_readText_5 rfl ?_
  refine ze_iconst h 0 dX2_readText_6 zk_i_0 ?_
  refine ze_putI h e5 rfl zf_X2_28 rfl rfl dX2_readText_7 ?_
  refine ze_nmS (fun s2 => ?_)
  refine ze_aload_n h dX2_readText_10 rfl ?_
  refine ze_iconst h (-1) dX2_readText_11 zk_i_m1 ?_
  refine ze_putI h e5 rfl zf_X2_31 rfl rfl dX2_readText_12 ?_
  refine ze_nmS (fun s3 => ?_)
  refine ze_aload_n h dX2_readText_15 rfl ?_
  refine ze_callVv h (st := []) zce_X2_readToken zi_X2_readToken zs_X2_readToken zm_X2_34 e5 rfl rfl (Nat.le_of_ble_eq_true rfl) zkn (c_X2_readToken l Λ hΛ s3) rfl (Nat.le_of_ble_eq_true rfl) rfl dX2_readText_16 (fun _ s5 => ?_)
  refine ze_iconst h 0 dX2_readText_19 zk_i_0 ?_
  refine ze_istore_n h [some (.ref 5), some (.int 0)] dX2_readText_20 rfl (by decide) rfl ?_
  refine e_X2_readText_21 h hR hΛ _ ?_ zN 0 s5
  · intro s16
    refine ze_aload_n h dX2_readText_60 rfl ?_
    refine ze_iconst h 0 dX2_readText_61 zk_i_0 ?_
    refine ze_callVv h (st := []) zce_X2_expect zi_X2_expect zs_X2_expect zm_X2_37 e5 rfl rfl (Nat.le_of_ble_eq_true rfl) zkn (c_X2_expect l Λ hΛ 0 s16) rfl (Nat.le_of_ble_eq_true rfl) rfl dX2_readText_62 (fun _ s18 => ?_)
    refine ze_aload_n h dX2_readText_65 rfl ?_
    refine ze_getI h e5 rfl zf_X2_31 dX2_readText_66 ?_
    exact ze_iret hR dX2_readText_69
set_option maxRecDepth 20000 in
theorem c_X4_keep (l : Launch) (Λ : zLay) (hΛ : zHasT Λ)  (s0 : zMem) : zC l yX4_keep (.code yX4_keep cX4_keep 2 (some .int)) 2 [.ref 1, .ref 5] Λ s0 (fun r : Int32 => some (.int r)) (f_X4_keep s0) := by
  refine zC_of (own := RX4) rfl rfl (Nat.le_of_ble_eq_true rfl) [some (.ref 1), some (.ref 5)] rfl (fun G T h hR => ?_)
  have e1 := (hΛ 1 (by decide) (by decide)).trans zl_1
  have e2 := (hΛ 2 (by decide) (by decide)).trans zl_2
  have e3 := (hΛ 3 (by decide) (by decide)).trans zl_3
  have e5 := (hΛ 5 (by decide) (by decide)).trans zl_5
  have e7 := (hΛ 7 (by decide) (by decide)).trans zl_7
  have e8 := (hΛ 8 (by decide) (by decide)).trans zl_8
  unfold f_X4_keep
  refine ze_aload_n h dX4_keep_0 rfl ?_
  refine ze_getI h e1 rfl zf_X4_21 dX4_keep_1 ?_
  refine ze_bipush h 6 dX4_keep_4 zk_b_6 ?_
  refine ze_icmp_lt h 12 dX4_keep_6 (by decide) ?_ ?_
  · refine ze_aload_n h dX4_keep_12 rfl ?_
    refine ze_getR h e5 rfl zf_X4_25 dX4_keep_13 ?_
    refine ze_iconst h 0 dX4_keep_16 zk_i_0 ?_
    refine ze_aload_n h dX4_keep_17 rfl ?_
    refine ze_getR h e1 rfl zf_X4_9 dX4_keep_18 ?_
    refine ze_aload_n h dX4_keep_21 rfl ?_
    refine ze_getI h e1 rfl zf_X4_21 dX4_keep_22 ?_
    refine ze_sipush h 160 dX4_keep_25 zk_s_160 ?_
    refine ze_imul h dX4_keep_28 ?_
    refine ze_sipush h 160 dX4_keep_29 zk_s_160 ?_
    refine ze_copy h (st := []) (Nat.le_of_ble_eq_true rfl) e7 e2 zm_X4_28 zw_copy1 zw_copy2 zw_sys (Nat.le_of_ble_eq_true rfl) dX4_keep_32 ?_
    refine ze_nmS (fun s1 => ?_)
    refine ze_aload_n h dX4_keep_35 rfl ?_
    refine ze_getR h e5 rfl zf_X4_34 dX4_keep_36 ?_
    refine ze_pc 39 rfl ?_
    refine ze_iconst h 0 dX4_keep_39 zk_i_0 ?_
    refine ze_aload_n h dX4_keep_40 rfl ?_
    refine ze_getR h e1 rfl zf_X4_15 dX4_keep_41 ?_
    refine ze_aload_n h dX4_keep_44 rfl ?_
    refine ze_getI h e1 rfl zf_X4_21 dX4_keep_45 ?_
    refine ze_iconst h 3 dX4_keep_48 zk_i_3 ?_
    refine ze_imul h dX4_keep_49 ?_
    refine ze_iconst h 3 dX4_keep_50 zk_i_3 ?_
    refine ze_copy h (st := []) (Nat.le_of_ble_eq_true rfl) e8 e3 zm_X4_28 zw_copy1 zw_copy2 zw_sys (Nat.le_of_ble_eq_true rfl) dX4_keep_51 ?_
    refine ze_nmS (fun s2 => ?_)
    refine ze_aload_n h dX4_keep_54 rfl ?_
    refine ze_dup h dX4_keep_55 rfl ?_
    refine ze_getI h e1 rfl zf_X4_21 dX4_keep_56 ?_
    refine ze_iconst h 1 dX4_keep_59 zk_i_1 ?_
    refine ze_iadd h dX4_keep_60 ?_
    refine ze_pc 61 rfl ?_
    refine ze_putI h e1 rfl zf_X4_21 rfl rfl dX4_keep_61 ?_
    refine ze_nmS (fun s3 => ?_)
    refine ze_aload_n h dX4_keep_64 rfl ?_
    refine ze_getI h e1 rfl zf_X4_21 dX4_keep_65 ?_
    refine ze_iconst h 1 dX4_keep_68 zk_i_1 ?_
    refine ze_isub h dX4_keep_69 ?_
    exact ze_iret hR dX4_keep_70
  · refine ze_bipush h (-4) dX4_keep_9 zk_b_m4 ?_
    exact ze_iret hR dX4_keep_11
set_option maxRecDepth 20000 in
theorem c_X0_isName (l : Launch) (Λ : zLay) (p1 : Int32) (s0 : zMem) : zC l yX0_isName (.code yX0_isName cX0_isName 1 (some .boolean)) 1 [.int p1] Λ s0 (fun r : Int32 => some (.int r)) (f_X0_isName p1 s0) := by
  refine zC_of (own := RX0) rfl rfl (Nat.le_of_ble_eq_true rfl) [some (.int p1)] rfl (fun G T h hR => ?_)
  unfold f_X0_isName
  refine ze_iload_n h dX0_isName_0 rfl ?_
  refine ze_iconst h (-1) dX0_isName_1 zk_i_m1 ?_
  refine ze_icmp_gt h 15 dX0_isName_2 (by decide) ?_ ?_
  · refine ze_iconst h 0 dX0_isName_15 zk_i_0 ?_
    exact ze_zret hR rfl dX0_isName_16
  · refine ze_iload_n h dX0_isName_5 rfl ?_
    refine ze_bipush h (-7) dX0_isName_6 zk_b_m7 ?_
    refine ze_icmp_le h 15 dX0_isName_8 (by decide) ?_ ?_
    · refine ze_iconst h 0 dX0_isName_15 zk_i_0 ?_
      exact ze_zret hR rfl dX0_isName_16
    · refine ze_iconst h 1 dX0_isName_11 zk_i_1 ?_
      refine ze_goto h 16 dX0_isName_12 (by decide) ?_
      exact ze_zret hR rfl dX0_isName_16
set_option maxRecDepth 20000 in
theorem c_X0_isOfOne (l : Launch) (Λ : zLay) (p1 : Int32) (s0 : zMem) : zC l yX0_isOfOne (.code yX0_isOfOne cX0_isOfOne 1 (some .boolean)) 1 [.int p1] Λ s0 (fun r : Int32 => some (.int r)) (f_X0_isOfOne p1 s0) := by
  refine zC_of (own := RX0) rfl rfl (Nat.le_of_ble_eq_true rfl) [some (.int p1)] rfl (fun G T h hR => ?_)
  unfold f_X0_isOfOne
  refine ze_iload_n h dX0_isOfOne_0 rfl ?_
  refine ze_bipush h (-11) dX0_isOfOne_1 zk_b_m11 ?_
  refine ze_icmp_eq h 12 dX0_isOfOne_3 (by decide) ?_ ?_
  · refine ze_iconst h 1 dX0_isOfOne_12 zk_i_1 ?_
    refine ze_goto h 17 dX0_isOfOne_13 (by decide) ?_
    exact ze_zret hR rfl dX0_isOfOne_17
  · refine ze_iload_n h dX0_isOfOne_6 rfl ?_
    refine ze_bipush h (-12) dX0_isOfOne_7 zk_b_m12 ?_
    refine ze_icmp_ne h 16 dX0_isOfOne_9 (by decide) ?_ ?_
    · refine ze_iconst h 0 dX0_isOfOne_16 zk_i_0 ?_
      exact ze_zret hR rfl dX0_isOfOne_17
    · refine ze_iconst h 1 dX0_isOfOne_12 zk_i_1 ?_
      refine ze_goto h 17 dX0_isOfOne_13 (by decide) ?_
      exact ze_zret hR rfl dX0_isOfOne_17
set_option maxRecDepth 20000 in
theorem c_X0_isOfTwo (l : Launch) (Λ : zLay) (p1 : Int32) (s0 : zMem) : zC l yX0_isOfTwo (.code yX0_isOfTwo cX0_isOfTwo 1 (some .boolean)) 1 [.int p1] Λ s0 (fun r : Int32 => some (.int r)) (f_X0_isOfTwo p1 s0) := by
  refine zC_of (own := RX0) rfl rfl (Nat.le_of_ble_eq_true rfl) [some (.int p1)] rfl (fun G T h hR => ?_)
  unfold f_X0_isOfTwo
  refine ze_iload_n h dX0_isOfTwo_0 rfl ?_
  refine ze_bipush h (-21) dX0_isOfTwo_1 zk_b_m21 ?_
  refine ze_icmp_gt h 16 dX0_isOfTwo_3 (by decide) ?_ ?_
  · refine ze_iconst h 0 dX0_isOfTwo_16 zk_i_0 ?_
    exact ze_zret hR rfl dX0_isOfTwo_17
  · refine ze_iload_n h dX0_isOfTwo_6 rfl ?_
    refine ze_bipush h (-27) dX0_isOfTwo_7 zk_b_m27 ?_
    refine ze_icmp_lt h 16 dX0_isOfTwo_9 (by decide) ?_ ?_
    · refine ze_iconst h 0 dX0_isOfTwo_16 zk_i_0 ?_
      exact ze_zret hR rfl dX0_isOfTwo_17
    · refine ze_iconst h 1 dX0_isOfTwo_12 zk_i_1 ?_
      refine ze_goto h 17 dX0_isOfTwo_13 (by decide) ?_
      exact ze_zret hR rfl dX0_isOfTwo_17
set_option maxRecDepth 20000 in
theorem c_X0_ofOne (l : Launch) (Λ : zLay) (p1 : Int32) (p2 : Int32) (s0 : zMem) : zC l yX0_ofOne (.code yX0_ofOne cX0_ofOne 2 (some .int)) 1 [.int p1, .int p2] Λ s0 (fun r : Int32 => some (.int r)) (f_X0_ofOne p1 p2 s0) := by
  refine zC_of (own := RX0) rfl rfl (Nat.le_of_ble_eq_true rfl) [some (.int p1), some (.int p2)] rfl (fun G T h hR => ?_)
  unfold f_X0_ofOne
  refine ze_iload_n h dX0_ofOne_0 rfl ?_
  refine ze_bipush h (-11) dX0_ofOne_1 zk_b_m11 ?_
  refine ze_icmp_ne h 9 dX0_ofOne_3 (by decide) ?_ ?_
  · refine ze_iload_n h dX0_ofOne_9 rfl ?_
    refine ze_if_ne h 17 dX0_ofOne_10 (by decide) ?_ ?_
    · refine ze_iconst h 0 dX0_ofOne_17 zk_i_0 ?_
      exact ze_iret hR dX0_ofOne_18
    · refine ze_iconst h 1 dX0_ofOne_13 zk_i_1 ?_
      refine ze_goto h 18 dX0_ofOne_14 (by decide) ?_
      exact ze_iret hR dX0_ofOne_18
  · refine ze_iload_n h dX0_ofOne_6 rfl ?_
    refine ze_ineg h dX0_ofOne_7 ?_
    exact ze_iret hR dX0_ofOne_8
set_option maxRecDepth 20000 in
theorem c_X0_ofTwo (l : Launch) (Λ : zLay) (p1 : Int32) (p2 : Int32) (p3 : Int32) (s0 : zMem) : zC l yX0_ofTwo (.code yX0_ofTwo cX0_ofTwo 3 (some .int)) 1 [.int p1, .int p2, .int p3] Λ s0 (fun r : Int32 => some (.int r)) (f_X0_ofTwo p1 p2 p3 s0) := by
  refine zC_of (own := RX0) rfl rfl (Nat.le_of_ble_eq_true rfl) [some (.int p1), some (.int p2), some (.int p3)] rfl (fun G T h hR => ?_)
  unfold f_X0_ofTwo
  refine ze_iload_n h dX0_ofTwo_0 rfl ?_
  refine ze_case (-26) (fun q1_0 => ?_) (fun q1_0 => ?_)
  · refine ze_tabIn h 74 dX0_ofTwo_1 (by decide) (by decide) rfl (by decide) ?_
    refine ze_iload_n h dX0_ofTwo_74 rfl ?_
    refine ze_if_eq h 86 dX0_ofTwo_75 (by decide) ?_ ?_
    · refine ze_iconst h 0 dX0_ofTwo_86 zk_i_0 ?_
      exact ze_iret hR dX0_ofTwo_87
    · refine ze_iload_n h dX0_ofTwo_78 rfl ?_
      refine ze_if_eq h 86 dX0_ofTwo_79 (by decide) ?_ ?_
      · refine ze_iconst h 0 dX0_ofTwo_86 zk_i_0 ?_
        exact ze_iret hR dX0_ofTwo_87
      · refine ze_iconst h 1 dX0_ofTwo_82 zk_i_1 ?_
        refine ze_goto h 87 dX0_ofTwo_83 (by decide) ?_
        exact ze_iret hR dX0_ofTwo_87
  refine ze_case (-25) (fun q1_1 => ?_) (fun q1_1 => ?_)
  · refine ze_tabIn h 63 dX0_ofTwo_1 (by decide) (by decide) rfl (by decide) ?_
    refine ze_iload_n h dX0_ofTwo_63 rfl ?_
    refine ze_iload_n h dX0_ofTwo_64 rfl ?_
    refine ze_icmp_ne h 72 dX0_ofTwo_65 (by decide) ?_ ?_
    · refine ze_iconst h 0 dX0_ofTwo_72 zk_i_0 ?_
      exact ze_iret hR dX0_ofTwo_73
    · refine ze_iconst h 1 dX0_ofTwo_68 zk_i_1 ?_
      refine ze_goto h 73 dX0_ofTwo_69 (by decide) ?_
      exact ze_iret hR dX0_ofTwo_73
  refine ze_case (-24) (fun q1_2 => ?_) (fun q1_2 => ?_)
  · refine ze_tabIn h 52 dX0_ofTwo_1 (by decide) (by decide) rfl (by decide) ?_
    refine ze_iload_n h dX0_ofTwo_52 rfl ?_
    refine ze_iload_n h dX0_ofTwo_53 rfl ?_
    refine ze_icmp_ge h 61 dX0_ofTwo_54 (by decide) ?_ ?_
    · refine ze_iconst h 0 dX0_ofTwo_61 zk_i_0 ?_
      exact ze_iret hR dX0_ofTwo_62
    · refine ze_iconst h 1 dX0_ofTwo_57 zk_i_1 ?_
      refine ze_goto h 62 dX0_ofTwo_58 (by decide) ?_
      exact ze_iret hR dX0_ofTwo_62
  refine ze_case (-23) (fun q1_3 => ?_) (fun q1_3 => ?_)
  · refine ze_tabIn h 48 dX0_ofTwo_1 (by decide) (by decide) rfl (by decide) ?_
    refine ze_iload_n h dX0_ofTwo_48 rfl ?_
    refine ze_iload_n h dX0_ofTwo_49 rfl ?_
    refine ze_imul h dX0_ofTwo_50 ?_
    exact ze_iret hR dX0_ofTwo_51
  refine ze_case (-22) (fun q1_4 => ?_) (fun q1_4 => ?_)
  · refine ze_tabIn h 44 dX0_ofTwo_1 (by decide) (by decide) rfl (by decide) ?_
    refine ze_iload_n h dX0_ofTwo_44 rfl ?_
    refine ze_iload_n h dX0_ofTwo_45 rfl ?_
    refine ze_isub h dX0_ofTwo_46 ?_
    exact ze_iret hR dX0_ofTwo_47
  refine ze_case (-21) (fun q1_5 => ?_) (fun q1_5 => ?_)
  · refine ze_tabIn h 40 dX0_ofTwo_1 (by decide) (by decide) rfl (by decide) ?_
    refine ze_iload_n h dX0_ofTwo_40 rfl ?_
    refine ze_iload_n h dX0_ofTwo_41 rfl ?_
    refine ze_iadd h dX0_ofTwo_42 ?_
    exact ze_iret hR dX0_ofTwo_43
  refine ze_tabOut h 88 dX0_ofTwo_1 (by have z0 := lv_neT q1_0 (a := (-26)) rfl; have z1 := lv_neT q1_1 (a := (-25)) rfl; have z2 := lv_neT q1_2 (a := (-24)) rfl; have z3 := lv_neT q1_3 (a := (-23)) rfl; have z4 := lv_neT q1_4 (a := (-22)) rfl; have z5 := lv_neT q1_5 (a := (-21)) rfl; omega) (by decide) ?_
  refine ze_iload_n h dX0_ofTwo_88 rfl ?_
  refine ze_if_ne h 96 dX0_ofTwo_89 (by decide) ?_ ?_
  · refine ze_iconst h 1 dX0_ofTwo_96 zk_i_1 ?_
    refine ze_goto h 101 dX0_ofTwo_97 (by decide) ?_
    exact ze_iret hR dX0_ofTwo_101
  · refine ze_iload_n h dX0_ofTwo_92 rfl ?_
    refine ze_if_eq h 100 dX0_ofTwo_93 (by decide) ?_ ?_
    · refine ze_iconst h 0 dX0_ofTwo_100 zk_i_0 ?_
      exact ze_iret hR dX0_ofTwo_101
    · refine ze_iconst h 1 dX0_ofTwo_96 zk_i_1 ?_
      refine ze_goto h 101 dX0_ofTwo_97 (by decide) ?_
      exact ze_iret hR dX0_ofTwo_101
set_option maxRecDepth 20000 in
theorem e_X4_valueOf_150 {l : Launch} {G : zGT} {T : Option Value × zMem} {Λ : zLay} (h : zOk G l cX4_valueOf RX4 10 2 0 0 false) (hR : zR G cX4_valueOf (some .int) T Λ 0 0) (hΛ : zHasT Λ) {a3 : Nat} (ea3 : Λ[a3]? = some (.inl 6)) (c53 : Int32 → Int32 → Int32 → zMem → Option (Int32 × zMem)) (hc53 : ∀ (y1 : Int32) (y2 : Int32) (y3 : Int32) (s9 : zMem), zE G T (fun r : Int32 => some (.int r)) Λ 0 0 53 [some (.ref 1), none, none, some (.ref a3), none, some (.int y1), some (.int y2), some (.int y3), none, none] [] s9 (c53 y1 y2 y3 s9)) : ∀ (x23 : Int32) (x24 : Int32) (x25 : Int32) (x26 : Int32) (x27 : Int32) (s28 : zMem), zE G T (fun r : Int32 => some (.int r)) Λ 0 0 150 [some (.ref 1), none, none, some (.ref a3), none, some (.int x23), some (.int x24), some (.int x25), some (.int x26), some (.int x27)] [] s28 (f_X4_valueOf_150 a3 c53  x23 x24 x25 x26 x27 s28) := by
  have e1 := (hΛ 1 (by decide) (by decide)).trans zl_1
  have e2 := (hΛ 2 (by decide) (by decide)).trans zl_2
  have e3 := (hΛ 3 (by decide) (by decide)).trans zl_3
  have e4 := (hΛ 4 (by decide) (by decide)).trans zl_4
  intro x23 x24 x25 x26 x27 s28
  unfold f_X4_valueOf_150
  refine ze_iload h dX4_valueOf_150 rfl ?_
  refine ze_callSi h (st := []) zce_X0_isName zt_X0_isName zm_X4_52 (Nat.le_of_ble_eq_true rfl) zkn (c_X0_isName l Λ x26 s28) rfl (Nat.le_of_ble_eq_true rfl) rfl dX4_valueOf_152 (fun r29 s30 => ?_)
  refine ze_if_eq h 167 dX4_valueOf_155 (by decide) ?_ ?_
  · refine ze_iload h dX4_valueOf_167 rfl ?_
    refine ze_aload_n h dX4_valueOf_169 rfl ?_
    refine ze_getR h e1 rfl zf_X4_18 dX4_valueOf_170 ?_
    refine ze_alen h (v := 160) e4 zk_n_160 dX4_valueOf_173 ?_
    refine ze_icmp_ge h 189 dX4_valueOf_174 (by decide) ?_ ?_
    · refine ze_iincN h (fun y9 => [some (.ref 1), none, none, some (.ref a3), none, some (.int x23), some (.int x24), some (.int y9), some (.int x26), some (.int x27)]) 1 dX4_valueOf_189 rfl zk_i_1 rfl (by decide) (fun _ => rfl) (fun x31 => ?_)
      refine ze_goto h 53 dX4_valueOf_192 (by decide) ?_
      refine zE_weak h [true, false, false, true, false, true, true, true, false, false] rfl ?_
      exact hc53 x23 x24 x31 s30
    · refine ze_aload_n h dX4_valueOf_177 rfl ?_
      refine ze_getR h e1 rfl zf_X4_18 dX4_valueOf_178 ?_
      refine ze_iload h dX4_valueOf_181 rfl ?_
      refine ze_iload h dX4_valueOf_183 rfl ?_
      refine ze_iastG h e4 dX4_valueOf_185 ?_
      refine ze_nmS (fun s32 => ?_)
      refine ze_iincN h (fun y9 => [some (.ref 1), none, none, some (.ref a3), none, some (.int x23), some (.int y9), some (.int x25), some (.int x26), some (.int x27)]) 1 dX4_valueOf_186 rfl zk_i_1 rfl (by decide) (fun _ => rfl) (fun x33 => ?_)
      refine ze_iincN h (fun y9 => [some (.ref 1), none, none, some (.ref a3), none, some (.int x23), some (.int x33), some (.int y9), some (.int x26), some (.int x27)]) 1 dX4_valueOf_189 rfl zk_i_1 rfl (by decide) (fun _ => rfl) (fun x34 => ?_)
      refine ze_goto h 53 dX4_valueOf_192 (by decide) ?_
      refine zE_weak h [true, false, false, true, false, true, true, true, false, false] rfl ?_
      exact hc53 x23 x33 x34 s32
  · refine ze_aload_n h dX4_valueOf_158 rfl ?_
    refine ze_iload h dX4_valueOf_159 rfl ?_
    refine ze_callSi h (st := [.ref a3]) zce_X0_ofName zt_X0_ofName zm_X4_55 (Nat.le_of_ble_eq_true rfl) zkn (c_X0_ofName l Λ x26 s30) rfl (Nat.le_of_ble_eq_true rfl) rfl dX4_valueOf_161 (fun r35 s36 => ?_)
    refine ze_ialdG h ea3 dX4_valueOf_164 ?_
    refine ze_nmI (fun x37 => ?_)
    refine ze_istore h [some (.ref 1), none, none, some (.ref a3), none, some (.int x23), some (.int x24), some (.int x25), some (.int x26), some (.int x37)] dX4_valueOf_165 rfl (by decide) rfl ?_
    refine ze_iload h dX4_valueOf_167 rfl ?_
    refine ze_aload_n h dX4_valueOf_169 rfl ?_
    refine ze_getR h e1 rfl zf_X4_18 dX4_valueOf_170 ?_
    refine ze_alen h (v := 160) e4 zk_n_160 dX4_valueOf_173 ?_
    refine ze_icmp_ge h 189 dX4_valueOf_174 (by decide) ?_ ?_
    · refine ze_iincN h (fun y9 => [some (.ref 1), none, none, some (.ref a3), none, some (.int x23), some (.int x24), some (.int y9), some (.int x26), some (.int x37)]) 1 dX4_valueOf_189 rfl zk_i_1 rfl (by decide) (fun _ => rfl) (fun x38 => ?_)
      refine ze_goto h 53 dX4_valueOf_192 (by decide) ?_
      refine zE_weak h [true, false, false, true, false, true, true, true, false, false] rfl ?_
      exact hc53 x23 x24 x38 s36
    · refine ze_aload_n h dX4_valueOf_177 rfl ?_
      refine ze_getR h e1 rfl zf_X4_18 dX4_valueOf_178 ?_
      refine ze_iload h dX4_valueOf_181 rfl ?_
      refine ze_iload h dX4_valueOf_183 rfl ?_
      refine ze_iastG h e4 dX4_valueOf_185 ?_
      refine ze_nmS (fun s39 => ?_)
      refine ze_iincN h (fun y9 => [some (.ref 1), none, none, some (.ref a3), none, some (.int x23), some (.int y9), some (.int x25), some (.int x26), some (.int x37)]) 1 dX4_valueOf_186 rfl zk_i_1 rfl (by decide) (fun _ => rfl) (fun x40 => ?_)
      refine ze_iincN h (fun y9 => [some (.ref 1), none, none, some (.ref a3), none, some (.int x23), some (.int x40), some (.int y9), some (.int x26), some (.int x37)]) 1 dX4_valueOf_189 rfl zk_i_1 rfl (by decide) (fun _ => rfl) (fun x41 => ?_)
      refine ze_goto h 53 dX4_valueOf_192 (by decide) ?_
      refine zE_weak h [true, false, false, true, false, true, true, true, false, false] rfl ?_
      exact hc53 x23 x40 x41 s39
set_option maxRecDepth 20000 in
theorem e_X4_valueOf_116 {l : Launch} {G : zGT} {T : Option Value × zMem} {Λ : zLay} (h : zOk G l cX4_valueOf RX4 10 2 0 0 false) (hR : zR G cX4_valueOf (some .int) T Λ 0 0) (hΛ : zHasT Λ) {a3 : Nat} (ea3 : Λ[a3]? = some (.inl 6)) (c53 : Int32 → Int32 → Int32 → zMem → Option (Int32 × zMem)) (hc53 : ∀ (y1 : Int32) (y2 : Int32) (y3 : Int32) (s9 : zMem), zE G T (fun r : Int32 => some (.int r)) Λ 0 0 53 [some (.ref 1), none, none, some (.ref a3), none, some (.int y1), some (.int y2), some (.int y3), none, none] [] s9 (c53 y1 y2 y3 s9)) : ∀ (x15 : Int32) (x16 : Int32) (x17 : Int32) (x18 : Int32) (x19 : Int32) (s20 : zMem), zE G T (fun r : Int32 => some (.int r)) Λ 0 0 116 [some (.ref 1), none, none, some (.ref a3), none, some (.int x15), some (.int x16), some (.int x17), some (.int x18), some (.int x19)] [] s20 (f_X4_valueOf_116 a3 c53  x15 x16 x17 x18 x19 s20) := by
  have e1 := (hΛ 1 (by decide) (by decide)).trans zl_1
  have e2 := (hΛ 2 (by decide) (by decide)).trans zl_2
  have e3 := (hΛ 3 (by decide) (by decide)).trans zl_3
  have e4 := (hΛ 4 (by decide) (by decide)).trans zl_4
  intro x15 x16 x17 x18 x19 s20
  unfold f_X4_valueOf_116
  refine ze_iload h dX4_valueOf_116 rfl ?_
  refine ze_callSi h (st := []) zce_X0_isOfOne zt_X0_isOfOne zm_X4_45 (Nat.le_of_ble_eq_true rfl) zkn (c_X0_isOfOne l Λ x18 s20) rfl (Nat.le_of_ble_eq_true rfl) rfl dX4_valueOf_118 (fun r21 s22 => ?_)
  refine ze_if_eq h 150 dX4_valueOf_121 (by decide) ?_ ?_
  · refine e_X4_valueOf_150 h hR hΛ ea3 _ ?_ x15 x16 x17 x18 x19 s22
    · intro x42 x43 x44 s45
      exact hc53 x42 x43 x44 s45
  · refine ze_iload h dX4_valueOf_124 rfl ?_
    refine ze_iconst h 1 dX4_valueOf_126 zk_i_1 ?_
    refine ze_icmp_lt h 150 dX4_valueOf_127 (by decide) ?_ ?_
    · refine e_X4_valueOf_150 h hR hΛ ea3 _ ?_ x15 x16 x17 x18 x19 s22
      · intro x46 x47 x48 s49
        exact hc53 x46 x47 x48 s49
    · refine ze_iincN h (fun y9 => [some (.ref 1), none, none, some (.ref a3), none, some (.int x15), some (.int y9), some (.int x17), some (.int x18), some (.int x19)]) (-1) dX4_valueOf_130 rfl zk_i_m1 rfl (by decide) (fun _ => rfl) (fun x50 => ?_)
      refine ze_iload h dX4_valueOf_133 rfl ?_
      refine ze_aload_n h dX4_valueOf_135 rfl ?_
      refine ze_getR h e1 rfl zf_X4_18 dX4_valueOf_136 ?_
      refine ze_iload h dX4_valueOf_139 rfl ?_
      refine ze_ialdG h e4 dX4_valueOf_141 ?_
      refine ze_callSi h (st := []) zce_X0_ofOne zt_X0_ofOne zm_X4_48 (Nat.le_of_ble_eq_true rfl) zkn (c_X0_ofOne l Λ x18 (s22 4 (zix x50)) s22) rfl (Nat.le_of_ble_eq_true rfl) rfl dX4_valueOf_142 (fun r51 s52 => ?_)
      refine ze_istore h [some (.ref 1), none, none, some (.ref a3), none, some (.int x15), some (.int x50), some (.int x17), some (.int x18), some (.int r51)] dX4_valueOf_145 rfl (by decide) rfl ?_
      refine ze_goto h 167 dX4_valueOf_147 (by decide) ?_
      refine ze_iload h dX4_valueOf_167 rfl ?_
      refine ze_aload_n h dX4_valueOf_169 rfl ?_
      refine ze_getR h e1 rfl zf_X4_18 dX4_valueOf_170 ?_
      refine ze_alen h (v := 160) e4 zk_n_160 dX4_valueOf_173 ?_
      refine ze_pc 174 rfl ?_
      refine ze_icmp_ge h 189 dX4_valueOf_174 (by decide) ?_ ?_
      · refine ze_iincN h (fun y9 => [some (.ref 1), none, none, some (.ref a3), none, some (.int x15), some (.int x50), some (.int y9), some (.int x18), some (.int r51)]) 1 dX4_valueOf_189 rfl zk_i_1 rfl (by decide) (fun _ => rfl) (fun x53 => ?_)
        refine ze_goto h 53 dX4_valueOf_192 (by decide) ?_
        refine zE_weak h [true, false, false, true, false, true, true, true, false, false] rfl ?_
        exact hc53 x15 x50 x53 s52
      · refine ze_aload_n h dX4_valueOf_177 rfl ?_
        refine ze_getR h e1 rfl zf_X4_18 dX4_valueOf_178 ?_
        refine ze_iload h dX4_valueOf_181 rfl ?_
        refine ze_iload h dX4_valueOf_183 rfl ?_
        refine ze_iastG h e4 dX4_valueOf_185 ?_
        refine ze_nmS (fun s54 => ?_)
        refine ze_iincN h (fun y9 => [some (.ref 1), none, none, some (.ref a3), none, some (.int x15), some (.int y9), some (.int x17), some (.int x18), some (.int r51)]) 1 dX4_valueOf_186 rfl zk_i_1 rfl (by decide) (fun _ => rfl) (fun x55 => ?_)
        refine ze_iincN h (fun y9 => [some (.ref 1), none, none, some (.ref a3), none, some (.int x15), some (.int x55), some (.int y9), some (.int x18), some (.int r51)]) 1 dX4_valueOf_189 rfl zk_i_1 rfl (by decide) (fun _ => rfl) (fun x56 => ?_)
        refine ze_goto h 53 dX4_valueOf_192 (by decide) ?_
        refine zE_weak h [true, false, false, true, false, true, true, true, false, false] rfl ?_
        exact hc53 x15 x55 x56 s54
set_option maxRecDepth 20000 in
theorem e_X4_valueOf_53 {l : Launch} {G : zGT} {T : Option Value × zMem} {Λ : zLay} (h : zOk G l cX4_valueOf RX4 10 2 0 0 false) (hR : zR G cX4_valueOf (some .int) T Λ 0 0) (hΛ : zHasT Λ) {a3 : Nat} (ea3 : Λ[a3]? = some (.inl 6)) (c195 : Int32 → zMem → Option (Int32 × zMem)) (hc195 : ∀ (y1 : Int32) (s9 : zMem), zE G T (fun r : Int32 => some (.int r)) Λ 0 0 195 [some (.ref 1), none, none, none, none, none, some (.int y1), none, none, none] [] s9 (c195 y1 s9)) : ∀ (n : Nat) (x8 : Int32) (x9 : Int32) (x10 : Int32) (s11 : zMem), zE G T (fun r : Int32 => some (.int r)) Λ 0 0 53 [some (.ref 1), none, none, some (.ref a3), none, some (.int x8), some (.int x9), some (.int x10), none, none] [] s11 (f_X4_valueOf_53 a3 c195 n x8 x9 x10 s11) := by
  have e1 := (hΛ 1 (by decide) (by decide)).trans zl_1
  have e2 := (hΛ 2 (by decide) (by decide)).trans zl_2
  have e3 := (hΛ 3 (by decide) (by decide)).trans zl_3
  have e4 := (hΛ 4 (by decide) (by decide)).trans zl_4
  intro n
  induction n with
  | zero => intro _ _ _ _; exact ze_none
  | succ n ih =>
    intro x8 x9 x10 s11
    rw [f_X4_valueOf_53]
    refine ze_iload h dX4_valueOf_53 rfl ?_
    refine ze_iload h dX4_valueOf_55 rfl ?_
    refine ze_icmp_ge h 195 dX4_valueOf_57 (by decide) ?_ ?_
    · refine zE_weak h [true, false, false, false, false, false, true, false, false, false] rfl ?_
      exact hc195 x9 s11
    · refine ze_aload_n h dX4_valueOf_60 rfl ?_
      refine ze_getR h e1 rfl zf_X4_9 dX4_valueOf_61 ?_
      refine ze_iload h dX4_valueOf_64 rfl ?_
      refine ze_ialdG h e2 dX4_valueOf_66 ?_
      refine ze_nmI (fun x12 => ?_)
      refine ze_istore h [some (.ref 1), none, none, some (.ref a3), none, some (.int x8), some (.int x9), some (.int x10), some (.int x12), none] dX4_valueOf_67 rfl (by decide) rfl ?_
      refine ze_iload h dX4_valueOf_69 rfl ?_
      refine ze_istore h [some (.ref 1), none, none, some (.ref a3), none, some (.int x8), some (.int x9), some (.int x10), some (.int x12), some (.int x12)] dX4_valueOf_71 rfl (by decide) rfl ?_
      refine ze_iload h dX4_valueOf_73 rfl ?_
      refine ze_callSi h (st := []) zce_X0_isOfTwo zt_X0_isOfTwo zm_X4_35 (Nat.le_of_ble_eq_true rfl) zkn (c_X0_isOfTwo l Λ x12 s11) rfl (Nat.le_of_ble_eq_true rfl) rfl dX4_valueOf_75 (fun r13 s14 => ?_)
      refine ze_if_eq h 116 dX4_valueOf_78 (by decide) ?_ ?_
      · refine e_X4_valueOf_116 h hR hΛ ea3 _ ?_ x8 x9 x10 x12 x12 s14
        · intro x57 x58 x59 s60
          exact ih x57 x58 x59 s60
      · refine ze_iload h dX4_valueOf_81 rfl ?_
        refine ze_iconst h 2 dX4_valueOf_83 zk_i_2 ?_
        refine ze_icmp_lt h 116 dX4_valueOf_84 (by decide) ?_ ?_
        · refine e_X4_valueOf_116 h hR hΛ ea3 _ ?_ x8 x9 x10 x12 x12 s14
          · intro x61 x62 x63 s64
            exact ih x61 x62 x63 s64
        · refine ze_iincN h (fun y9 => [some (.ref 1), none, none, some (.ref a3), none, some (.int x8), some (.int y9), some (.int x10), some (.int x12), some (.int x12)]) (-2) dX4_valueOf_87 rfl zk_i_m2 rfl (by decide) (fun _ => rfl) (fun x65 => ?_)
          refine ze_iload h dX4_valueOf_90 rfl ?_
          refine ze_aload_n h dX4_valueOf_92 rfl ?_
          refine ze_getR h e1 rfl zf_X4_18 dX4_valueOf_93 ?_
          refine ze_iload h dX4_valueOf_96 rfl ?_
          refine ze_ialdG h e4 dX4_valueOf_98 ?_
          refine ze_aload_n h dX4_valueOf_99 rfl ?_
          refine ze_getR h e1 rfl zf_X4_18 dX4_valueOf_100 ?_
          refine ze_iload h dX4_valueOf_103 rfl ?_
          refine ze_iconst h 1 dX4_valueOf_105 zk_i_1 ?_
          refine ze_iadd h dX4_valueOf_106 ?_
          refine ze_ialdG h e4 dX4_valueOf_107 ?_
          refine ze_callSi h (st := []) zce_X0_ofTwo zt_X0_ofTwo zm_X4_41 (Nat.le_of_ble_eq_true rfl) zkn (c_X0_ofTwo l Λ x12 (s14 4 (zix x65)) (s14 4 (zix (x65 + 1))) s14) rfl (Nat.le_of_ble_eq_true rfl) rfl dX4_valueOf_108 (fun r66 s67 => ?_)
          refine ze_pc 111 rfl ?_
          refine ze_istore h [some (.ref 1), none, none, some (.ref a3), none, some (.int x8), some (.int x65), some (.int x10), some (.int x12), some (.int r66)] dX4_valueOf_111 rfl (by decide) rfl ?_
          refine ze_goto h 167 dX4_valueOf_113 (by decide) ?_
          refine ze_iload h dX4_valueOf_167 rfl ?_
          refine ze_aload_n h dX4_valueOf_169 rfl ?_
          refine ze_getR h e1 rfl zf_X4_18 dX4_valueOf_170 ?_
          refine ze_alen h (v := 160) e4 zk_n_160 dX4_valueOf_173 ?_
          refine ze_icmp_ge h 189 dX4_valueOf_174 (by decide) ?_ ?_
          · refine ze_iincN h (fun y9 => [some (.ref 1), none, none, some (.ref a3), none, some (.int x8), some (.int x65), some (.int y9), some (.int x12), some (.int r66)]) 1 dX4_valueOf_189 rfl zk_i_1 rfl (by decide) (fun _ => rfl) (fun x68 => ?_)
            refine ze_goto h 53 dX4_valueOf_192 (by decide) ?_
            refine zE_weak h [true, false, false, true, false, true, true, true, false, false] rfl ?_
            exact ih x8 x65 x68 s67
          · refine ze_aload_n h dX4_valueOf_177 rfl ?_
            refine ze_getR h e1 rfl zf_X4_18 dX4_valueOf_178 ?_
            refine ze_iload h dX4_valueOf_181 rfl ?_
            refine ze_iload h dX4_valueOf_183 rfl ?_
            refine ze_iastG h e4 dX4_valueOf_185 ?_
            refine ze_nmS (fun s69 => ?_)
            refine ze_iincN h (fun y9 => [some (.ref 1), none, none, some (.ref a3), none, some (.int x8), some (.int y9), some (.int x10), some (.int x12), some (.int r66)]) 1 dX4_valueOf_186 rfl zk_i_1 rfl (by decide) (fun _ => rfl) (fun x70 => ?_)
            refine ze_iincN h (fun y9 => [some (.ref 1), none, none, some (.ref a3), none, some (.int x8), some (.int x70), some (.int y9), some (.int x12), some (.int r66)]) 1 dX4_valueOf_189 rfl zk_i_1 rfl (by decide) (fun _ => rfl) (fun x71 => ?_)
            refine ze_goto h 53 dX4_valueOf_192 (by decide) ?_
            refine zE_weak h [true, false, false, true, false, true, true, true, false, false] rfl ?_
            exact ih x8 x70 x71 s69
set_option maxRecDepth 20000 in
theorem e_X4_valueOf_25 {l : Launch} {G : zGT} {T : Option Value × zMem} {Λ : zLay} (h : zOk G l cX4_valueOf RX4 10 2 0 0 false) (hR : zR G cX4_valueOf (some .int) T Λ 0 0) (hΛ : zHasT Λ) {a3 : Nat} (ea3 : Λ[a3]? = some (.inl 6))  : ∀ (x1 : Int32) (x2 : Int32) (t3 : Int32) (t4 : Int32) (s5 : zMem), zE G T (fun r : Int32 => some (.int r)) Λ 0 0 25 [some (.ref 1), some (.int x1), some (.int x2), some (.ref a3), none, none, none, none, none, none] [.int t3, .int t4] s5 (f_X4_valueOf_25 a3  x1 x2 t3 t4 s5) := by
  have e1 := (hΛ 1 (by decide) (by decide)).trans zl_1
  have e2 := (hΛ 2 (by decide) (by decide)).trans zl_2
  have e3 := (hΛ 3 (by decide) (by decide)).trans zl_3
  have e4 := (hΛ 4 (by decide) (by decide)).trans zl_4
  intro x1 x2 t3 t4 s5
  unfold f_X4_valueOf_25
  refine ze_iadd h dX4_valueOf_25 ?_
  refine ze_nmI (fun x6 => ?_)
  refine ze_istore h [some (.ref 1), some (.int x1), some (.int x2), some (.ref a3), some (.int x6), none, none, none, none, none] dX4_valueOf_26 rfl (by decide) rfl ?_
  refine ze_iload_n h dX4_valueOf_28 rfl ?_
  refine ze_sipush h 160 dX4_valueOf_29 zk_s_160 ?_
  refine ze_imul h dX4_valueOf_32 ?_
  refine ze_aload_n h dX4_valueOf_33 rfl ?_
  refine ze_getR h e1 rfl zf_X4_15 dX4_valueOf_34 ?_
  refine ze_iload_n h dX4_valueOf_37 rfl ?_
  refine ze_iconst h 3 dX4_valueOf_38 zk_i_3 ?_
  refine ze_imul h dX4_valueOf_39 ?_
  refine ze_iload_n h dX4_valueOf_40 rfl ?_
  refine ze_iadd h dX4_valueOf_41 ?_
  refine ze_ialdG h e3 dX4_valueOf_42 ?_
  refine ze_pc 43 rfl ?_
  refine ze_iadd h dX4_valueOf_43 ?_
  refine ze_nmI (fun x7 => ?_)
  refine ze_istore h [some (.ref 1), some (.int x1), some (.int x2), some (.ref a3), some (.int x6), some (.int x7), none, none, none, none] dX4_valueOf_44 rfl (by decide) rfl ?_
  refine ze_iconst h 0 dX4_valueOf_46 zk_i_0 ?_
  refine ze_istore h [some (.ref 1), some (.int x1), some (.int x2), some (.ref a3), some (.int x6), some (.int x7), some (.int 0), none, none, none] dX4_valueOf_47 rfl (by decide) rfl ?_
  refine ze_iload h dX4_valueOf_49 rfl ?_
  refine ze_istore h [some (.ref 1), some (.int x1), some (.int x2), some (.ref a3), some (.int x6), some (.int x7), some (.int 0), some (.int x6), none, none] dX4_valueOf_51 rfl (by decide) rfl ?_
  refine zE_weak h [true, false, false, true, false, true, true, true, false, false] rfl ?_
  refine e_X4_valueOf_53 h hR hΛ ea3 _ ?_ zN x7 0 x6 s5
  · intro x72 s73
    refine ze_iload h dX4_valueOf_195 rfl ?_
    refine ze_if_le h 209 dX4_valueOf_197 (by decide) ?_ ?_
    · refine ze_iconst h 0 dX4_valueOf_209 zk_i_0 ?_
      exact ze_iret hR dX4_valueOf_210
    · refine ze_aload_n h dX4_valueOf_200 rfl ?_
      refine ze_getR h e1 rfl zf_X4_18 dX4_valueOf_201 ?_
      refine ze_iconst h 0 dX4_valueOf_204 zk_i_0 ?_
      refine ze_ialdG h e4 dX4_valueOf_205 ?_
      refine ze_goto h 210 dX4_valueOf_206 (by decide) ?_
      exact ze_iret hR dX4_valueOf_210
set_option maxRecDepth 20000 in
theorem c_X4_valueOf (l : Launch) (Λ : zLay) (hΛ : zHasT Λ) {a3 : Nat} (ea3 : Λ[a3]? = some (.inl 6)) (p1 : Int32) (p2 : Int32) (s0 : zMem) : zC l yX4_valueOf (.code yX4_valueOf cX4_valueOf 10 (some .int)) 2 [.ref 1, .int p1, .int p2, .ref a3] Λ s0 (fun r : Int32 => some (.int r)) (f_X4_valueOf a3 p1 p2 s0) := by
  refine zC_of (own := RX4) rfl rfl (Nat.le_of_ble_eq_true rfl) [some (.ref 1), some (.int p1), some (.int p2), some (.ref a3), none, none, none, none, none, none] rfl (fun G T h hR => ?_)
  have e1 := (hΛ 1 (by decide) (by decide)).trans zl_1
  have e2 := (hΛ 2 (by decide) (by decide)).trans zl_2
  have e3 := (hΛ 3 (by decide) (by decide)).trans zl_3
  have e4 := (hΛ 4 (by decide) (by decide)).trans zl_4
  unfold f_X4_valueOf
  refine ze_iload_n h dX4_valueOf_0 rfl ?_
  refine ze_sipush h 160 dX4_valueOf_1 zk_s_160 ?_
  refine ze_imul h dX4_valueOf_4 ?_
  refine ze_iload_n h dX4_valueOf_5 rfl ?_
  refine ze_if_ne h 13 dX4_valueOf_6 (by decide) ?_ ?_
  · refine ze_aload_n h dX4_valueOf_13 rfl ?_
    refine ze_getR h e1 rfl zf_X4_15 dX4_valueOf_14 ?_
    refine ze_iload_n h dX4_valueOf_17 rfl ?_
    refine ze_iconst h 3 dX4_valueOf_18 zk_i_3 ?_
    refine ze_imul h dX4_valueOf_19 ?_
    refine ze_iload_n h dX4_valueOf_20 rfl ?_
    refine ze_iadd h dX4_valueOf_21 ?_
    refine ze_iconst h 1 dX4_valueOf_22 zk_i_1 ?_
    refine ze_isub h dX4_valueOf_23 ?_
    refine ze_ialdG h e3 dX4_valueOf_24 ?_
    exact e_X4_valueOf_25 h hR hΛ ea3  p1 p2 (s0 3 (zix (((p1 * 3) + p2) - 1))) (p1 * 160) s0
  · refine ze_iconst h 0 dX4_valueOf_9 zk_i_0 ?_
    refine ze_goto h 25 dX4_valueOf_10 (by decide) ?_
    exact e_X4_valueOf_25 h hR hΛ ea3  p1 p2 0 (p1 * 160) s0
set_option maxRecDepth 20000 in
theorem c_X1_growth (l : Launch) (Λ : zLay) (p1 : Int32) (p2 : Int32) (p3 : Int32) (p4 : Int32) (s0 : zMem) : zC l yX1_growth (.code yX1_growth cX1_growth 4 (some .int)) 1 [.int p1, .int p2, .int p3, .int p4] Λ s0 (fun r : Int32 => some (.int r)) (f_X1_growth p1 p2 p3 p4 s0) := by
  refine zC_of (own := RX1) rfl rfl (Nat.le_of_ble_eq_true rfl) [some (.int p1), some (.int p2), some (.int p3), some (.int p4)] rfl (fun G T h hR => ?_)
  unfold f_X1_growth
  refine ze_iload_n h dX1_growth_0 rfl ?_
  refine ze_case 1 (fun q1_0 => ?_) (fun q1_0 => ?_)
  · refine ze_tabIn h 36 dX1_growth_1 (by decide) (by decide) rfl (by decide) ?_
    refine ze_iload_n h dX1_growth_36 rfl ?_
    refine ze_bipush h 50 dX1_growth_37 zk_b_50 ?_
    refine ze_icmp_le h 48 dX1_growth_39 (by decide) ?_ ?_
    · refine ze_iload_n h dX1_growth_48 rfl ?_
      exact ze_iret hR dX1_growth_49
    · refine ze_iload_n h dX1_growth_42 rfl ?_
      refine ze_iload_n h dX1_growth_43 rfl ?_
      refine ze_iadd h dX1_growth_44 ?_
      refine ze_goto h 49 dX1_growth_45 (by decide) ?_
      exact ze_iret hR dX1_growth_49
  refine ze_case 2 (fun q1_1 => ?_) (fun q1_1 => ?_)
  · refine ze_tabIn h 58 dX1_growth_1 (by decide) (by decide) rfl (by decide) ?_
    refine ze_iload_n h dX1_growth_58 rfl ?_
    exact ze_iret hR dX1_growth_59
  refine ze_case 3 (fun q1_2 => ?_) (fun q1_2 => ?_)
  · refine ze_tabIn h 36 dX1_growth_1 (by decide) (by decide) rfl (by decide) ?_
    refine ze_iload_n h dX1_growth_36 rfl ?_
    refine ze_bipush h 50 dX1_growth_37 zk_b_50 ?_
    refine ze_icmp_le h 48 dX1_growth_39 (by decide) ?_ ?_
    · refine ze_iload_n h dX1_growth_48 rfl ?_
      exact ze_iret hR dX1_growth_49
    · refine ze_iload_n h dX1_growth_42 rfl ?_
      refine ze_iload_n h dX1_growth_43 rfl ?_
      refine ze_iadd h dX1_growth_44 ?_
      refine ze_goto h 49 dX1_growth_45 (by decide) ?_
      exact ze_iret hR dX1_growth_49
  refine ze_case 4 (fun q1_3 => ?_) (fun q1_3 => ?_)
  · refine ze_tabIn h 50 dX1_growth_1 (by decide) (by decide) rfl (by decide) ?_
    refine ze_iconst h 2 dX1_growth_50 zk_i_2 ?_
    refine ze_iload_n h dX1_growth_51 rfl ?_
    refine ze_imul h dX1_growth_52 ?_
    refine ze_iconst h 1 dX1_growth_53 zk_i_1 ?_
    refine ze_iadd h dX1_growth_54 ?_
    exact ze_iret hR dX1_growth_55
  refine ze_case 5 (fun q1_4 => ?_) (fun q1_4 => ?_)
  · refine ze_tabIn h 56 dX1_growth_1 (by decide) (by decide) rfl (by decide) ?_
    refine ze_iconst h 0 dX1_growth_56 zk_i_0 ?_
    exact ze_iret hR dX1_growth_57
  refine ze_tabOut h 58 dX1_growth_1 (by have z0 := lv_neT q1_0 (a := 1) rfl; have z1 := lv_neT q1_1 (a := 2) rfl; have z2 := lv_neT q1_2 (a := 3) rfl; have z3 := lv_neT q1_3 (a := 4) rfl; have z4 := lv_neT q1_4 (a := 5) rfl; omega) (by decide) ?_
  refine ze_iload_n h dX1_growth_58 rfl ?_
  exact ze_iret hR dX1_growth_59
set_option maxRecDepth 20000 in
theorem c_X1_burning (l : Launch) (Λ : zLay) (p1 : Int32) (p2 : Int32) (p3 : Int32) (p4 : Int32) (s0 : zMem) : zC l yX1_burning (.code yX1_burning cX1_burning 4 (some .int)) 1 [.int p1, .int p2, .int p3, .int p4] Λ s0 (fun r : Int32 => some (.int r)) (f_X1_burning p1 p2 p3 p4 s0) := by
  refine zC_of (own := RX1) rfl rfl (Nat.le_of_ble_eq_true rfl) [some (.int p1), some (.int p2), some (.int p3), some (.int p4)] rfl (fun G T h hR => ?_)
  unfold f_X1_burning
  refine ze_iload_n h dX1_burning_0 rfl ?_
  refine ze_case 2 (fun q1_0 => ?_) (fun q1_0 => ?_)
  · refine ze_tabIn h 32 dX1_burning_1 (by decide) (by decide) rfl (by decide) ?_
    refine ze_iconst h 2 dX1_burning_32 zk_i_2 ?_
    refine ze_iload_n h dX1_burning_33 rfl ?_
    refine ze_imul h dX1_burning_34 ?_
    exact ze_iret hR dX1_burning_35
  refine ze_case 3 (fun q1_1 => ?_) (fun q1_1 => ?_)
  · refine ze_tabIn h 36 dX1_burning_1 (by decide) (by decide) rfl (by decide) ?_
    refine ze_iload_n h dX1_burning_36 rfl ?_
    refine ze_iload_n h dX1_burning_37 rfl ?_
    refine ze_iadd h dX1_burning_38 ?_
    exact ze_iret hR dX1_burning_39
  refine ze_case 4 (fun q1_2 => ?_) (fun q1_2 => ?_)
  · refine ze_tabIn h 40 dX1_burning_1 (by decide) (by decide) rfl (by decide) ?_
    refine ze_iload_n h dX1_burning_40 rfl ?_
    refine ze_iload_n h dX1_burning_41 rfl ?_
    refine ze_icmp_ge h 49 dX1_burning_42 (by decide) ?_ ?_
    · refine ze_iconst h 2 dX1_burning_49 zk_i_2 ?_
      refine ze_iload_n h dX1_burning_50 rfl ?_
      refine ze_imul h dX1_burning_51 ?_
      exact ze_iret hR dX1_burning_52
    · refine ze_iconst h 0 dX1_burning_45 zk_i_0 ?_
      refine ze_goto h 52 dX1_burning_46 (by decide) ?_
      exact ze_iret hR dX1_burning_52
  refine ze_case 5 (fun q1_3 => ?_) (fun q1_3 => ?_)
  · refine ze_tabIn h 53 dX1_burning_1 (by decide) (by decide) rfl (by decide) ?_
    refine ze_iload_n h dX1_burning_53 rfl ?_
    refine ze_iconst h 2 dX1_burning_54 zk_i_2 ?_
    refine ze_irem h dX1_burning_55 (by decide) ?_
    refine ze_if_eq h 64 dX1_burning_56 (by decide) ?_ ?_
    · refine ze_iconst h 0 dX1_burning_64 zk_i_0 ?_
      exact ze_iret hR dX1_burning_65
    · refine ze_bipush h 30 dX1_burning_59 zk_b_30 ?_
      refine ze_goto h 65 dX1_burning_61 (by decide) ?_
      exact ze_iret hR dX1_burning_65
  refine ze_tabOut h 66 dX1_burning_1 (by have z0 := lv_neT q1_0 (a := 2) rfl; have z1 := lv_neT q1_1 (a := 3) rfl; have z2 := lv_neT q1_2 (a := 4) rfl; have z3 := lv_neT q1_3 (a := 5) rfl; omega) (by decide) ?_
  refine ze_iload_n h dX1_burning_66 rfl ?_
  exact ze_iret hR dX1_burning_67
set_option maxRecDepth 20000 in
theorem c_X1_cooling (l : Launch) (Λ : zLay) (p1 : Int32) (p2 : Int32) (p3 : Int32) (s0 : zMem) : zC l yX1_cooling (.code yX1_cooling cX1_cooling 3 (some .int)) 1 [.int p1, .int p2, .int p3] Λ s0 (fun r : Int32 => some (.int r)) (f_X1_cooling p1 p2 p3 s0) := by
  refine zC_of (own := RX1) rfl rfl (Nat.le_of_ble_eq_true rfl) [some (.int p1), some (.int p2), some (.int p3)] rfl (fun G T h hR => ?_)
  unfold f_X1_cooling
  refine ze_iload_n h dX1_cooling_0 rfl ?_
  refine ze_case 1 (fun q1_0 => ?_) (fun q1_0 => ?_)
  · refine ze_tabIn h 32 dX1_cooling_1 (by decide) (by decide) rfl (by decide) ?_
    refine ze_iload_n h dX1_cooling_32 rfl ?_
    refine ze_iconst h 2 dX1_cooling_33 zk_i_2 ?_
    refine ze_idiv h dX1_cooling_34 (by decide) ?_
    exact ze_iret hR dX1_cooling_35
  refine ze_case 2 (fun q1_1 => ?_) (fun q1_1 => ?_)
  · refine ze_tabIn h 51 dX1_cooling_1 (by decide) (by decide) rfl (by decide) ?_
    refine ze_iload_n h dX1_cooling_51 rfl ?_
    refine ze_iload_n h dX1_cooling_52 rfl ?_
    refine ze_bipush h 20 dX1_cooling_53 zk_b_20 ?_
    refine ze_idiv h dX1_cooling_55 (by decide) ?_
    refine ze_iadd h dX1_cooling_56 ?_
    exact ze_iret hR dX1_cooling_57
  refine ze_case 3 (fun q1_2 => ?_) (fun q1_2 => ?_)
  · refine ze_tabIn h 36 dX1_cooling_1 (by decide) (by decide) rfl (by decide) ?_
    refine ze_iload_n h dX1_cooling_36 rfl ?_
    refine ze_sipush h 200 dX1_cooling_37 zk_s_200 ?_
    refine ze_icmp_le h 47 dX1_cooling_40 (by decide) ?_ ?_
    · refine ze_iload_n h dX1_cooling_47 rfl ?_
      refine ze_iconst h 2 dX1_cooling_48 zk_i_2 ?_
      refine ze_idiv h dX1_cooling_49 (by decide) ?_
      exact ze_iret hR dX1_cooling_50
    · refine ze_iload_n h dX1_cooling_43 rfl ?_
      refine ze_goto h 50 dX1_cooling_44 (by decide) ?_
      exact ze_iret hR dX1_cooling_50
  refine ze_case 4 (fun q1_3 => ?_) (fun q1_3 => ?_)
  · refine ze_tabIn h 51 dX1_cooling_1 (by decide) (by decide) rfl (by decide) ?_
    refine ze_iload_n h dX1_cooling_51 rfl ?_
    refine ze_iload_n h dX1_cooling_52 rfl ?_
    refine ze_bipush h 20 dX1_cooling_53 zk_b_20 ?_
    refine ze_idiv h dX1_cooling_55 (by decide) ?_
    refine ze_iadd h dX1_cooling_56 ?_
    exact ze_iret hR dX1_cooling_57
  refine ze_tabOut h 58 dX1_cooling_1 (by have z0 := lv_neT q1_0 (a := 1) rfl; have z1 := lv_neT q1_1 (a := 2) rfl; have z2 := lv_neT q1_2 (a := 3) rfl; have z3 := lv_neT q1_3 (a := 4) rfl; omega) (by decide) ?_
  refine ze_iload_n h dX1_cooling_58 rfl ?_
  exact ze_iret hR dX1_cooling_59
set_option maxRecDepth 20000 in
theorem c_X6_has (l : Launch) (Λ : zLay) (p1 : Int32) (p2 : Int32) (s0 : zMem) : zC l yX6_has (.code yX6_has cX6_has 2 (some .boolean)) 1 [.int p1, .int p2] Λ s0 (fun r : Int32 => some (.int r)) (f_X6_has p1 p2 s0) := by
  refine zC_of (own := RX6) rfl rfl (Nat.le_of_ble_eq_true rfl) [some (.int p1), some (.int p2)] rfl (fun G T h hR => ?_)
  unfold f_X6_has
  refine ze_iload_n h dX6_has_0 rfl ?_
  refine ze_iload_n h dX6_has_1 rfl ?_
  refine ze_ishr h dX6_has_2 ?_
  refine ze_iconst h 1 dX6_has_3 zk_i_1 ?_
  refine ze_iand h dX6_has_4 ?_
  refine ze_if_eq h 12 dX6_has_5 (by decide) ?_ ?_
  · refine ze_iconst h 0 dX6_has_12 zk_i_0 ?_
    exact ze_zret hR rfl dX6_has_13
  · refine ze_iconst h 1 dX6_has_8 zk_i_1 ?_
    refine ze_goto h 13 dX6_has_9 (by decide) ?_
    exact ze_zret hR rfl dX6_has_13
set_option maxRecDepth 20000 in
theorem c_J6_bitCount_0f7a4 (l : Launch) (Λ : zLay) (p1 : Int32) (s0 : zMem) : zC l yJ6_bitCount_0f7a4 (.code yJ6_bitCount_0f7a4 cJ6_bitCount_0f7a4 1 (some .int)) 1 [.int p1] Λ s0 (fun r : Int32 => some (.int r)) (f_J6_bitCount_0f7a4 p1 s0) := by
  refine zC_of (own := RJ6) rfl rfl (Nat.le_of_ble_eq_true rfl) [some (.int p1)] rfl (fun G T h hR => ?_)
  unfold f_J6_bitCount_0f7a4
  refine ze_iload_n h dJ6_bitCount_0f7a4_0 rfl ?_
  refine ze_iload_n h dJ6_bitCount_0f7a4_1 rfl ?_
  refine ze_iconst h 1 dJ6_bitCount_0f7a4_2 zk_i_1 ?_
  refine ze_iushr h dJ6_bitCount_0f7a4_3 ?_
  refine ze_ldcw h zq_J6_265 dJ6_bitCount_0f7a4_4 ?_
  refine ze_iand h dJ6_bitCount_0f7a4_7 ?_
  refine ze_isub h dJ6_bitCount_0f7a4_8 ?_
  refine ze_nmI (fun x1 => ?_)
  refine ze_istore_n h [some (.int x1)] dJ6_bitCount_0f7a4_9 rfl (by decide) rfl ?_
  refine ze_iload_n h dJ6_bitCount_0f7a4_10 rfl ?_
  refine ze_ldcw h zq_J6_266 dJ6_bitCount_0f7a4_11 ?_
  refine ze_iand h dJ6_bitCount_0f7a4_14 ?_
  refine ze_iload_n h dJ6_bitCount_0f7a4_15 rfl ?_
  refine ze_iconst h 2 dJ6_bitCount_0f7a4_16 zk_i_2 ?_
  refine ze_pc 17 rfl ?_
  refine ze_iushr h dJ6_bitCount_0f7a4_17 ?_
  refine ze_ldcw h zq_J6_266 dJ6_bitCount_0f7a4_18 ?_
  refine ze_iand h dJ6_bitCount_0f7a4_21 ?_
  refine ze_iadd h dJ6_bitCount_0f7a4_22 ?_
  refine ze_nmI (fun x2 => ?_)
  refine ze_istore_n h [some (.int x2)] dJ6_bitCount_0f7a4_23 rfl (by decide) rfl ?_
  refine ze_iload_n h dJ6_bitCount_0f7a4_24 rfl ?_
  refine ze_iload_n h dJ6_bitCount_0f7a4_25 rfl ?_
  refine ze_iconst h 4 dJ6_bitCount_0f7a4_26 zk_i_4 ?_
  refine ze_iushr h dJ6_bitCount_0f7a4_27 ?_
  refine ze_iadd h dJ6_bitCount_0f7a4_28 ?_
  refine ze_ldcw h zq_J6_267 dJ6_bitCount_0f7a4_29 ?_
  refine ze_iand h dJ6_bitCount_0f7a4_32 ?_
  refine ze_nmI (fun x3 => ?_)
  refine ze_istore_n h [some (.int x3)] dJ6_bitCount_0f7a4_33 rfl (by decide) rfl ?_
  refine ze_iload_n h dJ6_bitCount_0f7a4_34 rfl ?_
  refine ze_pc 35 rfl ?_
  refine ze_iload_n h dJ6_bitCount_0f7a4_35 rfl ?_
  refine ze_bipush h 8 dJ6_bitCount_0f7a4_36 zk_b_8 ?_
  refine ze_iushr h dJ6_bitCount_0f7a4_38 ?_
  refine ze_iadd h dJ6_bitCount_0f7a4_39 ?_
  refine ze_nmI (fun x4 => ?_)
  refine ze_istore_n h [some (.int x4)] dJ6_bitCount_0f7a4_40 rfl (by decide) rfl ?_
  refine ze_iload_n h dJ6_bitCount_0f7a4_41 rfl ?_
  refine ze_iload_n h dJ6_bitCount_0f7a4_42 rfl ?_
  refine ze_bipush h 16 dJ6_bitCount_0f7a4_43 zk_b_16 ?_
  refine ze_iushr h dJ6_bitCount_0f7a4_45 ?_
  refine ze_iadd h dJ6_bitCount_0f7a4_46 ?_
  refine ze_nmI (fun x5 => ?_)
  refine ze_istore_n h [some (.int x5)] dJ6_bitCount_0f7a4_47 rfl (by decide) rfl ?_
  refine ze_iload_n h dJ6_bitCount_0f7a4_48 rfl ?_
  refine ze_bipush h 63 dJ6_bitCount_0f7a4_49 zk_b_63 ?_
  refine ze_iand h dJ6_bitCount_0f7a4_51 ?_
  refine ze_pc 52 rfl ?_
  exact ze_iret hR dJ6_bitCount_0f7a4_52
set_option maxRecDepth 20000 in
theorem c_X3_at (l : Launch)  (p1 : Int32) (p2 : Int32) (s0 : zMem) : zC l yX3_at (.code yX3_at cX3_at 3 (some .int)) 1 [.ref 42, .int p1, .int p2] zFull s0 (fun r : Int32 => some (.int r)) (f_X3_at p1 p2 s0) := by
  refine zC_of (own := RX3) rfl rfl (Nat.le_of_ble_eq_true rfl) [some (.ref 42), some (.int p1), some (.int p2)] rfl (fun G T h hR => ?_)
  unfold f_X3_at
  refine ze_aload_n h dX3_at_0 rfl ?_
  refine ze_getR h zl_42 rfl zf_X3_16 dX3_at_1 ?_
  refine ze_iload_n h dX3_at_4 rfl ?_
  refine ze_bipush h 40 dX3_at_5 zk_b_40 ?_
  refine ze_imul h dX3_at_7 ?_
  refine ze_iload_n h dX3_at_8 rfl ?_
  refine ze_iadd h dX3_at_9 ?_
  refine ze_ialdG h zl_45 dX3_at_10 ?_
  exact ze_iret hR dX3_at_11
set_option maxRecDepth 20000 in
theorem c_X3_sizeOf (l : Launch)  (p1 : Int32) (s0 : zMem) : zC l yX3_sizeOf (.code yX3_sizeOf cX3_sizeOf 2 (some .int)) 1 [.ref 42, .int p1] zFull s0 (fun r : Int32 => some (.int r)) (f_X3_sizeOf p1 s0) := by
  refine zC_of (own := RX3) rfl rfl (Nat.le_of_ble_eq_true rfl) [some (.ref 42), some (.int p1)] rfl (fun G T h hR => ?_)
  unfold f_X3_sizeOf
  refine ze_aload_n h dX3_sizeOf_0 rfl ?_
  refine ze_getR h zl_42 rfl zf_X3_13 dX3_sizeOf_1 ?_
  refine ze_iload_n h dX3_sizeOf_4 rfl ?_
  refine ze_ialdG h zl_44 dX3_sizeOf_5 ?_
  exact ze_iret hR dX3_sizeOf_6
set_option maxRecDepth 20000 in
theorem c_X3_isMissing (l : Launch)  (p1 : Int32) (s0 : zMem) : zC l yX3_isMissing (.code yX3_isMissing cX3_isMissing 2 (some .boolean)) 1 [.ref 42, .int p1] zFull s0 (fun r : Int32 => some (.int r)) (f_X3_isMissing p1 s0) := by
  refine zC_of (own := RX3) rfl rfl (Nat.le_of_ble_eq_true rfl) [some (.ref 42), some (.int p1)] rfl (fun G T h hR => ?_)
  unfold f_X3_isMissing
  refine ze_aload_n h dX3_isMissing_0 rfl ?_
  refine ze_getR h zl_42 rfl zf_X3_9 dX3_isMissing_1 ?_
  refine ze_iload_n h dX3_isMissing_4 rfl ?_
  refine ze_ialdG h zl_43 dX3_isMissing_5 ?_
  refine ze_iconst h (-1) dX3_isMissing_6 zk_i_m1 ?_
  refine ze_icmp_ne h 14 dX3_isMissing_7 (by decide) ?_ ?_
  · refine ze_iconst h 0 dX3_isMissing_14 zk_i_0 ?_
    exact ze_zret hR rfl dX3_isMissing_15
  · refine ze_iconst h 1 dX3_isMissing_10 zk_i_1 ?_
    refine ze_goto h 15 dX3_isMissing_11 (by decide) ?_
    exact ze_zret hR rfl dX3_isMissing_15
set_option maxRecDepth 20000 in
theorem c_X3_isSheet (l : Launch)  (p1 : Int32) (s0 : zMem) : zC l yX3_isSheet (.code yX3_isSheet cX3_isSheet 2 (some .boolean)) 1 [.ref 42, .int p1] zFull s0 (fun r : Int32 => some (.int r)) (f_X3_isSheet p1 s0) := by
  refine zC_of (own := RX3) rfl rfl (Nat.le_of_ble_eq_true rfl) [some (.ref 42), some (.int p1)] rfl (fun G T h hR => ?_)
  unfold f_X3_isSheet
  refine ze_iload_n h dX3_isSheet_0 rfl ?_
  refine ze_if_lt h 13 dX3_isSheet_1 (by decide) ?_ ?_
  · refine ze_iconst h 0 dX3_isSheet_13 zk_i_0 ?_
    exact ze_zret hR rfl dX3_isSheet_14
  · refine ze_iload_n h dX3_isSheet_4 rfl ?_
    refine ze_iconst h 4 dX3_isSheet_5 zk_i_4 ?_
    refine ze_icmp_ge h 13 dX3_isSheet_6 (by decide) ?_ ?_
    · refine ze_iconst h 0 dX3_isSheet_13 zk_i_0 ?_
      exact ze_zret hR rfl dX3_isSheet_14
    · refine ze_iconst h 1 dX3_isSheet_9 zk_i_1 ?_
      refine ze_goto h 14 dX3_isSheet_10 (by decide) ?_
      exact ze_zret hR rfl dX3_isSheet_14
set_option maxRecDepth 20000 in
theorem e_X3_renew_17 {l : Launch} {G : zGT} {T : Option Value × zMem} (h : zOk G l cX3_renew RX3 5 1 0 0 false) (hR : zR G cX3_renew none T zFull 0 0)   : ∀ (n : Nat) (x3 : Int32) (x4 : Int32) (s5 : zMem), zE G T (fun _ : Unit => none) zFull 0 0 17 [some (.ref 42), some (.int x3), none, none, some (.int x4)] [] s5 (f_X3_renew_17 n x3 x4 s5) := by
  intro n
  induction n with
  | zero => intro _ _ _; exact ze_none
  | succ n ih =>
    intro x3 x4 s5
    rw [f_X3_renew_17]
    refine ze_iload h dX3_renew_17 rfl ?_
    refine ze_bipush h 40 dX3_renew_19 zk_b_40 ?_
    refine ze_icmp_ge h 43 dX3_renew_21 (by decide) ?_ ?_
    · exact ze_vret hR dX3_renew_43
    · refine ze_aload_n h dX3_renew_24 rfl ?_
      refine ze_getR h zl_42 rfl zf_X3_16 dX3_renew_25 ?_
      refine ze_iload_n h dX3_renew_28 rfl ?_
      refine ze_bipush h 40 dX3_renew_29 zk_b_40 ?_
      refine ze_imul h dX3_renew_31 ?_
      refine ze_iload h dX3_renew_32 rfl ?_
      refine ze_iadd h dX3_renew_34 ?_
      refine ze_iconst h 0 dX3_renew_35 zk_i_0 ?_
      refine ze_iastG h zl_45 dX3_renew_36 ?_
      refine ze_nmS (fun s6 => ?_)
      refine ze_iincN h (fun y9 => [some (.ref 42), some (.int x3), none, none, some (.int y9)]) 1 dX3_renew_37 rfl zk_i_1 rfl (by decide) (fun _ => rfl) (fun x7 => ?_)
      refine ze_goto h 17 dX3_renew_40 (by decide) ?_
      exact ih x3 x7 s6
set_option maxRecDepth 20000 in
theorem c_X3_renew (l : Launch)  (p1 : Int32) (p2 : Int32) (p3 : Int32) (s0 : zMem) : zC l yX3_renew (.code yX3_renew cX3_renew 5 none) 1 [.ref 42, .int p1, .int p2, .int p3] zFull s0 (fun _ : Unit => none) (f_X3_renew p1 p2 p3 s0) := by
  refine zC_of (own := RX3) rfl rfl (Nat.le_of_ble_eq_true rfl) [some (.ref 42), some (.int p1), some (.int p2), some (.int p3), none] rfl (fun G T h hR => ?_)
  unfold f_X3_renew
  refine ze_aload_n h dX3_renew_0 rfl ?_
  refine ze_getR h zl_42 rfl zf_X3_9 dX3_renew_1 ?_
  refine ze_iload_n h dX3_renew_4 rfl ?_
  refine ze_iload_n h dX3_renew_5 rfl ?_
  refine ze_iastG h zl_43 dX3_renew_6 ?_
  refine ze_nmS (fun s1 => ?_)
  refine ze_aload_n h dX3_renew_7 rfl ?_
  refine ze_getR h zl_42 rfl zf_X3_13 dX3_renew_8 ?_
  refine ze_iload_n h dX3_renew_11 rfl ?_
  refine ze_iload_n h dX3_renew_12 rfl ?_
  refine ze_iastG h zl_44 dX3_renew_13 ?_
  refine ze_nmS (fun s2 => ?_)
  refine ze_iconst h 0 dX3_renew_14 zk_i_0 ?_
  refine ze_istore h [some (.ref 42), some (.int p1), some (.int p2), some (.int p3), some (.int 0)] dX3_renew_15 rfl (by decide) rfl ?_
  refine zE_weak h [true, true, false, false, true] rfl ?_
  exact e_X3_renew_17 h hR  zN p1 0 s2
set_option maxRecDepth 20000 in
theorem e_X3_write_16 {l : Launch} {G : zGT} {T : Option Value × zMem} (h : zOk G l cX3_write RX3 5 1 0 0 false) (hR : zR G cX3_write none T zFull 0 0)   : ∀ (x1 : Int32) (x2 : Int32) (x3 : Int32) (x4 : Int32) (s5 : zMem), zE G T (fun _ : Unit => none) zFull 0 0 16 [some (.ref 42), some (.int x1), some (.int x2), some (.int x3), some (.int x4)] [] s5 (f_X3_write_16  x1 x2 x3 x4 s5) := by
  intro x1 x2 x3 x4 s5
  unfold f_X3_write_16
  refine ze_aload_n h dX3_write_16 rfl ?_
  refine ze_getR h zl_42 rfl zf_X3_9 dX3_write_17 ?_
  refine ze_iload_n h dX3_write_20 rfl ?_
  refine ze_ialdG h zl_43 dX3_write_21 ?_
  refine ze_iconst h 1 dX3_write_22 zk_i_1 ?_
  refine ze_icmp_ne h 30 dX3_write_23 (by decide) ?_ ?_
  · refine ze_aload_n h dX3_write_30 rfl ?_
    refine ze_getR h zl_42 rfl zf_X3_16 dX3_write_31 ?_
    refine ze_iload_n h dX3_write_34 rfl ?_
    refine ze_bipush h 40 dX3_write_35 zk_b_40 ?_
    refine ze_imul h dX3_write_37 ?_
    refine ze_iload_n h dX3_write_38 rfl ?_
    refine ze_iadd h dX3_write_39 ?_
    refine ze_iload h dX3_write_40 rfl ?_
    refine ze_iastG h zl_45 dX3_write_42 ?_
    refine ze_nmS (fun s6 => ?_)
    exact ze_vret hR dX3_write_43
  · refine ze_iload_n h dX3_write_26 rfl ?_
    refine ze_i2s h dX3_write_27 ?_
    refine ze_nmI (fun x7 => ?_)
    refine ze_istore h [some (.ref 42), some (.int x1), some (.int x2), some (.int x3), some (.int x7)] dX3_write_28 rfl (by decide) rfl ?_
    refine ze_aload_n h dX3_write_30 rfl ?_
    refine ze_getR h zl_42 rfl zf_X3_16 dX3_write_31 ?_
    refine ze_iload_n h dX3_write_34 rfl ?_
    refine ze_bipush h 40 dX3_write_35 zk_b_40 ?_
    refine ze_imul h dX3_write_37 ?_
    refine ze_iload_n h dX3_write_38 rfl ?_
    refine ze_iadd h dX3_write_39 ?_
    refine ze_iload h dX3_write_40 rfl ?_
    refine ze_iastG h zl_45 dX3_write_42 ?_
    refine ze_nmS (fun s8 => ?_)
    exact ze_vret hR dX3_write_43
set_option maxRecDepth 20000 in
theorem c_X3_write (l : Launch)  (p1 : Int32) (p2 : Int32) (p3 : Int32) (s0 : zMem) : zC l yX3_write (.code yX3_write cX3_write 5 none) 1 [.ref 42, .int p1, .int p2, .int p3] zFull s0 (fun _ : Unit => none) (f_X3_write p1 p2 p3 s0) := by
  refine zC_of (own := RX3) rfl rfl (Nat.le_of_ble_eq_true rfl) [some (.ref 42), some (.int p1), some (.int p2), some (.int p3), none] rfl (fun G T h hR => ?_)
  unfold f_X3_write
  refine ze_iload_n h dX3_write_0 rfl ?_
  refine ze_istore h [some (.ref 42), some (.int p1), some (.int p2), some (.int p3), some (.int p3)] dX3_write_1 rfl (by decide) rfl ?_
  refine ze_aload_n h dX3_write_3 rfl ?_
  refine ze_getR h zl_42 rfl zf_X3_9 dX3_write_4 ?_
  refine ze_iload_n h dX3_write_7 rfl ?_
  refine ze_ialdG h zl_43 dX3_write_8 ?_
  refine ze_if_ne h 16 dX3_write_9 (by decide) ?_ ?_
  · exact e_X3_write_16 h hR  p1 p2 p3 p3 s0
  · refine ze_iload_n h dX3_write_12 rfl ?_
    refine ze_i2b h dX3_write_13 ?_
    refine ze_nmI (fun x9 => ?_)
    refine ze_istore h [some (.ref 42), some (.int p1), some (.int p2), some (.int p3), some (.int x9)] dX3_write_14 rfl (by decide) rfl ?_
    exact e_X3_write_16 h hR  p1 p2 p3 x9 s0
set_option maxRecDepth 20000 in
theorem c_X3_isPlace (l : Launch)  (p1 : Int32) (p2 : Int32) (s0 : zMem) : zC l yX3_isPlace (.code yX3_isPlace cX3_isPlace 3 (some .boolean)) 1 [.ref 42, .int p1, .int p2] zFull s0 (fun r : Int32 => some (.int r)) (f_X3_isPlace p1 p2 s0) := by
  refine zC_of (own := RX3) rfl rfl (Nat.le_of_ble_eq_true rfl) [some (.ref 42), some (.int p1), some (.int p2)] rfl (fun G T h hR => ?_)
  unfold f_X3_isPlace
  refine ze_iload_n h dX3_isPlace_0 rfl ?_
  refine ze_if_lt h 18 dX3_isPlace_1 (by decide) ?_ ?_
  · refine ze_iconst h 0 dX3_isPlace_18 zk_i_0 ?_
    exact ze_zret hR rfl dX3_isPlace_19
  · refine ze_iload_n h dX3_isPlace_4 rfl ?_
    refine ze_aload_n h dX3_isPlace_5 rfl ?_
    refine ze_getR h zl_42 rfl zf_X3_13 dX3_isPlace_6 ?_
    refine ze_iload_n h dX3_isPlace_9 rfl ?_
    refine ze_ialdG h zl_44 dX3_isPlace_10 ?_
    refine ze_icmp_ge h 18 dX3_isPlace_11 (by decide) ?_ ?_
    · refine ze_iconst h 0 dX3_isPlace_18 zk_i_0 ?_
      exact ze_zret hR rfl dX3_isPlace_19
    · refine ze_iconst h 1 dX3_isPlace_14 zk_i_1 ?_
      refine ze_goto h 19 dX3_isPlace_15 (by decide) ?_
      exact ze_zret hR rfl dX3_isPlace_19
set_option maxRecDepth 20000 in
theorem c_X3_isStretch (l : Launch)  (p1 : Int32) (p2 : Int32) (p3 : Int32) (s0 : zMem) : zC l yX3_isStretch (.code yX3_isStretch cX3_isStretch 4 (some .boolean)) 1 [.ref 42, .int p1, .int p2, .int p3] zFull s0 (fun r : Int32 => some (.int r)) (f_X3_isStretch p1 p2 p3 s0) := by
  refine zC_of (own := RX3) rfl rfl (Nat.le_of_ble_eq_true rfl) [some (.ref 42), some (.int p1), some (.int p2), some (.int p3)] rfl (fun G T h hR => ?_)
  unfold f_X3_isStretch
  refine ze_iload_n h dX3_isStretch_0 rfl ?_
  refine ze_if_lt h 28 dX3_isStretch_1 (by decide) ?_ ?_
  · refine ze_iconst h 0 dX3_isStretch_28 zk_i_0 ?_
    exact ze_zret hR rfl dX3_isStretch_29
  · refine ze_iload_n h dX3_isStretch_4 rfl ?_
    refine ze_if_lt h 28 dX3_isStretch_5 (by decide) ?_ ?_
    · refine ze_iconst h 0 dX3_isStretch_28 zk_i_0 ?_
      exact ze_zret hR rfl dX3_isStretch_29
    · refine ze_iload_n h dX3_isStretch_8 rfl ?_
      refine ze_i2l h dX3_isStretch_9 ?_
      refine ze_iload_n h dX3_isStretch_10 rfl ?_
      refine ze_i2l h dX3_isStretch_11 ?_
      refine ze_ladd h dX3_isStretch_12 ?_
      refine ze_aload_n h dX3_isStretch_13 rfl ?_
      refine ze_getR h zl_42 rfl zf_X3_13 dX3_isStretch_14 ?_
      refine ze_iload_n h dX3_isStretch_17 rfl ?_
      refine ze_ialdG h zl_44 dX3_isStretch_18 ?_
      refine ze_i2l h dX3_isStretch_19 ?_
      refine ze_lcmp h dX3_isStretch_20 ?_
      refine ze_if_gt h 28 dX3_isStretch_21 (by decide) ?_ ?_
      · refine ze_iconst h 0 dX3_isStretch_28 zk_i_0 ?_
        exact ze_zret hR rfl dX3_isStretch_29
      · refine ze_iconst h 1 dX3_isStretch_24 zk_i_1 ?_
        refine ze_goto h 29 dX3_isStretch_25 (by decide) ?_
        exact ze_zret hR rfl dX3_isStretch_29
set_option maxRecDepth 20000 in
theorem c_X3_move (l : Launch)  (p1 : Int32) (p2 : Int32) (p3 : Int32) (p4 : Int32) (p5 : Int32) (s0 : zMem) : zC l yX3_move (.code yX3_move cX3_move 6 none) 2 [.ref 42, .int p1, .int p2, .int p3, .int p4, .int p5] zFull s0 (fun _ : Unit => none) (f_X3_move p1 p2 p3 p4 p5 s0) := by
  refine zC_of (own := RX3) rfl rfl (Nat.le_of_ble_eq_true rfl) [some (.ref 42), some (.int p1), some (.int p2), some (.int p3), some (.int p4), some (.int p5)] rfl (fun G T h hR => ?_)
  unfold f_X3_move
  refine ze_aload_n h dX3_move_0 rfl ?_
  refine ze_getR h zl_42 rfl zf_X3_16 dX3_move_1 ?_
  refine ze_iload_n h dX3_move_4 rfl ?_
  refine ze_bipush h 40 dX3_move_5 zk_b_40 ?_
  refine ze_imul h dX3_move_7 ?_
  refine ze_iload_n h dX3_move_8 rfl ?_
  refine ze_iadd h dX3_move_9 ?_
  refine ze_aload_n h dX3_move_10 rfl ?_
  refine ze_getR h zl_42 rfl zf_X3_16 dX3_move_11 ?_
  refine ze_iload_n h dX3_move_14 rfl ?_
  refine ze_bipush h 40 dX3_move_15 zk_b_40 ?_
  refine ze_imul h dX3_move_17 ?_
  refine ze_iload h dX3_move_18 rfl ?_
  refine ze_pc 20 rfl ?_
  refine ze_iadd h dX3_move_20 ?_
  refine ze_iload h dX3_move_21 rfl ?_
  refine ze_copy h (st := []) (Nat.le_of_ble_eq_true rfl) zl_45 zl_45 zm_X3_19 zw_copy1 zw_copy2 zw_sys (Nat.le_of_ble_eq_true rfl) dX3_move_23 ?_
  refine ze_nmS (fun s1 => ?_)
  exact ze_vret hR dX3_move_26
set_option maxRecDepth 20000 in
theorem c_X3_sortOf (l : Launch)  (p1 : Int32) (s0 : zMem) : zC l yX3_sortOf (.code yX3_sortOf cX3_sortOf 2 (some .int)) 1 [.ref 42, .int p1] zFull s0 (fun r : Int32 => some (.int r)) (f_X3_sortOf p1 s0) := by
  refine zC_of (own := RX3) rfl rfl (Nat.le_of_ble_eq_true rfl) [some (.ref 42), some (.int p1)] rfl (fun G T h hR => ?_)
  unfold f_X3_sortOf
  refine ze_aload_n h dX3_sortOf_0 rfl ?_
  refine ze_getR h zl_42 rfl zf_X3_9 dX3_sortOf_1 ?_
  refine ze_iload_n h dX3_sortOf_4 rfl ?_
  refine ze_ialdG h zl_43 dX3_sortOf_5 ?_
  exact ze_iret hR dX3_sortOf_6
set_option maxRecDepth 20000 in
theorem e_X1_isOne_4 {l : Launch} {G : zGT} {T : Option Value × zMem} {Λ : zLay} (h : zOk G l cX1_isOne RX1 4 1 0 0 false) (hR : zR G cX1_isOne (some .boolean) T Λ 0 0)   : ∀ (n : Nat) (x1 : Int32) (x2 : Int32) (x3 : Int32) (s4 : zMem), zE G T (fun r : Int32 => some (.int r)) Λ 0 0 4 [none, some (.int x1), some (.int x2), some (.int x3)] [] s4 (f_X1_isOne_4 n x1 x2 x3 s4) := by
  intro n
  induction n with
  | zero => intro _ _ _ _; exact ze_none
  | succ n ih =>
    intro x1 x2 x3 s4
    rw [f_X1_isOne_4]
    refine ze_iload_n h dX1_isOne_4 rfl ?_
    refine ze_getsA h zfJ_X1_7 dX1_isOne_5 ?_
    refine ze_lenA h dX1_isOne_8 ?_
    refine ze_icmp_ge h 43 dX1_isOne_9 (by decide) ?_ ?_
    · refine ze_iconst h 0 dX1_isOne_43 zk_i_0 ?_
      exact ze_zret hR rfl dX1_isOne_44
    · refine ze_iload_n h dX1_isOne_12 rfl ?_
      refine ze_if_lt h 43 dX1_isOne_13 (by decide) ?_ ?_
      · refine ze_iconst h 0 dX1_isOne_43 zk_i_0 ?_
        exact ze_zret hR rfl dX1_isOne_44
      · refine ze_iload_n h dX1_isOne_16 rfl ?_
        refine ze_getsA h zfJ_X1_7 dX1_isOne_17 ?_
        refine ze_lenA h dX1_isOne_20 ?_
        refine ze_icmp_ge h 43 dX1_isOne_21 (by decide) ?_ ?_
        · refine ze_iconst h 0 dX1_isOne_43 zk_i_0 ?_
          exact ze_zret hR rfl dX1_isOne_44
        · refine ze_iload_n h dX1_isOne_24 rfl ?_
          refine ze_iload_n h dX1_isOne_25 rfl ?_
          refine ze_icmp_ne h 31 dX1_isOne_26 (by decide) ?_ ?_
          · refine ze_getsA h zfJ_X1_7 dX1_isOne_31 ?_
            refine ze_iload_n h dX1_isOne_34 rfl ?_
            refine ze_ialdA h dX1_isOne_35 ?_
            refine ze_nmI (fun x5 => ?_)
            refine ze_istore_n h [none, some (.int x1), some (.int x5), some (.int x3)] dX1_isOne_36 rfl (by decide) rfl ?_
            refine ze_iincN h (fun y9 => [none, some (.int x1), some (.int x5), some (.int y9)]) 1 dX1_isOne_37 rfl zk_i_1 rfl (by decide) (fun _ => rfl) (fun x6 => ?_)
            refine ze_goto h 4 dX1_isOne_40 (by decide) ?_
            exact ih x1 x5 x6 s4
          · refine ze_iconst h 1 dX1_isOne_29 zk_i_1 ?_
            exact ze_zret hR rfl dX1_isOne_30
set_option maxRecDepth 20000 in
theorem c_X1_isOne (l : Launch) (Λ : zLay) (p1 : Int32) (p2 : Int32) (s0 : zMem) : zC l yX1_isOne (.code yX1_isOne cX1_isOne 4 (some .boolean)) 1 [.int p1, .int p2] Λ s0 (fun r : Int32 => some (.int r)) (f_X1_isOne p1 p2 s0) := by
  refine zC_of (own := RX1) rfl rfl (Nat.le_of_ble_eq_true rfl) [some (.int p1), some (.int p2), none, none] rfl (fun G T h hR => ?_)
  unfold f_X1_isOne
  refine ze_iload_n h dX1_isOne_0 rfl ?_
  refine ze_istore_n h [some (.int p1), some (.int p2), some (.int p1), none] dX1_isOne_1 rfl (by decide) rfl ?_
  refine ze_iconst h 0 dX1_isOne_2 zk_i_0 ?_
  refine ze_istore_n h [some (.int p1), some (.int p2), some (.int p1), some (.int 0)] dX1_isOne_3 rfl (by decide) rfl ?_
  refine zE_weak h [false, true, true, true] rfl ?_
  exact e_X1_isOne_4 h hR  zN p2 p1 0 s0
