set_option maxRecDepth 20000 in
theorem e_X5_heatOfAll_4 {l : Launch} {G : zGT} {T : Option Value × zMem} (h : zOk G l cX5_heatOfAll RX5 3 1 0 0 false) (hR : zR G cX5_heatOfAll (some .int) T zFull 0 0) {w : Nat} (hw : zIsW w)  : ∀ (n : Nat) (x1 : Int32) (x2 : Int32) (s3 : zMem), zE G T (fun r : Int32 => some (.int r)) zFull 0 0 4 [some (.ref w), some (.int x1), some (.int x2)] [] s3 (f_X5_heatOfAll_4 w n x1 x2 s3) := by
  obtain ⟨e0_w, e1_w, e2_w, e3_w, e4_w, e5_w, e6_w, e7_w, e8_w, e9_w, e10_w⟩ := id hw
  intro n
  induction n with
  | zero => intro _ _ _; exact ze_none
  | succ n ih =>
    intro x1 x2 s3
    rw [f_X5_heatOfAll_4]
    refine ze_iload_n h dX5_heatOfAll_4 rfl ?_
    refine ze_aload_n h dX5_heatOfAll_5 rfl ?_
    refine ze_getI h e0_w rfl zf_X5_54 dX5_heatOfAll_6 ?_
    refine ze_icmp_ge h 27 dX5_heatOfAll_9 (by decide) ?_ ?_
    · refine ze_iload_n h dX5_heatOfAll_27 rfl ?_
      exact ze_iret hR dX5_heatOfAll_28
    · refine ze_iload_n h dX5_heatOfAll_12 rfl ?_
      refine ze_aload_n h dX5_heatOfAll_13 rfl ?_
      refine ze_getR h e0_w rfl zf_X5_9 dX5_heatOfAll_14 ?_
      refine ze_iload_n h dX5_heatOfAll_17 rfl ?_
      refine ze_ialdG h e1_w dX5_heatOfAll_18 ?_
      refine ze_iadd h dX5_heatOfAll_19 ?_
      refine ze_nmI (fun x4 => ?_)
      refine ze_istore_n h [some (.ref w), some (.int x4), some (.int x2)] dX5_heatOfAll_20 rfl (by decide) rfl ?_
      refine ze_iincN h (fun y9 => [some (.ref w), some (.int x4), some (.int y9)]) 1 dX5_heatOfAll_21 rfl zk_i_1 rfl (by decide) (fun _ => rfl) (fun x5 => ?_)
      refine ze_goto h 4 dX5_heatOfAll_24 (by decide) ?_
      exact ih x4 x5 s3
set_option maxRecDepth 20000 in
theorem c_X5_heatOfAll (l : Launch) {w : Nat} (hw : zIsW w)  (s0 : zMem) : zC l yX5_heatOfAll (.code yX5_heatOfAll cX5_heatOfAll 3 (some .int)) 1 [.ref w] zFull s0 (fun r : Int32 => some (.int r)) (f_X5_heatOfAll w s0) := by
  refine zC_of (own := RX5) rfl rfl (Nat.le_of_ble_eq_true rfl) [some (.ref w), none, none] rfl (fun G T h hR => ?_)
  obtain ⟨e0_w, e1_w, e2_w, e3_w, e4_w, e5_w, e6_w, e7_w, e8_w, e9_w, e10_w⟩ := id hw
  unfold f_X5_heatOfAll
  refine ze_iconst h 0 dX5_heatOfAll_0 zk_i_0 ?_
  refine ze_istore_n h [some (.ref w), some (.int 0), none] dX5_heatOfAll_1 rfl (by decide) rfl ?_
  refine ze_iconst h 0 dX5_heatOfAll_2 zk_i_0 ?_
  refine ze_istore_n h [some (.ref w), some (.int 0), some (.int 0)] dX5_heatOfAll_3 rfl (by decide) rfl ?_
  exact e_X5_heatOfAll_4 h hR hw  zN 0 0 s0
set_option maxRecDepth 20000 in
theorem c_X5_isHut (l : Launch) {w : Nat} (hw : zIsW w) (p1 : Int32) (s0 : zMem) : zC l yX5_isHut (.code yX5_isHut cX5_isHut 2 (some .boolean)) 1 [.ref w, .int p1] zFull s0 (fun r : Int32 => some (.int r)) (f_X5_isHut w p1 s0) := by
  refine zC_of (own := RX5) rfl rfl (Nat.le_of_ble_eq_true rfl) [some (.ref w), some (.int p1)] rfl (fun G T h hR => ?_)
  obtain ⟨e0_w, e1_w, e2_w, e3_w, e4_w, e5_w, e6_w, e7_w, e8_w, e9_w, e10_w⟩ := id hw
  unfold f_X5_isHut
  refine ze_iload_n h dX5_isHut_0 rfl ?_
  refine ze_if_lt h 16 dX5_isHut_1 (by decide) ?_ ?_
  · refine ze_iconst h 0 dX5_isHut_16 zk_i_0 ?_
    exact ze_zret hR rfl dX5_isHut_17
  · refine ze_iload_n h dX5_isHut_4 rfl ?_
    refine ze_aload_n h dX5_isHut_5 rfl ?_
    refine ze_getI h e0_w rfl zf_X5_54 dX5_isHut_6 ?_
    refine ze_icmp_ge h 16 dX5_isHut_9 (by decide) ?_ ?_
    · refine ze_iconst h 0 dX5_isHut_16 zk_i_0 ?_
      exact ze_zret hR rfl dX5_isHut_17
    · refine ze_iconst h 1 dX5_isHut_12 zk_i_1 ?_
      refine ze_goto h 17 dX5_isHut_13 (by decide) ?_
      exact ze_zret hR rfl dX5_isHut_17
set_option maxRecDepth 20000 in
theorem e_X5_coalsWhere_5 {l : Launch} {G : zGT} {T : Option Value × zMem} (h : zOk G l cX5_coalsWhere RX5 5 1 0 0 false) (hR : zR G cX5_coalsWhere (some .int) T zFull 0 0) {w : Nat} (hw : zIsW w) {a1 : Nat} (ea1 : zFull[a1]? = some (.inl 10))  : ∀ (n : Nat) (x1 : Int32) (x2 : Int32) (x3 : Int32) (s4 : zMem), zE G T (fun r : Int32 => some (.int r)) zFull 0 0 5 [some (.ref w), some (.ref a1), some (.int x1), some (.int x2), some (.int x3)] [] s4 (f_X5_coalsWhere_5 w a1 n x1 x2 x3 s4) := by
  obtain ⟨e0_w, e1_w, e2_w, e3_w, e4_w, e5_w, e6_w, e7_w, e8_w, e9_w, e10_w⟩ := id hw
  intro n
  induction n with
  | zero => intro _ _ _ _; exact ze_none
  | succ n ih =>
    intro x1 x2 x3 s4
    rw [f_X5_coalsWhere_5]
    refine ze_iload h dX5_coalsWhere_5 rfl ?_
    refine ze_aload_n h dX5_coalsWhere_7 rfl ?_
    refine ze_getI h e0_w rfl zf_X5_58 dX5_coalsWhere_8 ?_
    refine ze_icmp_ge h 38 dX5_coalsWhere_11 (by decide) ?_ ?_
    · refine ze_iload_n h dX5_coalsWhere_38 rfl ?_
      exact ze_iret hR dX5_coalsWhere_39
    · refine ze_aload_n h dX5_coalsWhere_14 rfl ?_
      refine ze_iload h dX5_coalsWhere_15 rfl ?_
      refine ze_ialdG h ea1 dX5_coalsWhere_17 ?_
      refine ze_iload_n h dX5_coalsWhere_18 rfl ?_
      refine ze_icmp_ne h 32 dX5_coalsWhere_19 (by decide) ?_ ?_
      · refine ze_iincN h (fun y9 => [some (.ref w), some (.ref a1), some (.int x1), some (.int x2), some (.int y9)]) 1 dX5_coalsWhere_32 rfl zk_i_1 rfl (by decide) (fun _ => rfl) (fun x5 => ?_)
        refine ze_goto h 5 dX5_coalsWhere_35 (by decide) ?_
        exact ih x1 x2 x5 s4
      · refine ze_iload_n h dX5_coalsWhere_22 rfl ?_
        refine ze_aload_n h dX5_coalsWhere_23 rfl ?_
        refine ze_getR h e0_w rfl zf_X5_33 dX5_coalsWhere_24 ?_
        refine ze_iload h dX5_coalsWhere_27 rfl ?_
        refine ze_ialdG h e8_w dX5_coalsWhere_29 ?_
        refine ze_iadd h dX5_coalsWhere_30 ?_
        refine ze_nmI (fun x6 => ?_)
        refine ze_istore_n h [some (.ref w), some (.ref a1), some (.int x1), some (.int x6), some (.int x3)] dX5_coalsWhere_31 rfl (by decide) rfl ?_
        refine ze_iincN h (fun y9 => [some (.ref w), some (.ref a1), some (.int x1), some (.int x6), some (.int y9)]) 1 dX5_coalsWhere_32 rfl zk_i_1 rfl (by decide) (fun _ => rfl) (fun x7 => ?_)
        refine ze_goto h 5 dX5_coalsWhere_35 (by decide) ?_
        exact ih x1 x6 x7 s4
set_option maxRecDepth 20000 in
theorem c_X5_coalsWhere (l : Launch) {w : Nat} (hw : zIsW w) {a1 : Nat} (ea1 : zFull[a1]? = some (.inl 10)) (p2 : Int32) (s0 : zMem) : zC l yX5_coalsWhere (.code yX5_coalsWhere cX5_coalsWhere 5 (some .int)) 1 [.ref w, .ref a1, .int p2] zFull s0 (fun r : Int32 => some (.int r)) (f_X5_coalsWhere w a1 p2 s0) := by
  refine zC_of (own := RX5) rfl rfl (Nat.le_of_ble_eq_true rfl) [some (.ref w), some (.ref a1), some (.int p2), none, none] rfl (fun G T h hR => ?_)
  obtain ⟨e0_w, e1_w, e2_w, e3_w, e4_w, e5_w, e6_w, e7_w, e8_w, e9_w, e10_w⟩ := id hw
  unfold f_X5_coalsWhere
  refine ze_iconst h 0 dX5_coalsWhere_0 zk_i_0 ?_
  refine ze_istore_n h [some (.ref w), some (.ref a1), some (.int p2), some (.int 0), none] dX5_coalsWhere_1 rfl (by decide) rfl ?_
  refine ze_iconst h 0 dX5_coalsWhere_2 zk_i_0 ?_
  refine ze_istore h [some (.ref w), some (.ref a1), some (.int p2), some (.int 0), some (.int 0)] dX5_coalsWhere_3 rfl (by decide) rfl ?_
  exact e_X5_coalsWhere_5 h hR hw ea1  zN p2 0 0 s0
set_option maxRecDepth 20000 in
theorem c_X5_owes (l : Launch) {w : Nat} (hw : zIsW w) (p1 : Int32) (s0 : zMem) : zC l yX5_owes (.code yX5_owes cX5_owes 2 (some .int)) 2 [.ref w, .int p1] zFull s0 (fun r : Int32 => some (.int r)) (f_X5_owes w p1 s0) := by
  refine zC_of (own := RX5) rfl rfl (Nat.le_of_ble_eq_true rfl) [some (.ref w), some (.int p1)] rfl (fun G T h hR => ?_)
  obtain ⟨e0_w, e1_w, e2_w, e3_w, e4_w, e5_w, e6_w, e7_w, e8_w, e9_w, e10_w⟩ := id hw
  unfold f_X5_owes
  refine ze_aload_n h dX5_owes_0 rfl ?_
  refine ze_aload_n h dX5_owes_1 rfl ?_
  refine ze_getR h e0_w rfl zf_X5_30 dX5_owes_2 ?_
  refine ze_iload_n h dX5_owes_5 rfl ?_
  refine ze_callVi h (st := []) zce_X5_coalsWhere zi_X5_coalsWhere zs_X5_coalsWhere zm_X5_72 e0_w rfl rfl (Nat.le_of_ble_eq_true rfl) zkn (c_X5_coalsWhere l hw e7_w p1 s0) rfl (Nat.le_of_ble_eq_true rfl) rfl dX5_owes_6 (fun r1 s2 => ?_)
  exact ze_iret hR dX5_owes_9
set_option maxRecDepth 20000 in
theorem c_X5_says (l : Launch) {w : Nat} (hw : zIsW w) (p1 : Int32) (p2 : Int32) (p3 : Int32) (s0 : zMem) : zC l yX5_says (.code yX5_says cX5_says 4 (some .int)) 3 [.ref w, .int p1, .int p2, .int p3] zFull s0 (fun r : Int32 => some (.int r)) (f_X5_says w p1 p2 p3 s0) := by
  refine zC_of (own := RX5) rfl rfl (Nat.le_of_ble_eq_true rfl) [some (.ref w), some (.int p1), some (.int p2), some (.int p3)] rfl (fun G T h hR => ?_)
  obtain ⟨e0_w, e1_w, e2_w, e3_w, e4_w, e5_w, e6_w, e7_w, e8_w, e9_w, e10_w⟩ := id hw
  unfold f_X5_says
  refine ze_aload_n h dX5_says_0 rfl ?_
  refine ze_getR h e0_w rfl zf_X5_41 dX5_says_1 ?_
  refine ze_iconst h 0 dX5_says_4 zk_i_0 ?_
  refine ze_aload_n h dX5_says_5 rfl ?_
  refine ze_getR h e0_w rfl zf_X5_9 dX5_says_6 ?_
  refine ze_iload_n h dX5_says_9 rfl ?_
  refine ze_ialdG h e1_w dX5_says_10 ?_
  refine ze_iastG h e10_w dX5_says_11 ?_
  refine ze_nmS (fun s1 => ?_)
  refine ze_aload_n h dX5_says_12 rfl ?_
  refine ze_getR h e0_w rfl zf_X5_41 dX5_says_13 ?_
  refine ze_iconst h 1 dX5_says_16 zk_i_1 ?_
  refine ze_aload_n h dX5_says_17 rfl ?_
  refine ze_getR h e0_w rfl zf_X5_15 dX5_says_18 ?_
  refine ze_pc 21 rfl ?_
  refine ze_iload_n h dX5_says_21 rfl ?_
  refine ze_ialdG h e2_w dX5_says_22 ?_
  refine ze_iastG h e10_w dX5_says_23 ?_
  refine ze_nmS (fun s2 => ?_)
  refine ze_aload_n h dX5_says_24 rfl ?_
  refine ze_getR h e0_w rfl zf_X5_41 dX5_says_25 ?_
  refine ze_iconst h 2 dX5_says_28 zk_i_2 ?_
  refine ze_aload_n h dX5_says_29 rfl ?_
  refine ze_getI h e0_w rfl zf_X5_61 dX5_says_30 ?_
  refine ze_iastG h e10_w dX5_says_33 ?_
  refine ze_nmS (fun s3 => ?_)
  refine ze_aload_n h dX5_says_34 rfl ?_
  refine ze_getR h e0_w rfl zf_X5_41 dX5_says_35 ?_
  refine ze_iconst h 3 dX5_says_38 zk_i_3 ?_
  refine ze_iload_n h dX5_says_39 rfl ?_
  refine ze_iastG h e10_w dX5_says_40 ?_
  refine ze_nmS (fun s4 => ?_)
  refine ze_pc 41 rfl ?_
  refine ze_aload_n h dX5_says_41 rfl ?_
  refine ze_getR h e0_w rfl zf_X5_41 dX5_says_42 ?_
  refine ze_iconst h 4 dX5_says_45 zk_i_4 ?_
  refine ze_aload_n h dX5_says_46 rfl ?_
  refine ze_iload_n h dX5_says_47 rfl ?_
  refine ze_callVi h (st := [.int 4, .ref (w + 10)]) zce_X5_owes zi_X5_owes zs_X5_owes zm_X5_137 e0_w rfl rfl (Nat.le_of_ble_eq_true rfl) zkn (c_X5_owes l hw p2 s4) rfl (Nat.le_of_ble_eq_true rfl) rfl dX5_says_48 (fun r5 s6 => ?_)
  refine ze_iastG h e10_w dX5_says_51 ?_
  refine ze_nmS (fun s7 => ?_)
  refine ze_aload_n h dX5_says_52 rfl ?_
  refine ze_getR h e0_w rfl zf_X5_41 dX5_says_53 ?_
  refine ze_iconst h 5 dX5_says_56 zk_i_5 ?_
  refine ze_aload_n h dX5_says_57 rfl ?_
  refine ze_getR h e0_w rfl zf_X5_24 dX5_says_58 ?_
  refine ze_iload_n h dX5_says_61 rfl ?_
  refine ze_ialdG h e5_w dX5_says_62 ?_
  refine ze_pc 63 rfl ?_
  refine ze_iastG h e10_w dX5_says_63 ?_
  refine ze_nmS (fun s8 => ?_)
  refine ze_iconst h 0 dX5_says_64 zk_i_0 ?_
  refine ze_bipush h 99 dX5_says_65 zk_b_99 ?_
  refine ze_aload_n h dX5_says_67 rfl ?_
  refine ze_getR h e0_w rfl zf_X5_44 dX5_says_68 ?_
  refine ze_aload_n h dX5_says_71 rfl ?_
  refine ze_getI h e0_w rfl zf_X5_64 dX5_says_72 ?_
  refine ze_iload_n h dX5_says_75 rfl ?_
  refine ze_aload_n h dX5_says_76 rfl ?_
  refine ze_getR h e0_w rfl zf_X5_41 dX5_says_77 ?_
  refine ze_callVi h (st := [.int 99, .int 0]) zce_X4_valueOf zi_X4_valueOf zs_X4_valueOf zm_X5_141 zl_1 rfl rfl (Nat.le_of_ble_eq_true rfl) zkn (c_X4_valueOf l zFull zHasT_full e10_w (s8 w 12) p1 s8) rfl (Nat.le_of_ble_eq_true rfl) rfl dX5_says_80 (fun r9 s10 => ?_)
  refine ze_mmin h (st := [.int 0]) (Nat.le_of_ble_eq_true rfl) zkn zm_X5_84 zw_min1 zw_math zw_min2 (Nat.le_of_ble_eq_true rfl) dX5_says_83 ?_
  refine ze_mmax h (st := []) (Nat.le_of_ble_eq_true rfl) zkn zm_X5_108 zw_max1 zw_math zw_max2 (Nat.le_of_ble_eq_true rfl) dX5_says_86 ?_
  exact ze_iret hR dX5_says_89
set_option maxRecDepth 20000 in
theorem c_X5_comes (l : Launch) {w : Nat} (hw : zIsW w) (p1 : Int32) (p2 : Int32) (s0 : zMem) : zC l yX5_comes (.code yX5_comes cX5_comes 3 (some .int)) 2 [.ref w, .int p1, .int p2] zFull s0 (fun r : Int32 => some (.int r)) (f_X5_comes w p1 p2 s0) := by
  refine zC_of (own := RX5) rfl rfl (Nat.le_of_ble_eq_true rfl) [some (.ref w), some (.int p1), some (.int p2)] rfl (fun G T h hR => ?_)
  obtain ⟨e0_w, e1_w, e2_w, e3_w, e4_w, e5_w, e6_w, e7_w, e8_w, e9_w, e10_w⟩ := id hw
  unfold f_X5_comes
  refine ze_iload_n h dX5_comes_0 rfl ?_
  refine ze_iconst h 0 dX5_comes_1 zk_i_0 ?_
  refine ze_bipush h 59 dX5_comes_2 zk_b_59 ?_
  refine ze_callSNi h (st := []) zce_X6_isFromTo zt_X6_isFromTo zn_X5_67 (Nat.le_of_ble_eq_true rfl) zkn (c_X6_isFromTo l zFull p1 0 59 s0) rfl (Nat.le_of_ble_eq_true rfl) rfl dX5_comes_4 (fun r1 s2 => ?_)
  refine ze_if_eq h 20 dX5_comes_7 (by decide) ?_ ?_
  · refine ze_bipush h (-2) dX5_comes_20 zk_b_m2 ?_
    exact ze_iret hR dX5_comes_22
  · refine ze_iload_n h dX5_comes_10 rfl ?_
    refine ze_iconst h 0 dX5_comes_11 zk_i_0 ?_
    refine ze_ldc h zq_X5_71 dX5_comes_12 ?_
    refine ze_callSNi h (st := []) zce_X6_isFromTo zt_X6_isFromTo zn_X5_67 (Nat.le_of_ble_eq_true rfl) zkn (c_X6_isFromTo l zFull p2 0 999999 s2) rfl (Nat.le_of_ble_eq_true rfl) rfl dX5_comes_14 (fun r3 s4 => ?_)
    refine ze_if_ne h 23 dX5_comes_17 (by decide) ?_ ?_
    · refine ze_aload_n h dX5_comes_23 rfl ?_
      refine ze_getI h e0_w rfl zf_X5_54 dX5_comes_24 ?_
      refine ze_bipush h 6 dX5_comes_27 zk_b_6 ?_
      refine ze_icmp_lt h 35 dX5_comes_29 (by decide) ?_ ?_
      · refine ze_aload_n h dX5_comes_35 rfl ?_
        refine ze_getR h e0_w rfl zf_X5_21 dX5_comes_36 ?_
        refine ze_aload_n h dX5_comes_39 rfl ?_
        refine ze_getI h e0_w rfl zf_X5_54 dX5_comes_40 ?_
        refine ze_iload_n h dX5_comes_43 rfl ?_
        refine ze_bipush h 10 dX5_comes_44 zk_b_10 ?_
        refine ze_idiv h dX5_comes_46 (by decide) ?_
        refine ze_iastG h e4_w dX5_comes_47 ?_
        refine ze_nmS (fun s5 => ?_)
        refine ze_aload_n h dX5_comes_48 rfl ?_
        refine ze_getR h e0_w rfl zf_X5_24 dX5_comes_49 ?_
        refine ze_aload_n h dX5_comes_52 rfl ?_
        refine ze_getI h e0_w rfl zf_X5_54 dX5_comes_53 ?_
        refine ze_iload_n h dX5_comes_56 rfl ?_
        refine ze_pc 57 rfl ?_
        refine ze_bipush h 10 dX5_comes_57 zk_b_10 ?_
        refine ze_irem h dX5_comes_59 (by decide) ?_
        refine ze_iastG h e5_w dX5_comes_60 ?_
        refine ze_nmS (fun s6 => ?_)
        refine ze_aload_n h dX5_comes_61 rfl ?_
        refine ze_getR h e0_w rfl zf_X5_9 dX5_comes_62 ?_
        refine ze_aload_n h dX5_comes_65 rfl ?_
        refine ze_getI h e0_w rfl zf_X5_54 dX5_comes_66 ?_
        refine ze_iload_n h dX5_comes_69 rfl ?_
        refine ze_bipush h 100 dX5_comes_70 zk_b_100 ?_
        refine ze_idiv h dX5_comes_72 (by decide) ?_
        refine ze_iastG h e1_w dX5_comes_73 ?_
        refine ze_nmS (fun s7 => ?_)
        refine ze_aload_n h dX5_comes_74 rfl ?_
        refine ze_getR h e0_w rfl zf_X5_15 dX5_comes_75 ?_
        refine ze_aload_n h dX5_comes_78 rfl ?_
        refine ze_pc 79 rfl ?_
        refine ze_getI h e0_w rfl zf_X5_54 dX5_comes_79 ?_
        refine ze_iload_n h dX5_comes_82 rfl ?_
        refine ze_bipush h 100 dX5_comes_83 zk_b_100 ?_
        refine ze_irem h dX5_comes_85 (by decide) ?_
        refine ze_iastG h e2_w dX5_comes_86 ?_
        refine ze_nmS (fun s8 => ?_)
        refine ze_aload_n h dX5_comes_87 rfl ?_
        refine ze_getR h e0_w rfl zf_X5_18 dX5_comes_88 ?_
        refine ze_aload_n h dX5_comes_91 rfl ?_
        refine ze_getI h e0_w rfl zf_X5_54 dX5_comes_92 ?_
        refine ze_iconst h 0 dX5_comes_95 zk_i_0 ?_
        refine ze_iastG h e3_w dX5_comes_96 ?_
        refine ze_nmS (fun s9 => ?_)
        refine ze_aload_n h dX5_comes_97 rfl ?_
        refine ze_dup h dX5_comes_98 rfl ?_
        refine ze_getI h e0_w rfl zf_X5_54 dX5_comes_99 ?_
        refine ze_pc 102 rfl ?_
        refine ze_iconst h 1 dX5_comes_102 zk_i_1 ?_
        refine ze_iadd h dX5_comes_103 ?_
        refine ze_putI h e0_w rfl zf_X5_54 rfl rfl dX5_comes_104 ?_
        refine ze_nmS (fun s10 => ?_)
        refine ze_aload_n h dX5_comes_107 rfl ?_
        refine ze_getI h e0_w rfl zf_X5_54 dX5_comes_108 ?_
        refine ze_iconst h 1 dX5_comes_111 zk_i_1 ?_
        refine ze_isub h dX5_comes_112 ?_
        exact ze_iret hR dX5_comes_113
      · refine ze_bipush h (-4) dX5_comes_32 zk_b_m4 ?_
        exact ze_iret hR dX5_comes_34
    · refine ze_bipush h (-2) dX5_comes_20 zk_b_m2 ?_
      exact ze_iret hR dX5_comes_22
set_option maxRecDepth 20000 in
theorem c_X5_become (l : Launch) {w : Nat} (hw : zIsW w) (p1 : Int32) (p2 : Int32) (p3 : Int32) (s0 : zMem) : zC l yX5_become (.code yX5_become cX5_become 4 none) 1 [.ref w, .int p1, .int p2, .int p3] zFull s0 (fun _ : Unit => none) (f_X5_become w p1 p2 p3 s0) := by
  refine zC_of (own := RX5) rfl rfl (Nat.le_of_ble_eq_true rfl) [some (.ref w), some (.int p1), some (.int p2), some (.int p3)] rfl (fun G T h hR => ?_)
  obtain ⟨e0_w, e1_w, e2_w, e3_w, e4_w, e5_w, e6_w, e7_w, e8_w, e9_w, e10_w⟩ := id hw
  unfold f_X5_become
  refine ze_iload_n h dX5_become_0 rfl ?_
  refine ze_case 0 (fun q1_0 => ?_) (fun q1_0 => ?_)
  · refine ze_lookup h (off := 27) 28 dX5_become_1 (by decide) (by decide) (by decide) ?_
    refine ze_aload_n h dX5_become_28 rfl ?_
    refine ze_getR h e0_w rfl zf_X5_9 dX5_become_29 ?_
    refine ze_iload_n h dX5_become_32 rfl ?_
    refine ze_iload_n h dX5_become_33 rfl ?_
    refine ze_iastG h e1_w dX5_become_34 ?_
    refine ze_nmS (fun s1 => ?_)
    refine ze_goto h 55 dX5_become_35 (by decide) ?_
    exact ze_vret hR dX5_become_55
  refine ze_case 1 (fun q1_1 => ?_) (fun q1_1 => ?_)
  · refine ze_lookup h (off := 37) 38 dX5_become_1 (by decide) (by decide) (by decide) ?_
    refine ze_aload_n h dX5_become_38 rfl ?_
    refine ze_getR h e0_w rfl zf_X5_15 dX5_become_39 ?_
    refine ze_iload_n h dX5_become_42 rfl ?_
    refine ze_iload_n h dX5_become_43 rfl ?_
    refine ze_iastG h e2_w dX5_become_44 ?_
    refine ze_nmS (fun s2 => ?_)
    refine ze_goto h 55 dX5_become_45 (by decide) ?_
    exact ze_vret hR dX5_become_55
  refine ze_lookup h (off := 47) 48 dX5_become_1 (by decide) (by show Op.lookupswitch.offset [(0, 27), (1, 37)] _ _ = _; rw [lv_osw (a := 0) q1_0 rfl, lv_osw (a := 1) q1_1 rfl]; rfl) (by decide) ?_
  refine ze_aload_n h dX5_become_48 rfl ?_
  refine ze_getR h e0_w rfl zf_X5_18 dX5_become_49 ?_
  refine ze_iload_n h dX5_become_52 rfl ?_
  refine ze_iload_n h dX5_become_53 rfl ?_
  refine ze_iastG h e3_w dX5_become_54 ?_
  refine ze_nmS (fun s3 => ?_)
  exact ze_vret hR dX5_become_55
set_option maxRecDepth 20000 in
theorem c_X5_stateOf (l : Launch) {w : Nat} (hw : zIsW w) (p1 : Int32) (p2 : Int32) (s0 : zMem) : zC l yX5_stateOf (.code yX5_stateOf cX5_stateOf 3 (some .int)) 1 [.ref w, .int p1, .int p2] zFull s0 (fun r : Int32 => some (.int r)) (f_X5_stateOf w p1 p2 s0) := by
  refine zC_of (own := RX5) rfl rfl (Nat.le_of_ble_eq_true rfl) [some (.ref w), some (.int p1), some (.int p2)] rfl (fun G T h hR => ?_)
  obtain ⟨e0_w, e1_w, e2_w, e3_w, e4_w, e5_w, e6_w, e7_w, e8_w, e9_w, e10_w⟩ := id hw
  unfold f_X5_stateOf
  refine ze_iload_n h dX5_stateOf_0 rfl ?_
  refine ze_case 0 (fun q1_0 => ?_) (fun q1_0 => ?_)
  · refine ze_lookup h (off := 27) 28 dX5_stateOf_1 (by decide) (by decide) (by decide) ?_
    refine ze_aload_n h dX5_stateOf_28 rfl ?_
    refine ze_getR h e0_w rfl zf_X5_9 dX5_stateOf_29 ?_
    refine ze_iload_n h dX5_stateOf_32 rfl ?_
    refine ze_ialdG h e1_w dX5_stateOf_33 ?_
    exact ze_iret hR dX5_stateOf_34
  refine ze_case 1 (fun q1_1 => ?_) (fun q1_1 => ?_)
  · refine ze_lookup h (off := 34) 35 dX5_stateOf_1 (by decide) (by decide) (by decide) ?_
    refine ze_aload_n h dX5_stateOf_35 rfl ?_
    refine ze_getR h e0_w rfl zf_X5_15 dX5_stateOf_36 ?_
    refine ze_iload_n h dX5_stateOf_39 rfl ?_
    refine ze_ialdG h e2_w dX5_stateOf_40 ?_
    exact ze_iret hR dX5_stateOf_41
  refine ze_lookup h (off := 41) 42 dX5_stateOf_1 (by decide) (by show Op.lookupswitch.offset [(0, 27), (1, 34)] _ _ = _; rw [lv_osw (a := 0) q1_0 rfl, lv_osw (a := 1) q1_1 rfl]; rfl) (by decide) ?_
  refine ze_aload_n h dX5_stateOf_42 rfl ?_
  refine ze_getR h e0_w rfl zf_X5_18 dX5_stateOf_43 ?_
  refine ze_iload_n h dX5_stateOf_46 rfl ?_
  refine ze_ialdG h e3_w dX5_stateOf_47 ?_
  exact ze_iret hR dX5_stateOf_48
set_option maxRecDepth 20000 in
theorem c_X5_isOwed (l : Launch) {w : Nat} (hw : zIsW w) (p1 : Int32) (s0 : zMem) : zC l yX5_isOwed (.code yX5_isOwed cX5_isOwed 2 (some .int)) 2 [.ref w, .int p1] zFull s0 (fun r : Int32 => some (.int r)) (f_X5_isOwed w p1 s0) := by
  refine zC_of (own := RX5) rfl rfl (Nat.le_of_ble_eq_true rfl) [some (.ref w), some (.int p1)] rfl (fun G T h hR => ?_)
  obtain ⟨e0_w, e1_w, e2_w, e3_w, e4_w, e5_w, e6_w, e7_w, e8_w, e9_w, e10_w⟩ := id hw
  unfold f_X5_isOwed
  refine ze_aload_n h dX5_isOwed_0 rfl ?_
  refine ze_aload_n h dX5_isOwed_1 rfl ?_
  refine ze_getR h e0_w rfl zf_X5_27 dX5_isOwed_2 ?_
  refine ze_iload_n h dX5_isOwed_5 rfl ?_
  refine ze_callVi h (st := []) zce_X5_coalsWhere zi_X5_coalsWhere zs_X5_coalsWhere zm_X5_72 e0_w rfl rfl (Nat.le_of_ble_eq_true rfl) zkn (c_X5_coalsWhere l hw e6_w p1 s0) rfl (Nat.le_of_ble_eq_true rfl) rfl dX5_isOwed_6 (fun r1 s2 => ?_)
  exact ze_iret hR dX5_isOwed_9
set_option maxRecDepth 20000 in
theorem e_X5_loansFrom_4 {l : Launch} {G : zGT} {T : Option Value × zMem} (h : zOk G l cX5_loansFrom RX5 4 1 0 0 false) (hR : zR G cX5_loansFrom (some .int) T zFull 0 0) {w : Nat} (hw : zIsW w)  : ∀ (n : Nat) (x1 : Int32) (x2 : Int32) (x3 : Int32) (s4 : zMem), zE G T (fun r : Int32 => some (.int r)) zFull 0 0 4 [some (.ref w), some (.int x1), some (.int x2), some (.int x3)] [] s4 (f_X5_loansFrom_4 w n x1 x2 x3 s4) := by
  obtain ⟨e0_w, e1_w, e2_w, e3_w, e4_w, e5_w, e6_w, e7_w, e8_w, e9_w, e10_w⟩ := id hw
  intro n
  induction n with
  | zero => intro _ _ _ _; exact ze_none
  | succ n ih =>
    intro x1 x2 x3 s4
    rw [f_X5_loansFrom_4]
    refine ze_iload_n h dX5_loansFrom_4 rfl ?_
    refine ze_aload_n h dX5_loansFrom_5 rfl ?_
    refine ze_getI h e0_w rfl zf_X5_58 dX5_loansFrom_6 ?_
    refine ze_icmp_ge h 31 dX5_loansFrom_9 (by decide) ?_ ?_
    · refine ze_iload_n h dX5_loansFrom_31 rfl ?_
      exact ze_iret hR dX5_loansFrom_32
    · refine ze_aload_n h dX5_loansFrom_12 rfl ?_
      refine ze_getR h e0_w rfl zf_X5_27 dX5_loansFrom_13 ?_
      refine ze_iload_n h dX5_loansFrom_16 rfl ?_
      refine ze_ialdG h e6_w dX5_loansFrom_17 ?_
      refine ze_iload_n h dX5_loansFrom_18 rfl ?_
      refine ze_icmp_ne h 25 dX5_loansFrom_19 (by decide) ?_ ?_
      · refine ze_iincN h (fun y9 => [some (.ref w), some (.int x1), some (.int x2), some (.int y9)]) 1 dX5_loansFrom_25 rfl zk_i_1 rfl (by decide) (fun _ => rfl) (fun x5 => ?_)
        refine ze_goto h 4 dX5_loansFrom_28 (by decide) ?_
        exact ih x1 x2 x5 s4
      · refine ze_iincN h (fun y9 => [some (.ref w), some (.int x1), some (.int y9), some (.int x3)]) 1 dX5_loansFrom_22 rfl zk_i_1 rfl (by decide) (fun _ => rfl) (fun x6 => ?_)
        refine ze_iincN h (fun y9 => [some (.ref w), some (.int x1), some (.int x6), some (.int y9)]) 1 dX5_loansFrom_25 rfl zk_i_1 rfl (by decide) (fun _ => rfl) (fun x7 => ?_)
        refine ze_goto h 4 dX5_loansFrom_28 (by decide) ?_
        exact ih x1 x6 x7 s4
set_option maxRecDepth 20000 in
theorem c_X5_loansFrom (l : Launch) {w : Nat} (hw : zIsW w) (p1 : Int32) (s0 : zMem) : zC l yX5_loansFrom (.code yX5_loansFrom cX5_loansFrom 4 (some .int)) 1 [.ref w, .int p1] zFull s0 (fun r : Int32 => some (.int r)) (f_X5_loansFrom w p1 s0) := by
  refine zC_of (own := RX5) rfl rfl (Nat.le_of_ble_eq_true rfl) [some (.ref w), some (.int p1), none, none] rfl (fun G T h hR => ?_)
  obtain ⟨e0_w, e1_w, e2_w, e3_w, e4_w, e5_w, e6_w, e7_w, e8_w, e9_w, e10_w⟩ := id hw
  unfold f_X5_loansFrom
  refine ze_iconst h 0 dX5_loansFrom_0 zk_i_0 ?_
  refine ze_istore_n h [some (.ref w), some (.int p1), some (.int 0), none] dX5_loansFrom_1 rfl (by decide) rfl ?_
  refine ze_iconst h 0 dX5_loansFrom_2 zk_i_0 ?_
  refine ze_istore_n h [some (.ref w), some (.int p1), some (.int 0), some (.int 0)] dX5_loansFrom_3 rfl (by decide) rfl ?_
  exact e_X5_loansFrom_4 h hR hw  zN p1 0 0 s0
set_option maxRecDepth 20000 in
theorem c_X5_pass (l : Launch) {w : Nat} (hw : zIsW w) (p1 : Int32) (p2 : Int32) (p3 : Int32) (s0 : zMem) : zC l yX5_pass (.code yX5_pass cX5_pass 4 none) 2 [.ref w, .int p1, .int p2, .int p3] zFull s0 (fun _ : Unit => none) (f_X5_pass w p1 p2 p3 s0) := by
  refine zC_of (own := RX5) rfl rfl (Nat.le_of_ble_eq_true rfl) [some (.ref w), some (.int p1), some (.int p2), some (.int p3)] rfl (fun G T h hR => ?_)
  obtain ⟨e0_w, e1_w, e2_w, e3_w, e4_w, e5_w, e6_w, e7_w, e8_w, e9_w, e10_w⟩ := id hw
  unfold f_X5_pass
  refine ze_aload_n h dX5_pass_0 rfl ?_
  refine ze_getR h e0_w rfl zf_X5_9 dX5_pass_1 ?_
  refine ze_iload_n h dX5_pass_4 rfl ?_
  refine ze_dup2 h dX5_pass_5 rfl rfl ?_
  refine ze_ialdG h e1_w dX5_pass_6 ?_
  refine ze_iload_n h dX5_pass_7 rfl ?_
  refine ze_isub h dX5_pass_8 ?_
  refine ze_iastG h e1_w dX5_pass_9 ?_
  refine ze_nmS (fun s1 => ?_)
  refine ze_aload_n h dX5_pass_10 rfl ?_
  refine ze_getR h e0_w rfl zf_X5_9 dX5_pass_11 ?_
  refine ze_iload_n h dX5_pass_14 rfl ?_
  refine ze_sipush h 9999 dX5_pass_15 zk_s_9999 ?_
  refine ze_aload_n h dX5_pass_18 rfl ?_
  refine ze_pc 19 rfl ?_
  refine ze_getR h e0_w rfl zf_X5_9 dX5_pass_19 ?_
  refine ze_iload_n h dX5_pass_22 rfl ?_
  refine ze_ialdG h e1_w dX5_pass_23 ?_
  refine ze_iload_n h dX5_pass_24 rfl ?_
  refine ze_iadd h dX5_pass_25 ?_
  refine ze_mmin h (st := [.int p2, .ref (w + 1)]) (Nat.le_of_ble_eq_true rfl) zkn zm_X5_84 zw_min1 zw_math zw_min2 (Nat.le_of_ble_eq_true rfl) dX5_pass_26 ?_
  refine ze_iastG h e1_w dX5_pass_29 ?_
  refine ze_nmS (fun s2 => ?_)
  exact ze_vret hR dX5_pass_30
set_option maxRecDepth 20000 in
theorem c_X5_lends (l : Launch) {w : Nat} (hw : zIsW w) (p1 : Int32) (p2 : Int32) (p3 : Int32) (p4 : Int32) (s0 : zMem) : zC l yX5_lends (.code yX5_lends cX5_lends 5 (some .int)) 3 [.ref w, .int p1, .int p2, .int p3, .int p4] zFull s0 (fun r : Int32 => some (.int r)) (f_X5_lends w p1 p2 p3 p4 s0) := by
  refine zC_of (own := RX5) rfl rfl (Nat.le_of_ble_eq_true rfl) [some (.ref w), some (.int p1), some (.int p2), some (.int p3), some (.int p4)] rfl (fun G T h hR => ?_)
  obtain ⟨e0_w, e1_w, e2_w, e3_w, e4_w, e5_w, e6_w, e7_w, e8_w, e9_w, e10_w⟩ := id hw
  unfold f_X5_lends
  refine ze_aload_n h dX5_lends_0 rfl ?_
  refine ze_getI h e0_w rfl zf_X5_58 dX5_lends_1 ?_
  refine ze_bipush h 10 dX5_lends_4 zk_b_10 ?_
  refine ze_icmp_lt h 12 dX5_lends_6 (by decide) ?_ ?_
  · refine ze_aload_n h dX5_lends_12 rfl ?_
    refine ze_getR h e0_w rfl zf_X5_18 dX5_lends_13 ?_
    refine ze_iload_n h dX5_lends_16 rfl ?_
    refine ze_ialdG h e3_w dX5_lends_17 ?_
    refine ze_if_gt h 31 dX5_lends_18 (by decide) ?_ ?_
    · refine ze_bipush h (-3) dX5_lends_31 zk_b_m3 ?_
      exact ze_iret hR dX5_lends_33
    · refine ze_aload_n h dX5_lends_21 rfl ?_
      refine ze_getR h e0_w rfl zf_X5_9 dX5_lends_22 ?_
      refine ze_iload_n h dX5_lends_25 rfl ?_
      refine ze_ialdG h e1_w dX5_lends_26 ?_
      refine ze_iload_n h dX5_lends_27 rfl ?_
      refine ze_icmp_ge h 34 dX5_lends_28 (by decide) ?_ ?_
      · refine ze_aload_n h dX5_lends_34 rfl ?_
        refine ze_iload_n h dX5_lends_35 rfl ?_
        refine ze_iload_n h dX5_lends_36 rfl ?_
        refine ze_iload_n h dX5_lends_37 rfl ?_
        refine ze_callVv h (st := []) zce_X5_pass zi_X5_pass zs_X5_pass zm_X5_80 e0_w rfl rfl (Nat.le_of_ble_eq_true rfl) zkn (c_X5_pass l hw p1 p2 p3 s0) rfl (Nat.le_of_ble_eq_true rfl) rfl dX5_lends_38 (fun _ s2 => ?_)
        refine ze_aload_n h dX5_lends_41 rfl ?_
        refine ze_getR h e0_w rfl zf_X5_27 dX5_lends_42 ?_
        refine ze_aload_n h dX5_lends_45 rfl ?_
        refine ze_getI h e0_w rfl zf_X5_58 dX5_lends_46 ?_
        refine ze_iload_n h dX5_lends_49 rfl ?_
        refine ze_iastG h e6_w dX5_lends_50 ?_
        refine ze_nmS (fun s3 => ?_)
        refine ze_aload_n h dX5_lends_51 rfl ?_
        refine ze_getR h e0_w rfl zf_X5_30 dX5_lends_52 ?_
        refine ze_pc 55 rfl ?_
        refine ze_aload_n h dX5_lends_55 rfl ?_
        refine ze_getI h e0_w rfl zf_X5_58 dX5_lends_56 ?_
        refine ze_iload_n h dX5_lends_59 rfl ?_
        refine ze_iastG h e7_w dX5_lends_60 ?_
        refine ze_nmS (fun s4 => ?_)
        refine ze_aload_n h dX5_lends_61 rfl ?_
        refine ze_getR h e0_w rfl zf_X5_33 dX5_lends_62 ?_
        refine ze_aload_n h dX5_lends_65 rfl ?_
        refine ze_getI h e0_w rfl zf_X5_58 dX5_lends_66 ?_
        refine ze_iload_n h dX5_lends_69 rfl ?_
        refine ze_iastG h e8_w dX5_lends_70 ?_
        refine ze_nmS (fun s5 => ?_)
        refine ze_aload_n h dX5_lends_71 rfl ?_
        refine ze_getR h e0_w rfl zf_X5_36 dX5_lends_72 ?_
        refine ze_aload_n h dX5_lends_75 rfl ?_
        refine ze_getI h e0_w rfl zf_X5_58 dX5_lends_76 ?_
        refine ze_pc 79 rfl ?_
        refine ze_aload_n h dX5_lends_79 rfl ?_
        refine ze_getI h e0_w rfl zf_X5_61 dX5_lends_80 ?_
        refine ze_iload h dX5_lends_83 rfl ?_
        refine ze_iadd h dX5_lends_85 ?_
        refine ze_iastG h e9_w dX5_lends_86 ?_
        refine ze_nmS (fun s6 => ?_)
        refine ze_aload_n h dX5_lends_87 rfl ?_
        refine ze_dup h dX5_lends_88 rfl ?_
        refine ze_getI h e0_w rfl zf_X5_58 dX5_lends_89 ?_
        refine ze_iconst h 1 dX5_lends_92 zk_i_1 ?_
        refine ze_iadd h dX5_lends_93 ?_
        refine ze_putI h e0_w rfl zf_X5_58 rfl rfl dX5_lends_94 ?_
        refine ze_nmS (fun s7 => ?_)
        refine ze_aload_n h dX5_lends_97 rfl ?_
        refine ze_getI h e0_w rfl zf_X5_58 dX5_lends_98 ?_
        refine ze_iconst h 1 dX5_lends_101 zk_i_1 ?_
        refine ze_pc 102 rfl ?_
        refine ze_isub h dX5_lends_102 ?_
        exact ze_iret hR dX5_lends_103
      · refine ze_bipush h (-3) dX5_lends_31 zk_b_m3 ?_
        exact ze_iret hR dX5_lends_33
  · refine ze_bipush h (-4) dX5_lends_9 zk_b_m4 ?_
    exact ze_iret hR dX5_lends_11
set_option maxRecDepth 20000 in
theorem c_X5_isLoan (l : Launch) {w : Nat} (hw : zIsW w) (p1 : Int32) (s0 : zMem) : zC l yX5_isLoan (.code yX5_isLoan cX5_isLoan 2 (some .boolean)) 1 [.ref w, .int p1] zFull s0 (fun r : Int32 => some (.int r)) (f_X5_isLoan w p1 s0) := by
  refine zC_of (own := RX5) rfl rfl (Nat.le_of_ble_eq_true rfl) [some (.ref w), some (.int p1)] rfl (fun G T h hR => ?_)
  obtain ⟨e0_w, e1_w, e2_w, e3_w, e4_w, e5_w, e6_w, e7_w, e8_w, e9_w, e10_w⟩ := id hw
  unfold f_X5_isLoan
  refine ze_iload_n h dX5_isLoan_0 rfl ?_
  refine ze_if_lt h 16 dX5_isLoan_1 (by decide) ?_ ?_
  · refine ze_iconst h 0 dX5_isLoan_16 zk_i_0 ?_
    exact ze_zret hR rfl dX5_isLoan_17
  · refine ze_iload_n h dX5_isLoan_4 rfl ?_
    refine ze_aload_n h dX5_isLoan_5 rfl ?_
    refine ze_getI h e0_w rfl zf_X5_58 dX5_isLoan_6 ?_
    refine ze_icmp_ge h 16 dX5_isLoan_9 (by decide) ?_ ?_
    · refine ze_iconst h 0 dX5_isLoan_16 zk_i_0 ?_
      exact ze_zret hR rfl dX5_isLoan_17
    · refine ze_iconst h 1 dX5_isLoan_12 zk_i_1 ?_
      refine ze_goto h 17 dX5_isLoan_13 (by decide) ?_
      exact ze_zret hR rfl dX5_isLoan_17
set_option maxRecDepth 20000 in
theorem c_X5_canRepay (l : Launch) {w : Nat} (hw : zIsW w) (p1 : Int32) (s0 : zMem) : zC l yX5_canRepay (.code yX5_canRepay cX5_canRepay 2 (some .boolean)) 1 [.ref w, .int p1] zFull s0 (fun r : Int32 => some (.int r)) (f_X5_canRepay w p1 s0) := by
  refine zC_of (own := RX5) rfl rfl (Nat.le_of_ble_eq_true rfl) [some (.ref w), some (.int p1)] rfl (fun G T h hR => ?_)
  obtain ⟨e0_w, e1_w, e2_w, e3_w, e4_w, e5_w, e6_w, e7_w, e8_w, e9_w, e10_w⟩ := id hw
  unfold f_X5_canRepay
  refine ze_aload_n h dX5_canRepay_0 rfl ?_
  refine ze_getR h e0_w rfl zf_X5_9 dX5_canRepay_1 ?_
  refine ze_aload_n h dX5_canRepay_4 rfl ?_
  refine ze_getR h e0_w rfl zf_X5_30 dX5_canRepay_5 ?_
  refine ze_iload_n h dX5_canRepay_8 rfl ?_
  refine ze_ialdG h e7_w dX5_canRepay_9 ?_
  refine ze_ialdG h e1_w dX5_canRepay_10 ?_
  refine ze_aload_n h dX5_canRepay_11 rfl ?_
  refine ze_getR h e0_w rfl zf_X5_33 dX5_canRepay_12 ?_
  refine ze_iload_n h dX5_canRepay_15 rfl ?_
  refine ze_ialdG h e8_w dX5_canRepay_16 ?_
  refine ze_icmp_lt h 24 dX5_canRepay_17 (by decide) ?_ ?_
  · refine ze_iconst h 0 dX5_canRepay_24 zk_i_0 ?_
    exact ze_zret hR rfl dX5_canRepay_25
  · refine ze_iconst h 1 dX5_canRepay_20 zk_i_1 ?_
    refine ze_goto h 25 dX5_canRepay_21 (by decide) ?_
    exact ze_zret hR rfl dX5_canRepay_25
set_option maxRecDepth 20000 in
theorem e_X5_drop_12 {l : Launch} {G : zGT} {T : Option Value × zMem} (h : zOk G l cX5_drop RX5 3 1 0 0 false) (hR : zR G cX5_drop none T zFull 0 0) {w : Nat} (hw : zIsW w)  : ∀ (n : Nat) (x2 : Int32) (s3 : zMem), zE G T (fun _ : Unit => none) zFull 0 0 12 [some (.ref w), none, some (.int x2)] [] s3 (f_X5_drop_12 w n x2 s3) := by
  obtain ⟨e0_w, e1_w, e2_w, e3_w, e4_w, e5_w, e6_w, e7_w, e8_w, e9_w, e10_w⟩ := id hw
  intro n
  induction n with
  | zero => intro _ _; exact ze_none
  | succ n ih =>
    intro x2 s3
    rw [f_X5_drop_12]
    refine ze_iload_n h dX5_drop_12 rfl ?_
    refine ze_aload_n h dX5_drop_13 rfl ?_
    refine ze_getI h e0_w rfl zf_X5_58 dX5_drop_14 ?_
    refine ze_icmp_ge h 82 dX5_drop_17 (by decide) ?_ ?_
    · exact ze_vret hR dX5_drop_82
    · refine ze_aload_n h dX5_drop_20 rfl ?_
      refine ze_getR h e0_w rfl zf_X5_27 dX5_drop_21 ?_
      refine ze_iload_n h dX5_drop_24 rfl ?_
      refine ze_aload_n h dX5_drop_25 rfl ?_
      refine ze_getR h e0_w rfl zf_X5_27 dX5_drop_26 ?_
      refine ze_iload_n h dX5_drop_29 rfl ?_
      refine ze_iconst h 1 dX5_drop_30 zk_i_1 ?_
      refine ze_iadd h dX5_drop_31 ?_
      refine ze_ialdG h e6_w dX5_drop_32 ?_
      refine ze_iastG h e6_w dX5_drop_33 ?_
      refine ze_nmS (fun s4 => ?_)
      refine ze_aload_n h dX5_drop_34 rfl ?_
      refine ze_getR h e0_w rfl zf_X5_30 dX5_drop_35 ?_
      refine ze_iload_n h dX5_drop_38 rfl ?_
      refine ze_pc 39 rfl ?_
      refine ze_aload_n h dX5_drop_39 rfl ?_
      refine ze_getR h e0_w rfl zf_X5_30 dX5_drop_40 ?_
      refine ze_iload_n h dX5_drop_43 rfl ?_
      refine ze_iconst h 1 dX5_drop_44 zk_i_1 ?_
      refine ze_iadd h dX5_drop_45 ?_
      refine ze_ialdG h e7_w dX5_drop_46 ?_
      refine ze_iastG h e7_w dX5_drop_47 ?_
      refine ze_nmS (fun s5 => ?_)
      refine ze_aload_n h dX5_drop_48 rfl ?_
      refine ze_getR h e0_w rfl zf_X5_33 dX5_drop_49 ?_
      refine ze_iload_n h dX5_drop_52 rfl ?_
      refine ze_aload_n h dX5_drop_53 rfl ?_
      refine ze_getR h e0_w rfl zf_X5_33 dX5_drop_54 ?_
      refine ze_iload_n h dX5_drop_57 rfl ?_
      refine ze_iconst h 1 dX5_drop_58 zk_i_1 ?_
      refine ze_pc 59 rfl ?_
      refine ze_iadd h dX5_drop_59 ?_
      refine ze_ialdG h e8_w dX5_drop_60 ?_
      refine ze_iastG h e8_w dX5_drop_61 ?_
      refine ze_nmS (fun s6 => ?_)
      refine ze_aload_n h dX5_drop_62 rfl ?_
      refine ze_getR h e0_w rfl zf_X5_36 dX5_drop_63 ?_
      refine ze_iload_n h dX5_drop_66 rfl ?_
      refine ze_aload_n h dX5_drop_67 rfl ?_
      refine ze_getR h e0_w rfl zf_X5_36 dX5_drop_68 ?_
      refine ze_iload_n h dX5_drop_71 rfl ?_
      refine ze_iconst h 1 dX5_drop_72 zk_i_1 ?_
      refine ze_iadd h dX5_drop_73 ?_
      refine ze_ialdG h e9_w dX5_drop_74 ?_
      refine ze_iastG h e9_w dX5_drop_75 ?_
      refine ze_nmS (fun s7 => ?_)
      refine ze_iincN h (fun y9 => [some (.ref w), none, some (.int y9)]) 1 dX5_drop_76 rfl zk_i_1 rfl (by decide) (fun _ => rfl) (fun x8 => ?_)
      refine ze_pc 79 rfl ?_
      refine ze_goto h 12 dX5_drop_79 (by decide) ?_
      exact ih x8 s7
set_option maxRecDepth 20000 in
theorem c_X5_drop (l : Launch) {w : Nat} (hw : zIsW w) (p1 : Int32) (s0 : zMem) : zC l yX5_drop (.code yX5_drop cX5_drop 3 none) 1 [.ref w, .int p1] zFull s0 (fun _ : Unit => none) (f_X5_drop w p1 s0) := by
  refine zC_of (own := RX5) rfl rfl (Nat.le_of_ble_eq_true rfl) [some (.ref w), some (.int p1), none] rfl (fun G T h hR => ?_)
  obtain ⟨e0_w, e1_w, e2_w, e3_w, e4_w, e5_w, e6_w, e7_w, e8_w, e9_w, e10_w⟩ := id hw
  unfold f_X5_drop
  refine ze_aload_n h dX5_drop_0 rfl ?_
  refine ze_dup h dX5_drop_1 rfl ?_
  refine ze_getI h e0_w rfl zf_X5_58 dX5_drop_2 ?_
  refine ze_iconst h 1 dX5_drop_5 zk_i_1 ?_
  refine ze_isub h dX5_drop_6 ?_
  refine ze_putI h e0_w rfl zf_X5_58 rfl rfl dX5_drop_7 ?_
  refine ze_nmS (fun s1 => ?_)
  refine ze_iload_n h dX5_drop_10 rfl ?_
  refine ze_istore_n h [some (.ref w), some (.int p1), some (.int p1)] dX5_drop_11 rfl (by decide) rfl ?_
  refine zE_weak h [true, false, true] rfl ?_
  exact e_X5_drop_12 h hR hw  zN p1 s1
set_option maxRecDepth 20000 in
theorem c_X5_payBack (l : Launch) {w : Nat} (hw : zIsW w) (p1 : Int32) (s0 : zMem) : zC l yX5_payBack (.code yX5_payBack cX5_payBack 2 none) 3 [.ref w, .int p1] zFull s0 (fun _ : Unit => none) (f_X5_payBack w p1 s0) := by
  refine zC_of (own := RX5) rfl rfl (Nat.le_of_ble_eq_true rfl) [some (.ref w), some (.int p1)] rfl (fun G T h hR => ?_)
  obtain ⟨e0_w, e1_w, e2_w, e3_w, e4_w, e5_w, e6_w, e7_w, e8_w, e9_w, e10_w⟩ := id hw
  unfold f_X5_payBack
  refine ze_aload_n h dX5_payBack_0 rfl ?_
  refine ze_aload_n h dX5_payBack_1 rfl ?_
  refine ze_getR h e0_w rfl zf_X5_30 dX5_payBack_2 ?_
  refine ze_iload_n h dX5_payBack_5 rfl ?_
  refine ze_ialdG h e7_w dX5_payBack_6 ?_
  refine ze_aload_n h dX5_payBack_7 rfl ?_
  refine ze_getR h e0_w rfl zf_X5_27 dX5_payBack_8 ?_
  refine ze_iload_n h dX5_payBack_11 rfl ?_
  refine ze_ialdG h e6_w dX5_payBack_12 ?_
  refine ze_aload_n h dX5_payBack_13 rfl ?_
  refine ze_getR h e0_w rfl zf_X5_33 dX5_payBack_14 ?_
  refine ze_iload_n h dX5_payBack_17 rfl ?_
  refine ze_ialdG h e8_w dX5_payBack_18 ?_
  refine ze_pc 19 rfl ?_
  refine ze_callVv h (st := []) zce_X5_pass zi_X5_pass zs_X5_pass zm_X5_80 e0_w rfl rfl (Nat.le_of_ble_eq_true rfl) zkn (c_X5_pass l hw (s0 (w + 7) (zix p1)) (s0 (w + 6) (zix p1)) (s0 (w + 8) (zix p1)) s0) rfl (Nat.le_of_ble_eq_true rfl) rfl dX5_payBack_19 (fun _ s2 => ?_)
  exact ze_vret hR dX5_payBack_22
set_option maxRecDepth 20000 in
theorem e_X5_endDueLoans_9 {l : Launch} {G : zGT} {T : Option Value × zMem} (h : zOk G l cX5_endDueLoans RX5 4 4 0 0 false) (hR : zR G cX5_endDueLoans (some .int) T zFull 0 0) {w : Nat} (hw : zIsW w)  : ∀ (n : Nat) (x2 : Int32) (x3 : Int32) (x4 : Int32) (s5 : zMem), zE G T (fun r : Int32 => some (.int r)) zFull 0 0 9 [some (.ref w), some (.int x2), some (.int x3), some (.int x4)] [] s5 (f_X5_endDueLoans_9 w n x2 x3 x4 s5) := by
  obtain ⟨e0_w, e1_w, e2_w, e3_w, e4_w, e5_w, e6_w, e7_w, e8_w, e9_w, e10_w⟩ := id hw
  intro n
  induction n with
  | zero => intro _ _ _ _; exact ze_none
  | succ n ih =>
    intro x2 x3 x4 s5
    rw [f_X5_endDueLoans_9]
    refine ze_iload_n h dX5_endDueLoans_9 rfl ?_
    refine ze_if_le h 83 dX5_endDueLoans_10 (by decide) ?_ ?_
    · refine ze_iload_n h dX5_endDueLoans_83 rfl ?_
      exact ze_iret hR dX5_endDueLoans_84
    · refine ze_aload_n h dX5_endDueLoans_13 rfl ?_
      refine ze_getR h e0_w rfl zf_X5_36 dX5_endDueLoans_14 ?_
      refine ze_iload_n h dX5_endDueLoans_17 rfl ?_
      refine ze_ialdG h e9_w dX5_endDueLoans_18 ?_
      refine ze_aload_n h dX5_endDueLoans_19 rfl ?_
      refine ze_getI h e0_w rfl zf_X5_61 dX5_endDueLoans_20 ?_
      refine ze_icmp_le h 32 dX5_endDueLoans_23 (by decide) ?_ ?_
      · refine ze_aload_n h dX5_endDueLoans_32 rfl ?_
        refine ze_iload_n h dX5_endDueLoans_33 rfl ?_
        refine ze_callVi h (st := []) zce_X5_canRepay zi_X5_canRepay zs_X5_canRepay zm_X5_121 e0_w rfl rfl (Nat.le_of_ble_eq_true rfl) zkn (c_X5_canRepay l hw x3 s5) rfl (Nat.le_of_ble_eq_true rfl) rfl dX5_endDueLoans_34 (fun r6 s7 => ?_)
        refine ze_if_eq h 48 dX5_endDueLoans_37 (by decide) ?_ ?_
        · refine ze_aload_n h dX5_endDueLoans_48 rfl ?_
          refine ze_getR h e0_w rfl zf_X5_18 dX5_endDueLoans_49 ?_
          refine ze_aload_n h dX5_endDueLoans_52 rfl ?_
          refine ze_getR h e0_w rfl zf_X5_30 dX5_endDueLoans_53 ?_
          refine ze_iload_n h dX5_endDueLoans_56 rfl ?_
          refine ze_ialdG h e7_w dX5_endDueLoans_57 ?_
          refine ze_bipush h 20 dX5_endDueLoans_58 zk_b_20 ?_
          refine ze_iastG h e3_w dX5_endDueLoans_60 ?_
          refine ze_nmS (fun s8 => ?_)
          refine ze_iload_n h dX5_endDueLoans_61 rfl ?_
          refine ze_iconst h 1 dX5_endDueLoans_62 zk_i_1 ?_
          refine ze_aload_n h dX5_endDueLoans_63 rfl ?_
          refine ze_getR h e0_w rfl zf_X5_30 dX5_endDueLoans_64 ?_
          refine ze_iload_n h dX5_endDueLoans_67 rfl ?_
          refine ze_pc 68 rfl ?_
          refine ze_ialdG h e7_w dX5_endDueLoans_68 ?_
          refine ze_ishl h dX5_endDueLoans_69 ?_
          refine ze_ior h dX5_endDueLoans_70 ?_
          refine ze_nmI (fun x9 => ?_)
          refine ze_istore_n h [some (.ref w), some (.int x9), some (.int x3), some (.int x4)] dX5_endDueLoans_71 rfl (by decide) rfl ?_
          refine ze_aload_n h dX5_endDueLoans_72 rfl ?_
          refine ze_iload_n h dX5_endDueLoans_73 rfl ?_
          refine ze_callVv h (st := []) zce_X5_drop zi_X5_drop zs_X5_drop zm_X5_128 e0_w rfl rfl (Nat.le_of_ble_eq_true rfl) zkn (c_X5_drop l hw x3 s8) rfl (Nat.le_of_ble_eq_true rfl) rfl dX5_endDueLoans_74 (fun _ s11 => ?_)
          refine ze_iincN h (fun y9 => [some (.ref w), some (.int x9), some (.int x3), some (.int y9)]) (-1) dX5_endDueLoans_77 rfl zk_i_m1 rfl (by decide) (fun _ => rfl) (fun x12 => ?_)
          refine ze_goto h 9 dX5_endDueLoans_80 (by decide) ?_
          exact ih x9 x3 x12 s11
        · refine ze_aload_n h dX5_endDueLoans_40 rfl ?_
          refine ze_iload_n h dX5_endDueLoans_41 rfl ?_
          refine ze_callVv h (st := []) zce_X5_payBack zi_X5_payBack zs_X5_payBack zm_X5_125 e0_w rfl rfl (Nat.le_of_ble_eq_true rfl) zkn (c_X5_payBack l hw x3 s7) rfl (Nat.le_of_ble_eq_true rfl) rfl dX5_endDueLoans_42 (fun _ s14 => ?_)
          refine ze_goto h 72 dX5_endDueLoans_45 (by decide) ?_
          refine ze_aload_n h dX5_endDueLoans_72 rfl ?_
          refine ze_iload_n h dX5_endDueLoans_73 rfl ?_
          refine ze_callVv h (st := []) zce_X5_drop zi_X5_drop zs_X5_drop zm_X5_128 e0_w rfl rfl (Nat.le_of_ble_eq_true rfl) zkn (c_X5_drop l hw x3 s14) rfl (Nat.le_of_ble_eq_true rfl) rfl dX5_endDueLoans_74 (fun _ s16 => ?_)
          refine ze_iincN h (fun y9 => [some (.ref w), some (.int x2), some (.int x3), some (.int y9)]) (-1) dX5_endDueLoans_77 rfl zk_i_m1 rfl (by decide) (fun _ => rfl) (fun x17 => ?_)
          refine ze_goto h 9 dX5_endDueLoans_80 (by decide) ?_
          exact ih x2 x3 x17 s16
      · refine ze_iincN h (fun y9 => [some (.ref w), some (.int x2), some (.int y9), some (.int x4)]) 1 dX5_endDueLoans_26 rfl zk_i_1 rfl (by decide) (fun _ => rfl) (fun x18 => ?_)
        refine ze_goto h 77 dX5_endDueLoans_29 (by decide) ?_
        refine ze_iincN h (fun y9 => [some (.ref w), some (.int x2), some (.int x18), some (.int y9)]) (-1) dX5_endDueLoans_77 rfl zk_i_m1 rfl (by decide) (fun _ => rfl) (fun x19 => ?_)
        refine ze_goto h 9 dX5_endDueLoans_80 (by decide) ?_
        exact ih x2 x18 x19 s5
set_option maxRecDepth 20000 in
theorem c_X5_endDueLoans (l : Launch) {w : Nat} (hw : zIsW w)  (s0 : zMem) : zC l yX5_endDueLoans (.code yX5_endDueLoans cX5_endDueLoans 4 (some .int)) 4 [.ref w] zFull s0 (fun r : Int32 => some (.int r)) (f_X5_endDueLoans w s0) := by
  refine zC_of (own := RX5) rfl rfl (Nat.le_of_ble_eq_true rfl) [some (.ref w), none, none, none] rfl (fun G T h hR => ?_)
  obtain ⟨e0_w, e1_w, e2_w, e3_w, e4_w, e5_w, e6_w, e7_w, e8_w, e9_w, e10_w⟩ := id hw
  unfold f_X5_endDueLoans
  refine ze_iconst h 0 dX5_endDueLoans_0 zk_i_0 ?_
  refine ze_istore_n h [some (.ref w), some (.int 0), none, none] dX5_endDueLoans_1 rfl (by decide) rfl ?_
  refine ze_iconst h 0 dX5_endDueLoans_2 zk_i_0 ?_
  refine ze_istore_n h [some (.ref w), some (.int 0), some (.int 0), none] dX5_endDueLoans_3 rfl (by decide) rfl ?_
  refine ze_aload_n h dX5_endDueLoans_4 rfl ?_
  refine ze_getI h e0_w rfl zf_X5_58 dX5_endDueLoans_5 ?_
  refine ze_nmI (fun x1 => ?_)
  refine ze_istore_n h [some (.ref w), some (.int 0), some (.int 0), some (.int x1)] dX5_endDueLoans_8 rfl (by decide) rfl ?_
  exact e_X5_endDueLoans_9 h hR hw  zN 0 0 x1 s0
set_option maxRecDepth 20000 in
theorem c_X5_grow (l : Launch) {w : Nat} (hw : zIsW w) (p1 : Int32) (s0 : zMem) : zC l yX5_grow (.code yX5_grow cX5_grow 4 none) 4 [.ref w, .int p1] zFull s0 (fun _ : Unit => none) (f_X5_grow w p1 s0) := by
  refine zC_of (own := RX5) rfl rfl (Nat.le_of_ble_eq_true rfl) [some (.ref w), some (.int p1), none, none] rfl (fun G T h hR => ?_)
  obtain ⟨e0_w, e1_w, e2_w, e3_w, e4_w, e5_w, e6_w, e7_w, e8_w, e9_w, e10_w⟩ := id hw
  unfold f_X5_grow
  refine ze_aload_n h dX5_grow_0 rfl ?_
  refine ze_getR h e0_w rfl zf_X5_30 dX5_grow_1 ?_
  refine ze_iload_n h dX5_grow_4 rfl ?_
  refine ze_ialdG h e7_w dX5_grow_5 ?_
  refine ze_nmI (fun x1 => ?_)
  refine ze_istore_n h [some (.ref w), some (.int p1), some (.int x1), none] dX5_grow_6 rfl (by decide) rfl ?_
  refine ze_aload_n h dX5_grow_7 rfl ?_
  refine ze_getR h e0_w rfl zf_X5_21 dX5_grow_8 ?_
  refine ze_iload_n h dX5_grow_11 rfl ?_
  refine ze_ialdG h e4_w dX5_grow_12 ?_
  refine ze_aload_n h dX5_grow_13 rfl ?_
  refine ze_getR h e0_w rfl zf_X5_24 dX5_grow_14 ?_
  refine ze_iload_n h dX5_grow_17 rfl ?_
  refine ze_ialdG h e5_w dX5_grow_18 ?_
  refine ze_pc 19 rfl ?_
  refine ze_aload_n h dX5_grow_19 rfl ?_
  refine ze_getR h e0_w rfl zf_X5_33 dX5_grow_20 ?_
  refine ze_iload_n h dX5_grow_23 rfl ?_
  refine ze_ialdG h e8_w dX5_grow_24 ?_
  refine ze_aload_n h dX5_grow_25 rfl ?_
  refine ze_iconst h 0 dX5_grow_26 zk_i_0 ?_
  refine ze_iload_n h dX5_grow_27 rfl ?_
  refine ze_aload_n h dX5_grow_28 rfl ?_
  refine ze_getR h e0_w rfl zf_X5_33 dX5_grow_29 ?_
  refine ze_iload_n h dX5_grow_32 rfl ?_
  refine ze_ialdG h e8_w dX5_grow_33 ?_
  refine ze_callVi h (st := [.int (s0 (w + 8) (zix p1)), .int (s0 (w + 5) (zix x1)), .int (s0 (w + 4) (zix x1))]) zce_X5_says zi_X5_says zs_X5_says zm_X5_111 e0_w rfl rfl (Nat.le_of_ble_eq_true rfl) zkn (c_X5_says l hw 0 x1 (s0 (w + 8) (zix p1)) s0) rfl (Nat.le_of_ble_eq_true rfl) rfl dX5_grow_34 (fun r2 s3 => ?_)
  refine ze_callSi h (st := []) zce_X1_growth zt_X1_growth zm_X5_115 (Nat.le_of_ble_eq_true rfl) zkn (c_X1_growth l zFull (s0 (w + 4) (zix x1)) (s0 (w + 5) (zix x1)) (s0 (w + 8) (zix p1)) r2 s3) rfl (Nat.le_of_ble_eq_true rfl) rfl dX5_grow_37 (fun r4 s5 => ?_)
  refine ze_istore_n h [some (.ref w), some (.int p1), some (.int x1), some (.int r4)] dX5_grow_40 rfl (by decide) rfl ?_
  refine ze_pc 41 rfl ?_
  refine ze_aload_n h dX5_grow_41 rfl ?_
  refine ze_getR h e0_w rfl zf_X5_33 dX5_grow_42 ?_
  refine ze_iload_n h dX5_grow_45 rfl ?_
  refine ze_sipush h 9999 dX5_grow_46 zk_s_9999 ?_
  refine ze_aload_n h dX5_grow_49 rfl ?_
  refine ze_getR h e0_w rfl zf_X5_33 dX5_grow_50 ?_
  refine ze_iload_n h dX5_grow_53 rfl ?_
  refine ze_ialdG h e8_w dX5_grow_54 ?_
  refine ze_iload_n h dX5_grow_55 rfl ?_
  refine ze_iadd h dX5_grow_56 ?_
  refine ze_mmin h (st := [.int p1, .ref (w + 8)]) (Nat.le_of_ble_eq_true rfl) zkn zm_X5_84 zw_min1 zw_math zw_min2 (Nat.le_of_ble_eq_true rfl) dX5_grow_57 ?_
  refine ze_iastG h e8_w dX5_grow_60 ?_
  refine ze_nmS (fun s6 => ?_)
  exact ze_vret hR dX5_grow_61
set_option maxRecDepth 20000 in
theorem e_X5_warm_93 {l : Launch} {G : zGT} {T : Option Value × zMem} (h : zOk G l cX5_warm RX5 3 4 0 0 false) (hR : zR G cX5_warm none T zFull 0 0) {w : Nat} (hw : zIsW w)  : ∀ (x1 : Int32) (s2 : zMem), zE G T (fun _ : Unit => none) zFull 0 0 93 [some (.ref w), some (.int x1), none] [] s2 (f_X5_warm_93 w  x1 s2) := by
  obtain ⟨e0_w, e1_w, e2_w, e3_w, e4_w, e5_w, e6_w, e7_w, e8_w, e9_w, e10_w⟩ := id hw
  intro x1 s2
  unfold f_X5_warm_93
  refine ze_aload_n h dX5_warm_93 rfl ?_
  refine ze_getR h e0_w rfl zf_X5_21 dX5_warm_94 ?_
  refine ze_iload_n h dX5_warm_97 rfl ?_
  refine ze_ialdG h e4_w dX5_warm_98 ?_
  refine ze_aload_n h dX5_warm_99 rfl ?_
  refine ze_getR h e0_w rfl zf_X5_9 dX5_warm_100 ?_
  refine ze_iload_n h dX5_warm_103 rfl ?_
  refine ze_ialdG h e1_w dX5_warm_104 ?_
  refine ze_aload_n h dX5_warm_105 rfl ?_
  refine ze_iconst h 1 dX5_warm_106 zk_i_1 ?_
  refine ze_iload_n h dX5_warm_107 rfl ?_
  refine ze_iconst h 0 dX5_warm_108 zk_i_0 ?_
  refine ze_callVi h (st := [.int (s2 (w + 1) (zix x1)), .int (s2 (w + 4) (zix x1))]) zce_X5_says zi_X5_says zs_X5_says zm_X5_111 e0_w rfl rfl (Nat.le_of_ble_eq_true rfl) zkn (c_X5_says l hw 1 x1 0 s2) rfl (Nat.le_of_ble_eq_true rfl) rfl dX5_warm_109 (fun r3 s4 => ?_)
  refine ze_pc 112 rfl ?_
  refine ze_callSi h (st := []) zce_X1_cooling zt_X1_cooling zm_X5_134 (Nat.le_of_ble_eq_true rfl) zkn (c_X1_cooling l zFull (s2 (w + 4) (zix x1)) (s2 (w + 1) (zix x1)) r3 s4) rfl (Nat.le_of_ble_eq_true rfl) rfl dX5_warm_112 (fun r5 s6 => ?_)
  refine ze_istore_n h [some (.ref w), some (.int x1), some (.int r5)] dX5_warm_115 rfl (by decide) rfl ?_
  refine ze_aload_n h dX5_warm_116 rfl ?_
  refine ze_getR h e0_w rfl zf_X5_9 dX5_warm_117 ?_
  refine ze_iload_n h dX5_warm_120 rfl ?_
  refine ze_iconst h 0 dX5_warm_121 zk_i_0 ?_
  refine ze_aload_n h dX5_warm_122 rfl ?_
  refine ze_getR h e0_w rfl zf_X5_9 dX5_warm_123 ?_
  refine ze_iload_n h dX5_warm_126 rfl ?_
  refine ze_ialdG h e1_w dX5_warm_127 ?_
  refine ze_iload_n h dX5_warm_128 rfl ?_
  refine ze_isub h dX5_warm_129 ?_
  refine ze_mmax h (st := [.int x1, .ref (w + 1)]) (Nat.le_of_ble_eq_true rfl) zkn zm_X5_108 zw_max1 zw_math zw_max2 (Nat.le_of_ble_eq_true rfl) dX5_warm_130 ?_
  refine ze_iastG h e1_w dX5_warm_133 ?_
  refine ze_nmS (fun s7 => ?_)
  refine ze_pc 134 rfl ?_
  exact ze_vret hR dX5_warm_134
set_option maxRecDepth 20000 in
theorem c_X5_warm (l : Launch) {w : Nat} (hw : zIsW w) (p1 : Int32) (s0 : zMem) : zC l yX5_warm (.code yX5_warm cX5_warm 3 none) 4 [.ref w, .int p1] zFull s0 (fun _ : Unit => none) (f_X5_warm w p1 s0) := by
  refine zC_of (own := RX5) rfl rfl (Nat.le_of_ble_eq_true rfl) [some (.ref w), some (.int p1), none] rfl (fun G T h hR => ?_)
  obtain ⟨e0_w, e1_w, e2_w, e3_w, e4_w, e5_w, e6_w, e7_w, e8_w, e9_w, e10_w⟩ := id hw
  unfold f_X5_warm
  refine ze_aload_n h dX5_warm_0 rfl ?_
  refine ze_getR h e0_w rfl zf_X5_18 dX5_warm_1 ?_
  refine ze_iload_n h dX5_warm_4 rfl ?_
  refine ze_ialdG h e3_w dX5_warm_5 ?_
  refine ze_if_le h 27 dX5_warm_6 (by decide) ?_ ?_
  · refine ze_aload_n h dX5_warm_27 rfl ?_
    refine ze_getR h e0_w rfl zf_X5_15 dX5_warm_28 ?_
    refine ze_iload_n h dX5_warm_31 rfl ?_
    refine ze_ialdG h e2_w dX5_warm_32 ?_
    refine ze_if_le h 93 dX5_warm_33 (by decide) ?_ ?_
    · exact e_X5_warm_93 h hR hw  p1 s0
    · refine ze_aload_n h dX5_warm_36 rfl ?_
      refine ze_getR h e0_w rfl zf_X5_21 dX5_warm_37 ?_
      refine ze_iload_n h dX5_warm_40 rfl ?_
      refine ze_ialdG h e4_w dX5_warm_41 ?_
      refine ze_aload_n h dX5_warm_42 rfl ?_
      refine ze_getR h e0_w rfl zf_X5_24 dX5_warm_43 ?_
      refine ze_iload_n h dX5_warm_46 rfl ?_
      refine ze_ialdG h e5_w dX5_warm_47 ?_
      refine ze_aload_n h dX5_warm_48 rfl ?_
      refine ze_getI h e0_w rfl zf_X5_61 dX5_warm_49 ?_
      refine ze_aload_n h dX5_warm_52 rfl ?_
      refine ze_iconst h 2 dX5_warm_53 zk_i_2 ?_
      refine ze_iload_n h dX5_warm_54 rfl ?_
      refine ze_pc 55 rfl ?_
      refine ze_iconst h 0 dX5_warm_55 zk_i_0 ?_
      refine ze_callVi h (st := [.int (s0 w 11), .int (s0 (w + 5) (zix p1)), .int (s0 (w + 4) (zix p1))]) zce_X5_says zi_X5_says zs_X5_says zm_X5_111 e0_w rfl rfl (Nat.le_of_ble_eq_true rfl) zkn (c_X5_says l hw 2 p1 0 s0) rfl (Nat.le_of_ble_eq_true rfl) rfl dX5_warm_56 (fun r8 s9 => ?_)
      refine ze_callSi h (st := []) zce_X1_burning zt_X1_burning zm_X5_131 (Nat.le_of_ble_eq_true rfl) zkn (c_X1_burning l zFull (s0 (w + 4) (zix p1)) (s0 (w + 5) (zix p1)) (s0 w 11) r8 s9) rfl (Nat.le_of_ble_eq_true rfl) rfl dX5_warm_59 (fun r10 s11 => ?_)
      refine ze_istore_n h [some (.ref w), some (.int p1), some (.int r10)] dX5_warm_62 rfl (by decide) rfl ?_
      refine ze_aload_n h dX5_warm_63 rfl ?_
      refine ze_getR h e0_w rfl zf_X5_9 dX5_warm_64 ?_
      refine ze_iload_n h dX5_warm_67 rfl ?_
      refine ze_sipush h 9999 dX5_warm_68 zk_s_9999 ?_
      refine ze_aload_n h dX5_warm_71 rfl ?_
      refine ze_getR h e0_w rfl zf_X5_9 dX5_warm_72 ?_
      refine ze_iload_n h dX5_warm_75 rfl ?_
      refine ze_ialdG h e1_w dX5_warm_76 ?_
      refine ze_iload_n h dX5_warm_77 rfl ?_
      refine ze_iadd h dX5_warm_78 ?_
      refine ze_pc 79 rfl ?_
      refine ze_mmin h (st := [.int p1, .ref (w + 1)]) (Nat.le_of_ble_eq_true rfl) zkn zm_X5_84 zw_min1 zw_math zw_min2 (Nat.le_of_ble_eq_true rfl) dX5_warm_79 ?_
      refine ze_iastG h e1_w dX5_warm_82 ?_
      refine ze_nmS (fun s12 => ?_)
      refine ze_aload_n h dX5_warm_83 rfl ?_
      refine ze_getR h e0_w rfl zf_X5_15 dX5_warm_84 ?_
      refine ze_iload_n h dX5_warm_87 rfl ?_
      refine ze_dup2 h dX5_warm_88 rfl rfl ?_
      refine ze_ialdG h e2_w dX5_warm_89 ?_
      refine ze_iconst h 1 dX5_warm_90 zk_i_1 ?_
      refine ze_isub h dX5_warm_91 ?_
      refine ze_iastG h e2_w dX5_warm_92 ?_
      refine ze_nmS (fun s13 => ?_)
      refine zE_weak h [true, true, false] rfl ?_
      exact e_X5_warm_93 h hR hw  p1 s13
  · refine ze_aload_n h dX5_warm_9 rfl ?_
    refine ze_getR h e0_w rfl zf_X5_18 dX5_warm_10 ?_
    refine ze_iload_n h dX5_warm_13 rfl ?_
    refine ze_dup2 h dX5_warm_14 rfl rfl ?_
    refine ze_ialdG h e3_w dX5_warm_15 ?_
    refine ze_iconst h 1 dX5_warm_16 zk_i_1 ?_
    refine ze_isub h dX5_warm_17 ?_
    refine ze_iastG h e3_w dX5_warm_18 ?_
    refine ze_nmS (fun s14 => ?_)
    refine ze_aload_n h dX5_warm_19 rfl ?_
    refine ze_getR h e0_w rfl zf_X5_9 dX5_warm_20 ?_
    refine ze_iload_n h dX5_warm_23 rfl ?_
    refine ze_iconst h 0 dX5_warm_24 zk_i_0 ?_
    refine ze_iastG h e1_w dX5_warm_25 ?_
    refine ze_nmS (fun s15 => ?_)
    refine ze_pc 26 rfl ?_
    exact ze_vret hR dX5_warm_26
set_option maxRecDepth 20000 in
theorem e_X5_passNight_2 {l : Launch} {G : zGT} {T : Option Value × zMem} (h : zOk G l cX5_passNight RX5 3 5 0 0 false) (hR : zR G cX5_passNight (some .int) T zFull 0 0) {w : Nat} (hw : zIsW w) (c21 : zMem → Option (Int32 × zMem)) (hc21 : ∀ (s9 : zMem), zE G T (fun r : Int32 => some (.int r)) zFull 0 0 21 [some (.ref w), none, none] [] s9 (c21 s9)) : ∀ (n : Nat) (x1 : Int32) (s2 : zMem), zE G T (fun r : Int32 => some (.int r)) zFull 0 0 2 [some (.ref w), some (.int x1), none] [] s2 (f_X5_passNight_2 w c21 n x1 s2) := by
  obtain ⟨e0_w, e1_w, e2_w, e3_w, e4_w, e5_w, e6_w, e7_w, e8_w, e9_w, e10_w⟩ := id hw
  intro n
  induction n with
  | zero => intro _ _; exact ze_none
  | succ n ih =>
    intro x1 s2
    rw [f_X5_passNight_2]
    refine ze_iload_n h dX5_passNight_2 rfl ?_
    refine ze_aload_n h dX5_passNight_3 rfl ?_
    refine ze_getI h e0_w rfl zf_X5_58 dX5_passNight_4 ?_
    refine ze_icmp_ge h 21 dX5_passNight_7 (by decide) ?_ ?_
    · refine zE_weak h [true, false, false] rfl ?_
      exact hc21 s2
    · refine ze_aload_n h dX5_passNight_10 rfl ?_
      refine ze_iload_n h dX5_passNight_11 rfl ?_
      refine ze_callVv h (st := []) zce_X5_grow zi_X5_grow zs_X5_grow zm_X5_90 e0_w rfl rfl (Nat.le_of_ble_eq_true rfl) zkn (c_X5_grow l hw x1 s2) rfl (Nat.le_of_ble_eq_true rfl) rfl dX5_passNight_12 (fun _ s4 => ?_)
      refine ze_iincN h (fun y9 => [some (.ref w), some (.int y9), none]) 1 dX5_passNight_15 rfl zk_i_1 rfl (by decide) (fun _ => rfl) (fun x5 => ?_)
      refine ze_goto h 2 dX5_passNight_18 (by decide) ?_
      exact ih x5 s4
set_option maxRecDepth 20000 in
theorem e_X5_passNight_28 {l : Launch} {G : zGT} {T : Option Value × zMem} (h : zOk G l cX5_passNight RX5 3 5 0 0 false) (hR : zR G cX5_passNight (some .int) T zFull 0 0) {w : Nat} (hw : zIsW w) (c47 : Int32 → zMem → Option (Int32 × zMem)) (hc47 : ∀ (y1 : Int32) (s9 : zMem), zE G T (fun r : Int32 => some (.int r)) zFull 0 0 47 [some (.ref w), some (.int y1), none] [] s9 (c47 y1 s9)) : ∀ (n : Nat) (x9 : Int32) (x10 : Int32) (s11 : zMem), zE G T (fun r : Int32 => some (.int r)) zFull 0 0 28 [some (.ref w), some (.int x9), some (.int x10)] [] s11 (f_X5_passNight_28 w c47 n x9 x10 s11) := by
  obtain ⟨e0_w, e1_w, e2_w, e3_w, e4_w, e5_w, e6_w, e7_w, e8_w, e9_w, e10_w⟩ := id hw
  intro n
  induction n with
  | zero => intro _ _ _; exact ze_none
  | succ n ih =>
    intro x9 x10 s11
    rw [f_X5_passNight_28]
    refine ze_iload_n h dX5_passNight_28 rfl ?_
    refine ze_aload_n h dX5_passNight_29 rfl ?_
    refine ze_getI h e0_w rfl zf_X5_54 dX5_passNight_30 ?_
    refine ze_icmp_ge h 47 dX5_passNight_33 (by decide) ?_ ?_
    · refine zE_weak h [true, true, false] rfl ?_
      exact hc47 x9 s11
    · refine ze_aload_n h dX5_passNight_36 rfl ?_
      refine ze_iload_n h dX5_passNight_37 rfl ?_
      refine ze_callVv h (st := []) zce_X5_warm zi_X5_warm zs_X5_warm zm_X5_98 e0_w rfl rfl (Nat.le_of_ble_eq_true rfl) zkn (c_X5_warm l hw x10 s11) rfl (Nat.le_of_ble_eq_true rfl) rfl dX5_passNight_38 (fun _ s13 => ?_)
      refine ze_iincN h (fun y9 => [some (.ref w), some (.int x9), some (.int y9)]) 1 dX5_passNight_41 rfl zk_i_1 rfl (by decide) (fun _ => rfl) (fun x14 => ?_)
      refine ze_goto h 28 dX5_passNight_44 (by decide) ?_
      exact ih x9 x14 s13
set_option maxRecDepth 20000 in
theorem c_X5_passNight (l : Launch) {w : Nat} (hw : zIsW w)  (s0 : zMem) : zC l yX5_passNight (.code yX5_passNight cX5_passNight 3 (some .int)) 5 [.ref w] zFull s0 (fun r : Int32 => some (.int r)) (f_X5_passNight w s0) := by
  refine zC_of (own := RX5) rfl rfl (Nat.le_of_ble_eq_true rfl) [some (.ref w), none, none] rfl (fun G T h hR => ?_)
  obtain ⟨e0_w, e1_w, e2_w, e3_w, e4_w, e5_w, e6_w, e7_w, e8_w, e9_w, e10_w⟩ := id hw
  unfold f_X5_passNight
  refine ze_iconst h 0 dX5_passNight_0 zk_i_0 ?_
  refine ze_istore_n h [some (.ref w), some (.int 0), none] dX5_passNight_1 rfl (by decide) rfl ?_
  refine e_X5_passNight_2 h hR hw _ ?_ zN 0 s0
  · intro s6
    refine ze_aload_n h dX5_passNight_21 rfl ?_
    refine ze_callVi h (st := []) zce_X5_endDueLoans zi_X5_endDueLoans zs_X5_endDueLoans zm_X5_94 e0_w rfl rfl (Nat.le_of_ble_eq_true rfl) zkn (c_X5_endDueLoans l hw s6) rfl (Nat.le_of_ble_eq_true rfl) rfl dX5_passNight_22 (fun r7 s8 => ?_)
    refine ze_istore_n h [some (.ref w), some (.int r7), none] dX5_passNight_25 rfl (by decide) rfl ?_
    refine ze_iconst h 0 dX5_passNight_26 zk_i_0 ?_
    refine ze_istore_n h [some (.ref w), some (.int r7), some (.int 0)] dX5_passNight_27 rfl (by decide) rfl ?_
    refine e_X5_passNight_28 h hR hw _ ?_ zN r7 0 s8
    · intro x15 s16
      refine ze_aload_n h dX5_passNight_47 rfl ?_
      refine ze_dup h dX5_passNight_48 rfl ?_
      refine ze_getI h e0_w rfl zf_X5_61 dX5_passNight_49 ?_
      refine ze_iconst h 1 dX5_passNight_52 zk_i_1 ?_
      refine ze_iadd h dX5_passNight_53 ?_
      refine ze_putI h e0_w rfl zf_X5_61 rfl rfl dX5_passNight_54 ?_
      refine ze_nmS (fun s17 => ?_)
      refine ze_iload_n h dX5_passNight_57 rfl ?_
      exact ze_iret hR dX5_passNight_58
set_option maxRecDepth 20000 in
theorem e_X5_passNights_4 {l : Launch} {G : zGT} {T : Option Value × zMem} (h : zOk G l cX5_passNights RX5 4 6 0 0 false) (hR : zR G cX5_passNights (some .int) T zFull 0 0) {w : Nat} (hw : zIsW w)  : ∀ (n : Nat) (x1 : Int32) (x2 : Int32) (x3 : Int32) (s4 : zMem), zE G T (fun r : Int32 => some (.int r)) zFull 0 0 4 [some (.ref w), some (.int x1), some (.int x2), some (.int x3)] [] s4 (f_X5_passNights_4 w n x1 x2 x3 s4) := by
  obtain ⟨e0_w, e1_w, e2_w, e3_w, e4_w, e5_w, e6_w, e7_w, e8_w, e9_w, e10_w⟩ := id hw
  intro n
  induction n with
  | zero => intro _ _ _ _; exact ze_none
  | succ n ih =>
    intro x1 x2 x3 s4
    rw [f_X5_passNights_4]
    refine ze_iload_n h dX5_passNights_4 rfl ?_
    refine ze_iload_n h dX5_passNights_5 rfl ?_
    refine ze_icmp_ge h 22 dX5_passNights_6 (by decide) ?_ ?_
    · refine ze_iload_n h dX5_passNights_22 rfl ?_
      exact ze_iret hR dX5_passNights_23
    · refine ze_iload_n h dX5_passNights_9 rfl ?_
      refine ze_aload_n h dX5_passNights_10 rfl ?_
      refine ze_callVi h (st := [.int x2]) zce_X5_passNight zi_X5_passNight zs_X5_passNight zm_X5_101 e0_w rfl rfl (Nat.le_of_ble_eq_true rfl) zkn (c_X5_passNight l hw s4) rfl (Nat.le_of_ble_eq_true rfl) rfl dX5_passNights_11 (fun r5 s6 => ?_)
      refine ze_ior h dX5_passNights_14 ?_
      refine ze_nmI (fun x7 => ?_)
      refine ze_istore_n h [some (.ref w), some (.int x1), some (.int x7), some (.int x3)] dX5_passNights_15 rfl (by decide) rfl ?_
      refine ze_iincN h (fun y9 => [some (.ref w), some (.int x1), some (.int x7), some (.int y9)]) 1 dX5_passNights_16 rfl zk_i_1 rfl (by decide) (fun _ => rfl) (fun x8 => ?_)
      refine ze_goto h 4 dX5_passNights_19 (by decide) ?_
      exact ih x1 x7 x8 s6
set_option maxRecDepth 20000 in
theorem c_X5_passNights (l : Launch) {w : Nat} (hw : zIsW w) (p1 : Int32) (s0 : zMem) : zC l yX5_passNights (.code yX5_passNights cX5_passNights 4 (some .int)) 6 [.ref w, .int p1] zFull s0 (fun r : Int32 => some (.int r)) (f_X5_passNights w p1 s0) := by
  refine zC_of (own := RX5) rfl rfl (Nat.le_of_ble_eq_true rfl) [some (.ref w), some (.int p1), none, none] rfl (fun G T h hR => ?_)
  obtain ⟨e0_w, e1_w, e2_w, e3_w, e4_w, e5_w, e6_w, e7_w, e8_w, e9_w, e10_w⟩ := id hw
  unfold f_X5_passNights
  refine ze_iconst h 0 dX5_passNights_0 zk_i_0 ?_
  refine ze_istore_n h [some (.ref w), some (.int p1), some (.int 0), none] dX5_passNights_1 rfl (by decide) rfl ?_
  refine ze_iconst h 0 dX5_passNights_2 zk_i_0 ?_
  refine ze_istore_n h [some (.ref w), some (.int p1), some (.int 0), some (.int 0)] dX5_passNights_3 rfl (by decide) rfl ?_
  exact e_X5_passNights_4 h hR hw  zN p1 0 0 s0
set_option maxRecDepth 20000 in
theorem c_X5_becomeAs (l : Launch) {w : Nat} (hw : zIsW w) {a1 : Nat} (hwa1 : zIsW a1)  (s0 : zMem) : zC l yX5_becomeAs (.code yX5_becomeAs cX5_becomeAs 2 none) 2 [.ref w, .ref a1] zFull s0 (fun _ : Unit => none) (f_X5_becomeAs w a1 s0) := by
  refine zC_of (own := RX5) rfl rfl (Nat.le_of_ble_eq_true rfl) [some (.ref w), some (.ref a1)] rfl (fun G T h hR => ?_)
  obtain ⟨e0_w, e1_w, e2_w, e3_w, e4_w, e5_w, e6_w, e7_w, e8_w, e9_w, e10_w⟩ := id hw
  obtain ⟨e0_a1, e1_a1, e2_a1, e3_a1, e4_a1, e5_a1, e6_a1, e7_a1, e8_a1, e9_a1, e10_a1⟩ := id hwa1
  unfold f_X5_becomeAs
  refine ze_aload_n h dX5_becomeAs_0 rfl ?_
  refine ze_getR h e0_a1 rfl zf_X5_9 dX5_becomeAs_1 ?_
  refine ze_iconst h 0 dX5_becomeAs_4 zk_i_0 ?_
  refine ze_aload_n h dX5_becomeAs_5 rfl ?_
  refine ze_getR h e0_w rfl zf_X5_9 dX5_becomeAs_6 ?_
  refine ze_iconst h 0 dX5_becomeAs_9 zk_i_0 ?_
  refine ze_bipush h 6 dX5_becomeAs_10 zk_b_6 ?_
  refine ze_copy h (st := []) (Nat.le_of_ble_eq_true rfl) e1_a1 e1_w zm_X5_48 zw_copy1 zw_copy2 zw_sys (Nat.le_of_ble_eq_true rfl) dX5_becomeAs_12 ?_
  refine ze_nmS (fun s1 => ?_)
  refine ze_aload_n h dX5_becomeAs_15 rfl ?_
  refine ze_getR h e0_a1 rfl zf_X5_15 dX5_becomeAs_16 ?_
  refine ze_iconst h 0 dX5_becomeAs_19 zk_i_0 ?_
  refine ze_aload_n h dX5_becomeAs_20 rfl ?_
  refine ze_getR h e0_w rfl zf_X5_15 dX5_becomeAs_21 ?_
  refine ze_pc 24 rfl ?_
  refine ze_iconst h 0 dX5_becomeAs_24 zk_i_0 ?_
  refine ze_bipush h 6 dX5_becomeAs_25 zk_b_6 ?_
  refine ze_copy h (st := []) (Nat.le_of_ble_eq_true rfl) e2_a1 e2_w zm_X5_48 zw_copy1 zw_copy2 zw_sys (Nat.le_of_ble_eq_true rfl) dX5_becomeAs_27 ?_
  refine ze_nmS (fun s2 => ?_)
  refine ze_aload_n h dX5_becomeAs_30 rfl ?_
  refine ze_getR h e0_a1 rfl zf_X5_18 dX5_becomeAs_31 ?_
  refine ze_iconst h 0 dX5_becomeAs_34 zk_i_0 ?_
  refine ze_aload_n h dX5_becomeAs_35 rfl ?_
  refine ze_getR h e0_w rfl zf_X5_18 dX5_becomeAs_36 ?_
  refine ze_iconst h 0 dX5_becomeAs_39 zk_i_0 ?_
  refine ze_bipush h 6 dX5_becomeAs_40 zk_b_6 ?_
  refine ze_copy h (st := []) (Nat.le_of_ble_eq_true rfl) e3_a1 e3_w zm_X5_48 zw_copy1 zw_copy2 zw_sys (Nat.le_of_ble_eq_true rfl) dX5_becomeAs_42 ?_
  refine ze_nmS (fun s3 => ?_)
  refine ze_aload_n h dX5_becomeAs_45 rfl ?_
  refine ze_getR h e0_a1 rfl zf_X5_21 dX5_becomeAs_46 ?_
  refine ze_iconst h 0 dX5_becomeAs_49 zk_i_0 ?_
  refine ze_pc 50 rfl ?_
  refine ze_aload_n h dX5_becomeAs_50 rfl ?_
  refine ze_getR h e0_w rfl zf_X5_21 dX5_becomeAs_51 ?_
  refine ze_iconst h 0 dX5_becomeAs_54 zk_i_0 ?_
  refine ze_bipush h 6 dX5_becomeAs_55 zk_b_6 ?_
  refine ze_copy h (st := []) (Nat.le_of_ble_eq_true rfl) e4_a1 e4_w zm_X5_48 zw_copy1 zw_copy2 zw_sys (Nat.le_of_ble_eq_true rfl) dX5_becomeAs_57 ?_
  refine ze_nmS (fun s4 => ?_)
  refine ze_aload_n h dX5_becomeAs_60 rfl ?_
  refine ze_getR h e0_a1 rfl zf_X5_24 dX5_becomeAs_61 ?_
  refine ze_iconst h 0 dX5_becomeAs_64 zk_i_0 ?_
  refine ze_aload_n h dX5_becomeAs_65 rfl ?_
  refine ze_getR h e0_w rfl zf_X5_24 dX5_becomeAs_66 ?_
  refine ze_iconst h 0 dX5_becomeAs_69 zk_i_0 ?_
  refine ze_bipush h 6 dX5_becomeAs_70 zk_b_6 ?_
  refine ze_copy h (st := []) (Nat.le_of_ble_eq_true rfl) e5_a1 e5_w zm_X5_48 zw_copy1 zw_copy2 zw_sys (Nat.le_of_ble_eq_true rfl) dX5_becomeAs_72 ?_
  refine ze_nmS (fun s5 => ?_)
  refine ze_aload_n h dX5_becomeAs_75 rfl ?_
  refine ze_pc 76 rfl ?_
  refine ze_getR h e0_a1 rfl zf_X5_27 dX5_becomeAs_76 ?_
  refine ze_iconst h 0 dX5_becomeAs_79 zk_i_0 ?_
  refine ze_aload_n h dX5_becomeAs_80 rfl ?_
  refine ze_getR h e0_w rfl zf_X5_27 dX5_becomeAs_81 ?_
  refine ze_iconst h 0 dX5_becomeAs_84 zk_i_0 ?_
  refine ze_bipush h 10 dX5_becomeAs_85 zk_b_10 ?_
  refine ze_copy h (st := []) (Nat.le_of_ble_eq_true rfl) e6_a1 e6_w zm_X5_48 zw_copy1 zw_copy2 zw_sys (Nat.le_of_ble_eq_true rfl) dX5_becomeAs_87 ?_
  refine ze_nmS (fun s6 => ?_)
  refine ze_aload_n h dX5_becomeAs_90 rfl ?_
  refine ze_getR h e0_a1 rfl zf_X5_30 dX5_becomeAs_91 ?_
  refine ze_iconst h 0 dX5_becomeAs_94 zk_i_0 ?_
  refine ze_aload_n h dX5_becomeAs_95 rfl ?_
  refine ze_getR h e0_w rfl zf_X5_30 dX5_becomeAs_96 ?_
  refine ze_iconst h 0 dX5_becomeAs_99 zk_i_0 ?_
  refine ze_bipush h 10 dX5_becomeAs_100 zk_b_10 ?_
  refine ze_pc 102 rfl ?_
  refine ze_copy h (st := []) (Nat.le_of_ble_eq_true rfl) e7_a1 e7_w zm_X5_48 zw_copy1 zw_copy2 zw_sys (Nat.le_of_ble_eq_true rfl) dX5_becomeAs_102 ?_
  refine ze_nmS (fun s7 => ?_)
  refine ze_aload_n h dX5_becomeAs_105 rfl ?_
  refine ze_getR h e0_a1 rfl zf_X5_33 dX5_becomeAs_106 ?_
  refine ze_iconst h 0 dX5_becomeAs_109 zk_i_0 ?_
  refine ze_aload_n h dX5_becomeAs_110 rfl ?_
  refine ze_getR h e0_w rfl zf_X5_33 dX5_becomeAs_111 ?_
  refine ze_iconst h 0 dX5_becomeAs_114 zk_i_0 ?_
  refine ze_bipush h 10 dX5_becomeAs_115 zk_b_10 ?_
  refine ze_copy h (st := []) (Nat.le_of_ble_eq_true rfl) e8_a1 e8_w zm_X5_48 zw_copy1 zw_copy2 zw_sys (Nat.le_of_ble_eq_true rfl) dX5_becomeAs_117 ?_
  refine ze_nmS (fun s8 => ?_)
  refine ze_aload_n h dX5_becomeAs_120 rfl ?_
  refine ze_getR h e0_a1 rfl zf_X5_36 dX5_becomeAs_121 ?_
  refine ze_iconst h 0 dX5_becomeAs_124 zk_i_0 ?_
  refine ze_aload_n h dX5_becomeAs_125 rfl ?_
  refine ze_getR h e0_w rfl zf_X5_36 dX5_becomeAs_126 ?_
  refine ze_pc 129 rfl ?_
  refine ze_iconst h 0 dX5_becomeAs_129 zk_i_0 ?_
  refine ze_bipush h 10 dX5_becomeAs_130 zk_b_10 ?_
  refine ze_copy h (st := []) (Nat.le_of_ble_eq_true rfl) e9_a1 e9_w zm_X5_48 zw_copy1 zw_copy2 zw_sys (Nat.le_of_ble_eq_true rfl) dX5_becomeAs_132 ?_
  refine ze_nmS (fun s9 => ?_)
  refine ze_aload_n h dX5_becomeAs_135 rfl ?_
  refine ze_aload_n h dX5_becomeAs_136 rfl ?_
  refine ze_getI h e0_a1 rfl zf_X5_54 dX5_becomeAs_137 ?_
  refine ze_putI h e0_w rfl zf_X5_54 rfl rfl dX5_becomeAs_140 ?_
  refine ze_nmS (fun s10 => ?_)
  refine ze_aload_n h dX5_becomeAs_143 rfl ?_
  refine ze_aload_n h dX5_becomeAs_144 rfl ?_
  refine ze_getI h e0_a1 rfl zf_X5_58 dX5_becomeAs_145 ?_
  refine ze_putI h e0_w rfl zf_X5_58 rfl rfl dX5_becomeAs_148 ?_
  refine ze_nmS (fun s11 => ?_)
  refine ze_aload_n h dX5_becomeAs_151 rfl ?_
  refine ze_aload_n h dX5_becomeAs_152 rfl ?_
  refine ze_getI h e0_a1 rfl zf_X5_61 dX5_becomeAs_153 ?_
  refine ze_pc 156 rfl ?_
  refine ze_putI h e0_w rfl zf_X5_61 rfl rfl dX5_becomeAs_156 ?_
  refine ze_nmS (fun s12 => ?_)
  refine ze_aload_n h dX5_becomeAs_159 rfl ?_
  refine ze_aload_n h dX5_becomeAs_160 rfl ?_
  refine ze_getI h e0_a1 rfl zf_X5_64 dX5_becomeAs_161 ?_
  refine ze_putI h e0_w rfl zf_X5_64 rfl rfl dX5_becomeAs_164 ?_
  refine ze_nmS (fun s13 => ?_)
  exact ze_vret hR dX5_becomeAs_167
set_option maxRecDepth 20000 in
theorem e_X5_sourceOf_15 {l : Launch} {G : zGT} {T : Option Value × zMem} (h : zOk G l cX5_sourceOf RX5 5 2 0 0 false) (hR : zR G cX5_sourceOf (some .int) T zFull 0 0) {w : Nat} (hw : zIsW w) (c67 : Int32 → Int32 → Int32 → zMem → Option (Int32 × zMem)) (hc67 : ∀ (y1 : Int32) (y2 : Int32) (y3 : Int32) (s9 : zMem), zE G T (fun r : Int32 => some (.int r)) zFull 0 0 67 [some (.ref w), some (.int y1), some (.int y2), some (.int y3), none] [] s9 (c67 y1 y2 y3 s9)) : ∀ (n : Nat) (x5 : Int32) (x6 : Int32) (x7 : Int32) (x8 : Int32) (s9 : zMem), zE G T (fun r : Int32 => some (.int r)) zFull 0 0 15 [some (.ref w), some (.int x5), some (.int x6), some (.int x7), some (.int x8)] [] s9 (f_X5_sourceOf_15 w c67 n x5 x6 x7 x8 s9) := by
  obtain ⟨e0_w, e1_w, e2_w, e3_w, e4_w, e5_w, e6_w, e7_w, e8_w, e9_w, e10_w⟩ := id hw
  intro n
  induction n with
  | zero => intro _ _ _ _ _; exact ze_none
  | succ n ih =>
    intro x5 x6 x7 x8 s9
    rw [f_X5_sourceOf_15]
    refine ze_iload h dX5_sourceOf_15 rfl ?_
    refine ze_aload_n h dX5_sourceOf_17 rfl ?_
    refine ze_getI h e0_w rfl zf_X5_58 dX5_sourceOf_18 ?_
    refine ze_icmp_ge h 67 dX5_sourceOf_21 (by decide) ?_ ?_
    · refine zE_weak h [true, true, true, true, false] rfl ?_
      exact hc67 x5 x6 x7 s9
    · refine ze_aload_n h dX5_sourceOf_24 rfl ?_
      refine ze_getR h e0_w rfl zf_X5_30 dX5_sourceOf_25 ?_
      refine ze_iload h dX5_sourceOf_28 rfl ?_
      refine ze_ialdG h e7_w dX5_sourceOf_30 ?_
      refine ze_iload_n h dX5_sourceOf_31 rfl ?_
      refine ze_icmp_eq h 49 dX5_sourceOf_32 (by decide) ?_ ?_
      · refine ze_iload_n h dX5_sourceOf_49 rfl ?_
        refine ze_iconst h 1 dX5_sourceOf_50 zk_i_1 ?_
        refine ze_aload_n h dX5_sourceOf_51 rfl ?_
        refine ze_getR h e0_w rfl zf_X5_27 dX5_sourceOf_52 ?_
        refine ze_iload h dX5_sourceOf_55 rfl ?_
        refine ze_ialdG h e6_w dX5_sourceOf_57 ?_
        refine ze_ishl h dX5_sourceOf_58 ?_
        refine ze_ior h dX5_sourceOf_59 ?_
        refine ze_nmI (fun x10 => ?_)
        refine ze_istore_n h [some (.ref w), some (.int x5), some (.int x10), some (.int x7), some (.int x8)] dX5_sourceOf_60 rfl (by decide) rfl ?_
        refine ze_iincN h (fun y9 => [some (.ref w), some (.int x5), some (.int x10), some (.int x7), some (.int y9)]) 1 dX5_sourceOf_61 rfl zk_i_1 rfl (by decide) (fun _ => rfl) (fun x11 => ?_)
        refine ze_goto h 15 dX5_sourceOf_64 (by decide) ?_
        exact ih x5 x10 x7 x11 s9
      · refine ze_iload_n h dX5_sourceOf_35 rfl ?_
        refine ze_aload_n h dX5_sourceOf_36 rfl ?_
        refine ze_getR h e0_w rfl zf_X5_30 dX5_sourceOf_37 ?_
        refine ze_iload h dX5_sourceOf_40 rfl ?_
        refine ze_ialdG h e7_w dX5_sourceOf_42 ?_
        refine ze_callSNi h (st := []) zce_X6_has zt_X6_has zn_X5_76 (Nat.le_of_ble_eq_true rfl) zkn (c_X6_has l zFull x6 (s9 (w + 7) (zix x8)) s9) rfl (Nat.le_of_ble_eq_true rfl) rfl dX5_sourceOf_43 (fun r12 s13 => ?_)
        refine ze_if_eq h 61 dX5_sourceOf_46 (by decide) ?_ ?_
        · refine ze_iincN h (fun y9 => [some (.ref w), some (.int x5), some (.int x6), some (.int x7), some (.int y9)]) 1 dX5_sourceOf_61 rfl zk_i_1 rfl (by decide) (fun _ => rfl) (fun x14 => ?_)
          refine ze_goto h 15 dX5_sourceOf_64 (by decide) ?_
          exact ih x5 x6 x7 x14 s13
        · refine ze_iload_n h dX5_sourceOf_49 rfl ?_
          refine ze_iconst h 1 dX5_sourceOf_50 zk_i_1 ?_
          refine ze_aload_n h dX5_sourceOf_51 rfl ?_
          refine ze_getR h e0_w rfl zf_X5_27 dX5_sourceOf_52 ?_
          refine ze_iload h dX5_sourceOf_55 rfl ?_
          refine ze_ialdG h e6_w dX5_sourceOf_57 ?_
          refine ze_ishl h dX5_sourceOf_58 ?_
          refine ze_ior h dX5_sourceOf_59 ?_
          refine ze_nmI (fun x15 => ?_)
          refine ze_istore_n h [some (.ref w), some (.int x5), some (.int x15), some (.int x7), some (.int x8)] dX5_sourceOf_60 rfl (by decide) rfl ?_
          refine ze_iincN h (fun y9 => [some (.ref w), some (.int x5), some (.int x15), some (.int x7), some (.int y9)]) 1 dX5_sourceOf_61 rfl zk_i_1 rfl (by decide) (fun _ => rfl) (fun x16 => ?_)
          refine ze_goto h 15 dX5_sourceOf_64 (by decide) ?_
          exact ih x5 x15 x7 x16 s13
set_option maxRecDepth 20000 in
theorem e_X5_sourceOf_4 {l : Launch} {G : zGT} {T : Option Value × zMem} (h : zOk G l cX5_sourceOf RX5 5 2 0 0 false) (hR : zR G cX5_sourceOf (some .int) T zFull 0 0) {w : Nat} (hw : zIsW w)  : ∀ (n : Nat) (x1 : Int32) (x2 : Int32) (x3 : Int32) (s4 : zMem), zE G T (fun r : Int32 => some (.int r)) zFull 0 0 4 [some (.ref w), some (.int x1), some (.int x2), some (.int x3), none] [] s4 (f_X5_sourceOf_4 w n x1 x2 x3 s4) := by
  obtain ⟨e0_w, e1_w, e2_w, e3_w, e4_w, e5_w, e6_w, e7_w, e8_w, e9_w, e10_w⟩ := id hw
  intro n
  induction n with
  | zero => intro _ _ _ _; exact ze_none
  | succ n ih =>
    intro x1 x2 x3 s4
    rw [f_X5_sourceOf_4]
    refine ze_iload_n h dX5_sourceOf_4 rfl ?_
    refine ze_aload_n h dX5_sourceOf_5 rfl ?_
    refine ze_getI h e0_w rfl zf_X5_54 dX5_sourceOf_6 ?_
    refine ze_icmp_ge h 73 dX5_sourceOf_9 (by decide) ?_ ?_
    · refine ze_iload_n h dX5_sourceOf_73 rfl ?_
      exact ze_iret hR dX5_sourceOf_74
    · refine ze_iconst h 0 dX5_sourceOf_12 zk_i_0 ?_
      refine ze_istore h [some (.ref w), some (.int x1), some (.int x2), some (.int x3), some (.int 0)] dX5_sourceOf_13 rfl (by decide) rfl ?_
      refine e_X5_sourceOf_15 h hR hw _ ?_ zN x1 x2 x3 0 s4
      · intro x17 x18 x19 s20
        refine ze_iincN h (fun y9 => [some (.ref w), some (.int x17), some (.int x18), some (.int y9), none]) 1 dX5_sourceOf_67 rfl zk_i_1 rfl (by decide) (fun _ => rfl) (fun x21 => ?_)
        refine ze_goto h 4 dX5_sourceOf_70 (by decide) ?_
        exact ih x17 x18 x21 s20
set_option maxRecDepth 20000 in
theorem c_X5_sourceOf (l : Launch) {w : Nat} (hw : zIsW w) (p1 : Int32) (s0 : zMem) : zC l yX5_sourceOf (.code yX5_sourceOf cX5_sourceOf 5 (some .int)) 2 [.ref w, .int p1] zFull s0 (fun r : Int32 => some (.int r)) (f_X5_sourceOf w p1 s0) := by
  refine zC_of (own := RX5) rfl rfl (Nat.le_of_ble_eq_true rfl) [some (.ref w), some (.int p1), none, none, none] rfl (fun G T h hR => ?_)
  obtain ⟨e0_w, e1_w, e2_w, e3_w, e4_w, e5_w, e6_w, e7_w, e8_w, e9_w, e10_w⟩ := id hw
  unfold f_X5_sourceOf
  refine ze_iconst h 0 dX5_sourceOf_0 zk_i_0 ?_
  refine ze_istore_n h [some (.ref w), some (.int p1), some (.int 0), none, none] dX5_sourceOf_1 rfl (by decide) rfl ?_
  refine ze_iconst h 0 dX5_sourceOf_2 zk_i_0 ?_
  refine ze_istore_n h [some (.ref w), some (.int p1), some (.int 0), some (.int 0), none] dX5_sourceOf_3 rfl (by decide) rfl ?_
  exact e_X5_sourceOf_4 h hR hw  zN p1 0 0 s0
set_option maxRecDepth 20000 in
theorem e_X5_failedIn_4 {l : Launch} {G : zGT} {T : Option Value × zMem} (h : zOk G l cX5_failedIn RX5 4 6 0 0 false) (hR : zR G cX5_failedIn (some .int) T zFull 0 0) {w : Nat} (hw : zIsW w)  : ∀ (n : Nat) (x1 : Int32) (x2 : Int32) (x3 : Int32) (s4 : zMem), zE G T (fun r : Int32 => some (.int r)) zFull 0 0 4 [some (.ref w), some (.int x1), some (.int x2), some (.int x3)] [] s4 (f_X5_failedIn_4 w n x1 x2 x3 s4) := by
  obtain ⟨e0_w, e1_w, e2_w, e3_w, e4_w, e5_w, e6_w, e7_w, e8_w, e9_w, e10_w⟩ := id hw
  intro n
  induction n with
  | zero => intro _ _ _ _; exact ze_none
  | succ n ih =>
    intro x1 x2 x3 s4
    rw [f_X5_failedIn_4]
    refine ze_iload_n h dX5_failedIn_4 rfl ?_
    refine ze_iload_n h dX5_failedIn_5 rfl ?_
    refine ze_icmp_ge h 29 dX5_failedIn_6 (by decide) ?_ ?_
    · refine ze_iload_n h dX5_failedIn_29 rfl ?_
      exact ze_iret hR dX5_failedIn_30
    · refine ze_aload_n h dX5_failedIn_9 rfl ?_
      refine ze_getI h e0_w rfl zf_X5_58 dX5_failedIn_10 ?_
      refine ze_if_le h 29 dX5_failedIn_13 (by decide) ?_ ?_
      · refine ze_iload_n h dX5_failedIn_29 rfl ?_
        exact ze_iret hR dX5_failedIn_30
      · refine ze_iload_n h dX5_failedIn_16 rfl ?_
        refine ze_aload_n h dX5_failedIn_17 rfl ?_
        refine ze_callVi h (st := [.int x2]) zce_X5_passNight zi_X5_passNight zs_X5_passNight zm_X5_101 e0_w rfl rfl (Nat.le_of_ble_eq_true rfl) zkn (c_X5_passNight l hw s4) rfl (Nat.le_of_ble_eq_true rfl) rfl dX5_failedIn_18 (fun r5 s6 => ?_)
        refine ze_ior h dX5_failedIn_21 ?_
        refine ze_nmI (fun x7 => ?_)
        refine ze_istore_n h [some (.ref w), some (.int x1), some (.int x7), some (.int x3)] dX5_failedIn_22 rfl (by decide) rfl ?_
        refine ze_iincN h (fun y9 => [some (.ref w), some (.int x1), some (.int x7), some (.int y9)]) 1 dX5_failedIn_23 rfl zk_i_1 rfl (by decide) (fun _ => rfl) (fun x8 => ?_)
        refine ze_goto h 4 dX5_failedIn_26 (by decide) ?_
        exact ih x1 x7 x8 s6
set_option maxRecDepth 20000 in
theorem c_X5_failedIn (l : Launch) {w : Nat} (hw : zIsW w) (p1 : Int32) (s0 : zMem) : zC l yX5_failedIn (.code yX5_failedIn cX5_failedIn 4 (some .int)) 6 [.ref w, .int p1] zFull s0 (fun r : Int32 => some (.int r)) (f_X5_failedIn w p1 s0) := by
  refine zC_of (own := RX5) rfl rfl (Nat.le_of_ble_eq_true rfl) [some (.ref w), some (.int p1), none, none] rfl (fun G T h hR => ?_)
  obtain ⟨e0_w, e1_w, e2_w, e3_w, e4_w, e5_w, e6_w, e7_w, e8_w, e9_w, e10_w⟩ := id hw
  unfold f_X5_failedIn
  refine ze_iconst h 0 dX5_failedIn_0 zk_i_0 ?_
  refine ze_istore_n h [some (.ref w), some (.int p1), some (.int 0), none] dX5_failedIn_1 rfl (by decide) rfl ?_
  refine ze_iconst h 0 dX5_failedIn_2 zk_i_0 ?_
  refine ze_istore_n h [some (.ref w), some (.int p1), some (.int 0), some (.int 0)] dX5_failedIn_3 rfl (by decide) rfl ?_
  exact e_X5_failedIn_4 h hR hw  zN p1 0 0 s0
set_option maxRecDepth 20000 in
theorem e_X5_passSnow_20 {l : Launch} {G : zGT} {T : Option Value × zMem} (h : zOk G l cX5_passSnow RX5 8 6 0 0 false) (hR : zR G cX5_passSnow (some .int) T zFull 0 0) {w : Nat} (hw : zIsW w)  : ∀ (n : Nat) (x2 : Int32) (x3 : Int32) (x4 : Int64) (x5 : Int32) (s6 : zMem), zE G T (fun r : Int32 => some (.int r)) zFull 0 0 20 [some (.ref w), none, some (.int x2), some (.int x3), some (.long x4), none, some (.int x5), none] [] s6 (f_X5_passSnow_20 w n x2 x3 x4 x5 s6) := by
  obtain ⟨e0_w, e1_w, e2_w, e3_w, e4_w, e5_w, e6_w, e7_w, e8_w, e9_w, e10_w⟩ := id hw
  intro n
  induction n with
  | zero => intro _ _ _ _ _; exact ze_none
  | succ n ih =>
    intro x2 x3 x4 x5 s6
    rw [f_X5_passSnow_20]
    refine ze_iload h dX5_passSnow_20 rfl ?_
    refine ze_iconst h 5 dX5_passSnow_22 zk_i_5 ?_
    refine ze_icmp_ge h 82 dX5_passSnow_23 (by decide) ?_ ?_
    · refine ze_iload_n h dX5_passSnow_82 rfl ?_
      exact ze_iret hR dX5_passSnow_83
    · refine ze_lload h dX5_passSnow_26 rfl ?_
      refine ze_ldc2 h zq_X5_104 dX5_passSnow_28 ?_
      refine ze_lmul h dX5_passSnow_31 ?_
      refine ze_ldc2 h zq_X5_106 dX5_passSnow_32 ?_
      refine ze_lrem h dX5_passSnow_35 (by decide) ?_
      refine ze_nmL (fun x7 => ?_)
      refine ze_lstore h [some (.ref w), none, some (.int x2), some (.int x3), some (.long x7), none, some (.int x5), none] dX5_passSnow_36 rfl (by decide) rfl ?_
      refine ze_lload h dX5_passSnow_38 rfl ?_
      refine ze_aload_n h dX5_passSnow_40 rfl ?_
      refine ze_getI h e0_w rfl zf_X5_54 dX5_passSnow_41 ?_
      refine ze_i2l h dX5_passSnow_44 ?_
      refine ze_lremG h dX5_passSnow_45 ?_
      refine ze_l2i h dX5_passSnow_46 ?_
      refine ze_nmI (fun x8 => ?_)
      refine ze_istore h [some (.ref w), none, some (.int x2), some (.int x3), some (.long x7), none, some (.int x5), some (.int x8)] dX5_passSnow_47 rfl (by decide) rfl ?_
      refine ze_pc 49 rfl ?_
      refine ze_aload_n h dX5_passSnow_49 rfl ?_
      refine ze_getR h e0_w rfl zf_X5_9 dX5_passSnow_50 ?_
      refine ze_iload h dX5_passSnow_53 rfl ?_
      refine ze_iconst h 0 dX5_passSnow_55 zk_i_0 ?_
      refine ze_aload_n h dX5_passSnow_56 rfl ?_
      refine ze_getR h e0_w rfl zf_X5_9 dX5_passSnow_57 ?_
      refine ze_iload h dX5_passSnow_60 rfl ?_
      refine ze_ialdG h e1_w dX5_passSnow_62 ?_
      refine ze_iload_n h dX5_passSnow_63 rfl ?_
      refine ze_isub h dX5_passSnow_64 ?_
      refine ze_mmax h (st := [.int x8, .ref (w + 1)]) (Nat.le_of_ble_eq_true rfl) zkn zm_X5_108 zw_max1 zw_math zw_max2 (Nat.le_of_ble_eq_true rfl) dX5_passSnow_65 ?_
      refine ze_iastG h e1_w dX5_passSnow_68 ?_
      refine ze_nmS (fun s9 => ?_)
      refine ze_iload_n h dX5_passSnow_69 rfl ?_
      refine ze_aload_n h dX5_passSnow_70 rfl ?_
      refine ze_pc 71 rfl ?_
      refine ze_callVi h (st := [.int x3]) zce_X5_passNight zi_X5_passNight zs_X5_passNight zm_X5_101 e0_w rfl rfl (Nat.le_of_ble_eq_true rfl) zkn (c_X5_passNight l hw s9) rfl (Nat.le_of_ble_eq_true rfl) rfl dX5_passSnow_71 (fun r10 s11 => ?_)
      refine ze_ior h dX5_passSnow_74 ?_
      refine ze_nmI (fun x12 => ?_)
      refine ze_istore_n h [some (.ref w), none, some (.int x2), some (.int x12), some (.long x7), none, some (.int x5), some (.int x8)] dX5_passSnow_75 rfl (by decide) rfl ?_
      refine ze_iincN h (fun y9 => [some (.ref w), none, some (.int x2), some (.int x12), some (.long x7), none, some (.int y9), some (.int x8)]) 1 dX5_passSnow_76 rfl zk_i_1 rfl (by decide) (fun _ => rfl) (fun x13 => ?_)
      refine ze_goto h 20 dX5_passSnow_79 (by decide) ?_
      refine zE_weak h [true, false, true, true, true, false, true, false] rfl ?_
      exact ih x2 x12 x7 x13 s11
set_option maxRecDepth 20000 in
theorem c_X5_passSnow (l : Launch) {w : Nat} (hw : zIsW w) (p1 : Int32) (p2 : Int32) (s0 : zMem) : zC l yX5_passSnow (.code yX5_passSnow cX5_passSnow 8 (some .int)) 6 [.ref w, .int p1, .int p2] zFull s0 (fun r : Int32 => some (.int r)) (f_X5_passSnow w p1 p2 s0) := by
  refine zC_of (own := RX5) rfl rfl (Nat.le_of_ble_eq_true rfl) [some (.ref w), some (.int p1), some (.int p2), none, none, none, none, none] rfl (fun G T h hR => ?_)
  obtain ⟨e0_w, e1_w, e2_w, e3_w, e4_w, e5_w, e6_w, e7_w, e8_w, e9_w, e10_w⟩ := id hw
  unfold f_X5_passSnow
  refine ze_aload_n h dX5_passSnow_0 rfl ?_
  refine ze_getI h e0_w rfl zf_X5_54 dX5_passSnow_1 ?_
  refine ze_if_gt h 9 dX5_passSnow_4 (by decide) ?_ ?_
  · refine ze_iconst h 0 dX5_passSnow_9 zk_i_0 ?_
    refine ze_istore_n h [some (.ref w), some (.int p1), some (.int p2), some (.int 0), none, none, none, none] dX5_passSnow_10 rfl (by decide) rfl ?_
    refine ze_iload_n h dX5_passSnow_11 rfl ?_
    refine ze_i2l h dX5_passSnow_12 ?_
    refine ze_lconst h 1 dX5_passSnow_13 zk_l_1 ?_
    refine ze_ladd h dX5_passSnow_14 ?_
    refine ze_nmL (fun x1 => ?_)
    refine ze_lstore h [some (.ref w), some (.int p1), some (.int p2), some (.int 0), some (.long x1), none, none, none] dX5_passSnow_15 rfl (by decide) rfl ?_
    refine ze_iconst h 0 dX5_passSnow_17 zk_i_0 ?_
    refine ze_istore h [some (.ref w), some (.int p1), some (.int p2), some (.int 0), some (.long x1), none, some (.int 0), none] dX5_passSnow_18 rfl (by decide) rfl ?_
    refine zE_weak h [true, false, true, true, true, false, true, false] rfl ?_
    exact e_X5_passSnow_20 h hR hw  zN p2 0 x1 0 s0
  · refine ze_iconst h 0 dX5_passSnow_7 zk_i_0 ?_
    exact ze_iret hR dX5_passSnow_8
