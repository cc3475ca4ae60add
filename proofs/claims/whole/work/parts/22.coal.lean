set_option maxRecDepth 20000 in
theorem c_X6_count (l : Launch)  (p1 : Int32) (s0 : zMem) : zC l yX6_count (.code yX6_count cX6_count 2 (some .int)) 2 [.ref 0, .int p1] zFull s0 (fun r : Int32 => some (.int r)) (f_X6_count p1 s0) := by
  refine zC_of (own := RX6) rfl rfl (Nat.le_of_ble_eq_true rfl) [some (.ref 0), some (.int p1)] rfl (fun G T h hR => ?_)
  unfold f_X6_count
  refine ze_iload_n h dX6_count_0 rfl ?_
  refine ze_case 0 (fun q1_0 => ?_) (fun q1_0 => ?_)
  · refine ze_tabIn h 44 dX6_count_1 (by decide) (by decide) rfl (by decide) ?_
    refine ze_aload_n h dX6_count_44 rfl ?_
    refine ze_getR h zl_0 rfl zf_X6_54 dX6_count_45 ?_
    refine ze_getI h zl_9 rfl zf_X6_79 dX6_count_48 ?_
    exact ze_iret hR dX6_count_51
  refine ze_case 1 (fun q1_1 => ?_) (fun q1_1 => ?_)
  · refine ze_tabIn h 52 dX6_count_1 (by decide) (by decide) rfl (by decide) ?_
    refine ze_aload_n h dX6_count_52 rfl ?_
    refine ze_getR h zl_0 rfl zf_X6_54 dX6_count_53 ?_
    refine ze_getI h zl_9 rfl zf_X6_83 dX6_count_56 ?_
    exact ze_iret hR dX6_count_59
  refine ze_case 2 (fun q1_2 => ?_) (fun q1_2 => ?_)
  · refine ze_tabIn h 60 dX6_count_1 (by decide) (by decide) rfl (by decide) ?_
    refine ze_aload_n h dX6_count_60 rfl ?_
    refine ze_getR h zl_0 rfl zf_X6_54 dX6_count_61 ?_
    refine ze_getI h zl_9 rfl zf_X6_86 dX6_count_64 ?_
    exact ze_iret hR dX6_count_67
  refine ze_case 3 (fun q1_3 => ?_) (fun q1_3 => ?_)
  · refine ze_tabIn h 68 dX6_count_1 (by decide) (by decide) rfl (by decide) ?_
    refine ze_aload_n h dX6_count_68 rfl ?_
    refine ze_getR h zl_0 rfl zf_X6_54 dX6_count_69 ?_
    refine ze_callVi h (st := []) zce_X5_heatOfAll zi_X5_heatOfAll zs_X5_heatOfAll zm_X6_89 zl_9 rfl rfl (Nat.le_of_ble_eq_true rfl) zkn (c_X5_heatOfAll l zIsW_9 s0) rfl (Nat.le_of_ble_eq_true rfl) rfl dX6_count_72 (fun r1 s2 => ?_)
    exact ze_iret hR dX6_count_75
  refine ze_case 4 (fun q1_4 => ?_) (fun q1_4 => ?_)
  · refine ze_tabIn h 76 dX6_count_1 (by decide) (by decide) rfl (by decide) ?_
    refine ze_aload_n h dX6_count_76 rfl ?_
    refine ze_getR h zl_0 rfl zf_X6_10 dX6_count_77 ?_
    refine ze_getI h zl_1 rfl zf_X6_92 dX6_count_80 ?_
    exact ze_iret hR dX6_count_83
  refine ze_case 5 (fun q1_5 => ?_) (fun q1_5 => ?_)
  · refine ze_tabIn h 84 dX6_count_1 (by decide) (by decide) rfl (by decide) ?_
    refine ze_aload_n h dX6_count_84 rfl ?_
    refine ze_getR h zl_0 rfl zf_X6_54 dX6_count_85 ?_
    refine ze_getI h zl_9 rfl zf_X6_95 dX6_count_88 ?_
    exact ze_iret hR dX6_count_91
  refine ze_case 6 (fun q1_6 => ?_) (fun q1_6 => ?_)
  · refine ze_tabIn h 92 dX6_count_1 (by decide) (by decide) rfl (by decide) ?_
    refine ze_aload_n h dX6_count_92 rfl ?_
    refine ze_getR h zl_0 rfl zf_X6_19 dX6_count_93 ?_
    refine ze_getI h zl_5 rfl zf_X6_98 dX6_count_96 ?_
    exact ze_iret hR dX6_count_99
  refine ze_tabOut h 100 dX6_count_1 (by have z0 := lv_neT q1_0 (a := 0) rfl; have z1 := lv_neT q1_1 (a := 1) rfl; have z2 := lv_neT q1_2 (a := 2) rfl; have z3 := lv_neT q1_3 (a := 3) rfl; have z4 := lv_neT q1_4 (a := 4) rfl; have z5 := lv_neT q1_5 (a := 5) rfl; have z6 := lv_neT q1_6 (a := 6) rfl; omega) (by decide) ?_
  refine ze_bipush h (-2) dX6_count_100 zk_b_m2 ?_
  exact ze_iret hR dX6_count_102
set_option maxRecDepth 20000 in
theorem e_X6_feed_103 {l : Launch} {G : zGT} {T : Option Value × zMem} (h : zOk G l cX6_feed RX6 7 3 0 0 false) (hR : zR G cX6_feed (some .int) T zFull 0 0)   : ∀ (x20 : Int32) (x21 : Int32) (x22 : Int32) (s23 : zMem), zE G T (fun r : Int32 => some (.int r)) zFull 0 0 103 [some (.ref 0), some (.int x20), none, none, none, some (.int x21), some (.int x22)] [] s23 (f_X6_feed_103  x20 x21 x22 s23) := by
  intro x20 x21 x22 s23
  unfold f_X6_feed_103
  refine ze_iload_n h dX6_feed_103 rfl ?_
  refine ze_iconst h 3 dX6_feed_104 zk_i_3 ?_
  refine ze_icmp_le h 117 dX6_feed_105 (by decide) ?_ ?_
  · refine ze_iload_n h dX6_feed_117 rfl ?_
    refine ze_iconst h 4 dX6_feed_118 zk_i_4 ?_
    refine ze_icmp_le h 131 dX6_feed_119 (by decide) ?_ ?_
    · refine ze_aload_n h dX6_feed_131 rfl ?_
      refine ze_getR h zl_0 rfl zf_X6_19 dX6_feed_132 ?_
      refine ze_getI h zl_5 rfl zf_X6_98 dX6_feed_135 ?_
      exact ze_iret hR dX6_feed_138
    · refine ze_aload_n h dX6_feed_122 rfl ?_
      refine ze_getR h zl_0 rfl zf_X6_19 dX6_feed_123 ?_
      refine ze_iload h dX6_feed_126 rfl ?_
      refine ze_callVv h (st := []) zce_X2_takeByte zi_X2_takeByte zs_X2_takeByte zm_X6_35 zl_5 rfl rfl (Nat.le_of_ble_eq_true rfl) zkn (c_X2_takeByte l zFull zHasT_full x22 s23) rfl (Nat.le_of_ble_eq_true rfl) rfl dX6_feed_128 (fun _ s25 => ?_)
      refine ze_aload_n h dX6_feed_131 rfl ?_
      refine ze_getR h zl_0 rfl zf_X6_19 dX6_feed_132 ?_
      refine ze_getI h zl_5 rfl zf_X6_98 dX6_feed_135 ?_
      exact ze_iret hR dX6_feed_138
  · refine ze_aload_n h dX6_feed_108 rfl ?_
    refine ze_getR h zl_0 rfl zf_X6_19 dX6_feed_109 ?_
    refine ze_iload h dX6_feed_112 rfl ?_
    refine ze_callVv h (st := []) zce_X2_takeByte zi_X2_takeByte zs_X2_takeByte zm_X6_35 zl_5 rfl rfl (Nat.le_of_ble_eq_true rfl) zkn (c_X2_takeByte l zFull zHasT_full x21 s23) rfl (Nat.le_of_ble_eq_true rfl) rfl dX6_feed_114 (fun _ s27 => ?_)
    refine ze_iload_n h dX6_feed_117 rfl ?_
    refine ze_iconst h 4 dX6_feed_118 zk_i_4 ?_
    refine ze_icmp_le h 131 dX6_feed_119 (by decide) ?_ ?_
    · refine ze_aload_n h dX6_feed_131 rfl ?_
      refine ze_getR h zl_0 rfl zf_X6_19 dX6_feed_132 ?_
      refine ze_getI h zl_5 rfl zf_X6_98 dX6_feed_135 ?_
      exact ze_iret hR dX6_feed_138
    · refine ze_aload_n h dX6_feed_122 rfl ?_
      refine ze_getR h zl_0 rfl zf_X6_19 dX6_feed_123 ?_
      refine ze_iload h dX6_feed_126 rfl ?_
      refine ze_callVv h (st := []) zce_X2_takeByte zi_X2_takeByte zs_X2_takeByte zm_X6_35 zl_5 rfl rfl (Nat.le_of_ble_eq_true rfl) zkn (c_X2_takeByte l zFull zHasT_full x22 s27) rfl (Nat.le_of_ble_eq_true rfl) rfl dX6_feed_128 (fun _ s29 => ?_)
      refine ze_aload_n h dX6_feed_131 rfl ?_
      refine ze_getR h zl_0 rfl zf_X6_19 dX6_feed_132 ?_
      refine ze_getI h zl_5 rfl zf_X6_98 dX6_feed_135 ?_
      exact ze_iret hR dX6_feed_138
set_option maxRecDepth 20000 in
theorem e_X6_feed_89 {l : Launch} {G : zGT} {T : Option Value × zMem} (h : zOk G l cX6_feed RX6 7 3 0 0 false) (hR : zR G cX6_feed (some .int) T zFull 0 0)   : ∀ (x15 : Int32) (x16 : Int32) (x17 : Int32) (x18 : Int32) (s19 : zMem), zE G T (fun r : Int32 => some (.int r)) zFull 0 0 89 [some (.ref 0), some (.int x15), none, none, some (.int x16), some (.int x17), some (.int x18)] [] s19 (f_X6_feed_89  x15 x16 x17 x18 s19) := by
  intro x15 x16 x17 x18 s19
  unfold f_X6_feed_89
  refine ze_iload_n h dX6_feed_89 rfl ?_
  refine ze_iconst h 2 dX6_feed_90 zk_i_2 ?_
  refine ze_icmp_le h 103 dX6_feed_91 (by decide) ?_ ?_
  · refine zE_weak h [true, true, false, false, false, true, true] rfl ?_
    exact e_X6_feed_103 h hR  x15 x17 x18 s19
  · refine ze_aload_n h dX6_feed_94 rfl ?_
    refine ze_getR h zl_0 rfl zf_X6_19 dX6_feed_95 ?_
    refine ze_iload h dX6_feed_98 rfl ?_
    refine ze_callVv h (st := []) zce_X2_takeByte zi_X2_takeByte zs_X2_takeByte zm_X6_35 zl_5 rfl rfl (Nat.le_of_ble_eq_true rfl) zkn (c_X2_takeByte l zFull zHasT_full x16 s19) rfl (Nat.le_of_ble_eq_true rfl) rfl dX6_feed_100 (fun _ s31 => ?_)
    refine zE_weak h [true, true, false, false, false, true, true] rfl ?_
    exact e_X6_feed_103 h hR  x15 x17 x18 s31
set_option maxRecDepth 20000 in
theorem c_X6_feed (l : Launch)  (p1 : Int32) (p2 : Int32) (p3 : Int32) (p4 : Int32) (p5 : Int32) (p6 : Int32) (s0 : zMem) : zC l yX6_feed (.code yX6_feed cX6_feed 7 (some .int)) 3 [.ref 0, .int p1, .int p2, .int p3, .int p4, .int p5, .int p6] zFull s0 (fun r : Int32 => some (.int r)) (f_X6_feed p1 p2 p3 p4 p5 p6 s0) := by
  refine zC_of (own := RX6) rfl rfl (Nat.le_of_ble_eq_true rfl) [some (.ref 0), some (.int p1), some (.int p2), some (.int p3), some (.int p4), some (.int p5), some (.int p6)] rfl (fun G T h hR => ?_)
  unfold f_X6_feed
  refine ze_iload_n h dX6_feed_0 rfl ?_
  refine ze_iconst h 1 dX6_feed_1 zk_i_1 ?_
  refine ze_iconst h 5 dX6_feed_2 zk_i_5 ?_
  refine ze_callSi h (st := []) zce_X6_isFromTo zt_X6_isFromTo zm_X6_101 (Nat.le_of_ble_eq_true rfl) zkn (c_X6_isFromTo l zFull p1 1 5 s0) rfl (Nat.le_of_ble_eq_true rfl) rfl dX6_feed_3 (fun r1 s2 => ?_)
  refine ze_if_eq h 47 dX6_feed_6 (by decide) ?_ ?_
  · refine ze_bipush h (-2) dX6_feed_47 zk_b_m2 ?_
    exact ze_iret hR dX6_feed_49
  · refine ze_iload_n h dX6_feed_9 rfl ?_
    refine ze_callSi h (st := []) zce_X6_isByte zt_X6_isByte zm_X6_105 (Nat.le_of_ble_eq_true rfl) zkn (c_X6_isByte l zFull p2 s2) rfl (Nat.le_of_ble_eq_true rfl) rfl dX6_feed_10 (fun r3 s4 => ?_)
    refine ze_if_eq h 47 dX6_feed_13 (by decide) ?_ ?_
    · refine ze_bipush h (-2) dX6_feed_47 zk_b_m2 ?_
      exact ze_iret hR dX6_feed_49
    · refine ze_iload_n h dX6_feed_16 rfl ?_
      refine ze_callSi h (st := []) zce_X6_isByte zt_X6_isByte zm_X6_105 (Nat.le_of_ble_eq_true rfl) zkn (c_X6_isByte l zFull p3 s4) rfl (Nat.le_of_ble_eq_true rfl) rfl dX6_feed_17 (fun r5 s6 => ?_)
      refine ze_if_eq h 47 dX6_feed_20 (by decide) ?_ ?_
      · refine ze_bipush h (-2) dX6_feed_47 zk_b_m2 ?_
        exact ze_iret hR dX6_feed_49
      · refine ze_iload h dX6_feed_23 rfl ?_
        refine ze_callSi h (st := []) zce_X6_isByte zt_X6_isByte zm_X6_105 (Nat.le_of_ble_eq_true rfl) zkn (c_X6_isByte l zFull p4 s6) rfl (Nat.le_of_ble_eq_true rfl) rfl dX6_feed_25 (fun r7 s8 => ?_)
        refine ze_if_eq h 47 dX6_feed_28 (by decide) ?_ ?_
        · refine ze_bipush h (-2) dX6_feed_47 zk_b_m2 ?_
          exact ze_iret hR dX6_feed_49
        · refine ze_iload h dX6_feed_31 rfl ?_
          refine ze_callSi h (st := []) zce_X6_isByte zt_X6_isByte zm_X6_105 (Nat.le_of_ble_eq_true rfl) zkn (c_X6_isByte l zFull p5 s8) rfl (Nat.le_of_ble_eq_true rfl) rfl dX6_feed_33 (fun r9 s10 => ?_)
          refine ze_if_eq h 47 dX6_feed_36 (by decide) ?_ ?_
          · refine ze_bipush h (-2) dX6_feed_47 zk_b_m2 ?_
            exact ze_iret hR dX6_feed_49
          · refine ze_iload h dX6_feed_39 rfl ?_
            refine ze_callSi h (st := []) zce_X6_isByte zt_X6_isByte zm_X6_105 (Nat.le_of_ble_eq_true rfl) zkn (c_X6_isByte l zFull p6 s10) rfl (Nat.le_of_ble_eq_true rfl) rfl dX6_feed_41 (fun r11 s12 => ?_)
            refine ze_if_ne h 50 dX6_feed_44 (by decide) ?_ ?_
            · refine ze_aload_n h dX6_feed_50 rfl ?_
              refine ze_getR h zl_0 rfl zf_X6_19 dX6_feed_51 ?_
              refine ze_getI h zl_5 rfl zf_X6_98 dX6_feed_54 ?_
              refine ze_iload_n h dX6_feed_57 rfl ?_
              refine ze_iadd h dX6_feed_58 ?_
              refine ze_sipush h 160 dX6_feed_59 zk_s_160 ?_
              refine ze_icmp_le h 68 dX6_feed_62 (by decide) ?_ ?_
              · refine ze_aload_n h dX6_feed_68 rfl ?_
                refine ze_getR h zl_0 rfl zf_X6_19 dX6_feed_69 ?_
                refine ze_iload_n h dX6_feed_72 rfl ?_
                refine ze_callVv h (st := []) zce_X2_takeByte zi_X2_takeByte zs_X2_takeByte zm_X6_35 zl_5 rfl rfl (Nat.le_of_ble_eq_true rfl) zkn (c_X2_takeByte l zFull zHasT_full p2 s12) rfl (Nat.le_of_ble_eq_true rfl) rfl dX6_feed_73 (fun _ s14 => ?_)
                refine ze_iload_n h dX6_feed_76 rfl ?_
                refine ze_iconst h 1 dX6_feed_77 zk_i_1 ?_
                refine ze_icmp_le h 89 dX6_feed_78 (by decide) ?_ ?_
                · refine zE_weak h [true, true, false, false, true, true, true] rfl ?_
                  exact e_X6_feed_89 h hR  p1 p4 p5 p6 s14
                · refine ze_aload_n h dX6_feed_81 rfl ?_
                  refine ze_getR h zl_0 rfl zf_X6_19 dX6_feed_82 ?_
                  refine ze_iload_n h dX6_feed_85 rfl ?_
                  refine ze_callVv h (st := []) zce_X2_takeByte zi_X2_takeByte zs_X2_takeByte zm_X6_35 zl_5 rfl rfl (Nat.le_of_ble_eq_true rfl) zkn (c_X2_takeByte l zFull zHasT_full p3 s14) rfl (Nat.le_of_ble_eq_true rfl) rfl dX6_feed_86 (fun _ s33 => ?_)
                  refine zE_weak h [true, true, false, false, true, true, true] rfl ?_
                  exact e_X6_feed_89 h hR  p1 p4 p5 p6 s33
              · refine ze_bipush h (-4) dX6_feed_65 zk_b_m4 ?_
                exact ze_iret hR dX6_feed_67
            · refine ze_bipush h (-2) dX6_feed_47 zk_b_m2 ?_
              exact ze_iret hR dX6_feed_49
set_option maxRecDepth 20000 in
theorem c_X6_text (l : Launch)   (s0 : zMem) : zC l yX6_text (.code yX6_text cX6_text 3 (some .int)) 74 [.ref 0] zFull s0 (fun r : Int32 => some (.int r)) (f_X6_text s0) := by
  refine zC_of (own := RX6) rfl rfl (Nat.le_of_ble_eq_true rfl) [some (.ref 0), none, none] rfl (fun G T h hR => ?_)
  unfold f_X6_text
  refine ze_aload_n h dX6_text_0 rfl ?_
  refine ze_getR h zl_0 rfl zf_X6_10 dX6_text_1 ?_
  refine ze_getI h zl_1 rfl zf_X6_92 dX6_text_4 ?_
  refine ze_bipush h 6 dX6_text_7 zk_b_6 ?_
  refine ze_icmp_lt h 15 dX6_text_9 (by decide) ?_ ?_
  · refine ze_aload_n h dX6_text_15 rfl ?_
    refine ze_getR h zl_0 rfl zf_X6_19 dX6_text_16 ?_
    refine ze_callVi h (st := []) zce_X2_readText zi_X2_readText zs_X2_readText zm_X6_39 zl_5 rfl rfl (Nat.le_of_ble_eq_true rfl) zkn (c_X2_readText l zFull zHasT_full s0) rfl (Nat.le_of_ble_eq_true rfl) rfl dX6_text_19 (fun r1 s2 => ?_)
    refine ze_istore_n h [some (.ref 0), some (.int r1), none] dX6_text_22 rfl (by decide) rfl ?_
    refine ze_iload_n h dX6_text_23 rfl ?_
    refine ze_iconst h (-1) dX6_text_24 zk_i_m1 ?_
    refine ze_icmp_ne h 42 dX6_text_25 (by decide) ?_ ?_
    · refine ze_bipush h (-100) dX6_text_42 zk_b_m100 ?_
      refine ze_iload_n h dX6_text_44 rfl ?_
      refine ze_isub h dX6_text_45 ?_
      refine ze_nmI (fun x3 => ?_)
      refine ze_istore_n h [some (.ref 0), some (.int r1), some (.int x3)] dX6_text_46 rfl (by decide) rfl ?_
      refine ze_aload_n h dX6_text_47 rfl ?_
      refine ze_getR h zl_0 rfl zf_X6_19 dX6_text_48 ?_
      refine ze_callVv h (st := []) zce_X2_clear zi_X2_clear zs_X2_clear zm_X6_46 zl_5 rfl rfl (Nat.le_of_ble_eq_true rfl) zkn (c_X2_clear l zFull zHasT_full s2) rfl (Nat.le_of_ble_eq_true rfl) rfl dX6_text_51 (fun _ s5 => ?_)
      refine ze_iload_n h dX6_text_54 rfl ?_
      exact ze_iret hR dX6_text_55
    · refine ze_aload_n h dX6_text_28 rfl ?_
      refine ze_getR h zl_0 rfl zf_X6_10 dX6_text_29 ?_
      refine ze_aload_n h dX6_text_32 rfl ?_
      refine ze_getR h zl_0 rfl zf_X6_19 dX6_text_33 ?_
      refine ze_callVi h (st := []) zce_X4_keep zi_X4_keep zs_X4_keep zm_X6_42 zl_1 rfl rfl (Nat.le_of_ble_eq_true rfl) zkn (c_X4_keep l zFull zHasT_full s2) rfl (Nat.le_of_ble_eq_true rfl) rfl dX6_text_36 (fun r6 s7 => ?_)
      refine ze_goto h 46 dX6_text_39 (by decide) ?_
      refine ze_istore_n h [some (.ref 0), some (.int r1), some (.int r6)] dX6_text_46 rfl (by decide) rfl ?_
      refine ze_aload_n h dX6_text_47 rfl ?_
      refine ze_getR h zl_0 rfl zf_X6_19 dX6_text_48 ?_
      refine ze_callVv h (st := []) zce_X2_clear zi_X2_clear zs_X2_clear zm_X6_46 zl_5 rfl rfl (Nat.le_of_ble_eq_true rfl) zkn (c_X2_clear l zFull zHasT_full s7) rfl (Nat.le_of_ble_eq_true rfl) rfl dX6_text_51 (fun _ s9 => ?_)
      refine ze_iload_n h dX6_text_54 rfl ?_
      exact ze_iret hR dX6_text_55
  · refine ze_bipush h (-4) dX6_text_12 zk_b_m4 ?_
    exact ze_iret hR dX6_text_14
set_option maxRecDepth 20000 in
theorem c_X6_force (l : Launch)  (p1 : Int32) (s0 : zMem) : zC l yX6_force (.code yX6_force cX6_force 3 (some .int)) 2 [.ref 0, .int p1] zFull s0 (fun r : Int32 => some (.int r)) (f_X6_force p1 s0) := by
  refine zC_of (own := RX6) rfl rfl (Nat.le_of_ble_eq_true rfl) [some (.ref 0), some (.int p1), none] rfl (fun G T h hR => ?_)
  unfold f_X6_force
  refine ze_iload_n h dX6_force_0 rfl ?_
  refine ze_iconst h 0 dX6_force_1 zk_i_0 ?_
  refine ze_aload_n h dX6_force_2 rfl ?_
  refine ze_getR h zl_0 rfl zf_X6_10 dX6_force_3 ?_
  refine ze_getI h zl_1 rfl zf_X6_92 dX6_force_6 ?_
  refine ze_iconst h 1 dX6_force_9 zk_i_1 ?_
  refine ze_isub h dX6_force_10 ?_
  refine ze_callSi h (st := []) zce_X6_isFromTo zt_X6_isFromTo zm_X6_101 (Nat.le_of_ble_eq_true rfl) zkn (c_X6_isFromTo l zFull p1 0 ((s0 1 3) - 1) s0) rfl (Nat.le_of_ble_eq_true rfl) rfl dX6_force_11 (fun r1 s2 => ?_)
  refine ze_if_ne h 20 dX6_force_14 (by decide) ?_ ?_
  · refine ze_aload_n h dX6_force_20 rfl ?_
    refine ze_getR h zl_0 rfl zf_X6_54 dX6_force_21 ?_
    refine ze_getI h zl_9 rfl zf_X6_95 dX6_force_24 ?_
    refine ze_nmI (fun x3 => ?_)
    refine ze_istore_n h [some (.ref 0), some (.int p1), some (.int x3)] dX6_force_27 rfl (by decide) rfl ?_
    refine ze_aload_n h dX6_force_28 rfl ?_
    refine ze_getR h zl_0 rfl zf_X6_54 dX6_force_29 ?_
    refine ze_iload_n h dX6_force_32 rfl ?_
    refine ze_putI h zl_9 rfl zf_X6_95 rfl rfl dX6_force_33 ?_
    refine ze_nmS (fun s4 => ?_)
    refine ze_iload_n h dX6_force_36 rfl ?_
    exact ze_iret hR dX6_force_37
  · refine ze_bipush h (-2) dX6_force_17 zk_b_m2 ?_
    exact ze_iret hR dX6_force_19
set_option maxRecDepth 20000 in
theorem c_X6_asks (l : Launch)  (p1 : Int32) (p2 : Int32) (p3 : Int32) (s0 : zMem) : zC l yX6_asks (.code yX6_asks cX6_asks 4 (some .int)) 4 [.ref 0, .int p1, .int p2, .int p3] zFull s0 (fun r : Int32 => some (.int r)) (f_X6_asks p1 p2 p3 s0) := by
  refine zC_of (own := RX6) rfl rfl (Nat.le_of_ble_eq_true rfl) [some (.ref 0), some (.int p1), some (.int p2), some (.int p3)] rfl (fun G T h hR => ?_)
  unfold f_X6_asks
  refine ze_iload_n h dX6_asks_0 rfl ?_
  refine ze_iconst h 0 dX6_asks_1 zk_i_0 ?_
  refine ze_iconst h 2 dX6_asks_2 zk_i_2 ?_
  refine ze_callSi h (st := []) zce_X6_isFromTo zt_X6_isFromTo zm_X6_101 (Nat.le_of_ble_eq_true rfl) zkn (c_X6_isFromTo l zFull p1 0 2 s0) rfl (Nat.le_of_ble_eq_true rfl) rfl dX6_asks_3 (fun r1 s2 => ?_)
  refine ze_if_eq h 31 dX6_asks_6 (by decide) ?_ ?_
  · refine ze_bipush h (-2) dX6_asks_31 zk_b_m2 ?_
    exact ze_iret hR dX6_asks_33
  · refine ze_aload_n h dX6_asks_9 rfl ?_
    refine ze_getR h zl_0 rfl zf_X6_54 dX6_asks_10 ?_
    refine ze_iload_n h dX6_asks_13 rfl ?_
    refine ze_callVi h (st := []) zce_X5_isHut zi_X5_isHut zs_X5_isHut zm_X6_109 zl_9 rfl rfl (Nat.le_of_ble_eq_true rfl) zkn (c_X5_isHut l zIsW_9 p2 s2) rfl (Nat.le_of_ble_eq_true rfl) rfl dX6_asks_14 (fun r3 s4 => ?_)
    refine ze_if_eq h 31 dX6_asks_17 (by decide) ?_ ?_
    · refine ze_bipush h (-2) dX6_asks_31 zk_b_m2 ?_
      exact ze_iret hR dX6_asks_33
    · refine ze_iload_n h dX6_asks_20 rfl ?_
      refine ze_iconst h 0 dX6_asks_21 zk_i_0 ?_
      refine ze_sipush h 9999 dX6_asks_22 zk_s_9999 ?_
      refine ze_callSi h (st := []) zce_X6_isFromTo zt_X6_isFromTo zm_X6_101 (Nat.le_of_ble_eq_true rfl) zkn (c_X6_isFromTo l zFull p3 0 9999 s4) rfl (Nat.le_of_ble_eq_true rfl) rfl dX6_asks_25 (fun r5 s6 => ?_)
      refine ze_if_ne h 34 dX6_asks_28 (by decide) ?_ ?_
      · refine ze_aload_n h dX6_asks_34 rfl ?_
        refine ze_getR h zl_0 rfl zf_X6_54 dX6_asks_35 ?_
        refine ze_iload_n h dX6_asks_38 rfl ?_
        refine ze_iload_n h dX6_asks_39 rfl ?_
        refine ze_iload_n h dX6_asks_40 rfl ?_
        refine ze_callVi h (st := []) zce_X5_says zi_X5_says zs_X5_says zm_X6_112 zl_9 rfl rfl (Nat.le_of_ble_eq_true rfl) zkn (c_X5_says l zIsW_9 p1 p2 p3 s6) rfl (Nat.le_of_ble_eq_true rfl) rfl dX6_asks_41 (fun r7 s8 => ?_)
        exact ze_iret hR dX6_asks_44
      · refine ze_bipush h (-2) dX6_asks_31 zk_b_m2 ?_
        exact ze_iret hR dX6_asks_33
set_option maxRecDepth 20000 in
theorem c_X6_hut (l : Launch)  (p1 : Int32) (p2 : Int32) (s0 : zMem) : zC l yX6_hut (.code yX6_hut cX6_hut 3 (some .int)) 3 [.ref 0, .int p1, .int p2] zFull s0 (fun r : Int32 => some (.int r)) (f_X6_hut p1 p2 s0) := by
  refine zC_of (own := RX6) rfl rfl (Nat.le_of_ble_eq_true rfl) [some (.ref 0), some (.int p1), some (.int p2)] rfl (fun G T h hR => ?_)
  unfold f_X6_hut
  refine ze_aload_n h dX6_hut_0 rfl ?_
  refine ze_getR h zl_0 rfl zf_X6_54 dX6_hut_1 ?_
  refine ze_iload_n h dX6_hut_4 rfl ?_
  refine ze_iload_n h dX6_hut_5 rfl ?_
  refine ze_callVi h (st := []) zce_X5_comes zi_X5_comes zs_X5_comes zm_X6_116 zl_9 rfl rfl (Nat.le_of_ble_eq_true rfl) zkn (c_X5_comes l zIsW_9 p1 p2 s0) rfl (Nat.le_of_ble_eq_true rfl) rfl dX6_hut_6 (fun r1 s2 => ?_)
  exact ze_iret hR dX6_hut_9
set_option maxRecDepth 20000 in
theorem c_X6_mostOf (l : Launch) (Λ : zLay) (p1 : Int32) (s0 : zMem) : zC l yX6_mostOf (.code yX6_mostOf cX6_mostOf 1 (some .int)) 1 [.int p1] Λ s0 (fun r : Int32 => some (.int r)) (f_X6_mostOf p1 s0) := by
  refine zC_of (own := RX6) rfl rfl (Nat.le_of_ble_eq_true rfl) [some (.int p1)] rfl (fun G T h hR => ?_)
  unfold f_X6_mostOf
  refine ze_iload_n h dX6_mostOf_0 rfl ?_
  refine ze_case 0 (fun q1_0 => ?_) (fun q1_0 => ?_)
  · refine ze_lookup h (off := 27) 28 dX6_mostOf_1 (by decide) (by decide) (by decide) ?_
    refine ze_sipush h 9999 dX6_mostOf_28 zk_s_9999 ?_
    exact ze_iret hR dX6_mostOf_31
  refine ze_case 1 (fun q1_1 => ?_) (fun q1_1 => ?_)
  · refine ze_lookup h (off := 31) 32 dX6_mostOf_1 (by decide) (by decide) (by decide) ?_
    refine ze_bipush h 99 dX6_mostOf_32 zk_b_99 ?_
    exact ze_iret hR dX6_mostOf_34
  refine ze_lookup h (off := 34) 35 dX6_mostOf_1 (by decide) (by show Op.lookupswitch.offset [(0, 27), (1, 31)] _ _ = _; rw [lv_osw (a := 0) q1_0 rfl, lv_osw (a := 1) q1_1 rfl]; rfl) (by decide) ?_
  refine ze_bipush h 99 dX6_mostOf_35 zk_b_99 ?_
  exact ze_iret hR dX6_mostOf_37
set_option maxRecDepth 20000 in
theorem c_X6_put (l : Launch)  (p1 : Int32) (p2 : Int32) (p3 : Int32) (s0 : zMem) : zC l yX6_put (.code yX6_put cX6_put 5 (some .int)) 2 [.ref 0, .int p1, .int p2, .int p3] zFull s0 (fun r : Int32 => some (.int r)) (f_X6_put p1 p2 p3 s0) := by
  refine zC_of (own := RX6) rfl rfl (Nat.le_of_ble_eq_true rfl) [some (.ref 0), some (.int p1), some (.int p2), some (.int p3), none] rfl (fun G T h hR => ?_)
  unfold f_X6_put
  refine ze_aload_n h dX6_put_0 rfl ?_
  refine ze_getR h zl_0 rfl zf_X6_54 dX6_put_1 ?_
  refine ze_iload_n h dX6_put_4 rfl ?_
  refine ze_callVi h (st := []) zce_X5_isHut zi_X5_isHut zs_X5_isHut zm_X6_109 zl_9 rfl rfl (Nat.le_of_ble_eq_true rfl) zkn (c_X5_isHut l zIsW_9 p1 s0) rfl (Nat.le_of_ble_eq_true rfl) rfl dX6_put_5 (fun r1 s2 => ?_)
  refine ze_if_ne h 14 dX6_put_8 (by decide) ?_ ?_
  · refine ze_iload_n h dX6_put_14 rfl ?_
    refine ze_iconst h 0 dX6_put_15 zk_i_0 ?_
    refine ze_iconst h 2 dX6_put_16 zk_i_2 ?_
    refine ze_callSi h (st := []) zce_X6_isFromTo zt_X6_isFromTo zm_X6_101 (Nat.le_of_ble_eq_true rfl) zkn (c_X6_isFromTo l zFull p2 0 2 s2) rfl (Nat.le_of_ble_eq_true rfl) rfl dX6_put_17 (fun r3 s4 => ?_)
    refine ze_if_eq h 35 dX6_put_20 (by decide) ?_ ?_
    · refine ze_bipush h (-7) dX6_put_35 zk_b_m7 ?_
      exact ze_iret hR dX6_put_37
    · refine ze_iload_n h dX6_put_23 rfl ?_
      refine ze_iconst h 0 dX6_put_24 zk_i_0 ?_
      refine ze_iload_n h dX6_put_25 rfl ?_
      refine ze_callSi h (st := [.int 0, .int p3]) zce_X6_mostOf zt_X6_mostOf zm_X6_120 (Nat.le_of_ble_eq_true rfl) zkn (c_X6_mostOf l zFull p2 s4) rfl (Nat.le_of_ble_eq_true rfl) rfl dX6_put_26 (fun r5 s6 => ?_)
      refine ze_callSi h (st := []) zce_X6_isFromTo zt_X6_isFromTo zm_X6_101 (Nat.le_of_ble_eq_true rfl) zkn (c_X6_isFromTo l zFull p3 0 r5 s6) rfl (Nat.le_of_ble_eq_true rfl) rfl dX6_put_29 (fun r7 s8 => ?_)
      refine ze_if_ne h 38 dX6_put_32 (by decide) ?_ ?_
      · refine ze_aload_n h dX6_put_38 rfl ?_
        refine ze_getR h zl_0 rfl zf_X6_54 dX6_put_39 ?_
        refine ze_iload_n h dX6_put_42 rfl ?_
        refine ze_iload_n h dX6_put_43 rfl ?_
        refine ze_callVi h (st := []) zce_X5_stateOf zi_X5_stateOf zs_X5_stateOf zm_X6_124 zl_9 rfl rfl (Nat.le_of_ble_eq_true rfl) zkn (c_X5_stateOf l zIsW_9 p1 p2 s8) rfl (Nat.le_of_ble_eq_true rfl) rfl dX6_put_44 (fun r9 s10 => ?_)
        refine ze_istore h [some (.ref 0), some (.int p1), some (.int p2), some (.int p3), some (.int r9)] dX6_put_47 rfl (by decide) rfl ?_
        refine ze_aload_n h dX6_put_49 rfl ?_
        refine ze_getR h zl_0 rfl zf_X6_54 dX6_put_50 ?_
        refine ze_iload_n h dX6_put_53 rfl ?_
        refine ze_iload_n h dX6_put_54 rfl ?_
        refine ze_iload_n h dX6_put_55 rfl ?_
        refine ze_callVv h (st := []) zce_X5_become zi_X5_become zs_X5_become zm_X6_127 zl_9 rfl rfl (Nat.le_of_ble_eq_true rfl) zkn (c_X5_become l zIsW_9 p1 p2 p3 s10) rfl (Nat.le_of_ble_eq_true rfl) rfl dX6_put_56 (fun _ s12 => ?_)
        refine ze_iload h dX6_put_59 rfl ?_
        refine ze_pc 61 rfl ?_
        exact ze_iret hR dX6_put_61
      · refine ze_bipush h (-7) dX6_put_35 zk_b_m7 ?_
        exact ze_iret hR dX6_put_37
  · refine ze_bipush h (-5) dX6_put_11 zk_b_m5 ?_
    exact ze_iret hR dX6_put_13
set_option maxRecDepth 20000 in
theorem c_X6_told (l : Launch)  (p1 : Int32) (p2 : Int32) (s0 : zMem) : zC l yX6_told (.code yX6_told cX6_told 3 (some .int)) 3 [.ref 0, .int p1, .int p2] zFull s0 (fun r : Int32 => some (.int r)) (f_X6_told p1 p2 s0) := by
  refine zC_of (own := RX6) rfl rfl (Nat.le_of_ble_eq_true rfl) [some (.ref 0), some (.int p1), some (.int p2)] rfl (fun G T h hR => ?_)
  unfold f_X6_told
  refine ze_aload_n h dX6_told_0 rfl ?_
  refine ze_getR h zl_0 rfl zf_X6_54 dX6_told_1 ?_
  refine ze_iload_n h dX6_told_4 rfl ?_
  refine ze_callVi h (st := []) zce_X5_isHut zi_X5_isHut zs_X5_isHut zm_X6_109 zl_9 rfl rfl (Nat.le_of_ble_eq_true rfl) zkn (c_X5_isHut l zIsW_9 p1 s0) rfl (Nat.le_of_ble_eq_true rfl) rfl dX6_told_5 (fun r1 s2 => ?_)
  refine ze_if_ne h 14 dX6_told_8 (by decide) ?_ ?_
  · refine ze_iload_n h dX6_told_14 rfl ?_
    refine ze_case 0 (fun q15_0 => ?_) (fun q15_0 => ?_)
    · refine ze_tabIn h 60 dX6_told_15 (by decide) (by decide) rfl (by decide) ?_
      refine ze_aload_n h dX6_told_60 rfl ?_
      refine ze_getR h zl_0 rfl zf_X6_54 dX6_told_61 ?_
      refine ze_iload_n h dX6_told_64 rfl ?_
      refine ze_iload_n h dX6_told_65 rfl ?_
      refine ze_callVi h (st := []) zce_X5_stateOf zi_X5_stateOf zs_X5_stateOf zm_X6_124 zl_9 rfl rfl (Nat.le_of_ble_eq_true rfl) zkn (c_X5_stateOf l zIsW_9 p1 p2 s2) rfl (Nat.le_of_ble_eq_true rfl) rfl dX6_told_66 (fun r3 s4 => ?_)
      exact ze_iret hR dX6_told_69
    refine ze_case 1 (fun q15_1 => ?_) (fun q15_1 => ?_)
    · refine ze_tabIn h 60 dX6_told_15 (by decide) (by decide) rfl (by decide) ?_
      refine ze_aload_n h dX6_told_60 rfl ?_
      refine ze_getR h zl_0 rfl zf_X6_54 dX6_told_61 ?_
      refine ze_iload_n h dX6_told_64 rfl ?_
      refine ze_iload_n h dX6_told_65 rfl ?_
      refine ze_callVi h (st := []) zce_X5_stateOf zi_X5_stateOf zs_X5_stateOf zm_X6_124 zl_9 rfl rfl (Nat.le_of_ble_eq_true rfl) zkn (c_X5_stateOf l zIsW_9 p1 p2 s2) rfl (Nat.le_of_ble_eq_true rfl) rfl dX6_told_66 (fun r5 s6 => ?_)
      exact ze_iret hR dX6_told_69
    refine ze_case 2 (fun q15_2 => ?_) (fun q15_2 => ?_)
    · refine ze_tabIn h 60 dX6_told_15 (by decide) (by decide) rfl (by decide) ?_
      refine ze_aload_n h dX6_told_60 rfl ?_
      refine ze_getR h zl_0 rfl zf_X6_54 dX6_told_61 ?_
      refine ze_iload_n h dX6_told_64 rfl ?_
      refine ze_iload_n h dX6_told_65 rfl ?_
      refine ze_callVi h (st := []) zce_X5_stateOf zi_X5_stateOf zs_X5_stateOf zm_X6_124 zl_9 rfl rfl (Nat.le_of_ble_eq_true rfl) zkn (c_X5_stateOf l zIsW_9 p1 p2 s2) rfl (Nat.le_of_ble_eq_true rfl) rfl dX6_told_66 (fun r7 s8 => ?_)
      exact ze_iret hR dX6_told_69
    refine ze_case 3 (fun q15_3 => ?_) (fun q15_3 => ?_)
    · refine ze_tabIn h 70 dX6_told_15 (by decide) (by decide) rfl (by decide) ?_
      refine ze_aload_n h dX6_told_70 rfl ?_
      refine ze_getR h zl_0 rfl zf_X6_54 dX6_told_71 ?_
      refine ze_getR h zl_9 rfl zf_X6_131 dX6_told_74 ?_
      refine ze_iload_n h dX6_told_77 rfl ?_
      refine ze_ialdG h zl_13 dX6_told_78 ?_
      exact ze_iret hR dX6_told_79
    refine ze_case 4 (fun q15_4 => ?_) (fun q15_4 => ?_)
    · refine ze_tabIn h 80 dX6_told_15 (by decide) (by decide) rfl (by decide) ?_
      refine ze_aload_n h dX6_told_80 rfl ?_
      refine ze_getR h zl_0 rfl zf_X6_54 dX6_told_81 ?_
      refine ze_getR h zl_9 rfl zf_X6_134 dX6_told_84 ?_
      refine ze_iload_n h dX6_told_87 rfl ?_
      refine ze_ialdG h zl_14 dX6_told_88 ?_
      exact ze_iret hR dX6_told_89
    refine ze_case 5 (fun q15_5 => ?_) (fun q15_5 => ?_)
    · refine ze_tabIn h 90 dX6_told_15 (by decide) (by decide) rfl (by decide) ?_
      refine ze_aload_n h dX6_told_90 rfl ?_
      refine ze_getR h zl_0 rfl zf_X6_54 dX6_told_91 ?_
      refine ze_iload_n h dX6_told_94 rfl ?_
      refine ze_callVi h (st := []) zce_X5_owes zi_X5_owes zs_X5_owes zm_X6_137 zl_9 rfl rfl (Nat.le_of_ble_eq_true rfl) zkn (c_X5_owes l zIsW_9 p1 s2) rfl (Nat.le_of_ble_eq_true rfl) rfl dX6_told_95 (fun r9 s10 => ?_)
      exact ze_iret hR dX6_told_98
    refine ze_case 6 (fun q15_6 => ?_) (fun q15_6 => ?_)
    · refine ze_tabIn h 99 dX6_told_15 (by decide) (by decide) rfl (by decide) ?_
      refine ze_aload_n h dX6_told_99 rfl ?_
      refine ze_getR h zl_0 rfl zf_X6_54 dX6_told_100 ?_
      refine ze_iload_n h dX6_told_103 rfl ?_
      refine ze_callVi h (st := []) zce_X5_isOwed zi_X5_isOwed zs_X5_isOwed zm_X6_140 zl_9 rfl rfl (Nat.le_of_ble_eq_true rfl) zkn (c_X5_isOwed l zIsW_9 p1 s2) rfl (Nat.le_of_ble_eq_true rfl) rfl dX6_told_104 (fun r11 s12 => ?_)
      exact ze_iret hR dX6_told_107
    refine ze_case 7 (fun q15_7 => ?_) (fun q15_7 => ?_)
    · refine ze_tabIn h 108 dX6_told_15 (by decide) (by decide) rfl (by decide) ?_
      refine ze_aload_n h dX6_told_108 rfl ?_
      refine ze_getR h zl_0 rfl zf_X6_54 dX6_told_109 ?_
      refine ze_iload_n h dX6_told_112 rfl ?_
      refine ze_callVi h (st := []) zce_X5_loansFrom zi_X5_loansFrom zs_X5_loansFrom zm_X6_143 zl_9 rfl rfl (Nat.le_of_ble_eq_true rfl) zkn (c_X5_loansFrom l zIsW_9 p1 s2) rfl (Nat.le_of_ble_eq_true rfl) rfl dX6_told_113 (fun r13 s14 => ?_)
      exact ze_iret hR dX6_told_116
    refine ze_tabOut h 117 dX6_told_15 (by have z0 := lv_neT q15_0 (a := 0) rfl; have z1 := lv_neT q15_1 (a := 1) rfl; have z2 := lv_neT q15_2 (a := 2) rfl; have z3 := lv_neT q15_3 (a := 3) rfl; have z4 := lv_neT q15_4 (a := 4) rfl; have z5 := lv_neT q15_5 (a := 5) rfl; have z6 := lv_neT q15_6 (a := 6) rfl; have z7 := lv_neT q15_7 (a := 7) rfl; omega) (by decide) ?_
    refine ze_bipush h (-7) dX6_told_117 zk_b_m7 ?_
    exact ze_iret hR dX6_told_119
  · refine ze_bipush h (-5) dX6_told_11 zk_b_m5 ?_
    exact ze_iret hR dX6_told_13
set_option maxRecDepth 20000 in
theorem c_X6_isCoalNights (l : Launch) (Λ : zLay) (p1 : Int32) (p2 : Int32) (s0 : zMem) : zC l yX6_isCoalNights (.code yX6_isCoalNights cX6_isCoalNights 2 (some .boolean)) 2 [.int p1, .int p2] Λ s0 (fun r : Int32 => some (.int r)) (f_X6_isCoalNights p1 p2 s0) := by
  refine zC_of (own := RX6) rfl rfl (Nat.le_of_ble_eq_true rfl) [some (.int p1), some (.int p2)] rfl (fun G T h hR => ?_)
  unfold f_X6_isCoalNights
  refine ze_iload_n h dX6_isCoalNights_0 rfl ?_
  refine ze_if_lt h 34 dX6_isCoalNights_1 (by decide) ?_ ?_
  · refine ze_iconst h 0 dX6_isCoalNights_34 zk_i_0 ?_
    exact ze_zret hR rfl dX6_isCoalNights_35
  · refine ze_iload_n h dX6_isCoalNights_4 rfl ?_
    refine ze_bipush h 100 dX6_isCoalNights_5 zk_b_100 ?_
    refine ze_idiv h dX6_isCoalNights_7 (by decide) ?_
    refine ze_iconst h 1 dX6_isCoalNights_8 zk_i_1 ?_
    refine ze_sipush h 9999 dX6_isCoalNights_9 zk_s_9999 ?_
    refine ze_callSi h (st := []) zce_X6_isFromTo zt_X6_isFromTo zm_X6_101 (Nat.le_of_ble_eq_true rfl) zkn (c_X6_isFromTo l Λ (p1 / 100) 1 9999 s0) rfl (Nat.le_of_ble_eq_true rfl) rfl dX6_isCoalNights_12 (fun r1 s2 => ?_)
    refine ze_if_eq h 34 dX6_isCoalNights_15 (by decide) ?_ ?_
    · refine ze_iconst h 0 dX6_isCoalNights_34 zk_i_0 ?_
      exact ze_zret hR rfl dX6_isCoalNights_35
    · refine ze_iload_n h dX6_isCoalNights_18 rfl ?_
      refine ze_bipush h 100 dX6_isCoalNights_19 zk_b_100 ?_
      refine ze_irem h dX6_isCoalNights_21 (by decide) ?_
      refine ze_iconst h 1 dX6_isCoalNights_22 zk_i_1 ?_
      refine ze_iload_n h dX6_isCoalNights_23 rfl ?_
      refine ze_callSi h (st := []) zce_X6_isFromTo zt_X6_isFromTo zm_X6_101 (Nat.le_of_ble_eq_true rfl) zkn (c_X6_isFromTo l Λ (zrem p1 100) 1 p2 s2) rfl (Nat.le_of_ble_eq_true rfl) rfl dX6_isCoalNights_24 (fun r3 s4 => ?_)
      refine ze_if_eq h 34 dX6_isCoalNights_27 (by decide) ?_ ?_
      · refine ze_iconst h 0 dX6_isCoalNights_34 zk_i_0 ?_
        exact ze_zret hR rfl dX6_isCoalNights_35
      · refine ze_iconst h 1 dX6_isCoalNights_30 zk_i_1 ?_
        refine ze_goto h 35 dX6_isCoalNights_31 (by decide) ?_
        exact ze_zret hR rfl dX6_isCoalNights_35
set_option maxRecDepth 20000 in
theorem c_X6_lend (l : Launch)  (p1 : Int32) (p2 : Int32) (s0 : zMem) : zC l yX6_lend (.code yX6_lend cX6_lend 5 (some .int)) 4 [.ref 0, .int p1, .int p2] zFull s0 (fun r : Int32 => some (.int r)) (f_X6_lend p1 p2 s0) := by
  refine zC_of (own := RX6) rfl rfl (Nat.le_of_ble_eq_true rfl) [some (.ref 0), some (.int p1), some (.int p2), none, none] rfl (fun G T h hR => ?_)
  unfold f_X6_lend
  refine ze_iload_n h dX6_lend_0 rfl ?_
  refine ze_bipush h 10 dX6_lend_1 zk_b_10 ?_
  refine ze_idiv h dX6_lend_3 (by decide) ?_
  refine ze_nmI (fun x1 => ?_)
  refine ze_istore_n h [some (.ref 0), some (.int p1), some (.int p2), some (.int x1), none] dX6_lend_4 rfl (by decide) rfl ?_
  refine ze_iload_n h dX6_lend_5 rfl ?_
  refine ze_bipush h 10 dX6_lend_6 zk_b_10 ?_
  refine ze_irem h dX6_lend_8 (by decide) ?_
  refine ze_nmI (fun x2 => ?_)
  refine ze_istore h [some (.ref 0), some (.int p1), some (.int p2), some (.int x1), some (.int x2)] dX6_lend_9 rfl (by decide) rfl ?_
  refine ze_iload_n h dX6_lend_11 rfl ?_
  refine ze_if_lt h 44 dX6_lend_12 (by decide) ?_ ?_
  · refine ze_bipush h (-5) dX6_lend_44 zk_b_m5 ?_
    exact ze_iret hR dX6_lend_46
  · refine ze_aload_n h dX6_lend_15 rfl ?_
    refine ze_getR h zl_0 rfl zf_X6_54 dX6_lend_16 ?_
    refine ze_iload_n h dX6_lend_19 rfl ?_
    refine ze_callVi h (st := []) zce_X5_isHut zi_X5_isHut zs_X5_isHut zm_X6_109 zl_9 rfl rfl (Nat.le_of_ble_eq_true rfl) zkn (c_X5_isHut l zIsW_9 x1 s0) rfl (Nat.le_of_ble_eq_true rfl) rfl dX6_lend_20 (fun r3 s4 => ?_)
    refine ze_if_eq h 44 dX6_lend_23 (by decide) ?_ ?_
    · refine ze_bipush h (-5) dX6_lend_44 zk_b_m5 ?_
      exact ze_iret hR dX6_lend_46
    · refine ze_aload_n h dX6_lend_26 rfl ?_
      refine ze_getR h zl_0 rfl zf_X6_54 dX6_lend_27 ?_
      refine ze_iload h dX6_lend_30 rfl ?_
      refine ze_callVi h (st := []) zce_X5_isHut zi_X5_isHut zs_X5_isHut zm_X6_109 zl_9 rfl rfl (Nat.le_of_ble_eq_true rfl) zkn (c_X5_isHut l zIsW_9 x2 s4) rfl (Nat.le_of_ble_eq_true rfl) rfl dX6_lend_32 (fun r5 s6 => ?_)
      refine ze_if_eq h 44 dX6_lend_35 (by decide) ?_ ?_
      · refine ze_bipush h (-5) dX6_lend_44 zk_b_m5 ?_
        exact ze_iret hR dX6_lend_46
      · refine ze_iload_n h dX6_lend_38 rfl ?_
        refine ze_iload h dX6_lend_39 rfl ?_
        refine ze_icmp_ne h 47 dX6_lend_41 (by decide) ?_ ?_
        · refine ze_iload_n h dX6_lend_47 rfl ?_
          refine ze_bipush h 99 dX6_lend_48 zk_b_99 ?_
          refine ze_callSi h (st := []) zce_X6_isCoalNights zt_X6_isCoalNights zm_X6_146 (Nat.le_of_ble_eq_true rfl) zkn (c_X6_isCoalNights l zFull p2 99 s6) rfl (Nat.le_of_ble_eq_true rfl) rfl dX6_lend_50 (fun r7 s8 => ?_)
          refine ze_if_ne h 59 dX6_lend_53 (by decide) ?_ ?_
          · refine ze_aload_n h dX6_lend_59 rfl ?_
            refine ze_getR h zl_0 rfl zf_X6_54 dX6_lend_60 ?_
            refine ze_iload_n h dX6_lend_63 rfl ?_
            refine ze_iload h dX6_lend_64 rfl ?_
            refine ze_iload_n h dX6_lend_66 rfl ?_
            refine ze_bipush h 100 dX6_lend_67 zk_b_100 ?_
            refine ze_idiv h dX6_lend_69 (by decide) ?_
            refine ze_iload_n h dX6_lend_70 rfl ?_
            refine ze_bipush h 100 dX6_lend_71 zk_b_100 ?_
            refine ze_irem h dX6_lend_73 (by decide) ?_
            refine ze_callVi h (st := []) zce_X5_lends zi_X5_lends zs_X5_lends zm_X6_150 zl_9 rfl rfl (Nat.le_of_ble_eq_true rfl) zkn (c_X5_lends l zIsW_9 x1 x2 (p2 / 100) (zrem p2 100) s8) rfl (Nat.le_of_ble_eq_true rfl) rfl dX6_lend_74 (fun r9 s10 => ?_)
            exact ze_iret hR dX6_lend_77
          · refine ze_bipush h (-7) dX6_lend_56 zk_b_m7 ?_
            exact ze_iret hR dX6_lend_58
        · refine ze_bipush h (-5) dX6_lend_44 zk_b_m5 ?_
          exact ze_iret hR dX6_lend_46
set_option maxRecDepth 20000 in
theorem c_X6_loan (l : Launch)  (p1 : Int32) (p2 : Int32) (s0 : zMem) : zC l yX6_loan (.code yX6_loan cX6_loan 3 (some .int)) 2 [.ref 0, .int p1, .int p2] zFull s0 (fun r : Int32 => some (.int r)) (f_X6_loan p1 p2 s0) := by
  refine zC_of (own := RX6) rfl rfl (Nat.le_of_ble_eq_true rfl) [some (.ref 0), some (.int p1), some (.int p2)] rfl (fun G T h hR => ?_)
  unfold f_X6_loan
  refine ze_aload_n h dX6_loan_0 rfl ?_
  refine ze_getR h zl_0 rfl zf_X6_54 dX6_loan_1 ?_
  refine ze_iload_n h dX6_loan_4 rfl ?_
  refine ze_callVi h (st := []) zce_X5_isLoan zi_X5_isLoan zs_X5_isLoan zm_X6_154 zl_9 rfl rfl (Nat.le_of_ble_eq_true rfl) zkn (c_X5_isLoan l zIsW_9 p1 s0) rfl (Nat.le_of_ble_eq_true rfl) rfl dX6_loan_5 (fun r1 s2 => ?_)
  refine ze_if_ne h 14 dX6_loan_8 (by decide) ?_ ?_
  · refine ze_iload_n h dX6_loan_14 rfl ?_
    refine ze_case 0 (fun q15_0 => ?_) (fun q15_0 => ?_)
    · refine ze_tabIn h 44 dX6_loan_15 (by decide) (by decide) rfl (by decide) ?_
      refine ze_aload_n h dX6_loan_44 rfl ?_
      refine ze_getR h zl_0 rfl zf_X6_54 dX6_loan_45 ?_
      refine ze_getR h zl_9 rfl zf_X6_157 dX6_loan_48 ?_
      refine ze_iload_n h dX6_loan_51 rfl ?_
      refine ze_ialdG h zl_15 dX6_loan_52 ?_
      exact ze_iret hR dX6_loan_53
    refine ze_case 1 (fun q15_1 => ?_) (fun q15_1 => ?_)
    · refine ze_tabIn h 54 dX6_loan_15 (by decide) (by decide) rfl (by decide) ?_
      refine ze_aload_n h dX6_loan_54 rfl ?_
      refine ze_getR h zl_0 rfl zf_X6_54 dX6_loan_55 ?_
      refine ze_getR h zl_9 rfl zf_X6_160 dX6_loan_58 ?_
      refine ze_iload_n h dX6_loan_61 rfl ?_
      refine ze_ialdG h zl_16 dX6_loan_62 ?_
      exact ze_iret hR dX6_loan_63
    refine ze_case 2 (fun q15_2 => ?_) (fun q15_2 => ?_)
    · refine ze_tabIn h 64 dX6_loan_15 (by decide) (by decide) rfl (by decide) ?_
      refine ze_aload_n h dX6_loan_64 rfl ?_
      refine ze_getR h zl_0 rfl zf_X6_54 dX6_loan_65 ?_
      refine ze_getR h zl_9 rfl zf_X6_163 dX6_loan_68 ?_
      refine ze_iload_n h dX6_loan_71 rfl ?_
      refine ze_ialdG h zl_17 dX6_loan_72 ?_
      exact ze_iret hR dX6_loan_73
    refine ze_case 3 (fun q15_3 => ?_) (fun q15_3 => ?_)
    · refine ze_tabIn h 74 dX6_loan_15 (by decide) (by decide) rfl (by decide) ?_
      refine ze_aload_n h dX6_loan_74 rfl ?_
      refine ze_getR h zl_0 rfl zf_X6_54 dX6_loan_75 ?_
      refine ze_getR h zl_9 rfl zf_X6_166 dX6_loan_78 ?_
      refine ze_iload_n h dX6_loan_81 rfl ?_
      refine ze_ialdG h zl_18 dX6_loan_82 ?_
      exact ze_iret hR dX6_loan_83
    refine ze_tabOut h 84 dX6_loan_15 (by have z0 := lv_neT q15_0 (a := 0) rfl; have z1 := lv_neT q15_1 (a := 1) rfl; have z2 := lv_neT q15_2 (a := 2) rfl; have z3 := lv_neT q15_3 (a := 3) rfl; omega) (by decide) ?_
    refine ze_bipush h (-7) dX6_loan_84 zk_b_m7 ?_
    exact ze_iret hR dX6_loan_86
  · refine ze_bipush h (-5) dX6_loan_11 zk_b_m5 ?_
    exact ze_iret hR dX6_loan_13
set_option maxRecDepth 20000 in
theorem c_X6_repay (l : Launch)  (p1 : Int32) (s0 : zMem) : zC l yX6_repay (.code yX6_repay cX6_repay 3 (some .int)) 4 [.ref 0, .int p1] zFull s0 (fun r : Int32 => some (.int r)) (f_X6_repay p1 s0) := by
  refine zC_of (own := RX6) rfl rfl (Nat.le_of_ble_eq_true rfl) [some (.ref 0), some (.int p1), none] rfl (fun G T h hR => ?_)
  unfold f_X6_repay
  refine ze_aload_n h dX6_repay_0 rfl ?_
  refine ze_getR h zl_0 rfl zf_X6_54 dX6_repay_1 ?_
  refine ze_iload_n h dX6_repay_4 rfl ?_
  refine ze_callVi h (st := []) zce_X5_isLoan zi_X5_isLoan zs_X5_isLoan zm_X6_154 zl_9 rfl rfl (Nat.le_of_ble_eq_true rfl) zkn (c_X5_isLoan l zIsW_9 p1 s0) rfl (Nat.le_of_ble_eq_true rfl) rfl dX6_repay_5 (fun r1 s2 => ?_)
  refine ze_if_ne h 14 dX6_repay_8 (by decide) ?_ ?_
  · refine ze_aload_n h dX6_repay_14 rfl ?_
    refine ze_getR h zl_0 rfl zf_X6_54 dX6_repay_15 ?_
    refine ze_iload_n h dX6_repay_18 rfl ?_
    refine ze_callVi h (st := []) zce_X5_canRepay zi_X5_canRepay zs_X5_canRepay zm_X6_169 zl_9 rfl rfl (Nat.le_of_ble_eq_true rfl) zkn (c_X5_canRepay l zIsW_9 p1 s2) rfl (Nat.le_of_ble_eq_true rfl) rfl dX6_repay_19 (fun r3 s4 => ?_)
    refine ze_if_ne h 28 dX6_repay_22 (by decide) ?_ ?_
    · refine ze_aload_n h dX6_repay_28 rfl ?_
      refine ze_getR h zl_0 rfl zf_X6_54 dX6_repay_29 ?_
      refine ze_getR h zl_9 rfl zf_X6_163 dX6_repay_32 ?_
      refine ze_iload_n h dX6_repay_35 rfl ?_
      refine ze_ialdG h zl_17 dX6_repay_36 ?_
      refine ze_nmI (fun x5 => ?_)
      refine ze_istore_n h [some (.ref 0), some (.int p1), some (.int x5)] dX6_repay_37 rfl (by decide) rfl ?_
      refine ze_aload_n h dX6_repay_38 rfl ?_
      refine ze_getR h zl_0 rfl zf_X6_54 dX6_repay_39 ?_
      refine ze_iload_n h dX6_repay_42 rfl ?_
      refine ze_callVv h (st := []) zce_X5_payBack zi_X5_payBack zs_X5_payBack zm_X6_172 zl_9 rfl rfl (Nat.le_of_ble_eq_true rfl) zkn (c_X5_payBack l zIsW_9 p1 s4) rfl (Nat.le_of_ble_eq_true rfl) rfl dX6_repay_43 (fun _ s7 => ?_)
      refine ze_aload_n h dX6_repay_46 rfl ?_
      refine ze_getR h zl_0 rfl zf_X6_54 dX6_repay_47 ?_
      refine ze_iload_n h dX6_repay_50 rfl ?_
      refine ze_pc 51 rfl ?_
      refine ze_callVv h (st := []) zce_X5_drop zi_X5_drop zs_X5_drop zm_X6_175 zl_9 rfl rfl (Nat.le_of_ble_eq_true rfl) zkn (c_X5_drop l zIsW_9 p1 s7) rfl (Nat.le_of_ble_eq_true rfl) rfl dX6_repay_51 (fun _ s9 => ?_)
      refine ze_iload_n h dX6_repay_54 rfl ?_
      exact ze_iret hR dX6_repay_55
    · refine ze_bipush h (-3) dX6_repay_25 zk_b_m3 ?_
      exact ze_iret hR dX6_repay_27
  · refine ze_bipush h (-5) dX6_repay_11 zk_b_m5 ?_
    exact ze_iret hR dX6_repay_13
set_option maxRecDepth 20000 in
theorem c_X6_forgive (l : Launch)  (p1 : Int32) (s0 : zMem) : zC l yX6_forgive (.code yX6_forgive cX6_forgive 3 (some .int)) 2 [.ref 0, .int p1] zFull s0 (fun r : Int32 => some (.int r)) (f_X6_forgive p1 s0) := by
  refine zC_of (own := RX6) rfl rfl (Nat.le_of_ble_eq_true rfl) [some (.ref 0), some (.int p1), none] rfl (fun G T h hR => ?_)
  unfold f_X6_forgive
  refine ze_aload_n h dX6_forgive_0 rfl ?_
  refine ze_getR h zl_0 rfl zf_X6_54 dX6_forgive_1 ?_
  refine ze_iload_n h dX6_forgive_4 rfl ?_
  refine ze_callVi h (st := []) zce_X5_isLoan zi_X5_isLoan zs_X5_isLoan zm_X6_154 zl_9 rfl rfl (Nat.le_of_ble_eq_true rfl) zkn (c_X5_isLoan l zIsW_9 p1 s0) rfl (Nat.le_of_ble_eq_true rfl) rfl dX6_forgive_5 (fun r1 s2 => ?_)
  refine ze_if_ne h 14 dX6_forgive_8 (by decide) ?_ ?_
  · refine ze_aload_n h dX6_forgive_14 rfl ?_
    refine ze_getR h zl_0 rfl zf_X6_54 dX6_forgive_15 ?_
    refine ze_getR h zl_9 rfl zf_X6_163 dX6_forgive_18 ?_
    refine ze_iload_n h dX6_forgive_21 rfl ?_
    refine ze_ialdG h zl_17 dX6_forgive_22 ?_
    refine ze_nmI (fun x3 => ?_)
    refine ze_istore_n h [some (.ref 0), some (.int p1), some (.int x3)] dX6_forgive_23 rfl (by decide) rfl ?_
    refine ze_aload_n h dX6_forgive_24 rfl ?_
    refine ze_getR h zl_0 rfl zf_X6_54 dX6_forgive_25 ?_
    refine ze_iload_n h dX6_forgive_28 rfl ?_
    refine ze_callVv h (st := []) zce_X5_drop zi_X5_drop zs_X5_drop zm_X6_175 zl_9 rfl rfl (Nat.le_of_ble_eq_true rfl) zkn (c_X5_drop l zIsW_9 p1 s2) rfl (Nat.le_of_ble_eq_true rfl) rfl dX6_forgive_29 (fun _ s5 => ?_)
    refine ze_iload_n h dX6_forgive_32 rfl ?_
    exact ze_iret hR dX6_forgive_33
  · refine ze_bipush h (-5) dX6_forgive_11 zk_b_m5 ?_
    exact ze_iret hR dX6_forgive_13
set_option maxRecDepth 20000 in
theorem c_X6_night (l : Launch)   (s0 : zMem) : zC l yX6_night (.code yX6_night cX6_night 1 (some .int)) 6 [.ref 0] zFull s0 (fun r : Int32 => some (.int r)) (f_X6_night s0) := by
  refine zC_of (own := RX6) rfl rfl (Nat.le_of_ble_eq_true rfl) [some (.ref 0)] rfl (fun G T h hR => ?_)
  unfold f_X6_night
  refine ze_aload_n h dX6_night_0 rfl ?_
  refine ze_getR h zl_0 rfl zf_X6_54 dX6_night_1 ?_
  refine ze_getI h zl_9 rfl zf_X6_86 dX6_night_4 ?_
  refine ze_sipush h 999 dX6_night_7 zk_s_999 ?_
  refine ze_icmp_lt h 18 dX6_night_10 (by decide) ?_ ?_
  · refine ze_aload_n h dX6_night_18 rfl ?_
    refine ze_getR h zl_0 rfl zf_X6_54 dX6_night_19 ?_
    refine ze_callVi h (st := []) zce_X5_passNight zi_X5_passNight zs_X5_passNight zm_X6_178 zl_9 rfl rfl (Nat.le_of_ble_eq_true rfl) zkn (c_X5_passNight l zIsW_9 s0) rfl (Nat.le_of_ble_eq_true rfl) rfl dX6_night_22 (fun r1 s2 => ?_)
    exact ze_iret hR dX6_night_25
  · refine ze_bipush h (-3) dX6_night_13 zk_b_m3 ?_
    refine ze_goto h 25 dX6_night_15 (by decide) ?_
    exact ze_iret hR dX6_night_25
set_option maxRecDepth 20000 in
theorem c_X6_think (l : Launch)   (s0 : zMem) : zC l yX6_think (.code yX6_think cX6_think 1 (some (.object "CoalIsLent$World"))) 3 [.ref 0] zFull s0 (fun _ : Unit => some (.ref 20)) (f_X6_think s0) := by
  refine zC_of (own := RX6) rfl rfl (Nat.le_of_ble_eq_true rfl) [some (.ref 0)] rfl (fun G T h hR => ?_)
  unfold f_X6_think
  refine ze_aload_n h dX6_think_0 rfl ?_
  refine ze_getR h zl_0 rfl zf_X6_58 dX6_think_1 ?_
  refine ze_aload_n h dX6_think_4 rfl ?_
  refine ze_getR h zl_0 rfl zf_X6_54 dX6_think_5 ?_
  refine ze_callVv h (st := []) zce_X5_becomeAs zi_X5_becomeAs zs_X5_becomeAs zm_X6_277 zl_20 rfl rfl (Nat.le_of_ble_eq_true rfl) zkn (c_X5_becomeAs l zIsW_20 zIsW_9 s0) rfl (Nat.le_of_ble_eq_true rfl) rfl dX6_think_8 (fun _ s2 => ?_)
  refine ze_aload_n h dX6_think_11 rfl ?_
  refine ze_getR h zl_0 rfl zf_X6_58 dX6_think_12 ?_
  exact ze_aretU hR dX6_think_15
set_option maxRecDepth 20000 in
theorem e_X6_run_52 {l : Launch} {G : zGT} {T : Option Value × zMem} (h : zOk G l cX6_run RX6 6 7 0 0 false) (hR : zR G cX6_run (some .int) T zFull 0 0)   : ∀ (x12 : Int32) (x13 : Int32) (s14 : zMem), zE G T (fun r : Int32 => some (.int r)) zFull 0 0 52 [some (.ref 0), some (.int x12), some (.int x13), none, none, none] [] s14 (f_X6_run_52  x12 x13 s14) := by
  intro x12 x13 s14
  unfold f_X6_run_52
  refine ze_aload_n h dX6_run_52 rfl ?_
  refine ze_callVu h (st := []) zce_X6_think zi_X6_think zs_X6_think zm_X6_181 zl_0 rfl rfl (Nat.le_of_ble_eq_true rfl) zkn (c_X6_think l  s14) rfl (Nat.le_of_ble_eq_true rfl) rfl dX6_run_53 (fun _ s16 => ?_)
  refine ze_astore h [some (.ref 0), some (.int x12), some (.int x13), none, some (.ref 20), none] dX6_run_56 rfl (by decide) rfl ?_
  refine ze_aload h dX6_run_58 rfl ?_
  refine ze_iload_n h dX6_run_60 rfl ?_
  refine ze_callVi h (st := []) zce_X5_passNights zi_X5_passNights zs_X5_passNights zm_X6_185 zl_20 rfl rfl (Nat.le_of_ble_eq_true rfl) zkn (c_X5_passNights l zIsW_20 x12 s16) rfl (Nat.le_of_ble_eq_true rfl) rfl dX6_run_61 (fun r17 s18 => ?_)
  refine ze_istore h [some (.ref 0), some (.int x12), some (.int x13), none, some (.ref 20), some (.int r17)] dX6_run_64 rfl (by decide) rfl ?_
  refine ze_iload_n h dX6_run_66 rfl ?_
  refine ze_case 0 (fun q67_0 => ?_) (fun q67_0 => ?_)
  · refine ze_tabIn h 92 dX6_run_67 (by decide) (by decide) rfl (by decide) ?_
    refine ze_aload h dX6_run_92 rfl ?_
    refine ze_callVi h (st := []) zce_X5_heatOfAll zi_X5_heatOfAll zs_X5_heatOfAll zm_X6_89 zl_20 rfl rfl (Nat.le_of_ble_eq_true rfl) zkn (c_X5_heatOfAll l zIsW_20 s18) rfl (Nat.le_of_ble_eq_true rfl) rfl dX6_run_94 (fun r19 s20 => ?_)
    exact ze_iret hR dX6_run_97
  refine ze_case 1 (fun q67_1 => ?_) (fun q67_1 => ?_)
  · refine ze_tabIn h 98 dX6_run_67 (by decide) (by decide) rfl (by decide) ?_
    refine ze_iload h dX6_run_98 rfl ?_
    exact ze_iret hR dX6_run_100
  refine ze_case 2 (fun q67_2 => ?_) (fun q67_2 => ?_)
  · refine ze_tabIn h 101 dX6_run_67 (by decide) (by decide) rfl (by decide) ?_
    refine ze_aload h dX6_run_101 rfl ?_
    refine ze_getI h zl_20 rfl zf_X6_83 dX6_run_103 ?_
    exact ze_iret hR dX6_run_106
  refine ze_tabOut h 107 dX6_run_67 (by have z0 := lv_neT q67_0 (a := 0) rfl; have z1 := lv_neT q67_1 (a := 1) rfl; have z2 := lv_neT q67_2 (a := 2) rfl; omega) (by decide) ?_
  refine ze_aload h dX6_run_107 rfl ?_
  refine ze_getR h zl_20 rfl zf_X6_188 dX6_run_109 ?_
  refine ze_iload_n h dX6_run_112 rfl ?_
  refine ze_bipush h 10 dX6_run_113 zk_b_10 ?_
  refine ze_isub h dX6_run_115 ?_
  refine ze_ialdG h zl_21 dX6_run_116 ?_
  exact ze_iret hR dX6_run_117
set_option maxRecDepth 20000 in
theorem e_X6_run_25 {l : Launch} {G : zGT} {T : Option Value × zMem} (h : zOk G l cX6_run RX6 6 7 0 0 false) (hR : zR G cX6_run (some .int) T zFull 0 0)   : ∀ (x4 : Int32) (x5 : Int32) (t6 : Int32) (s7 : zMem), zE G T (fun r : Int32 => some (.int r)) zFull 0 0 25 [some (.ref 0), some (.int x4), some (.int x5), none, none, none] [.int t6] s7 (f_X6_run_25  x4 x5 t6 s7) := by
  intro x4 x5 t6 s7
  unfold f_X6_run_25
  refine ze_istore_n h [some (.ref 0), some (.int x4), some (.int x5), some (.int t6), none, none] dX6_run_25 rfl (by decide) rfl ?_
  refine ze_iload_n h dX6_run_26 rfl ?_
  refine ze_iconst h 0 dX6_run_27 zk_i_0 ?_
  refine ze_bipush h 40 dX6_run_28 zk_b_40 ?_
  refine ze_callSi h (st := []) zce_X6_isFromTo zt_X6_isFromTo zm_X6_101 (Nat.le_of_ble_eq_true rfl) zkn (c_X6_isFromTo l zFull x4 0 40 s7) rfl (Nat.le_of_ble_eq_true rfl) rfl dX6_run_30 (fun r8 s9 => ?_)
  refine ze_if_eq h 49 dX6_run_33 (by decide) ?_ ?_
  · refine ze_bipush h (-2) dX6_run_49 zk_b_m2 ?_
    exact ze_iret hR dX6_run_51
  · refine ze_iload_n h dX6_run_36 rfl ?_
    refine ze_iconst h 0 dX6_run_37 zk_i_0 ?_
    refine ze_iconst h 2 dX6_run_38 zk_i_2 ?_
    refine ze_callSi h (st := []) zce_X6_isFromTo zt_X6_isFromTo zm_X6_101 (Nat.le_of_ble_eq_true rfl) zkn (c_X6_isFromTo l zFull x5 0 2 s9) rfl (Nat.le_of_ble_eq_true rfl) rfl dX6_run_39 (fun r10 s11 => ?_)
    refine ze_if_ne h 52 dX6_run_42 (by decide) ?_ ?_
    · refine zE_weak h [true, true, true, false, false, false] rfl ?_
      exact e_X6_run_52 h hR  x4 x5 s11
    · refine ze_iload_n h dX6_run_45 rfl ?_
      refine ze_if_ne h 52 dX6_run_46 (by decide) ?_ ?_
      · refine zE_weak h [true, true, true, false, false, false] rfl ?_
        exact e_X6_run_52 h hR  x4 x5 s11
      · refine ze_bipush h (-2) dX6_run_49 zk_b_m2 ?_
        exact ze_iret hR dX6_run_51
set_option maxRecDepth 20000 in
theorem e_X6_run_24 {l : Launch} {G : zGT} {T : Option Value × zMem} (h : zOk G l cX6_run RX6 6 7 0 0 false) (hR : zR G cX6_run (some .int) T zFull 0 0)   : ∀ (x1 : Int32) (x2 : Int32) (s3 : zMem), zE G T (fun r : Int32 => some (.int r)) zFull 0 0 24 [some (.ref 0), some (.int x1), some (.int x2), none, none, none] [] s3 (f_X6_run_24  x1 x2 s3) := by
  intro x1 x2 s3
  unfold f_X6_run_24
  refine ze_iconst h 0 dX6_run_24 zk_i_0 ?_
  exact e_X6_run_25 h hR  x1 x2 0 s3
set_option maxRecDepth 20000 in
theorem c_X6_run (l : Launch)  (p1 : Int32) (p2 : Int32) (s0 : zMem) : zC l yX6_run (.code yX6_run cX6_run 6 (some .int)) 7 [.ref 0, .int p1, .int p2] zFull s0 (fun r : Int32 => some (.int r)) (f_X6_run p1 p2 s0) := by
  refine zC_of (own := RX6) rfl rfl (Nat.le_of_ble_eq_true rfl) [some (.ref 0), some (.int p1), some (.int p2), none, none, none] rfl (fun G T h hR => ?_)
  unfold f_X6_run
  refine ze_iload_n h dX6_run_0 rfl ?_
  refine ze_bipush h 10 dX6_run_1 zk_b_10 ?_
  refine ze_icmp_lt h 24 dX6_run_3 (by decide) ?_ ?_
  · exact e_X6_run_24 h hR  p1 p2 s0
  · refine ze_aload_n h dX6_run_6 rfl ?_
    refine ze_getR h zl_0 rfl zf_X6_54 dX6_run_7 ?_
    refine ze_iload_n h dX6_run_10 rfl ?_
    refine ze_bipush h 10 dX6_run_11 zk_b_10 ?_
    refine ze_isub h dX6_run_13 ?_
    refine ze_callVi h (st := []) zce_X5_isHut zi_X5_isHut zs_X5_isHut zm_X6_109 zl_9 rfl rfl (Nat.le_of_ble_eq_true rfl) zkn (c_X5_isHut l zIsW_9 (p2 - 10) s0) rfl (Nat.le_of_ble_eq_true rfl) rfl dX6_run_14 (fun r21 s22 => ?_)
    refine ze_if_eq h 24 dX6_run_17 (by decide) ?_ ?_
    · exact e_X6_run_24 h hR  p1 p2 s22
    · refine ze_iconst h 1 dX6_run_20 zk_i_1 ?_
      refine ze_goto h 25 dX6_run_21 (by decide) ?_
      exact e_X6_run_25 h hR  p1 p2 1 s22
set_option maxRecDepth 20000 in
theorem e_X6_nightsToFailing_7 {l : Launch} {G : zGT} {T : Option Value × zMem} (h : zOk G l cX6_nightsToFailing RX6 4 6 0 0 false) (hR : zR G cX6_nightsToFailing (some .int) T zFull 0 0)   : ∀ (n : Nat) (x3 : Int32) (x4 : Int32) (s5 : zMem), zE G T (fun r : Int32 => some (.int r)) zFull 0 0 7 [none, some (.int x3), some (.ref 20), some (.int x4)] [] s5 (f_X6_nightsToFailing_7 n x3 x4 s5) := by
  intro n
  induction n with
  | zero => intro _ _ _; exact ze_none
  | succ n ih =>
    intro x3 x4 s5
    rw [f_X6_nightsToFailing_7]
    refine ze_iload_n h dX6_nightsToFailing_7 rfl ?_
    refine ze_bipush h 40 dX6_nightsToFailing_8 zk_b_40 ?_
    refine ze_icmp_gt h 32 dX6_nightsToFailing_10 (by decide) ?_ ?_
    · refine ze_iconst h (-1) dX6_nightsToFailing_32 zk_i_m1 ?_
      exact ze_iret hR dX6_nightsToFailing_33
    · refine ze_aload_n h dX6_nightsToFailing_13 rfl ?_
      refine ze_callVi h (st := []) zce_X5_passNight zi_X5_passNight zs_X5_passNight zm_X6_178 zl_20 rfl rfl (Nat.le_of_ble_eq_true rfl) zkn (c_X5_passNight l zIsW_20 s5) rfl (Nat.le_of_ble_eq_true rfl) rfl dX6_nightsToFailing_14 (fun r6 s7 => ?_)
      refine ze_iload_n h dX6_nightsToFailing_17 rfl ?_
      refine ze_callSi h (st := []) zce_X6_has zt_X6_has zm_X6_197 (Nat.le_of_ble_eq_true rfl) zkn (c_X6_has l zFull r6 x3 s7) rfl (Nat.le_of_ble_eq_true rfl) rfl dX6_nightsToFailing_18 (fun r8 s9 => ?_)
      refine ze_if_eq h 26 dX6_nightsToFailing_21 (by decide) ?_ ?_
      · refine ze_iincN h (fun y9 => [none, some (.int x3), some (.ref 20), some (.int y9)]) 1 dX6_nightsToFailing_26 rfl zk_i_1 rfl (by decide) (fun _ => rfl) (fun x10 => ?_)
        refine ze_goto h 7 dX6_nightsToFailing_29 (by decide) ?_
        exact ih x3 x10 s9
      · refine ze_iload_n h dX6_nightsToFailing_24 rfl ?_
        exact ze_iret hR dX6_nightsToFailing_25
set_option maxRecDepth 20000 in
theorem c_X6_nightsToFailing (l : Launch)  (p1 : Int32) (s0 : zMem) : zC l yX6_nightsToFailing (.code yX6_nightsToFailing cX6_nightsToFailing 4 (some .int)) 6 [.ref 0, .int p1] zFull s0 (fun r : Int32 => some (.int r)) (f_X6_nightsToFailing p1 s0) := by
  refine zC_of (own := RX6) rfl rfl (Nat.le_of_ble_eq_true rfl) [some (.ref 0), some (.int p1), none, none] rfl (fun G T h hR => ?_)
  unfold f_X6_nightsToFailing
  refine ze_aload_n h dX6_nightsToFailing_0 rfl ?_
  refine ze_callVu h (st := []) zce_X6_think zi_X6_think zs_X6_think zm_X6_181 zl_0 rfl rfl (Nat.le_of_ble_eq_true rfl) zkn (c_X6_think l  s0) rfl (Nat.le_of_ble_eq_true rfl) rfl dX6_nightsToFailing_1 (fun _ s2 => ?_)
  refine ze_astore_n h [some (.ref 0), some (.int p1), some (.ref 20), none] dX6_nightsToFailing_4 rfl (by decide) rfl ?_
  refine ze_iconst h 1 dX6_nightsToFailing_5 zk_i_1 ?_
  refine ze_istore_n h [some (.ref 0), some (.int p1), some (.ref 20), some (.int 1)] dX6_nightsToFailing_6 rfl (by decide) rfl ?_
  refine zE_weak h [false, true, true, true] rfl ?_
  exact e_X6_nightsToFailing_7 h hR  zN p1 1 s2
set_option maxRecDepth 20000 in
theorem e_X6_nightsToNoHeat_7 {l : Launch} {G : zGT} {T : Option Value × zMem} (h : zOk G l cX6_nightsToNoHeat RX6 4 6 0 0 false) (hR : zR G cX6_nightsToNoHeat (some .int) T zFull 0 0)   : ∀ (n : Nat) (x3 : Int32) (x4 : Int32) (s5 : zMem), zE G T (fun r : Int32 => some (.int r)) zFull 0 0 7 [none, some (.int x3), some (.ref 20), some (.int x4)] [] s5 (f_X6_nightsToNoHeat_7 n x3 x4 s5) := by
  intro n
  induction n with
  | zero => intro _ _ _; exact ze_none
  | succ n ih =>
    intro x3 x4 s5
    rw [f_X6_nightsToNoHeat_7]
    refine ze_iload_n h dX6_nightsToNoHeat_7 rfl ?_
    refine ze_bipush h 40 dX6_nightsToNoHeat_8 zk_b_40 ?_
    refine ze_icmp_gt h 35 dX6_nightsToNoHeat_10 (by decide) ?_ ?_
    · refine ze_iconst h (-1) dX6_nightsToNoHeat_35 zk_i_m1 ?_
      exact ze_iret hR dX6_nightsToNoHeat_36
    · refine ze_aload_n h dX6_nightsToNoHeat_13 rfl ?_
      refine ze_getR h zl_20 rfl zf_X6_188 dX6_nightsToNoHeat_14 ?_
      refine ze_iload_n h dX6_nightsToNoHeat_17 rfl ?_
      refine ze_ialdG h zl_21 dX6_nightsToNoHeat_18 ?_
      refine ze_if_ne h 24 dX6_nightsToNoHeat_19 (by decide) ?_ ?_
      · refine ze_aload_n h dX6_nightsToNoHeat_24 rfl ?_
        refine ze_callVi h (st := []) zce_X5_passNight zi_X5_passNight zs_X5_passNight zm_X6_178 zl_20 rfl rfl (Nat.le_of_ble_eq_true rfl) zkn (c_X5_passNight l zIsW_20 s5) rfl (Nat.le_of_ble_eq_true rfl) rfl dX6_nightsToNoHeat_25 (fun r6 s7 => ?_)
        refine ze_pop h dX6_nightsToNoHeat_28 rfl ?_
        refine ze_iincN h (fun y9 => [none, some (.int x3), some (.ref 20), some (.int y9)]) 1 dX6_nightsToNoHeat_29 rfl zk_i_1 rfl (by decide) (fun _ => rfl) (fun x8 => ?_)
        refine ze_goto h 7 dX6_nightsToNoHeat_32 (by decide) ?_
        exact ih x3 x8 s7
      · refine ze_iload_n h dX6_nightsToNoHeat_22 rfl ?_
        exact ze_iret hR dX6_nightsToNoHeat_23
set_option maxRecDepth 20000 in
theorem c_X6_nightsToNoHeat (l : Launch)  (p1 : Int32) (s0 : zMem) : zC l yX6_nightsToNoHeat (.code yX6_nightsToNoHeat cX6_nightsToNoHeat 4 (some .int)) 6 [.ref 0, .int p1] zFull s0 (fun r : Int32 => some (.int r)) (f_X6_nightsToNoHeat p1 s0) := by
  refine zC_of (own := RX6) rfl rfl (Nat.le_of_ble_eq_true rfl) [some (.ref 0), some (.int p1), none, none] rfl (fun G T h hR => ?_)
  unfold f_X6_nightsToNoHeat
  refine ze_aload_n h dX6_nightsToNoHeat_0 rfl ?_
  refine ze_callVu h (st := []) zce_X6_think zi_X6_think zs_X6_think zm_X6_181 zl_0 rfl rfl (Nat.le_of_ble_eq_true rfl) zkn (c_X6_think l  s0) rfl (Nat.le_of_ble_eq_true rfl) rfl dX6_nightsToNoHeat_1 (fun _ s2 => ?_)
  refine ze_astore_n h [some (.ref 0), some (.int p1), some (.ref 20), none] dX6_nightsToNoHeat_4 rfl (by decide) rfl ?_
  refine ze_iconst h 0 dX6_nightsToNoHeat_5 zk_i_0 ?_
  refine ze_istore_n h [some (.ref 0), some (.int p1), some (.ref 20), some (.int 0)] dX6_nightsToNoHeat_6 rfl (by decide) rfl ?_
  refine zE_weak h [false, true, true, true] rfl ?_
  exact e_X6_nightsToNoHeat_7 h hR  zN p1 0 s2
set_option maxRecDepth 20000 in
theorem c_X6_lasts (l : Launch)  (p1 : Int32) (p2 : Int32) (s0 : zMem) : zC l yX6_lasts (.code yX6_lasts cX6_lasts 3 (some .int)) 7 [.ref 0, .int p1, .int p2] zFull s0 (fun r : Int32 => some (.int r)) (f_X6_lasts p1 p2 s0) := by
  refine zC_of (own := RX6) rfl rfl (Nat.le_of_ble_eq_true rfl) [some (.ref 0), some (.int p1), some (.int p2)] rfl (fun G T h hR => ?_)
  unfold f_X6_lasts
  refine ze_aload_n h dX6_lasts_0 rfl ?_
  refine ze_getR h zl_0 rfl zf_X6_54 dX6_lasts_1 ?_
  refine ze_iload_n h dX6_lasts_4 rfl ?_
  refine ze_callVi h (st := []) zce_X5_isHut zi_X5_isHut zs_X5_isHut zm_X6_109 zl_9 rfl rfl (Nat.le_of_ble_eq_true rfl) zkn (c_X5_isHut l zIsW_9 p1 s0) rfl (Nat.le_of_ble_eq_true rfl) rfl dX6_lasts_5 (fun r1 s2 => ?_)
  refine ze_if_ne h 14 dX6_lasts_8 (by decide) ?_ ?_
  · refine ze_iload_n h dX6_lasts_14 rfl ?_
    refine ze_iconst h 0 dX6_lasts_15 zk_i_0 ?_
    refine ze_iconst h 1 dX6_lasts_16 zk_i_1 ?_
    refine ze_callSi h (st := []) zce_X6_isFromTo zt_X6_isFromTo zm_X6_101 (Nat.le_of_ble_eq_true rfl) zkn (c_X6_isFromTo l zFull p2 0 1 s2) rfl (Nat.le_of_ble_eq_true rfl) rfl dX6_lasts_17 (fun r3 s4 => ?_)
    refine ze_if_ne h 26 dX6_lasts_20 (by decide) ?_ ?_
    · refine ze_iload_n h dX6_lasts_26 rfl ?_
      refine ze_if_ne h 38 dX6_lasts_27 (by decide) ?_ ?_
      · refine ze_aload_n h dX6_lasts_38 rfl ?_
        refine ze_iload_n h dX6_lasts_39 rfl ?_
        refine ze_callVi h (st := []) zce_X6_nightsToNoHeat zi_X6_nightsToNoHeat zs_X6_nightsToNoHeat zm_X6_194 zl_0 rfl rfl (Nat.le_of_ble_eq_true rfl) zkn (c_X6_nightsToNoHeat l  p1 s4) rfl (Nat.le_of_ble_eq_true rfl) rfl dX6_lasts_40 (fun r5 s6 => ?_)
        exact ze_iret hR dX6_lasts_43
      · refine ze_aload_n h dX6_lasts_30 rfl ?_
        refine ze_iload_n h dX6_lasts_31 rfl ?_
        refine ze_callVi h (st := []) zce_X6_nightsToFailing zi_X6_nightsToFailing zs_X6_nightsToFailing zm_X6_191 zl_0 rfl rfl (Nat.le_of_ble_eq_true rfl) zkn (c_X6_nightsToFailing l  p1 s4) rfl (Nat.le_of_ble_eq_true rfl) rfl dX6_lasts_32 (fun r7 s8 => ?_)
        refine ze_goto h 43 dX6_lasts_35 (by decide) ?_
        exact ze_iret hR dX6_lasts_43
    · refine ze_bipush h (-7) dX6_lasts_23 zk_b_m7 ?_
      exact ze_iret hR dX6_lasts_25
  · refine ze_bipush h (-5) dX6_lasts_11 zk_b_m5 ?_
    exact ze_iret hR dX6_lasts_13
set_option maxRecDepth 20000 in
theorem c_X6_net (l : Launch)  (p1 : Int32) (s0 : zMem) : zC l yX6_net (.code yX6_net cX6_net 2 (some .int)) 3 [.ref 0, .int p1] zFull s0 (fun r : Int32 => some (.int r)) (f_X6_net p1 s0) := by
  refine zC_of (own := RX6) rfl rfl (Nat.le_of_ble_eq_true rfl) [some (.ref 0), some (.int p1)] rfl (fun G T h hR => ?_)
  unfold f_X6_net
  refine ze_aload_n h dX6_net_0 rfl ?_
  refine ze_getR h zl_0 rfl zf_X6_54 dX6_net_1 ?_
  refine ze_iload_n h dX6_net_4 rfl ?_
  refine ze_callVi h (st := []) zce_X5_isHut zi_X5_isHut zs_X5_isHut zm_X6_109 zl_9 rfl rfl (Nat.le_of_ble_eq_true rfl) zkn (c_X5_isHut l zIsW_9 p1 s0) rfl (Nat.le_of_ble_eq_true rfl) rfl dX6_net_5 (fun r1 s2 => ?_)
  refine ze_if_eq h 31 dX6_net_8 (by decide) ?_ ?_
  · refine ze_ldc h zq_X6_200 dX6_net_31 ?_
    exact ze_iret hR dX6_net_33
  · refine ze_aload_n h dX6_net_11 rfl ?_
    refine ze_getR h zl_0 rfl zf_X6_54 dX6_net_12 ?_
    refine ze_iload_n h dX6_net_15 rfl ?_
    refine ze_callVi h (st := []) zce_X5_isOwed zi_X5_isOwed zs_X5_isOwed zm_X6_140 zl_9 rfl rfl (Nat.le_of_ble_eq_true rfl) zkn (c_X5_isOwed l zIsW_9 p1 s2) rfl (Nat.le_of_ble_eq_true rfl) rfl dX6_net_16 (fun r3 s4 => ?_)
    refine ze_aload_n h dX6_net_19 rfl ?_
    refine ze_getR h zl_0 rfl zf_X6_54 dX6_net_20 ?_
    refine ze_iload_n h dX6_net_23 rfl ?_
    refine ze_callVi h (st := [.int r3]) zce_X5_owes zi_X5_owes zs_X5_owes zm_X6_137 zl_9 rfl rfl (Nat.le_of_ble_eq_true rfl) zkn (c_X5_owes l zIsW_9 p1 s4) rfl (Nat.le_of_ble_eq_true rfl) rfl dX6_net_24 (fun r5 s6 => ?_)
    refine ze_isub h dX6_net_27 ?_
    refine ze_goto h 33 dX6_net_28 (by decide) ?_
    exact ze_iret hR dX6_net_33
set_option maxRecDepth 20000 in
theorem e_X6_payOnce_6 {l : Launch} {G : zGT} {T : Option Value × zMem} (h : zOk G l cX6_payOnce RX6 4 2 0 0 false) (hR : zR G cX6_payOnce (some .int) T zFull 0 0)  (c57 : Int32 → Int32 → zMem → Option (Int32 × zMem)) (hc57 : ∀ (y1 : Int32) (y2 : Int32) (s9 : zMem), zE G T (fun r : Int32 => some (.int r)) zFull 0 0 57 [some (.ref 0), some (.int y1), some (.int y2), none] [] s9 (c57 y1 y2 s9)) : ∀ (n : Nat) (x1 : Int32) (x2 : Int32) (x3 : Int32) (s4 : zMem), zE G T (fun r : Int32 => some (.int r)) zFull 0 0 6 [some (.ref 0), some (.int x1), some (.int x2), some (.int x3)] [] s4 (f_X6_payOnce_6 c57 n x1 x2 x3 s4) := by
  intro n
  induction n with
  | zero => intro _ _ _ _; exact ze_none
  | succ n ih =>
    intro x1 x2 x3 s4
    rw [f_X6_payOnce_6]
    refine ze_iload_n h dX6_payOnce_6 rfl ?_
    refine ze_aload_n h dX6_payOnce_7 rfl ?_
    refine ze_getR h zl_0 rfl zf_X6_54 dX6_payOnce_8 ?_
    refine ze_getI h zl_9 rfl zf_X6_79 dX6_payOnce_11 ?_
    refine ze_icmp_ge h 57 dX6_payOnce_14 (by decide) ?_ ?_
    · refine zE_weak h [true, true, true, false] rfl ?_
      exact hc57 x1 x2 s4
    · refine ze_aload_n h dX6_payOnce_17 rfl ?_
      refine ze_getR h zl_0 rfl zf_X6_71 dX6_payOnce_18 ?_
      refine ze_iload_n h dX6_payOnce_21 rfl ?_
      refine ze_ialdG h zl_46 dX6_payOnce_22 ?_
      refine ze_aload_n h dX6_payOnce_23 rfl ?_
      refine ze_getR h zl_0 rfl zf_X6_71 dX6_payOnce_24 ?_
      refine ze_iload_n h dX6_payOnce_27 rfl ?_
      refine ze_ialdG h zl_46 dX6_payOnce_28 ?_
      refine ze_icmp_ge h 34 dX6_payOnce_29 (by decide) ?_ ?_
      · refine ze_aload_n h dX6_payOnce_34 rfl ?_
        refine ze_getR h zl_0 rfl zf_X6_71 dX6_payOnce_35 ?_
        refine ze_iload_n h dX6_payOnce_38 rfl ?_
        refine ze_ialdG h zl_46 dX6_payOnce_39 ?_
        refine ze_aload_n h dX6_payOnce_40 rfl ?_
        refine ze_getR h zl_0 rfl zf_X6_71 dX6_payOnce_41 ?_
        refine ze_iload_n h dX6_payOnce_44 rfl ?_
        refine ze_ialdG h zl_46 dX6_payOnce_45 ?_
        refine ze_icmp_le h 51 dX6_payOnce_46 (by decide) ?_ ?_
        · refine ze_iincN h (fun y9 => [some (.ref 0), some (.int x1), some (.int x2), some (.int y9)]) 1 dX6_payOnce_51 rfl zk_i_1 rfl (by decide) (fun _ => rfl) (fun x5 => ?_)
          refine ze_goto h 6 dX6_payOnce_54 (by decide) ?_
          exact ih x1 x2 x5 s4
        · refine ze_iload_n h dX6_payOnce_49 rfl ?_
          refine ze_istore_n h [some (.ref 0), some (.int x1), some (.int x3), some (.int x3)] dX6_payOnce_50 rfl (by decide) rfl ?_
          refine ze_iincN h (fun y9 => [some (.ref 0), some (.int x1), some (.int x3), some (.int y9)]) 1 dX6_payOnce_51 rfl zk_i_1 rfl (by decide) (fun _ => rfl) (fun x6 => ?_)
          refine ze_goto h 6 dX6_payOnce_54 (by decide) ?_
          exact ih x1 x3 x6 s4
      · refine ze_iload_n h dX6_payOnce_32 rfl ?_
        refine ze_istore_n h [some (.ref 0), some (.int x3), some (.int x2), some (.int x3)] dX6_payOnce_33 rfl (by decide) rfl ?_
        refine ze_aload_n h dX6_payOnce_34 rfl ?_
        refine ze_getR h zl_0 rfl zf_X6_71 dX6_payOnce_35 ?_
        refine ze_iload_n h dX6_payOnce_38 rfl ?_
        refine ze_ialdG h zl_46 dX6_payOnce_39 ?_
        refine ze_aload_n h dX6_payOnce_40 rfl ?_
        refine ze_getR h zl_0 rfl zf_X6_71 dX6_payOnce_41 ?_
        refine ze_iload_n h dX6_payOnce_44 rfl ?_
        refine ze_ialdG h zl_46 dX6_payOnce_45 ?_
        refine ze_icmp_le h 51 dX6_payOnce_46 (by decide) ?_ ?_
        · refine ze_iincN h (fun y9 => [some (.ref 0), some (.int x3), some (.int x2), some (.int y9)]) 1 dX6_payOnce_51 rfl zk_i_1 rfl (by decide) (fun _ => rfl) (fun x7 => ?_)
          refine ze_goto h 6 dX6_payOnce_54 (by decide) ?_
          exact ih x3 x2 x7 s4
        · refine ze_iload_n h dX6_payOnce_49 rfl ?_
          refine ze_istore_n h [some (.ref 0), some (.int x3), some (.int x3), some (.int x3)] dX6_payOnce_50 rfl (by decide) rfl ?_
          refine ze_iincN h (fun y9 => [some (.ref 0), some (.int x3), some (.int x3), some (.int y9)]) 1 dX6_payOnce_51 rfl zk_i_1 rfl (by decide) (fun _ => rfl) (fun x8 => ?_)
          refine ze_goto h 6 dX6_payOnce_54 (by decide) ?_
          exact ih x3 x3 x8 s4
set_option maxRecDepth 20000 in
theorem c_X6_payOnce (l : Launch)   (s0 : zMem) : zC l yX6_payOnce (.code yX6_payOnce cX6_payOnce 4 (some .int)) 2 [.ref 0] zFull s0 (fun r : Int32 => some (.int r)) (f_X6_payOnce s0) := by
  refine zC_of (own := RX6) rfl rfl (Nat.le_of_ble_eq_true rfl) [some (.ref 0), none, none, none] rfl (fun G T h hR => ?_)
  unfold f_X6_payOnce
  refine ze_iconst h 0 dX6_payOnce_0 zk_i_0 ?_
  refine ze_istore_n h [some (.ref 0), some (.int 0), none, none] dX6_payOnce_1 rfl (by decide) rfl ?_
  refine ze_iconst h 0 dX6_payOnce_2 zk_i_0 ?_
  refine ze_istore_n h [some (.ref 0), some (.int 0), some (.int 0), none] dX6_payOnce_3 rfl (by decide) rfl ?_
  refine ze_iconst h 1 dX6_payOnce_4 zk_i_1 ?_
  refine ze_istore_n h [some (.ref 0), some (.int 0), some (.int 0), some (.int 1)] dX6_payOnce_5 rfl (by decide) rfl ?_
  refine e_X6_payOnce_6 h hR _ ?_ zN 0 0 1 s0
  · intro x9 x10 s11
    refine ze_aload_n h dX6_payOnce_57 rfl ?_
    refine ze_getR h zl_0 rfl zf_X6_71 dX6_payOnce_58 ?_
    refine ze_iload_n h dX6_payOnce_61 rfl ?_
    refine ze_ialdG h zl_46 dX6_payOnce_62 ?_
    refine ze_ineg h dX6_payOnce_63 ?_
    refine ze_aload_n h dX6_payOnce_64 rfl ?_
    refine ze_getR h zl_0 rfl zf_X6_71 dX6_payOnce_65 ?_
    refine ze_iload_n h dX6_payOnce_68 rfl ?_
    refine ze_ialdG h zl_46 dX6_payOnce_69 ?_
    refine ze_mmin h (st := []) (Nat.le_of_ble_eq_true rfl) zkn zm_X6_207 zw_min1 zw_math zw_min2 (Nat.le_of_ble_eq_true rfl) dX6_payOnce_70 ?_
    refine ze_nmI (fun x12 => ?_)
    refine ze_istore_n h [some (.ref 0), some (.int x9), some (.int x10), some (.int x12)] dX6_payOnce_73 rfl (by decide) rfl ?_
    refine ze_iload_n h dX6_payOnce_74 rfl ?_
    refine ze_if_gt h 80 dX6_payOnce_75 (by decide) ?_ ?_
    · refine ze_aload_n h dX6_payOnce_80 rfl ?_
      refine ze_getR h zl_0 rfl zf_X6_71 dX6_payOnce_81 ?_
      refine ze_iload_n h dX6_payOnce_84 rfl ?_
      refine ze_dup2 h dX6_payOnce_85 rfl rfl ?_
      refine ze_ialdG h zl_46 dX6_payOnce_86 ?_
      refine ze_iload_n h dX6_payOnce_87 rfl ?_
      refine ze_iadd h dX6_payOnce_88 ?_
      refine ze_iastG h zl_46 dX6_payOnce_89 ?_
      refine ze_nmS (fun s13 => ?_)
      refine ze_aload_n h dX6_payOnce_90 rfl ?_
      refine ze_getR h zl_0 rfl zf_X6_71 dX6_payOnce_91 ?_
      refine ze_iload_n h dX6_payOnce_94 rfl ?_
      refine ze_dup2 h dX6_payOnce_95 rfl rfl ?_
      refine ze_ialdG h zl_46 dX6_payOnce_96 ?_
      refine ze_pc 97 rfl ?_
      refine ze_iload_n h dX6_payOnce_97 rfl ?_
      refine ze_isub h dX6_payOnce_98 ?_
      refine ze_iastG h zl_46 dX6_payOnce_99 ?_
      refine ze_nmS (fun s14 => ?_)
      refine ze_iload_n h dX6_payOnce_100 rfl ?_
      exact ze_iret hR dX6_payOnce_101
    · refine ze_iconst h 0 dX6_payOnce_78 zk_i_0 ?_
      exact ze_iret hR dX6_payOnce_79
set_option maxRecDepth 20000 in
theorem e_X6_settle_14 {l : Launch} {G : zGT} {T : Option Value × zMem} (h : zOk G l cX6_settle RX6 6 4 0 0 false) (hR : zR G cX6_settle (some .int) T zFull 0 0)  (c42 : Int32 → zMem → Option (Int32 × zMem)) (hc42 : ∀ (y1 : Int32) (s9 : zMem), zE G T (fun r : Int32 => some (.int r)) zFull 0 0 42 [some (.ref 0), some (.int y1), none, none, none, none] [] s9 (c42 y1 s9)) : ∀ (n : Nat) (x3 : Int32) (x4 : Int32) (s5 : zMem), zE G T (fun r : Int32 => some (.int r)) zFull 0 0 14 [some (.ref 0), some (.int x3), some (.int x4), none, none, none] [] s5 (f_X6_settle_14 c42 n x3 x4 s5) := by
  intro n
  induction n with
  | zero => intro _ _ _; exact ze_none
  | succ n ih =>
    intro x3 x4 s5
    rw [f_X6_settle_14]
    refine ze_iload_n h dX6_settle_14 rfl ?_
    refine ze_aload_n h dX6_settle_15 rfl ?_
    refine ze_getR h zl_0 rfl zf_X6_54 dX6_settle_16 ?_
    refine ze_getI h zl_9 rfl zf_X6_79 dX6_settle_19 ?_
    refine ze_icmp_ge h 42 dX6_settle_22 (by decide) ?_ ?_
    · refine zE_weak h [true, true, false, false, false, false] rfl ?_
      exact hc42 x3 s5
    · refine ze_aload_n h dX6_settle_25 rfl ?_
      refine ze_getR h zl_0 rfl zf_X6_71 dX6_settle_26 ?_
      refine ze_iload_n h dX6_settle_29 rfl ?_
      refine ze_aload_n h dX6_settle_30 rfl ?_
      refine ze_iload_n h dX6_settle_31 rfl ?_
      refine ze_callVi h (st := [.int x4, .ref 46]) zce_X6_net zi_X6_net zs_X6_net zm_X6_201 zl_0 rfl rfl (Nat.le_of_ble_eq_true rfl) zkn (c_X6_net l  x4 s5) rfl (Nat.le_of_ble_eq_true rfl) rfl dX6_settle_32 (fun r6 s7 => ?_)
      refine ze_iastG h zl_46 dX6_settle_35 ?_
      refine ze_nmS (fun s8 => ?_)
      refine ze_iincN h (fun y9 => [some (.ref 0), some (.int x3), some (.int y9), none, none, none]) 1 dX6_settle_36 rfl zk_i_1 rfl (by decide) (fun _ => rfl) (fun x9 => ?_)
      refine ze_goto h 14 dX6_settle_39 (by decide) ?_
      exact ih x3 x9 s8
set_option maxRecDepth 20000 in
theorem e_X6_settle_49 {l : Launch} {G : zGT} {T : Option Value × zMem} (h : zOk G l cX6_settle RX6 6 4 0 0 false) (hR : zR G cX6_settle (some .int) T zFull 0 0)  (c86 : Int32 → Int32 → Int32 → zMem → Option (Int32 × zMem)) (hc86 : ∀ (y1 : Int32) (y2 : Int32) (y3 : Int32) (s9 : zMem), zE G T (fun r : Int32 => some (.int r)) zFull 0 0 86 [none, some (.int y1), some (.int y2), some (.int y3), none, none] [] s9 (c86 y1 y2 y3 s9)) : ∀ (n : Nat) (x12 : Int32) (x13 : Int32) (x14 : Int32) (x15 : Int32) (s16 : zMem), zE G T (fun r : Int32 => some (.int r)) zFull 0 0 49 [some (.ref 0), some (.int x12), some (.int x13), some (.int x14), some (.int x15), none] [] s16 (f_X6_settle_49 c86 n x12 x13 x14 x15 s16) := by
  intro n
  induction n with
  | zero => intro _ _ _ _ _; exact ze_none
  | succ n ih =>
    intro x12 x13 x14 x15 s16
    rw [f_X6_settle_49]
    refine ze_iload h dX6_settle_49 rfl ?_
    refine ze_aload_n h dX6_settle_51 rfl ?_
    refine ze_getR h zl_0 rfl zf_X6_54 dX6_settle_52 ?_
    refine ze_getI h zl_9 rfl zf_X6_79 dX6_settle_55 ?_
    refine ze_icmp_ge h 86 dX6_settle_58 (by decide) ?_ ?_
    · refine zE_weak h [false, true, true, true, false, false] rfl ?_
      exact hc86 x12 x13 x14 s16
    · refine ze_aload_n h dX6_settle_61 rfl ?_
      refine ze_callVi h (st := []) zce_X6_payOnce zi_X6_payOnce zs_X6_payOnce zm_X6_204 zl_0 rfl rfl (Nat.le_of_ble_eq_true rfl) zkn (c_X6_payOnce l  s16) rfl (Nat.le_of_ble_eq_true rfl) rfl dX6_settle_62 (fun r17 s18 => ?_)
      refine ze_istore h [some (.ref 0), some (.int x12), some (.int x13), some (.int x14), some (.int x15), some (.int r17)] dX6_settle_65 rfl (by decide) rfl ?_
      refine ze_iload h dX6_settle_67 rfl ?_
      refine ze_if_le h 80 dX6_settle_69 (by decide) ?_ ?_
      · refine ze_iincN h (fun y9 => [some (.ref 0), some (.int x12), some (.int x13), some (.int x14), some (.int y9), some (.int r17)]) 1 dX6_settle_80 rfl zk_i_1 rfl (by decide) (fun _ => rfl) (fun x19 => ?_)
        refine ze_goto h 49 dX6_settle_83 (by decide) ?_
        refine zE_weak h [true, true, true, true, true, false] rfl ?_
        exact ih x12 x13 x14 x19 s18
      · refine ze_iincN h (fun y9 => [some (.ref 0), some (.int x12), some (.int y9), some (.int x14), some (.int x15), some (.int r17)]) 1 dX6_settle_72 rfl zk_i_1 rfl (by decide) (fun _ => rfl) (fun x20 => ?_)
        refine ze_iload_n h dX6_settle_75 rfl ?_
        refine ze_iload h dX6_settle_76 rfl ?_
        refine ze_iadd h dX6_settle_78 ?_
        refine ze_nmI (fun x21 => ?_)
        refine ze_istore_n h [some (.ref 0), some (.int x12), some (.int x20), some (.int x21), some (.int x15), some (.int r17)] dX6_settle_79 rfl (by decide) rfl ?_
        refine ze_iincN h (fun y9 => [some (.ref 0), some (.int x12), some (.int x20), some (.int x21), some (.int y9), some (.int r17)]) 1 dX6_settle_80 rfl zk_i_1 rfl (by decide) (fun _ => rfl) (fun x22 => ?_)
        refine ze_goto h 49 dX6_settle_83 (by decide) ?_
        refine zE_weak h [true, true, true, true, true, false] rfl ?_
        exact ih x12 x20 x21 x22 s18
set_option maxRecDepth 20000 in
theorem c_X6_settle (l : Launch)  (p1 : Int32) (s0 : zMem) : zC l yX6_settle (.code yX6_settle cX6_settle 6 (some .int)) 4 [.ref 0, .int p1] zFull s0 (fun r : Int32 => some (.int r)) (f_X6_settle p1 s0) := by
  refine zC_of (own := RX6) rfl rfl (Nat.le_of_ble_eq_true rfl) [some (.ref 0), some (.int p1), none, none, none, none] rfl (fun G T h hR => ?_)
  unfold f_X6_settle
  refine ze_iload_n h dX6_settle_0 rfl ?_
  refine ze_iconst h 0 dX6_settle_1 zk_i_0 ?_
  refine ze_iconst h 1 dX6_settle_2 zk_i_1 ?_
  refine ze_callSi h (st := []) zce_X6_isFromTo zt_X6_isFromTo zm_X6_101 (Nat.le_of_ble_eq_true rfl) zkn (c_X6_isFromTo l zFull p1 0 1 s0) rfl (Nat.le_of_ble_eq_true rfl) rfl dX6_settle_3 (fun r1 s2 => ?_)
  refine ze_if_ne h 12 dX6_settle_6 (by decide) ?_ ?_
  · refine ze_iconst h 0 dX6_settle_12 zk_i_0 ?_
    refine ze_istore_n h [some (.ref 0), some (.int p1), some (.int 0), none, none, none] dX6_settle_13 rfl (by decide) rfl ?_
    refine e_X6_settle_14 h hR _ ?_ zN p1 0 s2
    · intro x10 s11
      refine ze_iconst h 0 dX6_settle_42 zk_i_0 ?_
      refine ze_istore_n h [some (.ref 0), some (.int x10), some (.int 0), none, none, none] dX6_settle_43 rfl (by decide) rfl ?_
      refine ze_iconst h 0 dX6_settle_44 zk_i_0 ?_
      refine ze_istore_n h [some (.ref 0), some (.int x10), some (.int 0), some (.int 0), none, none] dX6_settle_45 rfl (by decide) rfl ?_
      refine ze_iconst h 0 dX6_settle_46 zk_i_0 ?_
      refine ze_istore h [some (.ref 0), some (.int x10), some (.int 0), some (.int 0), some (.int 0), none] dX6_settle_47 rfl (by decide) rfl ?_
      refine e_X6_settle_49 h hR _ ?_ zN x10 0 0 0 s11
      · intro x23 x24 x25 s26
        refine ze_iload_n h dX6_settle_86 rfl ?_
        refine ze_if_ne h 94 dX6_settle_87 (by decide) ?_ ?_
        · refine ze_iload_n h dX6_settle_94 rfl ?_
          exact ze_iret hR dX6_settle_95
        · refine ze_iload_n h dX6_settle_90 rfl ?_
          refine ze_goto h 95 dX6_settle_91 (by decide) ?_
          exact ze_iret hR dX6_settle_95
  · refine ze_bipush h (-2) dX6_settle_9 zk_b_m2 ?_
    exact ze_iret hR dX6_settle_11
set_option maxRecDepth 20000 in
theorem c_X6_source (l : Launch)  (p1 : Int32) (s0 : zMem) : zC l yX6_source (.code yX6_source cX6_source 2 (some .int)) 3 [.ref 0, .int p1] zFull s0 (fun r : Int32 => some (.int r)) (f_X6_source p1 s0) := by
  refine zC_of (own := RX6) rfl rfl (Nat.le_of_ble_eq_true rfl) [some (.ref 0), some (.int p1)] rfl (fun G T h hR => ?_)
  unfold f_X6_source
  refine ze_aload_n h dX6_source_0 rfl ?_
  refine ze_getR h zl_0 rfl zf_X6_54 dX6_source_1 ?_
  refine ze_iload_n h dX6_source_4 rfl ?_
  refine ze_callVi h (st := []) zce_X5_isHut zi_X5_isHut zs_X5_isHut zm_X6_109 zl_9 rfl rfl (Nat.le_of_ble_eq_true rfl) zkn (c_X5_isHut l zIsW_9 p1 s0) rfl (Nat.le_of_ble_eq_true rfl) rfl dX6_source_5 (fun r1 s2 => ?_)
  refine ze_if_eq h 22 dX6_source_8 (by decide) ?_ ?_
  · refine ze_bipush h (-5) dX6_source_22 zk_b_m5 ?_
    exact ze_iret hR dX6_source_24
  · refine ze_aload_n h dX6_source_11 rfl ?_
    refine ze_getR h zl_0 rfl zf_X6_54 dX6_source_12 ?_
    refine ze_iload_n h dX6_source_15 rfl ?_
    refine ze_callVi h (st := []) zce_X5_sourceOf zi_X5_sourceOf zs_X5_sourceOf zm_X6_212 zl_9 rfl rfl (Nat.le_of_ble_eq_true rfl) zkn (c_X5_sourceOf l zIsW_9 p1 s2) rfl (Nat.le_of_ble_eq_true rfl) rfl dX6_source_16 (fun r3 s4 => ?_)
    refine ze_goto h 24 dX6_source_19 (by decide) ?_
    exact ze_iret hR dX6_source_24
set_option maxRecDepth 20000 in
theorem e_X6_rings_16 {l : Launch} {G : zGT} {T : Option Value × zMem} (h : zOk G l cX6_rings RX6 6 3 0 0 false) (hR : zR G cX6_rings (some .int) T zFull 0 0)   : ∀ (n : Nat) (x3 : Int32) (x4 : Int32) (x5 : Int32) (s6 : zMem), zE G T (fun r : Int32 => some (.int r)) zFull 0 0 16 [some (.ref 0), some (.int x3), some (.int x4), some (.int x5), none, none] [] s6 (f_X6_rings_16 n x3 x4 x5 s6) := by
  intro n
  induction n with
  | zero => intro _ _ _ _; exact ze_none
  | succ n ih =>
    intro x3 x4 x5 s6
    rw [f_X6_rings_16]
    refine ze_iload_n h dX6_rings_16 rfl ?_
    refine ze_aload_n h dX6_rings_17 rfl ?_
    refine ze_getR h zl_0 rfl zf_X6_54 dX6_rings_18 ?_
    refine ze_getI h zl_9 rfl zf_X6_79 dX6_rings_21 ?_
    refine ze_icmp_ge h 90 dX6_rings_24 (by decide) ?_ ?_
    · refine ze_iload_n h dX6_rings_90 rfl ?_
      exact ze_iret hR dX6_rings_91
    · refine ze_aload_n h dX6_rings_27 rfl ?_
      refine ze_getR h zl_0 rfl zf_X6_54 dX6_rings_28 ?_
      refine ze_iload_n h dX6_rings_31 rfl ?_
      refine ze_callVi h (st := []) zce_X5_sourceOf zi_X5_sourceOf zs_X5_sourceOf zm_X6_212 zl_9 rfl rfl (Nat.le_of_ble_eq_true rfl) zkn (c_X5_sourceOf l zIsW_9 x5 s6) rfl (Nat.le_of_ble_eq_true rfl) rfl dX6_rings_32 (fun r7 s8 => ?_)
      refine ze_istore h [some (.ref 0), some (.int x3), some (.int x4), some (.int x5), some (.int r7), none] dX6_rings_35 rfl (by decide) rfl ?_
      refine ze_iload_n h dX6_rings_37 rfl ?_
      refine ze_if_ne h 50 dX6_rings_38 (by decide) ?_ ?_
      · refine ze_iload h dX6_rings_50 rfl ?_
        refine ze_if_ne h 70 dX6_rings_52 (by decide) ?_ ?_
        · refine ze_iconst h 0 dX6_rings_70 zk_i_0 ?_
          refine ze_istore h [some (.ref 0), some (.int x3), some (.int x4), some (.int x5), some (.int r7), some (.int 0)] dX6_rings_71 rfl (by decide) rfl ?_
          refine ze_iload h dX6_rings_73 rfl ?_
          refine ze_if_eqT h 84 dX6_rings_75 (by decide) (by decide) ?_
          refine ze_iincN h (fun y9 => [some (.ref 0), some (.int x3), some (.int x4), some (.int y9), some (.int r7), some (.int 0)]) 1 dX6_rings_84 rfl zk_i_1 rfl (by decide) (fun _ => rfl) (fun x9 => ?_)
          refine ze_goto h 16 dX6_rings_87 (by decide) ?_
          refine zE_weak h [true, true, true, true, false, false] rfl ?_
          exact ih x3 x4 x9 s8
        · refine ze_aload_n h dX6_rings_55 rfl ?_
          refine ze_getR h zl_0 rfl zf_X6_54 dX6_rings_56 ?_
          refine ze_iload_n h dX6_rings_59 rfl ?_
          refine ze_callVi h (st := []) zce_X5_loansFrom zi_X5_loansFrom zs_X5_loansFrom zm_X6_143 zl_9 rfl rfl (Nat.le_of_ble_eq_true rfl) zkn (c_X5_loansFrom l zIsW_9 x5 s8) rfl (Nat.le_of_ble_eq_true rfl) rfl dX6_rings_60 (fun r10 s11 => ?_)
          refine ze_if_le h 70 dX6_rings_63 (by decide) ?_ ?_
          · refine ze_iconst h 0 dX6_rings_70 zk_i_0 ?_
            refine ze_istore h [some (.ref 0), some (.int x3), some (.int x4), some (.int x5), some (.int r7), some (.int 0)] dX6_rings_71 rfl (by decide) rfl ?_
            refine ze_iload h dX6_rings_73 rfl ?_
            refine ze_if_eqT h 84 dX6_rings_75 (by decide) (by decide) ?_
            refine ze_iincN h (fun y9 => [some (.ref 0), some (.int x3), some (.int x4), some (.int y9), some (.int r7), some (.int 0)]) 1 dX6_rings_84 rfl zk_i_1 rfl (by decide) (fun _ => rfl) (fun x12 => ?_)
            refine ze_goto h 16 dX6_rings_87 (by decide) ?_
            refine zE_weak h [true, true, true, true, false, false] rfl ?_
            exact ih x3 x4 x12 s11
          · refine ze_iconst h 1 dX6_rings_66 zk_i_1 ?_
            refine ze_goto h 71 dX6_rings_67 (by decide) ?_
            refine ze_istore h [some (.ref 0), some (.int x3), some (.int x4), some (.int x5), some (.int r7), some (.int 1)] dX6_rings_71 rfl (by decide) rfl ?_
            refine ze_iload h dX6_rings_73 rfl ?_
            refine ze_if_eqF h 84 dX6_rings_75 (by decide) (by decide) ?_
            refine ze_iload_n h dX6_rings_78 rfl ?_
            refine ze_iconst h 1 dX6_rings_79 zk_i_1 ?_
            refine ze_iload_n h dX6_rings_80 rfl ?_
            refine ze_ishl h dX6_rings_81 ?_
            refine ze_ior h dX6_rings_82 ?_
            refine ze_nmI (fun x13 => ?_)
            refine ze_istore_n h [some (.ref 0), some (.int x3), some (.int x13), some (.int x5), some (.int r7), some (.int 1)] dX6_rings_83 rfl (by decide) rfl ?_
            refine ze_iincN h (fun y9 => [some (.ref 0), some (.int x3), some (.int x13), some (.int y9), some (.int r7), some (.int 1)]) 1 dX6_rings_84 rfl zk_i_1 rfl (by decide) (fun _ => rfl) (fun x14 => ?_)
            refine ze_goto h 16 dX6_rings_87 (by decide) ?_
            refine zE_weak h [true, true, true, true, false, false] rfl ?_
            exact ih x3 x13 x14 s11
      · refine ze_iload h dX6_rings_41 rfl ?_
        refine ze_iload_n h dX6_rings_43 rfl ?_
        refine ze_callSi h (st := []) zce_X6_has zt_X6_has zm_X6_197 (Nat.le_of_ble_eq_true rfl) zkn (c_X6_has l zFull r7 x5 s8) rfl (Nat.le_of_ble_eq_true rfl) rfl dX6_rings_44 (fun r15 s16 => ?_)
        refine ze_goto h 71 dX6_rings_47 (by decide) ?_
        refine ze_istore h [some (.ref 0), some (.int x3), some (.int x4), some (.int x5), some (.int r7), some (.int r15)] dX6_rings_71 rfl (by decide) rfl ?_
        refine ze_iload h dX6_rings_73 rfl ?_
        refine ze_if_eq h 84 dX6_rings_75 (by decide) ?_ ?_
        · refine ze_iincN h (fun y9 => [some (.ref 0), some (.int x3), some (.int x4), some (.int y9), some (.int r7), some (.int r15)]) 1 dX6_rings_84 rfl zk_i_1 rfl (by decide) (fun _ => rfl) (fun x17 => ?_)
          refine ze_goto h 16 dX6_rings_87 (by decide) ?_
          refine zE_weak h [true, true, true, true, false, false] rfl ?_
          exact ih x3 x4 x17 s16
        · refine ze_iload_n h dX6_rings_78 rfl ?_
          refine ze_iconst h 1 dX6_rings_79 zk_i_1 ?_
          refine ze_iload_n h dX6_rings_80 rfl ?_
          refine ze_ishl h dX6_rings_81 ?_
          refine ze_ior h dX6_rings_82 ?_
          refine ze_nmI (fun x18 => ?_)
          refine ze_istore_n h [some (.ref 0), some (.int x3), some (.int x18), some (.int x5), some (.int r7), some (.int r15)] dX6_rings_83 rfl (by decide) rfl ?_
          refine ze_iincN h (fun y9 => [some (.ref 0), some (.int x3), some (.int x18), some (.int y9), some (.int r7), some (.int r15)]) 1 dX6_rings_84 rfl zk_i_1 rfl (by decide) (fun _ => rfl) (fun x19 => ?_)
          refine ze_goto h 16 dX6_rings_87 (by decide) ?_
          refine zE_weak h [true, true, true, true, false, false] rfl ?_
          exact ih x3 x18 x19 s16
set_option maxRecDepth 20000 in
theorem c_X6_rings (l : Launch)  (p1 : Int32) (s0 : zMem) : zC l yX6_rings (.code yX6_rings cX6_rings 6 (some .int)) 3 [.ref 0, .int p1] zFull s0 (fun r : Int32 => some (.int r)) (f_X6_rings p1 s0) := by
  refine zC_of (own := RX6) rfl rfl (Nat.le_of_ble_eq_true rfl) [some (.ref 0), some (.int p1), none, none, none, none] rfl (fun G T h hR => ?_)
  unfold f_X6_rings
  refine ze_iload_n h dX6_rings_0 rfl ?_
  refine ze_iconst h 0 dX6_rings_1 zk_i_0 ?_
  refine ze_iconst h 1 dX6_rings_2 zk_i_1 ?_
  refine ze_callSi h (st := []) zce_X6_isFromTo zt_X6_isFromTo zm_X6_101 (Nat.le_of_ble_eq_true rfl) zkn (c_X6_isFromTo l zFull p1 0 1 s0) rfl (Nat.le_of_ble_eq_true rfl) rfl dX6_rings_3 (fun r1 s2 => ?_)
  refine ze_if_ne h 12 dX6_rings_6 (by decide) ?_ ?_
  · refine ze_iconst h 0 dX6_rings_12 zk_i_0 ?_
    refine ze_istore_n h [some (.ref 0), some (.int p1), some (.int 0), none, none, none] dX6_rings_13 rfl (by decide) rfl ?_
    refine ze_iconst h 0 dX6_rings_14 zk_i_0 ?_
    refine ze_istore_n h [some (.ref 0), some (.int p1), some (.int 0), some (.int 0), none, none] dX6_rings_15 rfl (by decide) rfl ?_
    exact e_X6_rings_16 h hR  zN p1 0 0 s2
  · refine ze_bipush h (-2) dX6_rings_9 zk_b_m2 ?_
    exact ze_iret hR dX6_rings_11
set_option maxRecDepth 20000 in
theorem c_X6_heatIfLent (l : Launch)  (p1 : Int32) (p2 : Int32) (p3 : Int32) (s0 : zMem) : zC l yX6_heatIfLent (.code yX6_heatIfLent cX6_heatIfLent 6 (some .int)) 7 [.ref 0, .int p1, .int p2, .int p3] zFull s0 (fun r : Int32 => some (.int r)) (f_X6_heatIfLent p1 p2 p3 s0) := by
  refine zC_of (own := RX6) rfl rfl (Nat.le_of_ble_eq_true rfl) [some (.ref 0), some (.int p1), some (.int p2), some (.int p3), none, none] rfl (fun G T h hR => ?_)
  unfold f_X6_heatIfLent
  refine ze_aload_n h dX6_heatIfLent_0 rfl ?_
  refine ze_callVu h (st := []) zce_X6_think zi_X6_think zs_X6_think zm_X6_181 zl_0 rfl rfl (Nat.le_of_ble_eq_true rfl) zkn (c_X6_think l  s0) rfl (Nat.le_of_ble_eq_true rfl) rfl dX6_heatIfLent_1 (fun _ s2 => ?_)
  refine ze_astore h [some (.ref 0), some (.int p1), some (.int p2), some (.int p3), some (.ref 20), none] dX6_heatIfLent_4 rfl (by decide) rfl ?_
  refine ze_iload_n h dX6_heatIfLent_6 rfl ?_
  refine ze_bipush h 100 dX6_heatIfLent_7 zk_b_100 ?_
  refine ze_irem h dX6_heatIfLent_9 (by decide) ?_
  refine ze_nmI (fun x3 => ?_)
  refine ze_istore h [some (.ref 0), some (.int p1), some (.int p2), some (.int p3), some (.ref 20), some (.int x3)] dX6_heatIfLent_10 rfl (by decide) rfl ?_
  refine ze_iload_n h dX6_heatIfLent_12 rfl ?_
  refine ze_iload_n h dX6_heatIfLent_13 rfl ?_
  refine ze_icmp_eq h 33 dX6_heatIfLent_14 (by decide) ?_ ?_
  · refine ze_iconst h (-1) dX6_heatIfLent_33 zk_i_m1 ?_
    exact ze_iret hR dX6_heatIfLent_34
  · refine ze_aload h dX6_heatIfLent_17 rfl ?_
    refine ze_iload_n h dX6_heatIfLent_19 rfl ?_
    refine ze_iload_n h dX6_heatIfLent_20 rfl ?_
    refine ze_iload_n h dX6_heatIfLent_21 rfl ?_
    refine ze_bipush h 100 dX6_heatIfLent_22 zk_b_100 ?_
    refine ze_idiv h dX6_heatIfLent_24 (by decide) ?_
    refine ze_iload h dX6_heatIfLent_25 rfl ?_
    refine ze_callVi h (st := []) zce_X5_lends zi_X5_lends zs_X5_lends zm_X6_150 zl_20 rfl rfl (Nat.le_of_ble_eq_true rfl) zkn (c_X5_lends l zIsW_20 p1 p2 (p3 / 100) x3 s2) rfl (Nat.le_of_ble_eq_true rfl) rfl dX6_heatIfLent_27 (fun r4 s5 => ?_)
    refine ze_if_ge h 35 dX6_heatIfLent_30 (by decide) ?_ ?_
    · refine ze_aload h dX6_heatIfLent_35 rfl ?_
      refine ze_iload h dX6_heatIfLent_37 rfl ?_
      refine ze_iconst h 1 dX6_heatIfLent_39 zk_i_1 ?_
      refine ze_iadd h dX6_heatIfLent_40 ?_
      refine ze_callVi h (st := []) zce_X5_passNights zi_X5_passNights zs_X5_passNights zm_X6_185 zl_20 rfl rfl (Nat.le_of_ble_eq_true rfl) zkn (c_X5_passNights l zIsW_20 (x3 + 1) s5) rfl (Nat.le_of_ble_eq_true rfl) rfl dX6_heatIfLent_41 (fun r6 s7 => ?_)
      refine ze_pop h dX6_heatIfLent_44 rfl ?_
      refine ze_aload h dX6_heatIfLent_45 rfl ?_
      refine ze_callVi h (st := []) zce_X5_heatOfAll zi_X5_heatOfAll zs_X5_heatOfAll zm_X6_89 zl_20 rfl rfl (Nat.le_of_ble_eq_true rfl) zkn (c_X5_heatOfAll l zIsW_20 s7) rfl (Nat.le_of_ble_eq_true rfl) rfl dX6_heatIfLent_47 (fun r8 s9 => ?_)
      exact ze_iret hR dX6_heatIfLent_50
    · refine ze_iconst h (-1) dX6_heatIfLent_33 zk_i_m1 ?_
      exact ze_iret hR dX6_heatIfLent_34
set_option maxRecDepth 20000 in
theorem e_X6_ask_44 {l : Launch} {G : zGT} {T : Option Value × zMem} (h : zOk G l cX6_ask RX6 8 8 0 0 false) (hR : zR G cX6_ask (some .int) T zFull 0 0)  (c87 : Int32 → Int32 → Int32 → zMem → Option (Int32 × zMem)) (hc87 : ∀ (y1 : Int32) (y2 : Int32) (y3 : Int32) (s9 : zMem), zE G T (fun r : Int32 => some (.int r)) zFull 0 0 87 [none, none, none, some (.int y1), some (.int y2), some (.int y3), none, none] [] s9 (c87 y1 y2 y3 s9)) : ∀ (n : Nat) (x7 : Int32) (x8 : Int32) (x9 : Int32) (x10 : Int32) (x11 : Int32) (x12 : Int32) (s13 : zMem), zE G T (fun r : Int32 => some (.int r)) zFull 0 0 44 [some (.ref 0), some (.int x7), some (.int x8), some (.int x9), some (.int x10), some (.int x11), some (.int x12), none] [] s13 (f_X6_ask_44 c87 n x7 x8 x9 x10 x11 x12 s13) := by
  intro n
  induction n with
  | zero => intro _ _ _ _ _ _ _; exact ze_none
  | succ n ih =>
    intro x7 x8 x9 x10 x11 x12 s13
    rw [f_X6_ask_44]
    refine ze_iload h dX6_ask_44 rfl ?_
    refine ze_aload_n h dX6_ask_46 rfl ?_
    refine ze_getR h zl_0 rfl zf_X6_54 dX6_ask_47 ?_
    refine ze_getI h zl_9 rfl zf_X6_79 dX6_ask_50 ?_
    refine ze_icmp_ge h 87 dX6_ask_53 (by decide) ?_ ?_
    · refine zE_weak h [false, false, false, true, true, true, false, false] rfl ?_
      exact hc87 x9 x10 x11 s13
    · refine ze_aload_n h dX6_ask_56 rfl ?_
      refine ze_iload h dX6_ask_57 rfl ?_
      refine ze_iload_n h dX6_ask_59 rfl ?_
      refine ze_iload_n h dX6_ask_60 rfl ?_
      refine ze_callVi h (st := []) zce_X6_heatIfLent zi_X6_heatIfLent zs_X6_heatIfLent zm_X6_215 zl_0 rfl rfl (Nat.le_of_ble_eq_true rfl) zkn (c_X6_heatIfLent l  x12 x7 x8 s13) rfl (Nat.le_of_ble_eq_true rfl) rfl dX6_ask_61 (fun r14 s15 => ?_)
      refine ze_istore h [some (.ref 0), some (.int x7), some (.int x8), some (.int x9), some (.int x10), some (.int x11), some (.int x12), some (.int r14)] dX6_ask_64 rfl (by decide) rfl ?_
      refine ze_iload h dX6_ask_66 rfl ?_
      refine ze_iload h dX6_ask_68 rfl ?_
      refine ze_icmp_le h 81 dX6_ask_70 (by decide) ?_ ?_
      · refine ze_iincN h (fun y9 => [some (.ref 0), some (.int x7), some (.int x8), some (.int x9), some (.int x10), some (.int x11), some (.int y9), some (.int r14)]) 1 dX6_ask_81 rfl zk_i_1 rfl (by decide) (fun _ => rfl) (fun x16 => ?_)
        refine ze_goto h 44 dX6_ask_84 (by decide) ?_
        refine zE_weak h [true, true, true, true, true, true, true, false] rfl ?_
        exact ih x7 x8 x9 x10 x11 x16 s15
      · refine ze_iload h dX6_ask_73 rfl ?_
        refine ze_istore h [some (.ref 0), some (.int x7), some (.int x8), some (.int x9), some (.int x10), some (.int r14), some (.int x12), some (.int r14)] dX6_ask_75 rfl (by decide) rfl ?_
        refine ze_iload h dX6_ask_77 rfl ?_
        refine ze_istore h [some (.ref 0), some (.int x7), some (.int x8), some (.int x9), some (.int x12), some (.int r14), some (.int x12), some (.int r14)] dX6_ask_79 rfl (by decide) rfl ?_
        refine ze_iincN h (fun y9 => [some (.ref 0), some (.int x7), some (.int x8), some (.int x9), some (.int x12), some (.int r14), some (.int y9), some (.int r14)]) 1 dX6_ask_81 rfl zk_i_1 rfl (by decide) (fun _ => rfl) (fun x17 => ?_)
        refine ze_goto h 44 dX6_ask_84 (by decide) ?_
        refine zE_weak h [true, true, true, true, true, true, true, false] rfl ?_
        exact ih x7 x8 x9 x12 r14 x17 s15
set_option maxRecDepth 20000 in
theorem c_X6_ask (l : Launch)  (p1 : Int32) (p2 : Int32) (p3 : Int32) (s0 : zMem) : zC l yX6_ask (.code yX6_ask cX6_ask 8 (some .int)) 8 [.ref 0, .int p1, .int p2, .int p3] zFull s0 (fun r : Int32 => some (.int r)) (f_X6_ask p1 p2 p3 s0) := by
  refine zC_of (own := RX6) rfl rfl (Nat.le_of_ble_eq_true rfl) [some (.ref 0), some (.int p1), some (.int p2), some (.int p3), none, none, none, none] rfl (fun G T h hR => ?_)
  unfold f_X6_ask
  refine ze_aload_n h dX6_ask_0 rfl ?_
  refine ze_getR h zl_0 rfl zf_X6_54 dX6_ask_1 ?_
  refine ze_iload_n h dX6_ask_4 rfl ?_
  refine ze_callVi h (st := []) zce_X5_isHut zi_X5_isHut zs_X5_isHut zm_X6_109 zl_9 rfl rfl (Nat.le_of_ble_eq_true rfl) zkn (c_X5_isHut l zIsW_9 p1 s0) rfl (Nat.le_of_ble_eq_true rfl) rfl dX6_ask_5 (fun r1 s2 => ?_)
  refine ze_if_ne h 14 dX6_ask_8 (by decide) ?_ ?_
  · refine ze_iload_n h dX6_ask_14 rfl ?_
    refine ze_bipush h 39 dX6_ask_15 zk_b_39 ?_
    refine ze_callSi h (st := []) zce_X6_isCoalNights zt_X6_isCoalNights zm_X6_146 (Nat.le_of_ble_eq_true rfl) zkn (c_X6_isCoalNights l zFull p2 39 s2) rfl (Nat.le_of_ble_eq_true rfl) rfl dX6_ask_17 (fun r3 s4 => ?_)
    refine ze_if_eq h 32 dX6_ask_20 (by decide) ?_ ?_
    · refine ze_bipush h (-7) dX6_ask_32 zk_b_m7 ?_
      exact ze_iret hR dX6_ask_34
    · refine ze_iload_n h dX6_ask_23 rfl ?_
      refine ze_iconst h 0 dX6_ask_24 zk_i_0 ?_
      refine ze_iconst h 1 dX6_ask_25 zk_i_1 ?_
      refine ze_callSi h (st := []) zce_X6_isFromTo zt_X6_isFromTo zm_X6_101 (Nat.le_of_ble_eq_true rfl) zkn (c_X6_isFromTo l zFull p3 0 1 s4) rfl (Nat.le_of_ble_eq_true rfl) rfl dX6_ask_26 (fun r5 s6 => ?_)
      refine ze_if_ne h 35 dX6_ask_29 (by decide) ?_ ?_
      · refine ze_iconst h (-1) dX6_ask_35 zk_i_m1 ?_
        refine ze_istore h [some (.ref 0), some (.int p1), some (.int p2), some (.int p3), some (.int (-1)), none, none, none] dX6_ask_36 rfl (by decide) rfl ?_
        refine ze_iconst h (-1) dX6_ask_38 zk_i_m1 ?_
        refine ze_istore h [some (.ref 0), some (.int p1), some (.int p2), some (.int p3), some (.int (-1)), some (.int (-1)), none, none] dX6_ask_39 rfl (by decide) rfl ?_
        refine ze_iconst h 0 dX6_ask_41 zk_i_0 ?_
        refine ze_istore h [some (.ref 0), some (.int p1), some (.int p2), some (.int p3), some (.int (-1)), some (.int (-1)), some (.int 0), none] dX6_ask_42 rfl (by decide) rfl ?_
        refine e_X6_ask_44 h hR _ ?_ zN p1 p2 p3 (-1) (-1) 0 s6
        · intro x18 x19 x20 s21
          refine ze_iload_n h dX6_ask_87 rfl ?_
          refine ze_if_ne h 96 dX6_ask_88 (by decide) ?_ ?_
          · refine ze_iload h dX6_ask_96 rfl ?_
            exact ze_iret hR dX6_ask_98
          · refine ze_iload h dX6_ask_91 rfl ?_
            refine ze_goto h 98 dX6_ask_93 (by decide) ?_
            exact ze_iret hR dX6_ask_98
      · refine ze_bipush h (-7) dX6_ask_32 zk_b_m7 ?_
        exact ze_iret hR dX6_ask_34
  · refine ze_bipush h (-5) dX6_ask_11 zk_b_m5 ?_
    exact ze_iret hR dX6_ask_13
set_option maxRecDepth 20000 in
theorem e_X6_needs_29 {l : Launch} {G : zGT} {T : Option Value × zMem} (h : zOk G l cX6_needs RX6 5 7 0 0 false) (hR : zR G cX6_needs (some .int) T zFull 0 0)   : ∀ (n : Nat) (x5 : Int32) (x6 : Int32) (x7 : Int32) (s8 : zMem), zE G T (fun r : Int32 => some (.int r)) zFull 0 0 29 [some (.ref 0), some (.int x5), some (.int x6), some (.int x7), none] [] s8 (f_X6_needs_29 n x5 x6 x7 s8) := by
  intro n
  induction n with
  | zero => intro _ _ _ _; exact ze_none
  | succ n ih =>
    intro x5 x6 x7 s8
    rw [f_X6_needs_29]
    refine ze_iload_n h dX6_needs_29 rfl ?_
    refine ze_bipush h 99 dX6_needs_30 zk_b_99 ?_
    refine ze_icmp_gt h 70 dX6_needs_32 (by decide) ?_ ?_
    · refine ze_iconst h (-1) dX6_needs_70 zk_i_m1 ?_
      exact ze_iret hR dX6_needs_71
    · refine ze_aload_n h dX6_needs_35 rfl ?_
      refine ze_callVu h (st := []) zce_X6_think zi_X6_think zs_X6_think zm_X6_181 zl_0 rfl rfl (Nat.le_of_ble_eq_true rfl) zkn (c_X6_think l  s8) rfl (Nat.le_of_ble_eq_true rfl) rfl dX6_needs_36 (fun _ s10 => ?_)
      refine ze_astore h [some (.ref 0), some (.int x5), some (.int x6), some (.int x7), some (.ref 20)] dX6_needs_39 rfl (by decide) rfl ?_
      refine ze_aload h dX6_needs_41 rfl ?_
      refine ze_getR h zl_20 rfl zf_X6_218 dX6_needs_43 ?_
      refine ze_iload_n h dX6_needs_46 rfl ?_
      refine ze_iload_n h dX6_needs_47 rfl ?_
      refine ze_iastG h zl_22 dX6_needs_48 ?_
      refine ze_nmS (fun s11 => ?_)
      refine ze_aload h dX6_needs_49 rfl ?_
      refine ze_iload_n h dX6_needs_51 rfl ?_
      refine ze_callVi h (st := []) zce_X5_failedIn zi_X5_failedIn zs_X5_failedIn zm_X6_221 zl_20 rfl rfl (Nat.le_of_ble_eq_true rfl) zkn (c_X5_failedIn l zIsW_20 x6 s11) rfl (Nat.le_of_ble_eq_true rfl) rfl dX6_needs_52 (fun r12 s13 => ?_)
      refine ze_iload_n h dX6_needs_55 rfl ?_
      refine ze_callSi h (st := []) zce_X6_has zt_X6_has zm_X6_197 (Nat.le_of_ble_eq_true rfl) zkn (c_X6_has l zFull r12 x5 s13) rfl (Nat.le_of_ble_eq_true rfl) rfl dX6_needs_56 (fun r14 s15 => ?_)
      refine ze_pc 59 rfl ?_
      refine ze_if_ne h 64 dX6_needs_59 (by decide) ?_ ?_
      · refine ze_iincN h (fun y9 => [some (.ref 0), some (.int x5), some (.int x6), some (.int y9), some (.ref 20)]) 1 dX6_needs_64 rfl zk_i_1 rfl (by decide) (fun _ => rfl) (fun x16 => ?_)
        refine ze_goto h 29 dX6_needs_67 (by decide) ?_
        refine zE_weak h [true, true, true, true, false] rfl ?_
        exact ih x5 x6 x16 s15
      · refine ze_iload_n h dX6_needs_62 rfl ?_
        exact ze_iret hR dX6_needs_63
set_option maxRecDepth 20000 in
theorem c_X6_needs (l : Launch)  (p1 : Int32) (p2 : Int32) (s0 : zMem) : zC l yX6_needs (.code yX6_needs cX6_needs 5 (some .int)) 7 [.ref 0, .int p1, .int p2] zFull s0 (fun r : Int32 => some (.int r)) (f_X6_needs p1 p2 s0) := by
  refine zC_of (own := RX6) rfl rfl (Nat.le_of_ble_eq_true rfl) [some (.ref 0), some (.int p1), some (.int p2), none, none] rfl (fun G T h hR => ?_)
  unfold f_X6_needs
  refine ze_aload_n h dX6_needs_0 rfl ?_
  refine ze_getR h zl_0 rfl zf_X6_54 dX6_needs_1 ?_
  refine ze_iload_n h dX6_needs_4 rfl ?_
  refine ze_callVi h (st := []) zce_X5_isHut zi_X5_isHut zs_X5_isHut zm_X6_109 zl_9 rfl rfl (Nat.le_of_ble_eq_true rfl) zkn (c_X5_isHut l zIsW_9 p1 s0) rfl (Nat.le_of_ble_eq_true rfl) rfl dX6_needs_5 (fun r1 s2 => ?_)
  refine ze_if_ne h 14 dX6_needs_8 (by decide) ?_ ?_
  · refine ze_iload_n h dX6_needs_14 rfl ?_
    refine ze_iconst h 0 dX6_needs_15 zk_i_0 ?_
    refine ze_bipush h 40 dX6_needs_16 zk_b_40 ?_
    refine ze_callSi h (st := []) zce_X6_isFromTo zt_X6_isFromTo zm_X6_101 (Nat.le_of_ble_eq_true rfl) zkn (c_X6_isFromTo l zFull p2 0 40 s2) rfl (Nat.le_of_ble_eq_true rfl) rfl dX6_needs_18 (fun r3 s4 => ?_)
    refine ze_if_ne h 27 dX6_needs_21 (by decide) ?_ ?_
    · refine ze_iconst h 0 dX6_needs_27 zk_i_0 ?_
      refine ze_istore_n h [some (.ref 0), some (.int p1), some (.int p2), some (.int 0), none] dX6_needs_28 rfl (by decide) rfl ?_
      exact e_X6_needs_29 h hR  zN p1 p2 0 s4
    · refine ze_bipush h (-7) dX6_needs_24 zk_b_m7 ?_
      exact ze_iret hR dX6_needs_26
  · refine ze_bipush h (-5) dX6_needs_11 zk_b_m5 ?_
    exact ze_iret hR dX6_needs_13
set_option maxRecDepth 20000 in
theorem e_X6_mercy_40 {l : Launch} {G : zGT} {T : Option Value × zMem} (h : zOk G l cX6_mercy RX6 8 7 0 0 false) (hR : zR G cX6_mercy (some .int) T zFull 0 0)  (c96 : Int32 → Int32 → Int32 → zMem → Option (Int32 × zMem)) (hc96 : ∀ (y1 : Int32) (y2 : Int32) (y3 : Int32) (s9 : zMem), zE G T (fun r : Int32 => some (.int r)) zFull 0 0 96 [none, none, some (.int y1), some (.int y2), some (.int y3), none, none, none] [] s9 (c96 y1 y2 y3 s9)) : ∀ (n : Nat) (x11 : Int32) (x12 : Int32) (x13 : Int32) (x14 : Int32) (x15 : Int32) (s16 : zMem), zE G T (fun r : Int32 => some (.int r)) zFull 0 0 40 [some (.ref 0), some (.int x11), some (.int x12), some (.int x13), some (.int x14), some (.int x15), none, none] [] s16 (f_X6_mercy_40 c96 n x11 x12 x13 x14 x15 s16) := by
  intro n
  induction n with
  | zero => intro _ _ _ _ _ _; exact ze_none
  | succ n ih =>
    intro x11 x12 x13 x14 x15 s16
    rw [f_X6_mercy_40]
    refine ze_iload h dX6_mercy_40 rfl ?_
    refine ze_aload_n h dX6_mercy_42 rfl ?_
    refine ze_getR h zl_0 rfl zf_X6_54 dX6_mercy_43 ?_
    refine ze_getI h zl_9 rfl zf_X6_83 dX6_mercy_46 ?_
    refine ze_icmp_ge h 96 dX6_mercy_49 (by decide) ?_ ?_
    · refine zE_weak h [false, false, true, true, true, false, false, false] rfl ?_
      exact hc96 x12 x13 x14 s16
    · refine ze_aload_n h dX6_mercy_52 rfl ?_
      refine ze_callVu h (st := []) zce_X6_think zi_X6_think zs_X6_think zm_X6_181 zl_0 rfl rfl (Nat.le_of_ble_eq_true rfl) zkn (c_X6_think l  s16) rfl (Nat.le_of_ble_eq_true rfl) rfl dX6_mercy_53 (fun _ s18 => ?_)
      refine ze_astore h [some (.ref 0), some (.int x11), some (.int x12), some (.int x13), some (.int x14), some (.int x15), some (.ref 20), none] dX6_mercy_56 rfl (by decide) rfl ?_
      refine ze_aload h dX6_mercy_58 rfl ?_
      refine ze_iload h dX6_mercy_60 rfl ?_
      refine ze_callVv h (st := []) zce_X5_drop zi_X5_drop zs_X5_drop zm_X6_175 zl_20 rfl rfl (Nat.le_of_ble_eq_true rfl) zkn (c_X5_drop l zIsW_20 x15 s18) rfl (Nat.le_of_ble_eq_true rfl) rfl dX6_mercy_62 (fun _ s20 => ?_)
      refine ze_aload h dX6_mercy_65 rfl ?_
      refine ze_iload_n h dX6_mercy_67 rfl ?_
      refine ze_callVi h (st := []) zce_X5_failedIn zi_X5_failedIn zs_X5_failedIn zm_X6_221 zl_20 rfl rfl (Nat.le_of_ble_eq_true rfl) zkn (c_X5_failedIn l zIsW_20 x11 s20) rfl (Nat.le_of_ble_eq_true rfl) rfl dX6_mercy_68 (fun r21 s22 => ?_)
      refine ze_callSi h (st := []) zce_J6_bitCount_0f7a4 zt_J6_bitCount_0f7a4 zm_X6_224 (Nat.le_of_ble_eq_true rfl) zkn (c_J6_bitCount_0f7a4 l zFull r21 s22) rfl (Nat.le_of_ble_eq_true rfl) rfl dX6_mercy_71 (fun r23 s24 => ?_)
      refine ze_istore h [some (.ref 0), some (.int x11), some (.int x12), some (.int x13), some (.int x14), some (.int x15), some (.ref 20), some (.int r23)] dX6_mercy_74 rfl (by decide) rfl ?_
      refine ze_iload h dX6_mercy_76 rfl ?_
      refine ze_iload h dX6_mercy_78 rfl ?_
      refine ze_pc 80 rfl ?_
      refine ze_icmp_ge h 90 dX6_mercy_80 (by decide) ?_ ?_
      · refine ze_iincN h (fun y9 => [some (.ref 0), some (.int x11), some (.int x12), some (.int x13), some (.int x14), some (.int y9), some (.ref 20), some (.int r23)]) 1 dX6_mercy_90 rfl zk_i_1 rfl (by decide) (fun _ => rfl) (fun x25 => ?_)
        refine ze_goto h 40 dX6_mercy_93 (by decide) ?_
        refine zE_weak h [true, true, true, true, true, true, false, false] rfl ?_
        exact ih x11 x12 x13 x14 x25 s24
      · refine ze_iload h dX6_mercy_83 rfl ?_
        refine ze_istore h [some (.ref 0), some (.int x11), some (.int x12), some (.int x13), some (.int r23), some (.int x15), some (.ref 20), some (.int r23)] dX6_mercy_85 rfl (by decide) rfl ?_
        refine ze_iload h dX6_mercy_87 rfl ?_
        refine ze_istore_n h [some (.ref 0), some (.int x11), some (.int x12), some (.int x15), some (.int r23), some (.int x15), some (.ref 20), some (.int r23)] dX6_mercy_89 rfl (by decide) rfl ?_
        refine ze_iincN h (fun y9 => [some (.ref 0), some (.int x11), some (.int x12), some (.int x15), some (.int r23), some (.int y9), some (.ref 20), some (.int r23)]) 1 dX6_mercy_90 rfl zk_i_1 rfl (by decide) (fun _ => rfl) (fun x26 => ?_)
        refine ze_goto h 40 dX6_mercy_93 (by decide) ?_
        refine zE_weak h [true, true, true, true, true, true, false, false] rfl ?_
        exact ih x11 x12 x15 r23 x26 s24
set_option maxRecDepth 20000 in
theorem c_X6_mercy (l : Launch)  (p1 : Int32) (p2 : Int32) (s0 : zMem) : zC l yX6_mercy (.code yX6_mercy cX6_mercy 8 (some .int)) 7 [.ref 0, .int p1, .int p2] zFull s0 (fun r : Int32 => some (.int r)) (f_X6_mercy p1 p2 s0) := by
  refine zC_of (own := RX6) rfl rfl (Nat.le_of_ble_eq_true rfl) [some (.ref 0), some (.int p1), some (.int p2), none, none, none, none, none] rfl (fun G T h hR => ?_)
  unfold f_X6_mercy
  refine ze_iload_n h dX6_mercy_0 rfl ?_
  refine ze_iconst h 0 dX6_mercy_1 zk_i_0 ?_
  refine ze_bipush h 40 dX6_mercy_2 zk_b_40 ?_
  refine ze_callSi h (st := []) zce_X6_isFromTo zt_X6_isFromTo zm_X6_101 (Nat.le_of_ble_eq_true rfl) zkn (c_X6_isFromTo l zFull p1 0 40 s0) rfl (Nat.le_of_ble_eq_true rfl) rfl dX6_mercy_4 (fun r1 s2 => ?_)
  refine ze_if_eq h 19 dX6_mercy_7 (by decide) ?_ ?_
  · refine ze_bipush h (-2) dX6_mercy_19 zk_b_m2 ?_
    exact ze_iret hR dX6_mercy_21
  · refine ze_iload_n h dX6_mercy_10 rfl ?_
    refine ze_iconst h 0 dX6_mercy_11 zk_i_0 ?_
    refine ze_iconst h 1 dX6_mercy_12 zk_i_1 ?_
    refine ze_callSi h (st := []) zce_X6_isFromTo zt_X6_isFromTo zm_X6_101 (Nat.le_of_ble_eq_true rfl) zkn (c_X6_isFromTo l zFull p2 0 1 s2) rfl (Nat.le_of_ble_eq_true rfl) rfl dX6_mercy_13 (fun r3 s4 => ?_)
    refine ze_if_ne h 22 dX6_mercy_16 (by decide) ?_ ?_
    · refine ze_iconst h (-1) dX6_mercy_22 zk_i_m1 ?_
      refine ze_istore_n h [some (.ref 0), some (.int p1), some (.int p2), some (.int (-1)), none, none, none, none] dX6_mercy_23 rfl (by decide) rfl ?_
      refine ze_aload_n h dX6_mercy_24 rfl ?_
      refine ze_callVu h (st := []) zce_X6_think zi_X6_think zs_X6_think zm_X6_181 zl_0 rfl rfl (Nat.le_of_ble_eq_true rfl) zkn (c_X6_think l  s4) rfl (Nat.le_of_ble_eq_true rfl) rfl dX6_mercy_25 (fun _ s6 => ?_)
      refine ze_iload_n h dX6_mercy_28 rfl ?_
      refine ze_callVi h (st := []) zce_X5_failedIn zi_X5_failedIn zs_X5_failedIn zm_X6_221 zl_20 rfl rfl (Nat.le_of_ble_eq_true rfl) zkn (c_X5_failedIn l zIsW_20 p1 s6) rfl (Nat.le_of_ble_eq_true rfl) rfl dX6_mercy_29 (fun r7 s8 => ?_)
      refine ze_callSi h (st := []) zce_J6_bitCount_0f7a4 zt_J6_bitCount_0f7a4 zm_X6_224 (Nat.le_of_ble_eq_true rfl) zkn (c_J6_bitCount_0f7a4 l zFull r7 s8) rfl (Nat.le_of_ble_eq_true rfl) rfl dX6_mercy_32 (fun r9 s10 => ?_)
      refine ze_istore h [some (.ref 0), some (.int p1), some (.int p2), some (.int (-1)), some (.int r9), none, none, none] dX6_mercy_35 rfl (by decide) rfl ?_
      refine ze_iconst h 0 dX6_mercy_37 zk_i_0 ?_
      refine ze_istore h [some (.ref 0), some (.int p1), some (.int p2), some (.int (-1)), some (.int r9), some (.int 0), none, none] dX6_mercy_38 rfl (by decide) rfl ?_
      refine e_X6_mercy_40 h hR _ ?_ zN p1 p2 (-1) r9 0 s10
      · intro x27 x28 x29 s30
        refine ze_iload_n h dX6_mercy_96 rfl ?_
        refine ze_if_ne h 104 dX6_mercy_97 (by decide) ?_ ?_
        · refine ze_iload h dX6_mercy_104 rfl ?_
          exact ze_iret hR dX6_mercy_106
        · refine ze_iload_n h dX6_mercy_100 rfl ?_
          refine ze_goto h 106 dX6_mercy_101 (by decide) ?_
          exact ze_iret hR dX6_mercy_106
    · refine ze_bipush h (-2) dX6_mercy_19 zk_b_m2 ?_
      exact ze_iret hR dX6_mercy_21
set_option maxRecDepth 20000 in
theorem c_X6_heatOfOthersWithout (l : Launch)  (p1 : Int32) (p2 : Int32) (s0 : zMem) : zC l yX6_heatOfOthersWithout (.code yX6_heatOfOthersWithout cX6_heatOfOthersWithout 4 (some .int)) 7 [.ref 0, .int p1, .int p2] zFull s0 (fun r : Int32 => some (.int r)) (f_X6_heatOfOthersWithout p1 p2 s0) := by
  refine zC_of (own := RX6) rfl rfl (Nat.le_of_ble_eq_true rfl) [some (.ref 0), some (.int p1), some (.int p2), none] rfl (fun G T h hR => ?_)
  unfold f_X6_heatOfOthersWithout
  refine ze_aload_n h dX6_heatOfOthersWithout_0 rfl ?_
  refine ze_callVu h (st := []) zce_X6_think zi_X6_think zs_X6_think zm_X6_181 zl_0 rfl rfl (Nat.le_of_ble_eq_true rfl) zkn (c_X6_think l  s0) rfl (Nat.le_of_ble_eq_true rfl) rfl dX6_heatOfOthersWithout_1 (fun _ s2 => ?_)
  refine ze_astore_n h [some (.ref 0), some (.int p1), some (.int p2), some (.ref 20)] dX6_heatOfOthersWithout_4 rfl (by decide) rfl ?_
  refine ze_aload_n h dX6_heatOfOthersWithout_5 rfl ?_
  refine ze_getR h zl_20 rfl zf_X6_188 dX6_heatOfOthersWithout_6 ?_
  refine ze_iload_n h dX6_heatOfOthersWithout_9 rfl ?_
  refine ze_iconst h 0 dX6_heatOfOthersWithout_10 zk_i_0 ?_
  refine ze_iastG h zl_21 dX6_heatOfOthersWithout_11 ?_
  refine ze_nmS (fun s3 => ?_)
  refine ze_aload_n h dX6_heatOfOthersWithout_12 rfl ?_
  refine ze_getR h zl_20 rfl zf_X6_218 dX6_heatOfOthersWithout_13 ?_
  refine ze_iload_n h dX6_heatOfOthersWithout_16 rfl ?_
  refine ze_iconst h 0 dX6_heatOfOthersWithout_17 zk_i_0 ?_
  refine ze_iastG h zl_22 dX6_heatOfOthersWithout_18 ?_
  refine ze_nmS (fun s4 => ?_)
  refine ze_pc 19 rfl ?_
  refine ze_aload_n h dX6_heatOfOthersWithout_19 rfl ?_
  refine ze_iload_n h dX6_heatOfOthersWithout_20 rfl ?_
  refine ze_callVi h (st := []) zce_X5_passNights zi_X5_passNights zs_X5_passNights zm_X6_185 zl_20 rfl rfl (Nat.le_of_ble_eq_true rfl) zkn (c_X5_passNights l zIsW_20 p2 s4) rfl (Nat.le_of_ble_eq_true rfl) rfl dX6_heatOfOthersWithout_21 (fun r5 s6 => ?_)
  refine ze_pop h dX6_heatOfOthersWithout_24 rfl ?_
  refine ze_aload_n h dX6_heatOfOthersWithout_25 rfl ?_
  refine ze_callVi h (st := []) zce_X5_heatOfAll zi_X5_heatOfAll zs_X5_heatOfAll zm_X6_89 zl_20 rfl rfl (Nat.le_of_ble_eq_true rfl) zkn (c_X5_heatOfAll l zIsW_20 s6) rfl (Nat.le_of_ble_eq_true rfl) rfl dX6_heatOfOthersWithout_26 (fun r7 s8 => ?_)
  refine ze_aload_n h dX6_heatOfOthersWithout_29 rfl ?_
  refine ze_getR h zl_20 rfl zf_X6_188 dX6_heatOfOthersWithout_30 ?_
  refine ze_iload_n h dX6_heatOfOthersWithout_33 rfl ?_
  refine ze_ialdG h zl_21 dX6_heatOfOthersWithout_34 ?_
  refine ze_isub h dX6_heatOfOthersWithout_35 ?_
  exact ze_iret hR dX6_heatOfOthersWithout_36
set_option maxRecDepth 20000 in
theorem e_X6_worst_30 {l : Launch} {G : zGT} {T : Option Value × zMem} (h : zOk G l cX6_worst RX6 7 8 0 0 false) (hR : zR G cX6_worst (some .int) T zFull 0 0)  (c76 : Int32 → Int32 → Int32 → zMem → Option (Int32 × zMem)) (hc76 : ∀ (y1 : Int32) (y2 : Int32) (y3 : Int32) (s9 : zMem), zE G T (fun r : Int32 => some (.int r)) zFull 0 0 76 [none, none, some (.int y1), some (.int y2), some (.int y3), none, none] [] s9 (c76 y1 y2 y3 s9)) : ∀ (n : Nat) (x5 : Int32) (x6 : Int32) (x7 : Int32) (x8 : Int32) (x9 : Int32) (s10 : zMem), zE G T (fun r : Int32 => some (.int r)) zFull 0 0 30 [some (.ref 0), some (.int x5), some (.int x6), some (.int x7), some (.int x8), some (.int x9), none] [] s10 (f_X6_worst_30 c76 n x5 x6 x7 x8 x9 s10) := by
  intro n
  induction n with
  | zero => intro _ _ _ _ _ _; exact ze_none
  | succ n ih =>
    intro x5 x6 x7 x8 x9 s10
    rw [f_X6_worst_30]
    refine ze_iload h dX6_worst_30 rfl ?_
    refine ze_aload_n h dX6_worst_32 rfl ?_
    refine ze_getR h zl_0 rfl zf_X6_54 dX6_worst_33 ?_
    refine ze_getI h zl_9 rfl zf_X6_79 dX6_worst_36 ?_
    refine ze_icmp_ge h 76 dX6_worst_39 (by decide) ?_ ?_
    · refine zE_weak h [false, false, true, true, true, false, false] rfl ?_
      exact hc76 x6 x7 x8 s10
    · refine ze_aload_n h dX6_worst_42 rfl ?_
      refine ze_iload h dX6_worst_43 rfl ?_
      refine ze_iload_n h dX6_worst_45 rfl ?_
      refine ze_callVi h (st := []) zce_X6_heatOfOthersWithout zi_X6_heatOfOthersWithout zs_X6_heatOfOthersWithout zm_X6_229 zl_0 rfl rfl (Nat.le_of_ble_eq_true rfl) zkn (c_X6_heatOfOthersWithout l  x9 x5 s10) rfl (Nat.le_of_ble_eq_true rfl) rfl dX6_worst_46 (fun r11 s12 => ?_)
      refine ze_istore h [some (.ref 0), some (.int x5), some (.int x6), some (.int x7), some (.int x8), some (.int x9), some (.int r11)] dX6_worst_49 rfl (by decide) rfl ?_
      refine ze_iload_n h dX6_worst_51 rfl ?_
      refine ze_iconst h (-1) dX6_worst_52 zk_i_m1 ?_
      refine ze_icmp_eq h 63 dX6_worst_53 (by decide) ?_ ?_
      · refine ze_iload h dX6_worst_63 rfl ?_
        refine ze_istore h [some (.ref 0), some (.int x5), some (.int x6), some (.int x7), some (.int r11), some (.int x9), some (.int r11)] dX6_worst_65 rfl (by decide) rfl ?_
        refine ze_iload h dX6_worst_67 rfl ?_
        refine ze_istore_n h [some (.ref 0), some (.int x5), some (.int x6), some (.int x9), some (.int r11), some (.int x9), some (.int r11)] dX6_worst_69 rfl (by decide) rfl ?_
        refine ze_iincN h (fun y9 => [some (.ref 0), some (.int x5), some (.int x6), some (.int x9), some (.int r11), some (.int y9), some (.int r11)]) 1 dX6_worst_70 rfl zk_i_1 rfl (by decide) (fun _ => rfl) (fun x13 => ?_)
        refine ze_goto h 30 dX6_worst_73 (by decide) ?_
        refine zE_weak h [true, true, true, true, true, true, false] rfl ?_
        exact ih x5 x6 x9 r11 x13 s12
      · refine ze_iload h dX6_worst_56 rfl ?_
        refine ze_iload h dX6_worst_58 rfl ?_
        refine ze_icmp_ge h 70 dX6_worst_60 (by decide) ?_ ?_
        · refine ze_iincN h (fun y9 => [some (.ref 0), some (.int x5), some (.int x6), some (.int x7), some (.int x8), some (.int y9), some (.int r11)]) 1 dX6_worst_70 rfl zk_i_1 rfl (by decide) (fun _ => rfl) (fun x14 => ?_)
          refine ze_goto h 30 dX6_worst_73 (by decide) ?_
          refine zE_weak h [true, true, true, true, true, true, false] rfl ?_
          exact ih x5 x6 x7 x8 x14 s12
        · refine ze_iload h dX6_worst_63 rfl ?_
          refine ze_istore h [some (.ref 0), some (.int x5), some (.int x6), some (.int x7), some (.int r11), some (.int x9), some (.int r11)] dX6_worst_65 rfl (by decide) rfl ?_
          refine ze_iload h dX6_worst_67 rfl ?_
          refine ze_istore_n h [some (.ref 0), some (.int x5), some (.int x6), some (.int x9), some (.int r11), some (.int x9), some (.int r11)] dX6_worst_69 rfl (by decide) rfl ?_
          refine ze_iincN h (fun y9 => [some (.ref 0), some (.int x5), some (.int x6), some (.int x9), some (.int r11), some (.int y9), some (.int r11)]) 1 dX6_worst_70 rfl zk_i_1 rfl (by decide) (fun _ => rfl) (fun x15 => ?_)
          refine ze_goto h 30 dX6_worst_73 (by decide) ?_
          refine zE_weak h [true, true, true, true, true, true, false] rfl ?_
          exact ih x5 x6 x9 r11 x15 s12
set_option maxRecDepth 20000 in
theorem c_X6_worst (l : Launch)  (p1 : Int32) (p2 : Int32) (s0 : zMem) : zC l yX6_worst (.code yX6_worst cX6_worst 7 (some .int)) 8 [.ref 0, .int p1, .int p2] zFull s0 (fun r : Int32 => some (.int r)) (f_X6_worst p1 p2 s0) := by
  refine zC_of (own := RX6) rfl rfl (Nat.le_of_ble_eq_true rfl) [some (.ref 0), some (.int p1), some (.int p2), none, none, none, none] rfl (fun G T h hR => ?_)
  unfold f_X6_worst
  refine ze_iload_n h dX6_worst_0 rfl ?_
  refine ze_iconst h 0 dX6_worst_1 zk_i_0 ?_
  refine ze_bipush h 40 dX6_worst_2 zk_b_40 ?_
  refine ze_callSi h (st := []) zce_X6_isFromTo zt_X6_isFromTo zm_X6_101 (Nat.le_of_ble_eq_true rfl) zkn (c_X6_isFromTo l zFull p1 0 40 s0) rfl (Nat.le_of_ble_eq_true rfl) rfl dX6_worst_4 (fun r1 s2 => ?_)
  refine ze_if_eq h 19 dX6_worst_7 (by decide) ?_ ?_
  · refine ze_bipush h (-2) dX6_worst_19 zk_b_m2 ?_
    exact ze_iret hR dX6_worst_21
  · refine ze_iload_n h dX6_worst_10 rfl ?_
    refine ze_iconst h 0 dX6_worst_11 zk_i_0 ?_
    refine ze_iconst h 1 dX6_worst_12 zk_i_1 ?_
    refine ze_callSi h (st := []) zce_X6_isFromTo zt_X6_isFromTo zm_X6_101 (Nat.le_of_ble_eq_true rfl) zkn (c_X6_isFromTo l zFull p2 0 1 s2) rfl (Nat.le_of_ble_eq_true rfl) rfl dX6_worst_13 (fun r3 s4 => ?_)
    refine ze_if_ne h 22 dX6_worst_16 (by decide) ?_ ?_
    · refine ze_iconst h (-1) dX6_worst_22 zk_i_m1 ?_
      refine ze_istore_n h [some (.ref 0), some (.int p1), some (.int p2), some (.int (-1)), none, none, none] dX6_worst_23 rfl (by decide) rfl ?_
      refine ze_iconst h (-1) dX6_worst_24 zk_i_m1 ?_
      refine ze_istore h [some (.ref 0), some (.int p1), some (.int p2), some (.int (-1)), some (.int (-1)), none, none] dX6_worst_25 rfl (by decide) rfl ?_
      refine ze_iconst h 0 dX6_worst_27 zk_i_0 ?_
      refine ze_istore h [some (.ref 0), some (.int p1), some (.int p2), some (.int (-1)), some (.int (-1)), some (.int 0), none] dX6_worst_28 rfl (by decide) rfl ?_
      refine e_X6_worst_30 h hR _ ?_ zN p1 p2 (-1) (-1) 0 s4
      · intro x16 x17 x18 s19
        refine ze_iload_n h dX6_worst_76 rfl ?_
        refine ze_if_ne h 84 dX6_worst_77 (by decide) ?_ ?_
        · refine ze_iload h dX6_worst_84 rfl ?_
          exact ze_iret hR dX6_worst_86
        · refine ze_iload_n h dX6_worst_80 rfl ?_
          refine ze_goto h 86 dX6_worst_81 (by decide) ?_
          exact ze_iret hR dX6_worst_86
    · refine ze_bipush h (-2) dX6_worst_19 zk_b_m2 ?_
      exact ze_iret hR dX6_worst_21
set_option maxRecDepth 20000 in
theorem e_X6_firstOtherwise_13 {l : Launch} {G : zGT} {T : Option Value × zMem} (h : zOk G l cX6_firstOtherwise RX6 6 6 0 0 false) (hR : zR G cX6_firstOtherwise (some .int) T zFull 0 0)   : ∀ (n : Nat) (x3 : Int32) (x4 : Int32) (x5 : Int32) (x6 : Int32) (s7 : zMem), zE G T (fun r : Int32 => some (.int r)) zFull 0 0 13 [some (.ref 0), some (.int x3), some (.ref 20), some (.int x4), some (.int x5), some (.int x6)] [] s7 (f_X6_firstOtherwise_13 n x3 x4 x5 x6 s7) := by
  intro n
  induction n with
  | zero => intro _ _ _ _ _; exact ze_none
  | succ n ih =>
    intro x3 x4 x5 x6 s7
    rw [f_X6_firstOtherwise_13]
    refine ze_iload h dX6_firstOtherwise_13 rfl ?_
    refine ze_iload h dX6_firstOtherwise_15 rfl ?_
    refine ze_icmp_ge h 53 dX6_firstOtherwise_17 (by decide) ?_ ?_
    · refine ze_iconst h (-1) dX6_firstOtherwise_53 zk_i_m1 ?_
      exact ze_iret hR dX6_firstOtherwise_54
    · refine ze_aload_n h dX6_firstOtherwise_20 rfl ?_
      refine ze_callVi h (st := []) zce_X5_passNight zi_X5_passNight zs_X5_passNight zm_X6_178 zl_20 rfl rfl (Nat.le_of_ble_eq_true rfl) zkn (c_X5_passNight l zIsW_20 s7) rfl (Nat.le_of_ble_eq_true rfl) rfl dX6_firstOtherwise_21 (fun r8 s9 => ?_)
      refine ze_pop h dX6_firstOtherwise_24 rfl ?_
      refine ze_aload_n h dX6_firstOtherwise_25 rfl ?_
      refine ze_getR h zl_20 rfl zf_X6_188 dX6_firstOtherwise_26 ?_
      refine ze_iload_n h dX6_firstOtherwise_29 rfl ?_
      refine ze_ialdG h zl_21 dX6_firstOtherwise_30 ?_
      refine ze_aload_n h dX6_firstOtherwise_31 rfl ?_
      refine ze_getR h zl_0 rfl zf_X6_67 dX6_firstOtherwise_32 ?_
      refine ze_iload_n h dX6_firstOtherwise_35 rfl ?_
      refine ze_iload h dX6_firstOtherwise_36 rfl ?_
      refine ze_callVi h (st := [.int (s9 21 (zix x4))]) zce_X3_at zi_X3_at zs_X3_at zm_X6_260 zl_42 rfl rfl (Nat.le_of_ble_eq_true rfl) zkn (c_X3_at l  x3 x6 s9) rfl (Nat.le_of_ble_eq_true rfl) rfl dX6_firstOtherwise_38 (fun r10 s11 => ?_)
      refine ze_icmp_eq h 47 dX6_firstOtherwise_41 (by decide) ?_ ?_
      · refine ze_iincN h (fun y9 => [some (.ref 0), some (.int x3), some (.ref 20), some (.int x4), some (.int x5), some (.int y9)]) 1 dX6_firstOtherwise_47 rfl zk_i_1 rfl (by decide) (fun _ => rfl) (fun x12 => ?_)
        refine ze_goto h 13 dX6_firstOtherwise_50 (by decide) ?_
        exact ih x3 x4 x5 x12 s11
      · refine ze_iload h dX6_firstOtherwise_44 rfl ?_
        exact ze_iret hR dX6_firstOtherwise_46
set_option maxRecDepth 20000 in
theorem c_X6_firstOtherwise (l : Launch)  (p1 : Int32) (p3 : Int32) (s0 : zMem) : zC l yX6_firstOtherwise (.code yX6_firstOtherwise cX6_firstOtherwise 6 (some .int)) 6 [.ref 0, .int p1, .ref 20, .int p3] zFull s0 (fun r : Int32 => some (.int r)) (f_X6_firstOtherwise p1 p3 s0) := by
  refine zC_of (own := RX6) rfl rfl (Nat.le_of_ble_eq_true rfl) [some (.ref 0), some (.int p1), some (.ref 20), some (.int p3), none, none] rfl (fun G T h hR => ?_)
  unfold f_X6_firstOtherwise
  refine ze_aload_n h dX6_firstOtherwise_0 rfl ?_
  refine ze_getR h zl_0 rfl zf_X6_67 dX6_firstOtherwise_1 ?_
  refine ze_iload_n h dX6_firstOtherwise_4 rfl ?_
  refine ze_callVi h (st := []) zce_X3_sizeOf zi_X3_sizeOf zs_X3_sizeOf zm_X6_257 zl_42 rfl rfl (Nat.le_of_ble_eq_true rfl) zkn (c_X3_sizeOf l  p1 s0) rfl (Nat.le_of_ble_eq_true rfl) rfl dX6_firstOtherwise_5 (fun r1 s2 => ?_)
  refine ze_istore h [some (.ref 0), some (.int p1), some (.ref 20), some (.int p3), some (.int r1), none] dX6_firstOtherwise_8 rfl (by decide) rfl ?_
  refine ze_iconst h 0 dX6_firstOtherwise_10 zk_i_0 ?_
  refine ze_istore h [some (.ref 0), some (.int p1), some (.ref 20), some (.int p3), some (.int r1), some (.int 0)] dX6_firstOtherwise_11 rfl (by decide) rfl ?_
  exact e_X6_firstOtherwise_13 h hR  zN p1 p3 r1 0 s2
set_option maxRecDepth 20000 in
theorem c_X6_toldRefusal (l : Launch)  (p1 : Int32) (s0 : zMem) : zC l yX6_toldRefusal (.code yX6_toldRefusal cX6_toldRefusal 2 (some .int)) 2 [.ref 0, .int p1] zFull s0 (fun r : Int32 => some (.int r)) (f_X6_toldRefusal p1 s0) := by
  refine zC_of (own := RX6) rfl rfl (Nat.le_of_ble_eq_true rfl) [some (.ref 0), some (.int p1)] rfl (fun G T h hR => ?_)
  unfold f_X6_toldRefusal
  refine ze_aload_n h dX6_toldRefusal_0 rfl ?_
  refine ze_getR h zl_0 rfl zf_X6_67 dX6_toldRefusal_1 ?_
  refine ze_iload_n h dX6_toldRefusal_4 rfl ?_
  refine ze_callVi h (st := []) zce_X3_isSheet zi_X3_isSheet zs_X3_isSheet zm_X6_248 zl_42 rfl rfl (Nat.le_of_ble_eq_true rfl) zkn (c_X3_isSheet l  p1 s0) rfl (Nat.le_of_ble_eq_true rfl) rfl dX6_toldRefusal_5 (fun r1 s2 => ?_)
  refine ze_if_ne h 14 dX6_toldRefusal_8 (by decide) ?_ ?_
  · refine ze_aload_n h dX6_toldRefusal_14 rfl ?_
    refine ze_getR h zl_0 rfl zf_X6_67 dX6_toldRefusal_15 ?_
    refine ze_iload_n h dX6_toldRefusal_18 rfl ?_
    refine ze_callVi h (st := []) zce_X3_isMissing zi_X3_isMissing zs_X3_isMissing zm_X6_263 zl_42 rfl rfl (Nat.le_of_ble_eq_true rfl) zkn (c_X3_isMissing l  p1 s2) rfl (Nat.le_of_ble_eq_true rfl) rfl dX6_toldRefusal_19 (fun r3 s4 => ?_)
    refine ze_if_eq h 28 dX6_toldRefusal_22 (by decide) ?_ ?_
    · refine ze_aload_n h dX6_toldRefusal_28 rfl ?_
      refine ze_getR h zl_0 rfl zf_X6_67 dX6_toldRefusal_29 ?_
      refine ze_iload_n h dX6_toldRefusal_32 rfl ?_
      refine ze_callVi h (st := []) zce_X3_sizeOf zi_X3_sizeOf zs_X3_sizeOf zm_X6_257 zl_42 rfl rfl (Nat.le_of_ble_eq_true rfl) zkn (c_X3_sizeOf l  p1 s4) rfl (Nat.le_of_ble_eq_true rfl) rfl dX6_toldRefusal_33 (fun r5 s6 => ?_)
      refine ze_bipush h 20 dX6_toldRefusal_36 zk_b_20 ?_
      refine ze_icmp_le h 46 dX6_toldRefusal_38 (by decide) ?_ ?_
      · refine ze_iconst h 0 dX6_toldRefusal_46 zk_i_0 ?_
        exact ze_iret hR dX6_toldRefusal_47
      · refine ze_bipush h (-2) dX6_toldRefusal_41 zk_b_m2 ?_
        refine ze_goto h 47 dX6_toldRefusal_43 (by decide) ?_
        exact ze_iret hR dX6_toldRefusal_47
    · refine ze_bipush h (-11) dX6_toldRefusal_25 zk_b_m11 ?_
      exact ze_iret hR dX6_toldRefusal_27
  · refine ze_bipush h (-2) dX6_toldRefusal_11 zk_b_m2 ?_
    exact ze_iret hR dX6_toldRefusal_13
set_option maxRecDepth 20000 in
theorem c_X6_judgeRefusal (l : Launch)  (p1 : Int32) (p2 : Int32) (s0 : zMem) : zC l yX6_judgeRefusal (.code yX6_judgeRefusal cX6_judgeRefusal 4 (some .int)) 3 [.ref 0, .int p1, .int p2] zFull s0 (fun r : Int32 => some (.int r)) (f_X6_judgeRefusal p1 p2 s0) := by
  refine zC_of (own := RX6) rfl rfl (Nat.le_of_ble_eq_true rfl) [some (.ref 0), some (.int p1), some (.int p2), none] rfl (fun G T h hR => ?_)
  unfold f_X6_judgeRefusal
  refine ze_aload_n h dX6_judgeRefusal_0 rfl ?_
  refine ze_iload_n h dX6_judgeRefusal_1 rfl ?_
  refine ze_callVi h (st := []) zce_X6_toldRefusal zi_X6_toldRefusal zs_X6_toldRefusal zm_X6_245 zl_0 rfl rfl (Nat.le_of_ble_eq_true rfl) zkn (c_X6_toldRefusal l  p1 s0) rfl (Nat.le_of_ble_eq_true rfl) rfl dX6_judgeRefusal_2 (fun r1 s2 => ?_)
  refine ze_istore_n h [some (.ref 0), some (.int p1), some (.int p2), some (.int r1)] dX6_judgeRefusal_5 rfl (by decide) rfl ?_
  refine ze_iload_n h dX6_judgeRefusal_6 rfl ?_
  refine ze_if_ne h 26 dX6_judgeRefusal_7 (by decide) ?_ ?_
  · refine ze_iload_n h dX6_judgeRefusal_26 rfl ?_
    exact ze_iret hR dX6_judgeRefusal_27
  · refine ze_aload_n h dX6_judgeRefusal_10 rfl ?_
    refine ze_getR h zl_0 rfl zf_X6_54 dX6_judgeRefusal_11 ?_
    refine ze_iload_n h dX6_judgeRefusal_14 rfl ?_
    refine ze_callVi h (st := []) zce_X5_isHut zi_X5_isHut zs_X5_isHut zm_X6_109 zl_9 rfl rfl (Nat.le_of_ble_eq_true rfl) zkn (c_X5_isHut l zIsW_9 p2 s2) rfl (Nat.le_of_ble_eq_true rfl) rfl dX6_judgeRefusal_15 (fun r3 s4 => ?_)
    refine ze_if_ne h 26 dX6_judgeRefusal_18 (by decide) ?_ ?_
    · refine ze_iload_n h dX6_judgeRefusal_26 rfl ?_
      exact ze_iret hR dX6_judgeRefusal_27
    · refine ze_bipush h (-5) dX6_judgeRefusal_21 zk_b_m5 ?_
      refine ze_goto h 27 dX6_judgeRefusal_23 (by decide) ?_
      exact ze_iret hR dX6_judgeRefusal_27
set_option maxRecDepth 20000 in
theorem c_X6_judge (l : Launch)  (p1 : Int32) (p2 : Int32) (s0 : zMem) : zC l yX6_judge (.code yX6_judge cX6_judge 4 (some .int)) 7 [.ref 0, .int p1, .int p2] zFull s0 (fun r : Int32 => some (.int r)) (f_X6_judge p1 p2 s0) := by
  refine zC_of (own := RX6) rfl rfl (Nat.le_of_ble_eq_true rfl) [some (.ref 0), some (.int p1), some (.int p2), none] rfl (fun G T h hR => ?_)
  unfold f_X6_judge
  refine ze_aload_n h dX6_judge_0 rfl ?_
  refine ze_iload_n h dX6_judge_1 rfl ?_
  refine ze_iload_n h dX6_judge_2 rfl ?_
  refine ze_callVi h (st := []) zce_X6_judgeRefusal zi_X6_judgeRefusal zs_X6_judgeRefusal zm_X6_232 zl_0 rfl rfl (Nat.le_of_ble_eq_true rfl) zkn (c_X6_judgeRefusal l  p1 p2 s0) rfl (Nat.le_of_ble_eq_true rfl) rfl dX6_judge_3 (fun r1 s2 => ?_)
  refine ze_istore_n h [some (.ref 0), some (.int p1), some (.int p2), some (.int r1)] dX6_judge_6 rfl (by decide) rfl ?_
  refine ze_iload_n h dX6_judge_7 rfl ?_
  refine ze_if_eq h 15 dX6_judge_8 (by decide) ?_ ?_
  · refine ze_aload_n h dX6_judge_15 rfl ?_
    refine ze_iload_n h dX6_judge_16 rfl ?_
    refine ze_aload_n h dX6_judge_17 rfl ?_
    refine ze_callVu h (st := [.int p1, .ref 0]) zce_X6_think zi_X6_think zs_X6_think zm_X6_181 zl_0 rfl rfl (Nat.le_of_ble_eq_true rfl) zkn (c_X6_think l  s2) rfl (Nat.le_of_ble_eq_true rfl) rfl dX6_judge_18 (fun _ s4 => ?_)
    refine ze_iload_n h dX6_judge_21 rfl ?_
    refine ze_callVi h (st := []) zce_X6_firstOtherwise zi_X6_firstOtherwise zs_X6_firstOtherwise zm_X6_235 zl_0 rfl rfl (Nat.le_of_ble_eq_true rfl) zkn (c_X6_firstOtherwise l  p1 p2 s4) rfl (Nat.le_of_ble_eq_true rfl) rfl dX6_judge_22 (fun r5 s6 => ?_)
    exact ze_iret hR dX6_judge_25
  · refine ze_iload_n h dX6_judge_11 rfl ?_
    refine ze_goto h 25 dX6_judge_12 (by decide) ?_
    exact ze_iret hR dX6_judge_25
set_option maxRecDepth 20000 in
theorem c_X6_isTold (l : Launch)  (p1 : Int32) (p3 : Int32) (s0 : zMem) : zC l yX6_isTold (.code yX6_isTold cX6_isTold 4 (some .boolean)) 7 [.ref 0, .int p1, .ref 20, .int p3] zFull s0 (fun r : Int32 => some (.int r)) (f_X6_isTold p1 p3 s0) := by
  refine zC_of (own := RX6) rfl rfl (Nat.le_of_ble_eq_true rfl) [some (.ref 0), some (.int p1), some (.ref 20), some (.int p3)] rfl (fun G T h hR => ?_)
  unfold f_X6_isTold
  refine ze_aload_n h dX6_isTold_0 rfl ?_
  refine ze_iload_n h dX6_isTold_1 rfl ?_
  refine ze_aload_n h dX6_isTold_2 rfl ?_
  refine ze_iload_n h dX6_isTold_3 rfl ?_
  refine ze_callVi h (st := []) zce_X6_firstOtherwise zi_X6_firstOtherwise zs_X6_firstOtherwise zm_X6_235 zl_0 rfl rfl (Nat.le_of_ble_eq_true rfl) zkn (c_X6_firstOtherwise l  p1 p3 s0) rfl (Nat.le_of_ble_eq_true rfl) rfl dX6_isTold_4 (fun r1 s2 => ?_)
  refine ze_iconst h (-1) dX6_isTold_7 zk_i_m1 ?_
  refine ze_icmp_ne h 15 dX6_isTold_8 (by decide) ?_ ?_
  · refine ze_iconst h 0 dX6_isTold_15 zk_i_0 ?_
    exact ze_zret hR rfl dX6_isTold_16
  · refine ze_iconst h 1 dX6_isTold_11 zk_i_1 ?_
    refine ze_goto h 16 dX6_isTold_12 (by decide) ?_
    exact ze_zret hR rfl dX6_isTold_16
set_option maxRecDepth 20000 in
theorem e_X6_kinds_46 {l : Launch} {G : zGT} {T : Option Value × zMem} (h : zOk G l cX6_kinds RX6 8 8 0 0 false) (hR : zR G cX6_kinds (some .int) T zFull 0 0)  (c34 : Int32 → Int32 → Int32 → Int32 → Int32 → zMem → Option (Int32 × zMem)) (hc34 : ∀ (y1 : Int32) (y2 : Int32) (y3 : Int32) (y4 : Int32) (y5 : Int32) (s9 : zMem), zE G T (fun r : Int32 => some (.int r)) zFull 0 0 34 [some (.ref 0), some (.int y1), some (.int y2), some (.int y3), none, some (.int y4), some (.int y5), none] [] s9 (c34 y1 y2 y3 y4 y5 s9)) : ∀ (x11 : Int32) (x12 : Int32) (x13 : Int32) (x14 : Int32) (x15 : Int32) (t16 : Int32) (t17 : Int32) (s18 : zMem), zE G T (fun r : Int32 => some (.int r)) zFull 0 0 46 [some (.ref 0), some (.int x11), some (.int x12), some (.int x13), none, some (.int x14), some (.int x15), none] [.int t16, .int t17] s18 (f_X6_kinds_46 c34  x11 x12 x13 x14 x15 t16 t17 s18) := by
  intro x11 x12 x13 x14 x15 t16 t17 s18
  unfold f_X6_kinds_46
  refine ze_icmp_gt h 106 dX6_kinds_46 (by decide) ?_ ?_
  · refine ze_iload h dX6_kinds_106 rfl ?_
    exact ze_iret hR dX6_kinds_108
  · refine ze_aload_n h dX6_kinds_49 rfl ?_
    refine ze_callVu h (st := []) zce_X6_think zi_X6_think zs_X6_think zm_X6_181 zl_0 rfl rfl (Nat.le_of_ble_eq_true rfl) zkn (c_X6_think l  s18) rfl (Nat.le_of_ble_eq_true rfl) rfl dX6_kinds_50 (fun _ s20 => ?_)
    refine ze_astore h [some (.ref 0), some (.int x11), some (.int x12), some (.int x13), none, some (.int x14), some (.int x15), some (.ref 20)] dX6_kinds_53 rfl (by decide) rfl ?_
    refine ze_iload_n h dX6_kinds_55 rfl ?_
    refine ze_if_ne h 71 dX6_kinds_56 (by decide) ?_ ?_
    · refine ze_aload h dX6_kinds_71 rfl ?_
      refine ze_getR h zl_20 rfl zf_X6_134 dX6_kinds_73 ?_
      refine ze_iload_n h dX6_kinds_76 rfl ?_
      refine ze_iload h dX6_kinds_77 rfl ?_
      refine ze_iastG h zl_25 dX6_kinds_79 ?_
      refine ze_nmS (fun s21 => ?_)
      refine ze_aload_n h dX6_kinds_80 rfl ?_
      refine ze_iload_n h dX6_kinds_81 rfl ?_
      refine ze_aload h dX6_kinds_82 rfl ?_
      refine ze_iload_n h dX6_kinds_84 rfl ?_
      refine ze_callVi h (st := []) zce_X6_isTold zi_X6_isTold zs_X6_isTold zm_X6_241 zl_0 rfl rfl (Nat.le_of_ble_eq_true rfl) zkn (c_X6_isTold l  x11 x12 s21) rfl (Nat.le_of_ble_eq_true rfl) rfl dX6_kinds_85 (fun r22 s23 => ?_)
      refine ze_if_eq h 100 dX6_kinds_88 (by decide) ?_ ?_
      · refine ze_iincN h (fun y9 => [some (.ref 0), some (.int x11), some (.int x12), some (.int x13), none, some (.int x14), some (.int y9), some (.ref 20)]) 1 dX6_kinds_100 rfl zk_i_1 rfl (by decide) (fun _ => rfl) (fun x24 => ?_)
        refine ze_goto h 34 dX6_kinds_103 (by decide) ?_
        refine zE_weak h [true, true, true, true, false, true, true, false] rfl ?_
        exact hc34 x11 x12 x13 x14 x24 s23
      · refine ze_iload h dX6_kinds_91 rfl ?_
        refine ze_iconst h 1 dX6_kinds_93 zk_i_1 ?_
        refine ze_iload h dX6_kinds_94 rfl ?_
        refine ze_ishl h dX6_kinds_96 ?_
        refine ze_ior h dX6_kinds_97 ?_
        refine ze_nmI (fun x25 => ?_)
        refine ze_istore h [some (.ref 0), some (.int x11), some (.int x12), some (.int x13), none, some (.int x25), some (.int x15), some (.ref 20)] dX6_kinds_98 rfl (by decide) rfl ?_
        refine ze_iincN h (fun y9 => [some (.ref 0), some (.int x11), some (.int x12), some (.int x13), none, some (.int x25), some (.int y9), some (.ref 20)]) 1 dX6_kinds_100 rfl zk_i_1 rfl (by decide) (fun _ => rfl) (fun x26 => ?_)
        refine ze_goto h 34 dX6_kinds_103 (by decide) ?_
        refine zE_weak h [true, true, true, true, false, true, true, false] rfl ?_
        exact hc34 x11 x12 x13 x25 x26 s23
    · refine ze_aload h dX6_kinds_59 rfl ?_
      refine ze_getR h zl_20 rfl zf_X6_131 dX6_kinds_61 ?_
      refine ze_iload_n h dX6_kinds_64 rfl ?_
      refine ze_iload h dX6_kinds_65 rfl ?_
      refine ze_iastG h zl_24 dX6_kinds_67 ?_
      refine ze_nmS (fun s27 => ?_)
      refine ze_goto h 80 dX6_kinds_68 (by decide) ?_
      refine ze_aload_n h dX6_kinds_80 rfl ?_
      refine ze_iload_n h dX6_kinds_81 rfl ?_
      refine ze_aload h dX6_kinds_82 rfl ?_
      refine ze_iload_n h dX6_kinds_84 rfl ?_
      refine ze_callVi h (st := []) zce_X6_isTold zi_X6_isTold zs_X6_isTold zm_X6_241 zl_0 rfl rfl (Nat.le_of_ble_eq_true rfl) zkn (c_X6_isTold l  x11 x12 s27) rfl (Nat.le_of_ble_eq_true rfl) rfl dX6_kinds_85 (fun r28 s29 => ?_)
      refine ze_if_eq h 100 dX6_kinds_88 (by decide) ?_ ?_
      · refine ze_iincN h (fun y9 => [some (.ref 0), some (.int x11), some (.int x12), some (.int x13), none, some (.int x14), some (.int y9), some (.ref 20)]) 1 dX6_kinds_100 rfl zk_i_1 rfl (by decide) (fun _ => rfl) (fun x30 => ?_)
        refine ze_goto h 34 dX6_kinds_103 (by decide) ?_
        refine zE_weak h [true, true, true, true, false, true, true, false] rfl ?_
        exact hc34 x11 x12 x13 x14 x30 s29
      · refine ze_iload h dX6_kinds_91 rfl ?_
        refine ze_iconst h 1 dX6_kinds_93 zk_i_1 ?_
        refine ze_iload h dX6_kinds_94 rfl ?_
        refine ze_ishl h dX6_kinds_96 ?_
        refine ze_ior h dX6_kinds_97 ?_
        refine ze_nmI (fun x31 => ?_)
        refine ze_istore h [some (.ref 0), some (.int x11), some (.int x12), some (.int x13), none, some (.int x31), some (.int x15), some (.ref 20)] dX6_kinds_98 rfl (by decide) rfl ?_
        refine ze_iincN h (fun y9 => [some (.ref 0), some (.int x11), some (.int x12), some (.int x13), none, some (.int x31), some (.int y9), some (.ref 20)]) 1 dX6_kinds_100 rfl zk_i_1 rfl (by decide) (fun _ => rfl) (fun x32 => ?_)
        refine ze_goto h 34 dX6_kinds_103 (by decide) ?_
        refine zE_weak h [true, true, true, true, false, true, true, false] rfl ?_
        exact hc34 x11 x12 x13 x31 x32 s29
set_option maxRecDepth 20000 in
theorem e_X6_kinds_34 {l : Launch} {G : zGT} {T : Option Value × zMem} (h : zOk G l cX6_kinds RX6 8 8 0 0 false) (hR : zR G cX6_kinds (some .int) T zFull 0 0)   : ∀ (n : Nat) (x5 : Int32) (x6 : Int32) (x7 : Int32) (x8 : Int32) (x9 : Int32) (s10 : zMem), zE G T (fun r : Int32 => some (.int r)) zFull 0 0 34 [some (.ref 0), some (.int x5), some (.int x6), some (.int x7), none, some (.int x8), some (.int x9), none] [] s10 (f_X6_kinds_34 n x5 x6 x7 x8 x9 s10) := by
  intro n
  induction n with
  | zero => intro _ _ _ _ _ _; exact ze_none
  | succ n ih =>
    intro x5 x6 x7 x8 x9 s10
    rw [f_X6_kinds_34]
    refine ze_iload h dX6_kinds_34 rfl ?_
    refine ze_iload_n h dX6_kinds_36 rfl ?_
    refine ze_if_ne h 44 dX6_kinds_37 (by decide) ?_ ?_
    · refine ze_bipush h 9 dX6_kinds_44 zk_b_9 ?_
      refine e_X6_kinds_46 h hR _ ?_ x5 x6 x7 x8 x9 9 x9 s10
      · intro x33 x34 x35 x36 x37 s38
        exact ih x33 x34 x35 x36 x37 s38
    · refine ze_iconst h 5 dX6_kinds_40 zk_i_5 ?_
      refine ze_goto h 46 dX6_kinds_41 (by decide) ?_
      refine e_X6_kinds_46 h hR _ ?_ x5 x6 x7 x8 x9 5 x9 s10
      · intro x39 x40 x41 x42 x43 s44
        exact ih x39 x40 x41 x42 x43 s44
set_option maxRecDepth 20000 in
theorem c_X6_kinds (l : Launch)  (p1 : Int32) (p2 : Int32) (p3 : Int32) (s0 : zMem) : zC l yX6_kinds (.code yX6_kinds cX6_kinds 8 (some .int)) 8 [.ref 0, .int p1, .int p2, .int p3] zFull s0 (fun r : Int32 => some (.int r)) (f_X6_kinds p1 p2 p3 s0) := by
  refine zC_of (own := RX6) rfl rfl (Nat.le_of_ble_eq_true rfl) [some (.ref 0), some (.int p1), some (.int p2), some (.int p3), none, none, none, none] rfl (fun G T h hR => ?_)
  unfold f_X6_kinds
  refine ze_aload_n h dX6_kinds_0 rfl ?_
  refine ze_iload_n h dX6_kinds_1 rfl ?_
  refine ze_iload_n h dX6_kinds_2 rfl ?_
  refine ze_callVi h (st := []) zce_X6_judgeRefusal zi_X6_judgeRefusal zs_X6_judgeRefusal zm_X6_232 zl_0 rfl rfl (Nat.le_of_ble_eq_true rfl) zkn (c_X6_judgeRefusal l  p1 p2 s0) rfl (Nat.le_of_ble_eq_true rfl) rfl dX6_kinds_3 (fun r1 s2 => ?_)
  refine ze_istore h [some (.ref 0), some (.int p1), some (.int p2), some (.int p3), some (.int r1), none, none, none] dX6_kinds_6 rfl (by decide) rfl ?_
  refine ze_iload h dX6_kinds_8 rfl ?_
  refine ze_if_eq h 16 dX6_kinds_10 (by decide) ?_ ?_
  · refine ze_iload_n h dX6_kinds_16 rfl ?_
    refine ze_iconst h 0 dX6_kinds_17 zk_i_0 ?_
    refine ze_iconst h 1 dX6_kinds_18 zk_i_1 ?_
    refine ze_callSi h (st := []) zce_X6_isFromTo zt_X6_isFromTo zm_X6_101 (Nat.le_of_ble_eq_true rfl) zkn (c_X6_isFromTo l zFull p3 0 1 s2) rfl (Nat.le_of_ble_eq_true rfl) rfl dX6_kinds_19 (fun r3 s4 => ?_)
    refine ze_if_ne h 28 dX6_kinds_22 (by decide) ?_ ?_
    · refine ze_iconst h 0 dX6_kinds_28 zk_i_0 ?_
      refine ze_istore h [some (.ref 0), some (.int p1), some (.int p2), some (.int p3), some (.int r1), some (.int 0), none, none] dX6_kinds_29 rfl (by decide) rfl ?_
      refine ze_iconst h 0 dX6_kinds_31 zk_i_0 ?_
      refine ze_istore h [some (.ref 0), some (.int p1), some (.int p2), some (.int p3), some (.int r1), some (.int 0), some (.int 0), none] dX6_kinds_32 rfl (by decide) rfl ?_
      refine zE_weak h [true, true, true, true, false, true, true, false] rfl ?_
      exact e_X6_kinds_34 h hR  zN p1 p2 p3 0 0 s4
    · refine ze_bipush h (-7) dX6_kinds_25 zk_b_m7 ?_
      exact ze_iret hR dX6_kinds_27
  · refine ze_iload h dX6_kinds_13 rfl ?_
    exact ze_iret hR dX6_kinds_15
set_option maxRecDepth 20000 in
theorem e_X6_states_63 {l : Launch} {G : zGT} {T : Option Value × zMem} (h : zOk G l cX6_states RX6 10 8 0 0 false) (hR : zR G cX6_states (some .int) T zFull 0 0)  (c111 : Int32 → Int32 → Int32 → zMem → Option (Int32 × zMem)) (hc111 : ∀ (y1 : Int32) (y2 : Int32) (y3 : Int32) (s9 : zMem), zE G T (fun r : Int32 => some (.int r)) zFull 0 0 111 [none, none, none, none, some (.int y1), none, some (.int y2), some (.int y3), none, none] [] s9 (c111 y1 y2 y3 s9)) (c47 : Int32 → Int32 → Int32 → Int32 → Int32 → Int32 → Int32 → zMem → Option (Int32 × zMem)) (hc47 : ∀ (y1 : Int32) (y2 : Int32) (y3 : Int32) (y4 : Int32) (y5 : Int32) (y6 : Int32) (y7 : Int32) (s9 : zMem), zE G T (fun r : Int32 => some (.int r)) zFull 0 0 47 [some (.ref 0), some (.int y1), some (.int y2), some (.int y3), some (.int y4), none, some (.int y5), some (.int y6), some (.int y7), none] [] s9 (c47 y1 y2 y3 y4 y5 y6 y7 s9)) : ∀ (x17 : Int32) (x18 : Int32) (x19 : Int32) (x20 : Int32) (x21 : Int32) (x22 : Int32) (x23 : Int32) (t24 : Int32) (t25 : Int32) (s26 : zMem), zE G T (fun r : Int32 => some (.int r)) zFull 0 0 63 [some (.ref 0), some (.int x17), some (.int x18), some (.int x19), some (.int x20), none, some (.int x21), some (.int x22), some (.int x23), none] [.int t24, .int t25] s26 (f_X6_states_63 c111 c47  x17 x18 x19 x20 x21 x22 x23 t24 t25 s26) := by
  intro x17 x18 x19 x20 x21 x22 x23 t24 t25 s26
  unfold f_X6_states_63
  refine ze_icmp_gt h 111 dX6_states_63 (by decide) ?_ ?_
  · refine zE_weak h [false, false, false, false, true, false, true, true, false, false] rfl ?_
    exact hc111 x20 x21 x22 s26
  · refine ze_aload_n h dX6_states_66 rfl ?_
    refine ze_callVu h (st := []) zce_X6_think zi_X6_think zs_X6_think zm_X6_181 zl_0 rfl rfl (Nat.le_of_ble_eq_true rfl) zkn (c_X6_think l  s26) rfl (Nat.le_of_ble_eq_true rfl) rfl dX6_states_67 (fun _ s28 => ?_)
    refine ze_astore h [some (.ref 0), some (.int x17), some (.int x18), some (.int x19), some (.int x20), none, some (.int x21), some (.int x22), some (.int x23), some (.ref 20)] dX6_states_70 rfl (by decide) rfl ?_
    refine ze_aload h dX6_states_72 rfl ?_
    refine ze_iload_n h dX6_states_74 rfl ?_
    refine ze_iload_n h dX6_states_75 rfl ?_
    refine ze_iload h dX6_states_76 rfl ?_
    refine ze_callVv h (st := []) zce_X5_become zi_X5_become zs_X5_become zm_X6_127 zl_20 rfl rfl (Nat.le_of_ble_eq_true rfl) zkn (c_X5_become l zIsW_20 x18 x19 x23 s28) rfl (Nat.le_of_ble_eq_true rfl) rfl dX6_states_78 (fun _ s30 => ?_)
    refine ze_aload_n h dX6_states_81 rfl ?_
    refine ze_iload_n h dX6_states_82 rfl ?_
    refine ze_aload h dX6_states_83 rfl ?_
    refine ze_iload_n h dX6_states_85 rfl ?_
    refine ze_callVi h (st := []) zce_X6_isTold zi_X6_isTold zs_X6_isTold zm_X6_241 zl_0 rfl rfl (Nat.le_of_ble_eq_true rfl) zkn (c_X6_isTold l  x17 x18 s30) rfl (Nat.le_of_ble_eq_true rfl) rfl dX6_states_86 (fun r31 s32 => ?_)
    refine ze_pc 89 rfl ?_
    refine ze_if_eq h 105 dX6_states_89 (by decide) ?_ ?_
    · refine ze_iincN h (fun y9 => [some (.ref 0), some (.int x17), some (.int x18), some (.int x19), some (.int x20), none, some (.int x21), some (.int x22), some (.int y9), some (.ref 20)]) 1 dX6_states_105 rfl zk_i_1 rfl (by decide) (fun _ => rfl) (fun x33 => ?_)
      refine ze_goto h 47 dX6_states_108 (by decide) ?_
      refine zE_weak h [true, true, true, true, true, false, true, true, true, false] rfl ?_
      exact hc47 x17 x18 x19 x20 x21 x22 x33 s32
    · refine ze_iincN h (fun y9 => [some (.ref 0), some (.int x17), some (.int x18), some (.int x19), some (.int x20), none, some (.int y9), some (.int x22), some (.int x23), some (.ref 20)]) 1 dX6_states_92 rfl zk_i_1 rfl (by decide) (fun _ => rfl) (fun x34 => ?_)
      refine ze_iload h dX6_states_95 rfl ?_
      refine ze_iconst h (-1) dX6_states_97 zk_i_m1 ?_
      refine ze_icmp_ne h 105 dX6_states_98 (by decide) ?_ ?_
      · refine ze_iincN h (fun y9 => [some (.ref 0), some (.int x17), some (.int x18), some (.int x19), some (.int x20), none, some (.int x34), some (.int x22), some (.int y9), some (.ref 20)]) 1 dX6_states_105 rfl zk_i_1 rfl (by decide) (fun _ => rfl) (fun x35 => ?_)
        refine ze_goto h 47 dX6_states_108 (by decide) ?_
        refine zE_weak h [true, true, true, true, true, false, true, true, true, false] rfl ?_
        exact hc47 x17 x18 x19 x20 x34 x22 x35 s32
      · refine ze_iload h dX6_states_101 rfl ?_
        refine ze_istore h [some (.ref 0), some (.int x17), some (.int x18), some (.int x19), some (.int x20), none, some (.int x34), some (.int x23), some (.int x23), some (.ref 20)] dX6_states_103 rfl (by decide) rfl ?_
        refine ze_iincN h (fun y9 => [some (.ref 0), some (.int x17), some (.int x18), some (.int x19), some (.int x20), none, some (.int x34), some (.int x23), some (.int y9), some (.ref 20)]) 1 dX6_states_105 rfl zk_i_1 rfl (by decide) (fun _ => rfl) (fun x36 => ?_)
        refine ze_goto h 47 dX6_states_108 (by decide) ?_
        refine zE_weak h [true, true, true, true, true, false, true, true, true, false] rfl ?_
        exact hc47 x17 x18 x19 x20 x34 x23 x36 s32
set_option maxRecDepth 20000 in
theorem e_X6_states_47 {l : Launch} {G : zGT} {T : Option Value × zMem} (h : zOk G l cX6_states RX6 10 8 0 0 false) (hR : zR G cX6_states (some .int) T zFull 0 0)  (c111 : Int32 → Int32 → Int32 → zMem → Option (Int32 × zMem)) (hc111 : ∀ (y1 : Int32) (y2 : Int32) (y3 : Int32) (s9 : zMem), zE G T (fun r : Int32 => some (.int r)) zFull 0 0 111 [none, none, none, none, some (.int y1), none, some (.int y2), some (.int y3), none, none] [] s9 (c111 y1 y2 y3 s9)) : ∀ (n : Nat) (x7 : Int32) (x8 : Int32) (x9 : Int32) (x10 : Int32) (x11 : Int32) (x12 : Int32) (x13 : Int32) (s14 : zMem), zE G T (fun r : Int32 => some (.int r)) zFull 0 0 47 [some (.ref 0), some (.int x7), some (.int x8), some (.int x9), some (.int x10), none, some (.int x11), some (.int x12), some (.int x13), none] [] s14 (f_X6_states_47 c111 n x7 x8 x9 x10 x11 x12 x13 s14) := by
  intro n
  induction n with
  | zero => intro _ _ _ _ _ _ _ _; exact ze_none
  | succ n ih =>
    intro x7 x8 x9 x10 x11 x12 x13 s14
    rw [f_X6_states_47]
    refine ze_iload h dX6_states_47 rfl ?_
    refine ze_iload_n h dX6_states_49 rfl ?_
    refine ze_if_ne h 59 dX6_states_50 (by decide) ?_ ?_
    · refine ze_iload_n h dX6_states_59 rfl ?_
      refine ze_callSi h (st := [.int x13]) zce_X6_mostOf zt_X6_mostOf zm_X6_120 (Nat.le_of_ble_eq_true rfl) zkn (c_X6_mostOf l zFull x9 s14) rfl (Nat.le_of_ble_eq_true rfl) rfl dX6_states_60 (fun r15 s16 => ?_)
      refine e_X6_states_63 h hR _ ?_ _ ?_ x7 x8 x9 x10 x11 x12 x13 r15 x13 s16
      · intro x37 x38 x39 s40
        exact hc111 x37 x38 x39 s40
      · intro x41 x42 x43 x44 x45 x46 x47 s48
        exact ih x41 x42 x43 x44 x45 x46 x47 s48
    · refine ze_sipush h 299 dX6_states_53 zk_s_299 ?_
      refine ze_goto h 63 dX6_states_56 (by decide) ?_
      refine e_X6_states_63 h hR _ ?_ _ ?_ x7 x8 x9 x10 x11 x12 x13 299 x13 s14
      · intro x49 x50 x51 s52
        exact hc111 x49 x50 x51 s52
      · intro x53 x54 x55 x56 x57 x58 x59 s60
        exact ih x53 x54 x55 x56 x57 x58 x59 s60
set_option maxRecDepth 20000 in
theorem c_X6_states (l : Launch)  (p1 : Int32) (p2 : Int32) (p3 : Int32) (p4 : Int32) (s0 : zMem) : zC l yX6_states (.code yX6_states cX6_states 10 (some .int)) 8 [.ref 0, .int p1, .int p2, .int p3, .int p4] zFull s0 (fun r : Int32 => some (.int r)) (f_X6_states p1 p2 p3 p4 s0) := by
  refine zC_of (own := RX6) rfl rfl (Nat.le_of_ble_eq_true rfl) [some (.ref 0), some (.int p1), some (.int p2), some (.int p3), some (.int p4), none, none, none, none, none] rfl (fun G T h hR => ?_)
  unfold f_X6_states
  refine ze_aload_n h dX6_states_0 rfl ?_
  refine ze_iload_n h dX6_states_1 rfl ?_
  refine ze_iload_n h dX6_states_2 rfl ?_
  refine ze_callVi h (st := []) zce_X6_judgeRefusal zi_X6_judgeRefusal zs_X6_judgeRefusal zm_X6_232 zl_0 rfl rfl (Nat.le_of_ble_eq_true rfl) zkn (c_X6_judgeRefusal l  p1 p2 s0) rfl (Nat.le_of_ble_eq_true rfl) rfl dX6_states_3 (fun r1 s2 => ?_)
  refine ze_istore h [some (.ref 0), some (.int p1), some (.int p2), some (.int p3), some (.int p4), some (.int r1), none, none, none, none] dX6_states_6 rfl (by decide) rfl ?_
  refine ze_iload h dX6_states_8 rfl ?_
  refine ze_if_eq h 16 dX6_states_10 (by decide) ?_ ?_
  · refine ze_iload_n h dX6_states_16 rfl ?_
    refine ze_iconst h 0 dX6_states_17 zk_i_0 ?_
    refine ze_iconst h 2 dX6_states_18 zk_i_2 ?_
    refine ze_callSi h (st := []) zce_X6_isFromTo zt_X6_isFromTo zm_X6_101 (Nat.le_of_ble_eq_true rfl) zkn (c_X6_isFromTo l zFull p3 0 2 s2) rfl (Nat.le_of_ble_eq_true rfl) rfl dX6_states_19 (fun r3 s4 => ?_)
    refine ze_if_eq h 35 dX6_states_22 (by decide) ?_ ?_
    · refine ze_bipush h (-7) dX6_states_35 zk_b_m7 ?_
      exact ze_iret hR dX6_states_37
    · refine ze_iload h dX6_states_25 rfl ?_
      refine ze_iconst h 0 dX6_states_27 zk_i_0 ?_
      refine ze_iconst h 1 dX6_states_28 zk_i_1 ?_
      refine ze_callSi h (st := []) zce_X6_isFromTo zt_X6_isFromTo zm_X6_101 (Nat.le_of_ble_eq_true rfl) zkn (c_X6_isFromTo l zFull p4 0 1 s4) rfl (Nat.le_of_ble_eq_true rfl) rfl dX6_states_29 (fun r5 s6 => ?_)
      refine ze_if_ne h 38 dX6_states_32 (by decide) ?_ ?_
      · refine ze_iconst h 0 dX6_states_38 zk_i_0 ?_
        refine ze_istore h [some (.ref 0), some (.int p1), some (.int p2), some (.int p3), some (.int p4), some (.int r1), some (.int 0), none, none, none] dX6_states_39 rfl (by decide) rfl ?_
        refine ze_iconst h (-1) dX6_states_41 zk_i_m1 ?_
        refine ze_istore h [some (.ref 0), some (.int p1), some (.int p2), some (.int p3), some (.int p4), some (.int r1), some (.int 0), some (.int (-1)), none, none] dX6_states_42 rfl (by decide) rfl ?_
        refine ze_iconst h 0 dX6_states_44 zk_i_0 ?_
        refine ze_istore h [some (.ref 0), some (.int p1), some (.int p2), some (.int p3), some (.int p4), some (.int r1), some (.int 0), some (.int (-1)), some (.int 0), none] dX6_states_45 rfl (by decide) rfl ?_
        refine zE_weak h [true, true, true, true, true, false, true, true, true, false] rfl ?_
        refine e_X6_states_47 h hR _ ?_ zN p1 p2 p3 p4 0 (-1) 0 s6
        · intro x61 x62 x63 s64
          refine ze_iload h dX6_states_111 rfl ?_
          refine ze_if_ne h 121 dX6_states_113 (by decide) ?_ ?_
          · refine ze_iload h dX6_states_121 rfl ?_
            exact ze_iret hR dX6_states_123
          · refine ze_iload h dX6_states_116 rfl ?_
            refine ze_goto h 123 dX6_states_118 (by decide) ?_
            exact ze_iret hR dX6_states_123
      · refine ze_bipush h (-7) dX6_states_35 zk_b_m7 ?_
        exact ze_iret hR dX6_states_37
  · refine ze_iload h dX6_states_13 rfl ?_
    exact ze_iret hR dX6_states_15
set_option maxRecDepth 20000 in
theorem e_X6_whose_17 {l : Launch} {G : zGT} {T : Option Value × zMem} (h : zOk G l cX6_whose RX6 5 8 0 0 false) (hR : zR G cX6_whose (some .int) T zFull 0 0)   : ∀ (n : Nat) (x3 : Int32) (x4 : Int32) (x5 : Int32) (s6 : zMem), zE G T (fun r : Int32 => some (.int r)) zFull 0 0 17 [some (.ref 0), some (.int x3), none, some (.int x4), some (.int x5)] [] s6 (f_X6_whose_17 n x3 x4 x5 s6) := by
  intro n
  induction n with
  | zero => intro _ _ _ _; exact ze_none
  | succ n ih =>
    intro x3 x4 x5 s6
    rw [f_X6_whose_17]
    refine ze_iload h dX6_whose_17 rfl ?_
    refine ze_aload_n h dX6_whose_19 rfl ?_
    refine ze_getR h zl_0 rfl zf_X6_54 dX6_whose_20 ?_
    refine ze_getI h zl_9 rfl zf_X6_79 dX6_whose_23 ?_
    refine ze_icmp_ge h 56 dX6_whose_26 (by decide) ?_ ?_
    · refine ze_iload_n h dX6_whose_56 rfl ?_
      exact ze_iret hR dX6_whose_57
    · refine ze_aload_n h dX6_whose_29 rfl ?_
      refine ze_iload_n h dX6_whose_30 rfl ?_
      refine ze_aload_n h dX6_whose_31 rfl ?_
      refine ze_callVu h (st := [.int x3, .ref 0]) zce_X6_think zi_X6_think zs_X6_think zm_X6_181 zl_0 rfl rfl (Nat.le_of_ble_eq_true rfl) zkn (c_X6_think l  s6) rfl (Nat.le_of_ble_eq_true rfl) rfl dX6_whose_32 (fun _ s8 => ?_)
      refine ze_iload h dX6_whose_35 rfl ?_
      refine ze_callVi h (st := []) zce_X6_isTold zi_X6_isTold zs_X6_isTold zm_X6_241 zl_0 rfl rfl (Nat.le_of_ble_eq_true rfl) zkn (c_X6_isTold l  x3 x5 s8) rfl (Nat.le_of_ble_eq_true rfl) rfl dX6_whose_37 (fun r9 s10 => ?_)
      refine ze_if_eq h 50 dX6_whose_40 (by decide) ?_ ?_
      · refine ze_iincN h (fun y9 => [some (.ref 0), some (.int x3), none, some (.int x4), some (.int y9)]) 1 dX6_whose_50 rfl zk_i_1 rfl (by decide) (fun _ => rfl) (fun x11 => ?_)
        refine ze_goto h 17 dX6_whose_53 (by decide) ?_
        exact ih x3 x4 x11 s10
      · refine ze_iload_n h dX6_whose_43 rfl ?_
        refine ze_iconst h 1 dX6_whose_44 zk_i_1 ?_
        refine ze_iload h dX6_whose_45 rfl ?_
        refine ze_ishl h dX6_whose_47 ?_
        refine ze_ior h dX6_whose_48 ?_
        refine ze_nmI (fun x12 => ?_)
        refine ze_istore_n h [some (.ref 0), some (.int x3), none, some (.int x12), some (.int x5)] dX6_whose_49 rfl (by decide) rfl ?_
        refine ze_iincN h (fun y9 => [some (.ref 0), some (.int x3), none, some (.int x12), some (.int y9)]) 1 dX6_whose_50 rfl zk_i_1 rfl (by decide) (fun _ => rfl) (fun x13 => ?_)
        refine ze_goto h 17 dX6_whose_53 (by decide) ?_
        exact ih x3 x12 x13 s10
set_option maxRecDepth 20000 in
theorem c_X6_whose (l : Launch)  (p1 : Int32) (s0 : zMem) : zC l yX6_whose (.code yX6_whose cX6_whose 5 (some .int)) 8 [.ref 0, .int p1] zFull s0 (fun r : Int32 => some (.int r)) (f_X6_whose p1 s0) := by
  refine zC_of (own := RX6) rfl rfl (Nat.le_of_ble_eq_true rfl) [some (.ref 0), some (.int p1), none, none, none] rfl (fun G T h hR => ?_)
  unfold f_X6_whose
  refine ze_aload_n h dX6_whose_0 rfl ?_
  refine ze_iload_n h dX6_whose_1 rfl ?_
  refine ze_callVi h (st := []) zce_X6_toldRefusal zi_X6_toldRefusal zs_X6_toldRefusal zm_X6_245 zl_0 rfl rfl (Nat.le_of_ble_eq_true rfl) zkn (c_X6_toldRefusal l  p1 s0) rfl (Nat.le_of_ble_eq_true rfl) rfl dX6_whose_2 (fun r1 s2 => ?_)
  refine ze_istore_n h [some (.ref 0), some (.int p1), some (.int r1), none, none] dX6_whose_5 rfl (by decide) rfl ?_
  refine ze_iload_n h dX6_whose_6 rfl ?_
  refine ze_if_eq h 12 dX6_whose_7 (by decide) ?_ ?_
  · refine ze_iconst h 0 dX6_whose_12 zk_i_0 ?_
    refine ze_istore_n h [some (.ref 0), some (.int p1), some (.int r1), some (.int 0), none] dX6_whose_13 rfl (by decide) rfl ?_
    refine ze_iconst h 0 dX6_whose_14 zk_i_0 ?_
    refine ze_istore h [some (.ref 0), some (.int p1), some (.int r1), some (.int 0), some (.int 0)] dX6_whose_15 rfl (by decide) rfl ?_
    refine zE_weak h [true, true, false, true, true] rfl ?_
    exact e_X6_whose_17 h hR  zN p1 0 0 s2
  · refine ze_iload_n h dX6_whose_10 rfl ?_
    exact ze_iret hR dX6_whose_11
set_option maxRecDepth 20000 in
theorem e_X6_laws_19 {l : Launch} {G : zGT} {T : Option Value × zMem} (h : zOk G l cX6_laws RX6 7 8 0 0 false) (hR : zR G cX6_laws (some .int) T zFull 0 0)   : ∀ (n : Nat) (x3 : Int32) (x4 : Int32) (x5 : Int32) (x6 : Int32) (s7 : zMem), zE G T (fun r : Int32 => some (.int r)) zFull 0 0 19 [some (.ref 0), some (.int x3), some (.int x4), none, some (.int x5), some (.int x6), none] [] s7 (f_X6_laws_19 n x3 x4 x5 x6 s7) := by
  intro n
  induction n with
  | zero => intro _ _ _ _ _; exact ze_none
  | succ n ih =>
    intro x3 x4 x5 x6 s7
    rw [f_X6_laws_19]
    refine ze_iload h dX6_laws_19 rfl ?_
    refine ze_aload_n h dX6_laws_21 rfl ?_
    refine ze_getR h zl_0 rfl zf_X6_10 dX6_laws_22 ?_
    refine ze_getI h zl_1 rfl zf_X6_92 dX6_laws_25 ?_
    refine ze_icmp_ge h 70 dX6_laws_28 (by decide) ?_ ?_
    · refine ze_iload h dX6_laws_70 rfl ?_
      exact ze_iret hR dX6_laws_72
    · refine ze_aload_n h dX6_laws_31 rfl ?_
      refine ze_callVu h (st := []) zce_X6_think zi_X6_think zs_X6_think zm_X6_181 zl_0 rfl rfl (Nat.le_of_ble_eq_true rfl) zkn (c_X6_think l  s7) rfl (Nat.le_of_ble_eq_true rfl) rfl dX6_laws_32 (fun _ s9 => ?_)
      refine ze_astore h [some (.ref 0), some (.int x3), some (.int x4), none, some (.int x5), some (.int x6), some (.ref 20)] dX6_laws_35 rfl (by decide) rfl ?_
      refine ze_aload h dX6_laws_37 rfl ?_
      refine ze_iload h dX6_laws_39 rfl ?_
      refine ze_putI h zl_20 rfl zf_X6_95 rfl rfl dX6_laws_41 ?_
      refine ze_nmS (fun s10 => ?_)
      refine ze_aload_n h dX6_laws_44 rfl ?_
      refine ze_iload_n h dX6_laws_45 rfl ?_
      refine ze_aload h dX6_laws_46 rfl ?_
      refine ze_iload_n h dX6_laws_48 rfl ?_
      refine ze_callVi h (st := []) zce_X6_isTold zi_X6_isTold zs_X6_isTold zm_X6_241 zl_0 rfl rfl (Nat.le_of_ble_eq_true rfl) zkn (c_X6_isTold l  x3 x4 s10) rfl (Nat.le_of_ble_eq_true rfl) rfl dX6_laws_49 (fun r11 s12 => ?_)
      refine ze_if_eq h 64 dX6_laws_52 (by decide) ?_ ?_
      · refine ze_iincN h (fun y9 => [some (.ref 0), some (.int x3), some (.int x4), none, some (.int x5), some (.int y9), some (.ref 20)]) 1 dX6_laws_64 rfl zk_i_1 rfl (by decide) (fun _ => rfl) (fun x13 => ?_)
        refine ze_goto h 19 dX6_laws_67 (by decide) ?_
        refine zE_weak h [true, true, true, false, true, true, false] rfl ?_
        exact ih x3 x4 x5 x13 s12
      · refine ze_iload h dX6_laws_55 rfl ?_
        refine ze_iconst h 1 dX6_laws_57 zk_i_1 ?_
        refine ze_iload h dX6_laws_58 rfl ?_
        refine ze_ishl h dX6_laws_60 ?_
        refine ze_ior h dX6_laws_61 ?_
        refine ze_nmI (fun x14 => ?_)
        refine ze_istore h [some (.ref 0), some (.int x3), some (.int x4), none, some (.int x14), some (.int x6), some (.ref 20)] dX6_laws_62 rfl (by decide) rfl ?_
        refine ze_iincN h (fun y9 => [some (.ref 0), some (.int x3), some (.int x4), none, some (.int x14), some (.int y9), some (.ref 20)]) 1 dX6_laws_64 rfl zk_i_1 rfl (by decide) (fun _ => rfl) (fun x15 => ?_)
        refine ze_goto h 19 dX6_laws_67 (by decide) ?_
        refine zE_weak h [true, true, true, false, true, true, false] rfl ?_
        exact ih x3 x4 x14 x15 s12
set_option maxRecDepth 20000 in
theorem c_X6_laws (l : Launch)  (p1 : Int32) (p2 : Int32) (s0 : zMem) : zC l yX6_laws (.code yX6_laws cX6_laws 7 (some .int)) 8 [.ref 0, .int p1, .int p2] zFull s0 (fun r : Int32 => some (.int r)) (f_X6_laws p1 p2 s0) := by
  refine zC_of (own := RX6) rfl rfl (Nat.le_of_ble_eq_true rfl) [some (.ref 0), some (.int p1), some (.int p2), none, none, none, none] rfl (fun G T h hR => ?_)
  unfold f_X6_laws
  refine ze_aload_n h dX6_laws_0 rfl ?_
  refine ze_iload_n h dX6_laws_1 rfl ?_
  refine ze_iload_n h dX6_laws_2 rfl ?_
  refine ze_callVi h (st := []) zce_X6_judgeRefusal zi_X6_judgeRefusal zs_X6_judgeRefusal zm_X6_232 zl_0 rfl rfl (Nat.le_of_ble_eq_true rfl) zkn (c_X6_judgeRefusal l  p1 p2 s0) rfl (Nat.le_of_ble_eq_true rfl) rfl dX6_laws_3 (fun r1 s2 => ?_)
  refine ze_istore_n h [some (.ref 0), some (.int p1), some (.int p2), some (.int r1), none, none, none] dX6_laws_6 rfl (by decide) rfl ?_
  refine ze_iload_n h dX6_laws_7 rfl ?_
  refine ze_if_eq h 13 dX6_laws_8 (by decide) ?_ ?_
  · refine ze_iconst h 0 dX6_laws_13 zk_i_0 ?_
    refine ze_istore h [some (.ref 0), some (.int p1), some (.int p2), some (.int r1), some (.int 0), none, none] dX6_laws_14 rfl (by decide) rfl ?_
    refine ze_iconst h 0 dX6_laws_16 zk_i_0 ?_
    refine ze_istore h [some (.ref 0), some (.int p1), some (.int p2), some (.int r1), some (.int 0), some (.int 0), none] dX6_laws_17 rfl (by decide) rfl ?_
    refine zE_weak h [true, true, true, false, true, true, false] rfl ?_
    exact e_X6_laws_19 h hR  zN p1 p2 0 0 s2
  · refine ze_iload_n h dX6_laws_11 rfl ?_
    exact ze_iret hR dX6_laws_12
set_option maxRecDepth 20000 in
theorem e_X6_film_60 {l : Launch} {G : zGT} {T : Option Value × zMem} (h : zOk G l cX6_film RX6 6 6 0 0 false) (hR : zR G cX6_film (some .int) T zFull 0 0)   : ∀ (n : Nat) (x11 : Int32) (x12 : Int32) (x13 : Int32) (x14 : Int32) (s15 : zMem), zE G T (fun r : Int32 => some (.int r)) zFull 0 0 60 [some (.ref 0), some (.int x11), some (.int x12), some (.int x13), some (.ref 20), some (.int x14)] [] s15 (f_X6_film_60 n x11 x12 x13 x14 s15) := by
  intro n
  induction n with
  | zero => intro _ _ _ _ _; exact ze_none
  | succ n ih =>
    intro x11 x12 x13 x14 s15
    rw [f_X6_film_60]
    refine ze_iload h dX6_film_60 rfl ?_
    refine ze_iload_n h dX6_film_62 rfl ?_
    refine ze_icmp_ge h 95 dX6_film_63 (by decide) ?_ ?_
    · refine ze_iload_n h dX6_film_95 rfl ?_
      exact ze_iret hR dX6_film_96
    · refine ze_aload h dX6_film_66 rfl ?_
      refine ze_callVi h (st := []) zce_X5_passNight zi_X5_passNight zs_X5_passNight zm_X6_178 zl_20 rfl rfl (Nat.le_of_ble_eq_true rfl) zkn (c_X5_passNight l zIsW_20 s15) rfl (Nat.le_of_ble_eq_true rfl) rfl dX6_film_68 (fun r16 s17 => ?_)
      refine ze_pop h dX6_film_71 rfl ?_
      refine ze_aload_n h dX6_film_72 rfl ?_
      refine ze_getR h zl_0 rfl zf_X6_67 dX6_film_73 ?_
      refine ze_iload_n h dX6_film_76 rfl ?_
      refine ze_iload h dX6_film_77 rfl ?_
      refine ze_aload h dX6_film_79 rfl ?_
      refine ze_getR h zl_20 rfl zf_X6_188 dX6_film_81 ?_
      refine ze_iload_n h dX6_film_84 rfl ?_
      refine ze_ialdG h zl_21 dX6_film_85 ?_
      refine ze_callVv h (st := []) zce_X3_write zi_X3_write zs_X3_write zm_X6_254 zl_42 rfl rfl (Nat.le_of_ble_eq_true rfl) zkn (c_X3_write l  x11 x14 (s17 21 (zix x12)) s17) rfl (Nat.le_of_ble_eq_true rfl) rfl dX6_film_86 (fun _ s19 => ?_)
      refine ze_iincN h (fun y9 => [some (.ref 0), some (.int x11), some (.int x12), some (.int x13), some (.ref 20), some (.int y9)]) 1 dX6_film_89 rfl zk_i_1 rfl (by decide) (fun _ => rfl) (fun x20 => ?_)
      refine ze_pc 92 rfl ?_
      refine ze_goto h 60 dX6_film_92 (by decide) ?_
      exact ih x11 x12 x13 x20 s19
set_option maxRecDepth 20000 in
theorem c_X6_film (l : Launch)  (p1 : Int32) (p2 : Int32) (p3 : Int32) (s0 : zMem) : zC l yX6_film (.code yX6_film cX6_film 6 (some .int)) 6 [.ref 0, .int p1, .int p2, .int p3] zFull s0 (fun r : Int32 => some (.int r)) (f_X6_film p1 p2 p3 s0) := by
  refine zC_of (own := RX6) rfl rfl (Nat.le_of_ble_eq_true rfl) [some (.ref 0), some (.int p1), some (.int p2), some (.int p3), none, none] rfl (fun G T h hR => ?_)
  unfold f_X6_film
  refine ze_aload_n h dX6_film_0 rfl ?_
  refine ze_getR h zl_0 rfl zf_X6_67 dX6_film_1 ?_
  refine ze_iload_n h dX6_film_4 rfl ?_
  refine ze_callVi h (st := []) zce_X3_isSheet zi_X3_isSheet zs_X3_isSheet zm_X6_248 zl_42 rfl rfl (Nat.le_of_ble_eq_true rfl) zkn (c_X3_isSheet l  p1 s0) rfl (Nat.le_of_ble_eq_true rfl) rfl dX6_film_5 (fun r1 s2 => ?_)
  refine ze_if_ne h 14 dX6_film_8 (by decide) ?_ ?_
  · refine ze_aload_n h dX6_film_14 rfl ?_
    refine ze_getR h zl_0 rfl zf_X6_54 dX6_film_15 ?_
    refine ze_iload_n h dX6_film_18 rfl ?_
    refine ze_callVi h (st := []) zce_X5_isHut zi_X5_isHut zs_X5_isHut zm_X6_109 zl_9 rfl rfl (Nat.le_of_ble_eq_true rfl) zkn (c_X5_isHut l zIsW_9 p2 s2) rfl (Nat.le_of_ble_eq_true rfl) rfl dX6_film_19 (fun r3 s4 => ?_)
    refine ze_if_ne h 28 dX6_film_22 (by decide) ?_ ?_
    · refine ze_iload_n h dX6_film_28 rfl ?_
      refine ze_iconst h 0 dX6_film_29 zk_i_0 ?_
      refine ze_bipush h 20 dX6_film_30 zk_b_20 ?_
      refine ze_callSi h (st := []) zce_X6_isFromTo zt_X6_isFromTo zm_X6_101 (Nat.le_of_ble_eq_true rfl) zkn (c_X6_isFromTo l zFull p3 0 20 s4) rfl (Nat.le_of_ble_eq_true rfl) rfl dX6_film_32 (fun r5 s6 => ?_)
      refine ze_if_ne h 41 dX6_film_35 (by decide) ?_ ?_
      · refine ze_aload_n h dX6_film_41 rfl ?_
        refine ze_getR h zl_0 rfl zf_X6_67 dX6_film_42 ?_
        refine ze_iload_n h dX6_film_45 rfl ?_
        refine ze_iconst h 1 dX6_film_46 zk_i_1 ?_
        refine ze_iload_n h dX6_film_47 rfl ?_
        refine ze_callVv h (st := []) zce_X3_renew zi_X3_renew zs_X3_renew zm_X6_251 zl_42 rfl rfl (Nat.le_of_ble_eq_true rfl) zkn (c_X3_renew l  p1 1 p3 s6) rfl (Nat.le_of_ble_eq_true rfl) rfl dX6_film_48 (fun _ s8 => ?_)
        refine ze_aload_n h dX6_film_51 rfl ?_
        refine ze_callVu h (st := []) zce_X6_think zi_X6_think zs_X6_think zm_X6_181 zl_0 rfl rfl (Nat.le_of_ble_eq_true rfl) zkn (c_X6_think l  s8) rfl (Nat.le_of_ble_eq_true rfl) rfl dX6_film_52 (fun _ s10 => ?_)
        refine ze_astore h [some (.ref 0), some (.int p1), some (.int p2), some (.int p3), some (.ref 20), none] dX6_film_55 rfl (by decide) rfl ?_
        refine ze_iconst h 0 dX6_film_57 zk_i_0 ?_
        refine ze_istore h [some (.ref 0), some (.int p1), some (.int p2), some (.int p3), some (.ref 20), some (.int 0)] dX6_film_58 rfl (by decide) rfl ?_
        exact e_X6_film_60 h hR  zN p1 p2 p3 0 s10
      · refine ze_bipush h (-7) dX6_film_38 zk_b_m7 ?_
        exact ze_iret hR dX6_film_40
    · refine ze_bipush h (-5) dX6_film_25 zk_b_m5 ?_
      exact ze_iret hR dX6_film_27
  · refine ze_bipush h (-2) dX6_film_11 zk_b_m2 ?_
    exact ze_iret hR dX6_film_13
set_option maxRecDepth 20000 in
theorem c_X6_isSnow (l : Launch) (Λ : zLay) (p1 : Int32) (p2 : Int32) (s0 : zMem) : zC l yX6_isSnow (.code yX6_isSnow cX6_isSnow 2 (some .boolean)) 2 [.int p1, .int p2] Λ s0 (fun r : Int32 => some (.int r)) (f_X6_isSnow p1 p2 s0) := by
  refine zC_of (own := RX6) rfl rfl (Nat.le_of_ble_eq_true rfl) [some (.int p1), some (.int p2)] rfl (fun G T h hR => ?_)
  unfold f_X6_isSnow
  refine ze_iload_n h dX6_isSnow_0 rfl ?_
  refine ze_iconst h 0 dX6_isSnow_1 zk_i_0 ?_
  refine ze_ldcw h zq_X6_297 dX6_isSnow_2 ?_
  refine ze_callSi h (st := []) zce_X6_isFromTo zt_X6_isFromTo zm_X6_101 (Nat.le_of_ble_eq_true rfl) zkn (c_X6_isFromTo l Λ p1 0 99999 s0) rfl (Nat.le_of_ble_eq_true rfl) rfl dX6_isSnow_5 (fun r1 s2 => ?_)
  refine ze_if_eq h 26 dX6_isSnow_8 (by decide) ?_ ?_
  · refine ze_iconst h 0 dX6_isSnow_26 zk_i_0 ?_
    exact ze_zret hR rfl dX6_isSnow_27
  · refine ze_iload_n h dX6_isSnow_11 rfl ?_
    refine ze_iconst h 0 dX6_isSnow_12 zk_i_0 ?_
    refine ze_sipush h 999 dX6_isSnow_13 zk_s_999 ?_
    refine ze_callSi h (st := []) zce_X6_isFromTo zt_X6_isFromTo zm_X6_101 (Nat.le_of_ble_eq_true rfl) zkn (c_X6_isFromTo l Λ p2 0 999 s2) rfl (Nat.le_of_ble_eq_true rfl) rfl dX6_isSnow_16 (fun r3 s4 => ?_)
    refine ze_if_eq h 26 dX6_isSnow_19 (by decide) ?_ ?_
    · refine ze_iconst h 0 dX6_isSnow_26 zk_i_0 ?_
      exact ze_zret hR rfl dX6_isSnow_27
    · refine ze_iconst h 1 dX6_isSnow_22 zk_i_1 ?_
      refine ze_goto h 27 dX6_isSnow_23 (by decide) ?_
      exact ze_zret hR rfl dX6_isSnow_27
set_option maxRecDepth 20000 in
theorem c_X6_drawn (l : Launch)  (p1 : Int32) (p2 : Int32) (p3 : Int32) (s0 : zMem) : zC l yX6_drawn (.code yX6_drawn cX6_drawn 6 (some .int)) 7 [.ref 0, .int p1, .int p2, .int p3] zFull s0 (fun r : Int32 => some (.int r)) (f_X6_drawn p1 p2 p3 s0) := by
  refine zC_of (own := RX6) rfl rfl (Nat.le_of_ble_eq_true rfl) [some (.ref 0), some (.int p1), some (.int p2), some (.int p3), none, none] rfl (fun G T h hR => ?_)
  unfold f_X6_drawn
  refine ze_iload_n h dX6_drawn_0 rfl ?_
  refine ze_iload_n h dX6_drawn_1 rfl ?_
  refine ze_callSi h (st := []) zce_X6_isSnow zt_X6_isSnow zm_X6_266 (Nat.le_of_ble_eq_true rfl) zkn (c_X6_isSnow l zFull p1 p2 s0) rfl (Nat.le_of_ble_eq_true rfl) rfl dX6_drawn_2 (fun r1 s2 => ?_)
  refine ze_if_eq h 17 dX6_drawn_5 (by decide) ?_ ?_
  · refine ze_bipush h (-2) dX6_drawn_17 zk_b_m2 ?_
    exact ze_iret hR dX6_drawn_19
  · refine ze_iload_n h dX6_drawn_8 rfl ?_
    refine ze_iconst h 0 dX6_drawn_9 zk_i_0 ?_
    refine ze_iconst h 1 dX6_drawn_10 zk_i_1 ?_
    refine ze_callSi h (st := []) zce_X6_isFromTo zt_X6_isFromTo zm_X6_101 (Nat.le_of_ble_eq_true rfl) zkn (c_X6_isFromTo l zFull p3 0 1 s2) rfl (Nat.le_of_ble_eq_true rfl) rfl dX6_drawn_11 (fun r3 s4 => ?_)
    refine ze_if_ne h 20 dX6_drawn_14 (by decide) ?_ ?_
    · refine ze_aload_n h dX6_drawn_20 rfl ?_
      refine ze_callVu h (st := []) zce_X6_think zi_X6_think zs_X6_think zm_X6_181 zl_0 rfl rfl (Nat.le_of_ble_eq_true rfl) zkn (c_X6_think l  s4) rfl (Nat.le_of_ble_eq_true rfl) rfl dX6_drawn_21 (fun _ s6 => ?_)
      refine ze_astore h [some (.ref 0), some (.int p1), some (.int p2), some (.int p3), some (.ref 20), none] dX6_drawn_24 rfl (by decide) rfl ?_
      refine ze_aload h dX6_drawn_26 rfl ?_
      refine ze_iload_n h dX6_drawn_28 rfl ?_
      refine ze_iload_n h dX6_drawn_29 rfl ?_
      refine ze_callVi h (st := []) zce_X5_passSnow zi_X5_passSnow zs_X5_passSnow zm_X6_269 zl_20 rfl rfl (Nat.le_of_ble_eq_true rfl) zkn (c_X5_passSnow l zIsW_20 p1 p2 s6) rfl (Nat.le_of_ble_eq_true rfl) rfl dX6_drawn_30 (fun r7 s8 => ?_)
      refine ze_istore h [some (.ref 0), some (.int p1), some (.int p2), some (.int p3), some (.ref 20), some (.int r7)] dX6_drawn_33 rfl (by decide) rfl ?_
      refine ze_iload_n h dX6_drawn_35 rfl ?_
      refine ze_if_ne h 44 dX6_drawn_36 (by decide) ?_ ?_
      · refine ze_aload h dX6_drawn_44 rfl ?_
        refine ze_callVi h (st := []) zce_X5_heatOfAll zi_X5_heatOfAll zs_X5_heatOfAll zm_X6_89 zl_20 rfl rfl (Nat.le_of_ble_eq_true rfl) zkn (c_X5_heatOfAll l zIsW_20 s8) rfl (Nat.le_of_ble_eq_true rfl) rfl dX6_drawn_46 (fun r9 s10 => ?_)
        exact ze_iret hR dX6_drawn_49
      · refine ze_iload h dX6_drawn_39 rfl ?_
        refine ze_goto h 49 dX6_drawn_41 (by decide) ?_
        exact ze_iret hR dX6_drawn_49
    · refine ze_bipush h (-2) dX6_drawn_17 zk_b_m2 ?_
      exact ze_iret hR dX6_drawn_19
set_option maxRecDepth 20000 in
theorem e_X6_greatestShared_2 {l : Launch} {G : zGT} {T : Option Value × zMem} {Λ : zLay} (h : zOk G l cX6_greatestShared RX6 3 1 0 0 false) (hR : zR G cX6_greatestShared (some .int) T Λ 0 0)   : ∀ (n : Nat) (x1 : Int32) (x2 : Int32) (x3 : Int32) (s4 : zMem), zE G T (fun r : Int32 => some (.int r)) Λ 0 0 2 [some (.int x1), some (.int x2), some (.int x3)] [] s4 (f_X6_greatestShared_2 n x1 x2 x3 s4) := by
  intro n
  induction n with
  | zero => intro _ _ _ _; exact ze_none
  | succ n ih =>
    intro x1 x2 x3 s4
    rw [f_X6_greatestShared_2]
    refine ze_iload_n h dX6_greatestShared_2 rfl ?_
    refine ze_iconst h 1 dX6_greatestShared_3 zk_i_1 ?_
    refine ze_icmp_le h 27 dX6_greatestShared_4 (by decide) ?_ ?_
    · refine ze_iconst h 1 dX6_greatestShared_27 zk_i_1 ?_
      exact ze_iret hR dX6_greatestShared_28
    · refine ze_iload_n h dX6_greatestShared_7 rfl ?_
      refine ze_iload_n h dX6_greatestShared_8 rfl ?_
      refine ze_iremG h dX6_greatestShared_9 ?_
      refine ze_if_ne h 21 dX6_greatestShared_10 (by decide) ?_ ?_
      · refine ze_iincN h (fun y9 => [some (.int x1), some (.int x2), some (.int y9)]) (-1) dX6_greatestShared_21 rfl zk_i_m1 rfl (by decide) (fun _ => rfl) (fun x5 => ?_)
        refine ze_goto h 2 dX6_greatestShared_24 (by decide) ?_
        exact ih x1 x2 x5 s4
      · refine ze_iload_n h dX6_greatestShared_13 rfl ?_
        refine ze_iload_n h dX6_greatestShared_14 rfl ?_
        refine ze_iremG h dX6_greatestShared_15 ?_
        refine ze_if_ne h 21 dX6_greatestShared_16 (by decide) ?_ ?_
        · refine ze_iincN h (fun y9 => [some (.int x1), some (.int x2), some (.int y9)]) (-1) dX6_greatestShared_21 rfl zk_i_m1 rfl (by decide) (fun _ => rfl) (fun x6 => ?_)
          refine ze_goto h 2 dX6_greatestShared_24 (by decide) ?_
          exact ih x1 x2 x6 s4
        · refine ze_iload_n h dX6_greatestShared_19 rfl ?_
          exact ze_iret hR dX6_greatestShared_20
set_option maxRecDepth 20000 in
theorem c_X6_greatestShared (l : Launch) (Λ : zLay) (p1 : Int32) (p2 : Int32) (s0 : zMem) : zC l yX6_greatestShared (.code yX6_greatestShared cX6_greatestShared 3 (some .int)) 1 [.int p1, .int p2] Λ s0 (fun r : Int32 => some (.int r)) (f_X6_greatestShared p1 p2 s0) := by
  refine zC_of (own := RX6) rfl rfl (Nat.le_of_ble_eq_true rfl) [some (.int p1), some (.int p2), none] rfl (fun G T h hR => ?_)
  unfold f_X6_greatestShared
  refine ze_iload_n h dX6_greatestShared_0 rfl ?_
  refine ze_istore_n h [some (.int p1), some (.int p2), some (.int p2)] dX6_greatestShared_1 rfl (by decide) rfl ?_
  exact e_X6_greatestShared_2 h hR  zN p1 p2 p2 s0
set_option maxRecDepth 20000 in
theorem e_X6_odds_49 {l : Launch} {G : zGT} {T : Option Value × zMem} (h : zOk G l cX6_odds RX6 8 7 0 0 false) (hR : zR G cX6_odds (some .long) T zFull 0 0)  (c84 : Int32 → Int32 → Int32 → zMem → Option (Int64 × zMem)) (hc84 : ∀ (y1 : Int32) (y2 : Int32) (y3 : Int32) (s9 : zMem), zE G T (fun r : Int64 => some (.long r)) zFull 0 0 84 [none, none, some (.int y1), none, none, some (.int y2), some (.int y3), none] [] s9 (c84 y1 y2 y3 s9)) : ∀ (n : Nat) (x9 : Int32) (x10 : Int32) (x11 : Int32) (x12 : Int32) (x13 : Int32) (x14 : Int32) (x15 : Int32) (s16 : zMem), zE G T (fun r : Int64 => some (.long r)) zFull 0 0 49 [some (.ref 0), some (.int x9), some (.int x10), some (.int x11), some (.int x12), some (.int x13), some (.int x14), some (.int x15)] [] s16 (f_X6_odds_49 c84 n x9 x10 x11 x12 x13 x14 x15 s16) := by
  intro n
  induction n with
  | zero => intro _ _ _ _ _ _ _ _; exact ze_none
  | succ n ih =>
    intro x9 x10 x11 x12 x13 x14 x15 s16
    rw [f_X6_odds_49]
    refine ze_iload h dX6_odds_49 rfl ?_
    refine ze_iload_n h dX6_odds_51 rfl ?_
    refine ze_icmp_ge h 84 dX6_odds_52 (by decide) ?_ ?_
    · refine zE_weak h [false, false, true, false, false, true, true, false] rfl ?_
      exact hc84 x10 x13 x14 s16
    · refine ze_aload_n h dX6_odds_55 rfl ?_
      refine ze_callVu h (st := []) zce_X6_think zi_X6_think zs_X6_think zm_X6_181 zl_0 rfl rfl (Nat.le_of_ble_eq_true rfl) zkn (c_X6_think l  s16) rfl (Nat.le_of_ble_eq_true rfl) rfl dX6_odds_56 (fun _ s18 => ?_)
      refine ze_iload_n h dX6_odds_59 rfl ?_
      refine ze_iload h dX6_odds_60 rfl ?_
      refine ze_iadd h dX6_odds_62 ?_
      refine ze_iload_n h dX6_odds_63 rfl ?_
      refine ze_callVi h (st := []) zce_X5_passSnow zi_X5_passSnow zs_X5_passSnow zm_X6_269 zl_20 rfl rfl (Nat.le_of_ble_eq_true rfl) zkn (c_X5_passSnow l zIsW_20 (x9 + x15) x11 s18) rfl (Nat.le_of_ble_eq_true rfl) rfl dX6_odds_64 (fun r19 s20 => ?_)
      refine ze_callSi h (st := []) zce_J6_bitCount_0f7a4 zt_J6_bitCount_0f7a4 zm_X6_224 (Nat.le_of_ble_eq_true rfl) zkn (c_J6_bitCount_0f7a4 l zFull r19 s20) rfl (Nat.le_of_ble_eq_true rfl) rfl dX6_odds_67 (fun r21 s22 => ?_)
      refine ze_iload h dX6_odds_70 rfl ?_
      refine ze_icmp_lt h 78 dX6_odds_72 (by decide) ?_ ?_
      · refine ze_iincN h (fun y9 => [some (.ref 0), some (.int x9), some (.int x10), some (.int x11), some (.int x12), some (.int x13), some (.int x14), some (.int y9)]) 1 dX6_odds_78 rfl zk_i_1 rfl (by decide) (fun _ => rfl) (fun x23 => ?_)
        refine ze_goto h 49 dX6_odds_81 (by decide) ?_
        exact ih x9 x10 x11 x12 x13 x14 x23 s22
      · refine ze_iincN h (fun y9 => [some (.ref 0), some (.int x9), some (.int x10), some (.int x11), some (.int x12), some (.int x13), some (.int y9), some (.int x15)]) 1 dX6_odds_75 rfl zk_i_1 rfl (by decide) (fun _ => rfl) (fun x24 => ?_)
        refine ze_iincN h (fun y9 => [some (.ref 0), some (.int x9), some (.int x10), some (.int x11), some (.int x12), some (.int x13), some (.int x24), some (.int y9)]) 1 dX6_odds_78 rfl zk_i_1 rfl (by decide) (fun _ => rfl) (fun x25 => ?_)
        refine ze_goto h 49 dX6_odds_81 (by decide) ?_
        exact ih x9 x10 x11 x12 x13 x24 x25 s22
set_option maxRecDepth 20000 in
theorem c_X6_odds (l : Launch)  (p1 : Int32) (p2 : Int32) (p3 : Int32) (p4 : Int32) (p5 : Int32) (s0 : zMem) : zC l yX6_odds (.code yX6_odds cX6_odds 8 (some .long)) 7 [.ref 0, .int p1, .int p2, .int p3, .int p4, .int p5] zFull s0 (fun r : Int64 => some (.long r)) (f_X6_odds p1 p2 p3 p4 p5 s0) := by
  refine zC_of (own := RX6) rfl rfl (Nat.le_of_ble_eq_true rfl) [some (.ref 0), some (.int p1), some (.int p2), some (.int p3), some (.int p4), some (.int p5), none, none] rfl (fun G T h hR => ?_)
  unfold f_X6_odds
  refine ze_iload_n h dX6_odds_0 rfl ?_
  refine ze_iload_n h dX6_odds_1 rfl ?_
  refine ze_callSi h (st := []) zce_X6_isSnow zt_X6_isSnow zm_X6_266 (Nat.le_of_ble_eq_true rfl) zkn (c_X6_isSnow l zFull p1 p3 s0) rfl (Nat.le_of_ble_eq_true rfl) rfl dX6_odds_2 (fun r1 s2 => ?_)
  refine ze_if_eq h 39 dX6_odds_5 (by decide) ?_ ?_
  · refine ze_ldc2 h zq_X6_272 dX6_odds_39 ?_
    exact ze_lret hR dX6_odds_42
  · refine ze_iload_n h dX6_odds_8 rfl ?_
    refine ze_iconst h 1 dX6_odds_9 zk_i_1 ?_
    refine ze_bipush h 40 dX6_odds_10 zk_b_40 ?_
    refine ze_callSi h (st := []) zce_X6_isFromTo zt_X6_isFromTo zm_X6_101 (Nat.le_of_ble_eq_true rfl) zkn (c_X6_isFromTo l zFull p2 1 40 s2) rfl (Nat.le_of_ble_eq_true rfl) rfl dX6_odds_12 (fun r3 s4 => ?_)
    refine ze_if_eq h 39 dX6_odds_15 (by decide) ?_ ?_
    · refine ze_ldc2 h zq_X6_272 dX6_odds_39 ?_
      exact ze_lret hR dX6_odds_42
    · refine ze_iload h dX6_odds_18 rfl ?_
      refine ze_iconst h 0 dX6_odds_20 zk_i_0 ?_
      refine ze_bipush h 6 dX6_odds_21 zk_b_6 ?_
      refine ze_callSi h (st := []) zce_X6_isFromTo zt_X6_isFromTo zm_X6_101 (Nat.le_of_ble_eq_true rfl) zkn (c_X6_isFromTo l zFull p4 0 6 s4) rfl (Nat.le_of_ble_eq_true rfl) rfl dX6_odds_23 (fun r5 s6 => ?_)
      refine ze_if_eq h 39 dX6_odds_26 (by decide) ?_ ?_
      · refine ze_ldc2 h zq_X6_272 dX6_odds_39 ?_
        exact ze_lret hR dX6_odds_42
      · refine ze_iload h dX6_odds_29 rfl ?_
        refine ze_iconst h 0 dX6_odds_31 zk_i_0 ?_
        refine ze_iconst h 1 dX6_odds_32 zk_i_1 ?_
        refine ze_callSi h (st := []) zce_X6_isFromTo zt_X6_isFromTo zm_X6_101 (Nat.le_of_ble_eq_true rfl) zkn (c_X6_isFromTo l zFull p5 0 1 s6) rfl (Nat.le_of_ble_eq_true rfl) rfl dX6_odds_33 (fun r7 s8 => ?_)
        refine ze_if_ne h 43 dX6_odds_36 (by decide) ?_ ?_
        · refine ze_iconst h 0 dX6_odds_43 zk_i_0 ?_
          refine ze_istore h [some (.ref 0), some (.int p1), some (.int p2), some (.int p3), some (.int p4), some (.int p5), some (.int 0), none] dX6_odds_44 rfl (by decide) rfl ?_
          refine ze_iconst h 0 dX6_odds_46 zk_i_0 ?_
          refine ze_istore h [some (.ref 0), some (.int p1), some (.int p2), some (.int p3), some (.int p4), some (.int p5), some (.int 0), some (.int 0)] dX6_odds_47 rfl (by decide) rfl ?_
          refine e_X6_odds_49 h hR _ ?_ zN p1 p2 p3 p4 p5 0 0 s8
          · intro x26 x27 x28 s29
            refine ze_iload h dX6_odds_84 rfl ?_
            refine ze_iload_n h dX6_odds_86 rfl ?_
            refine ze_callSi h (st := []) zce_X6_greatestShared zt_X6_greatestShared zm_X6_274 (Nat.le_of_ble_eq_true rfl) zkn (c_X6_greatestShared l zFull x28 x26 s29) rfl (Nat.le_of_ble_eq_true rfl) rfl dX6_odds_87 (fun r30 s31 => ?_)
            refine ze_istore h [none, none, some (.int x26), none, none, some (.int x27), some (.int x28), some (.int r30)] dX6_odds_90 rfl (by decide) rfl ?_
            refine ze_iload h dX6_odds_92 rfl ?_
            refine ze_if_ne h 106 dX6_odds_94 (by decide) ?_ ?_
            · refine ze_iload_n h dX6_odds_106 rfl ?_
              refine ze_iload h dX6_odds_107 rfl ?_
              refine ze_idivG h dX6_odds_109 ?_
              refine ze_i2l h dX6_odds_110 ?_
              exact ze_lret hR dX6_odds_111
            · refine ze_iload h dX6_odds_97 rfl ?_
              refine ze_iload h dX6_odds_99 rfl ?_
              refine ze_idivG h dX6_odds_101 ?_
              refine ze_i2l h dX6_odds_102 ?_
              refine ze_goto h 111 dX6_odds_103 (by decide) ?_
              exact ze_lret hR dX6_odds_111
        · refine ze_ldc2 h zq_X6_272 dX6_odds_39 ?_
          exact ze_lret hR dX6_odds_42
set_option maxRecDepth 20000 in
theorem c_X6_image (l : Launch)   (s0 : zMem) : zC l yX6_image (.code yX6_image cX6_image 1 (some .int)) 3 [.ref 0] zFull s0 (fun r : Int32 => some (.int r)) (f_X6_image s0) := by
  refine zC_of (own := RX6) rfl rfl (Nat.le_of_ble_eq_true rfl) [some (.ref 0)] rfl (fun G T h hR => ?_)
  unfold f_X6_image
  refine ze_aload_n h dX6_image_0 rfl ?_
  refine ze_getR h zl_0 rfl zf_X6_61 dX6_image_1 ?_
  refine ze_aload_n h dX6_image_4 rfl ?_
  refine ze_getR h zl_0 rfl zf_X6_54 dX6_image_5 ?_
  refine ze_callVv h (st := []) zce_X5_becomeAs zi_X5_becomeAs zs_X5_becomeAs zm_X6_277 zl_31 rfl rfl (Nat.le_of_ble_eq_true rfl) zkn (c_X5_becomeAs l zIsW_31 zIsW_9 s0) rfl (Nat.le_of_ble_eq_true rfl) rfl dX6_image_8 (fun _ s2 => ?_)
  refine ze_aload_n h dX6_image_11 rfl ?_
  refine ze_iconst h 1 dX6_image_12 zk_i_1 ?_
  refine ze_putI h zl_0 rfl zf_X6_75 rfl rfl dX6_image_13 ?_
  refine ze_nmS (fun s3 => ?_)
  refine ze_aload_n h dX6_image_16 rfl ?_
  refine ze_getR h zl_0 rfl zf_X6_54 dX6_image_17 ?_
  refine ze_getI h zl_9 rfl zf_X6_79 dX6_image_20 ?_
  exact ze_iret hR dX6_image_23
set_option maxRecDepth 20000 in
theorem c_X6_back (l : Launch)   (s0 : zMem) : zC l yX6_back (.code yX6_back cX6_back 1 (some .int)) 3 [.ref 0] zFull s0 (fun r : Int32 => some (.int r)) (f_X6_back s0) := by
  refine zC_of (own := RX6) rfl rfl (Nat.le_of_ble_eq_true rfl) [some (.ref 0)] rfl (fun G T h hR => ?_)
  unfold f_X6_back
  refine ze_aload_n h dX6_back_0 rfl ?_
  refine ze_getI h zl_0 rfl zf_X6_75 dX6_back_1 ?_
  refine ze_if_ne h 10 dX6_back_4 (by decide) ?_ ?_
  · refine ze_aload_n h dX6_back_10 rfl ?_
    refine ze_getR h zl_0 rfl zf_X6_54 dX6_back_11 ?_
    refine ze_aload_n h dX6_back_14 rfl ?_
    refine ze_getR h zl_0 rfl zf_X6_61 dX6_back_15 ?_
    refine ze_callVv h (st := []) zce_X5_becomeAs zi_X5_becomeAs zs_X5_becomeAs zm_X6_277 zl_9 rfl rfl (Nat.le_of_ble_eq_true rfl) zkn (c_X5_becomeAs l zIsW_9 zIsW_31 s0) rfl (Nat.le_of_ble_eq_true rfl) rfl dX6_back_18 (fun _ s2 => ?_)
    refine ze_aload_n h dX6_back_21 rfl ?_
    refine ze_getR h zl_0 rfl zf_X6_54 dX6_back_22 ?_
    refine ze_getI h zl_9 rfl zf_X6_79 dX6_back_25 ?_
    exact ze_iret hR dX6_back_28
  · refine ze_bipush h (-3) dX6_back_7 zk_b_m3 ?_
    exact ze_iret hR dX6_back_9
set_option maxRecDepth 20000 in
theorem e_X6_sheet_33 {l : Launch} {G : zGT} {T : Option Value × zMem} (h : zOk G l cX6_sheet RX6 5 2 0 0 false) (hR : zR G cX6_sheet (some .int) T zFull 0 0)   : ∀ (x5 : Int32) (x6 : Int32) (t7 : Int32) (s8 : zMem), zE G T (fun r : Int32 => some (.int r)) zFull 0 0 33 [some (.ref 0), some (.int x5), some (.int x6), none, none] [.int t7] s8 (f_X6_sheet_33  x5 x6 t7 s8) := by
  intro x5 x6 t7 s8
  unfold f_X6_sheet_33
  refine ze_istore h [some (.ref 0), some (.int x5), some (.int x6), none, some (.int t7)] dX6_sheet_33 rfl (by decide) rfl ?_
  refine ze_iload h dX6_sheet_35 rfl ?_
  refine ze_bipush h 40 dX6_sheet_37 zk_b_40 ?_
  refine ze_icmp_le h 45 dX6_sheet_39 (by decide) ?_ ?_
  · refine ze_iload h dX6_sheet_45 rfl ?_
    refine ze_if_ge h 53 dX6_sheet_47 (by decide) ?_ ?_
    · refine ze_aload_n h dX6_sheet_53 rfl ?_
      refine ze_getR h zl_0 rfl zf_X6_67 dX6_sheet_54 ?_
      refine ze_iload_n h dX6_sheet_57 rfl ?_
      refine ze_iload_n h dX6_sheet_58 rfl ?_
      refine ze_iload h dX6_sheet_59 rfl ?_
      refine ze_callVv h (st := []) zce_X3_renew zi_X3_renew zs_X3_renew zm_X6_251 zl_42 rfl rfl (Nat.le_of_ble_eq_true rfl) zkn (c_X3_renew l  x5 x6 t7 s8) rfl (Nat.le_of_ble_eq_true rfl) rfl dX6_sheet_61 (fun _ s10 => ?_)
      refine ze_iconst h 1 dX6_sheet_64 zk_i_1 ?_
      exact ze_iret hR dX6_sheet_65
    · refine ze_bipush h (-14) dX6_sheet_50 zk_b_m14 ?_
      exact ze_iret hR dX6_sheet_52
  · refine ze_bipush h (-2) dX6_sheet_42 zk_b_m2 ?_
    exact ze_iret hR dX6_sheet_44
set_option maxRecDepth 20000 in
theorem c_X6_sheet (l : Launch)  (p1 : Int32) (p2 : Int32) (p3 : Int32) (s0 : zMem) : zC l yX6_sheet (.code yX6_sheet cX6_sheet 5 (some .int)) 2 [.ref 0, .int p1, .int p2, .int p3] zFull s0 (fun r : Int32 => some (.int r)) (f_X6_sheet p1 p2 p3 s0) := by
  refine zC_of (own := RX6) rfl rfl (Nat.le_of_ble_eq_true rfl) [some (.ref 0), some (.int p1), some (.int p2), some (.int p3), none] rfl (fun G T h hR => ?_)
  unfold f_X6_sheet
  refine ze_aload_n h dX6_sheet_0 rfl ?_
  refine ze_getR h zl_0 rfl zf_X6_67 dX6_sheet_1 ?_
  refine ze_iload_n h dX6_sheet_4 rfl ?_
  refine ze_callVi h (st := []) zce_X3_isSheet zi_X3_isSheet zs_X3_isSheet zm_X6_248 zl_42 rfl rfl (Nat.le_of_ble_eq_true rfl) zkn (c_X3_isSheet l  p1 s0) rfl (Nat.le_of_ble_eq_true rfl) rfl dX6_sheet_5 (fun r1 s2 => ?_)
  refine ze_if_eq h 20 dX6_sheet_8 (by decide) ?_ ?_
  · refine ze_bipush h (-2) dX6_sheet_20 zk_b_m2 ?_
    exact ze_iret hR dX6_sheet_22
  · refine ze_iload_n h dX6_sheet_11 rfl ?_
    refine ze_iconst h (-1) dX6_sheet_12 zk_i_m1 ?_
    refine ze_iconst h 2 dX6_sheet_13 zk_i_2 ?_
    refine ze_callSi h (st := []) zce_X6_isFromTo zt_X6_isFromTo zm_X6_101 (Nat.le_of_ble_eq_true rfl) zkn (c_X6_isFromTo l zFull p2 (-1) 2 s2) rfl (Nat.le_of_ble_eq_true rfl) rfl dX6_sheet_14 (fun r3 s4 => ?_)
    refine ze_if_ne h 23 dX6_sheet_17 (by decide) ?_ ?_
    · refine ze_iload_n h dX6_sheet_23 rfl ?_
      refine ze_iconst h (-1) dX6_sheet_24 zk_i_m1 ?_
      refine ze_icmp_ne h 32 dX6_sheet_25 (by decide) ?_ ?_
      · refine ze_iload_n h dX6_sheet_32 rfl ?_
        refine zE_weak h [true, true, true, false, false] rfl ?_
        exact e_X6_sheet_33 h hR  p1 p2 p3 s4
      · refine ze_iconst h 0 dX6_sheet_28 zk_i_0 ?_
        refine ze_goto h 33 dX6_sheet_29 (by decide) ?_
        refine zE_weak h [true, true, true, false, false] rfl ?_
        exact e_X6_sheet_33 h hR  p1 p2 0 s4
    · refine ze_bipush h (-2) dX6_sheet_20 zk_b_m2 ?_
      exact ze_iret hR dX6_sheet_22
set_option maxRecDepth 20000 in
theorem c_X6_cell (l : Launch)  (p1 : Int32) (p2 : Int32) (p3 : Int32) (s0 : zMem) : zC l yX6_cell (.code yX6_cell cX6_cell 4 (some .int)) 2 [.ref 0, .int p1, .int p2, .int p3] zFull s0 (fun r : Int32 => some (.int r)) (f_X6_cell p1 p2 p3 s0) := by
  refine zC_of (own := RX6) rfl rfl (Nat.le_of_ble_eq_true rfl) [some (.ref 0), some (.int p1), some (.int p2), some (.int p3)] rfl (fun G T h hR => ?_)
  unfold f_X6_cell
  refine ze_aload_n h dX6_cell_0 rfl ?_
  refine ze_getR h zl_0 rfl zf_X6_67 dX6_cell_1 ?_
  refine ze_iload_n h dX6_cell_4 rfl ?_
  refine ze_callVi h (st := []) zce_X3_isSheet zi_X3_isSheet zs_X3_isSheet zm_X6_248 zl_42 rfl rfl (Nat.le_of_ble_eq_true rfl) zkn (c_X3_isSheet l  p1 s0) rfl (Nat.le_of_ble_eq_true rfl) rfl dX6_cell_5 (fun r1 s2 => ?_)
  refine ze_if_ne h 14 dX6_cell_8 (by decide) ?_ ?_
  · refine ze_aload_n h dX6_cell_14 rfl ?_
    refine ze_getR h zl_0 rfl zf_X6_67 dX6_cell_15 ?_
    refine ze_iload_n h dX6_cell_18 rfl ?_
    refine ze_callVi h (st := []) zce_X3_isMissing zi_X3_isMissing zs_X3_isMissing zm_X6_263 zl_42 rfl rfl (Nat.le_of_ble_eq_true rfl) zkn (c_X3_isMissing l  p1 s2) rfl (Nat.le_of_ble_eq_true rfl) rfl dX6_cell_19 (fun r3 s4 => ?_)
    refine ze_if_eq h 28 dX6_cell_22 (by decide) ?_ ?_
    · refine ze_aload_n h dX6_cell_28 rfl ?_
      refine ze_getR h zl_0 rfl zf_X6_67 dX6_cell_29 ?_
      refine ze_iload_n h dX6_cell_32 rfl ?_
      refine ze_iload_n h dX6_cell_33 rfl ?_
      refine ze_callVi h (st := []) zce_X3_isPlace zi_X3_isPlace zs_X3_isPlace zm_X6_281 zl_42 rfl rfl (Nat.le_of_ble_eq_true rfl) zkn (c_X3_isPlace l  p1 p2 s4) rfl (Nat.le_of_ble_eq_true rfl) rfl dX6_cell_34 (fun r5 s6 => ?_)
      refine ze_if_ne h 43 dX6_cell_37 (by decide) ?_ ?_
      · refine ze_aload_n h dX6_cell_43 rfl ?_
        refine ze_getR h zl_0 rfl zf_X6_67 dX6_cell_44 ?_
        refine ze_iload_n h dX6_cell_47 rfl ?_
        refine ze_iload_n h dX6_cell_48 rfl ?_
        refine ze_iload_n h dX6_cell_49 rfl ?_
        refine ze_callVv h (st := []) zce_X3_write zi_X3_write zs_X3_write zm_X6_254 zl_42 rfl rfl (Nat.le_of_ble_eq_true rfl) zkn (c_X3_write l  p1 p2 p3 s6) rfl (Nat.le_of_ble_eq_true rfl) rfl dX6_cell_50 (fun _ s8 => ?_)
        refine ze_iconst h 1 dX6_cell_53 zk_i_1 ?_
        exact ze_iret hR dX6_cell_54
      · refine ze_bipush h (-12) dX6_cell_40 zk_b_m12 ?_
        exact ze_iret hR dX6_cell_42
    · refine ze_bipush h (-11) dX6_cell_25 zk_b_m11 ?_
      exact ze_iret hR dX6_cell_27
  · refine ze_bipush h (-2) dX6_cell_11 zk_b_m2 ?_
    exact ze_iret hR dX6_cell_13
set_option maxRecDepth 20000 in
theorem c_X6_copy (l : Launch)  (p1 : Int32) (p2 : Int32) (p3 : Int32) (p4 : Int32) (p5 : Int32) (s0 : zMem) : zC l yX6_copy (.code yX6_copy cX6_copy 6 (some .int)) 3 [.ref 0, .int p1, .int p2, .int p3, .int p4, .int p5] zFull s0 (fun r : Int32 => some (.int r)) (f_X6_copy p1 p2 p3 p4 p5 s0) := by
  refine zC_of (own := RX6) rfl rfl (Nat.le_of_ble_eq_true rfl) [some (.ref 0), some (.int p1), some (.int p2), some (.int p3), some (.int p4), some (.int p5)] rfl (fun G T h hR => ?_)
  unfold f_X6_copy
  refine ze_aload_n h dX6_copy_0 rfl ?_
  refine ze_getR h zl_0 rfl zf_X6_67 dX6_copy_1 ?_
  refine ze_iload_n h dX6_copy_4 rfl ?_
  refine ze_callVi h (st := []) zce_X3_isSheet zi_X3_isSheet zs_X3_isSheet zm_X6_248 zl_42 rfl rfl (Nat.le_of_ble_eq_true rfl) zkn (c_X3_isSheet l  p1 s0) rfl (Nat.le_of_ble_eq_true rfl) rfl dX6_copy_5 (fun r1 s2 => ?_)
  refine ze_if_eq h 22 dX6_copy_8 (by decide) ?_ ?_
  · refine ze_bipush h (-2) dX6_copy_22 zk_b_m2 ?_
    exact ze_iret hR dX6_copy_24
  · refine ze_aload_n h dX6_copy_11 rfl ?_
    refine ze_getR h zl_0 rfl zf_X6_67 dX6_copy_12 ?_
    refine ze_iload_n h dX6_copy_15 rfl ?_
    refine ze_callVi h (st := []) zce_X3_isSheet zi_X3_isSheet zs_X3_isSheet zm_X6_248 zl_42 rfl rfl (Nat.le_of_ble_eq_true rfl) zkn (c_X3_isSheet l  p3 s2) rfl (Nat.le_of_ble_eq_true rfl) rfl dX6_copy_16 (fun r3 s4 => ?_)
    refine ze_if_ne h 25 dX6_copy_19 (by decide) ?_ ?_
    · refine ze_aload_n h dX6_copy_25 rfl ?_
      refine ze_getR h zl_0 rfl zf_X6_67 dX6_copy_26 ?_
      refine ze_iload_n h dX6_copy_29 rfl ?_
      refine ze_callVi h (st := []) zce_X3_isMissing zi_X3_isMissing zs_X3_isMissing zm_X6_263 zl_42 rfl rfl (Nat.le_of_ble_eq_true rfl) zkn (c_X3_isMissing l  p1 s4) rfl (Nat.le_of_ble_eq_true rfl) rfl dX6_copy_30 (fun r5 s6 => ?_)
      refine ze_if_ne h 47 dX6_copy_33 (by decide) ?_ ?_
      · refine ze_bipush h (-11) dX6_copy_47 zk_b_m11 ?_
        exact ze_iret hR dX6_copy_49
      · refine ze_aload_n h dX6_copy_36 rfl ?_
        refine ze_getR h zl_0 rfl zf_X6_67 dX6_copy_37 ?_
        refine ze_iload_n h dX6_copy_40 rfl ?_
        refine ze_callVi h (st := []) zce_X3_isMissing zi_X3_isMissing zs_X3_isMissing zm_X6_263 zl_42 rfl rfl (Nat.le_of_ble_eq_true rfl) zkn (c_X3_isMissing l  p3 s6) rfl (Nat.le_of_ble_eq_true rfl) rfl dX6_copy_41 (fun r7 s8 => ?_)
        refine ze_if_eq h 50 dX6_copy_44 (by decide) ?_ ?_
        · refine ze_aload_n h dX6_copy_50 rfl ?_
          refine ze_getR h zl_0 rfl zf_X6_67 dX6_copy_51 ?_
          refine ze_iload_n h dX6_copy_54 rfl ?_
          refine ze_callVi h (st := []) zce_X3_sortOf zi_X3_sortOf zs_X3_sortOf zm_X6_284 zl_42 rfl rfl (Nat.le_of_ble_eq_true rfl) zkn (c_X3_sortOf l  p1 s8) rfl (Nat.le_of_ble_eq_true rfl) rfl dX6_copy_55 (fun r9 s10 => ?_)
          refine ze_aload_n h dX6_copy_58 rfl ?_
          refine ze_getR h zl_0 rfl zf_X6_67 dX6_copy_59 ?_
          refine ze_iload_n h dX6_copy_62 rfl ?_
          refine ze_callVi h (st := [.int r9]) zce_X3_sortOf zi_X3_sortOf zs_X3_sortOf zm_X6_284 zl_42 rfl rfl (Nat.le_of_ble_eq_true rfl) zkn (c_X3_sortOf l  p3 s10) rfl (Nat.le_of_ble_eq_true rfl) rfl dX6_copy_63 (fun r11 s12 => ?_)
          refine ze_icmp_eq h 72 dX6_copy_66 (by decide) ?_ ?_
          · refine ze_aload_n h dX6_copy_72 rfl ?_
            refine ze_getR h zl_0 rfl zf_X6_67 dX6_copy_73 ?_
            refine ze_iload_n h dX6_copy_76 rfl ?_
            refine ze_iload_n h dX6_copy_77 rfl ?_
            refine ze_iload h dX6_copy_78 rfl ?_
            refine ze_callVi h (st := []) zce_X3_isStretch zi_X3_isStretch zs_X3_isStretch zm_X6_287 zl_42 rfl rfl (Nat.le_of_ble_eq_true rfl) zkn (c_X3_isStretch l  p1 p2 p5 s12) rfl (Nat.le_of_ble_eq_true rfl) rfl dX6_copy_80 (fun r13 s14 => ?_)
            refine ze_if_eq h 101 dX6_copy_83 (by decide) ?_ ?_
            · refine ze_bipush h (-12) dX6_copy_101 zk_b_m12 ?_
              exact ze_iret hR dX6_copy_103
            · refine ze_aload_n h dX6_copy_86 rfl ?_
              refine ze_getR h zl_0 rfl zf_X6_67 dX6_copy_87 ?_
              refine ze_iload_n h dX6_copy_90 rfl ?_
              refine ze_iload h dX6_copy_91 rfl ?_
              refine ze_iload h dX6_copy_93 rfl ?_
              refine ze_callVi h (st := []) zce_X3_isStretch zi_X3_isStretch zs_X3_isStretch zm_X6_287 zl_42 rfl rfl (Nat.le_of_ble_eq_true rfl) zkn (c_X3_isStretch l  p3 p4 p5 s14) rfl (Nat.le_of_ble_eq_true rfl) rfl dX6_copy_95 (fun r15 s16 => ?_)
              refine ze_if_ne h 104 dX6_copy_98 (by decide) ?_ ?_
              · refine ze_aload_n h dX6_copy_104 rfl ?_
                refine ze_getR h zl_0 rfl zf_X6_67 dX6_copy_105 ?_
                refine ze_iload_n h dX6_copy_108 rfl ?_
                refine ze_iload_n h dX6_copy_109 rfl ?_
                refine ze_iload_n h dX6_copy_110 rfl ?_
                refine ze_iload h dX6_copy_111 rfl ?_
                refine ze_iload h dX6_copy_113 rfl ?_
                refine ze_callVv h (st := []) zce_X3_move zi_X3_move zs_X3_move zm_X6_290 zl_42 rfl rfl (Nat.le_of_ble_eq_true rfl) zkn (c_X3_move l  p1 p2 p3 p4 p5 s16) rfl (Nat.le_of_ble_eq_true rfl) rfl dX6_copy_115 (fun _ s18 => ?_)
                refine ze_iload h dX6_copy_118 rfl ?_
                exact ze_iret hR dX6_copy_120
              · refine ze_bipush h (-12) dX6_copy_101 zk_b_m12 ?_
                exact ze_iret hR dX6_copy_103
          · refine ze_bipush h (-13) dX6_copy_69 zk_b_m13 ?_
            exact ze_iret hR dX6_copy_71
        · refine ze_bipush h (-11) dX6_copy_47 zk_b_m11 ?_
          exact ze_iret hR dX6_copy_49
    · refine ze_bipush h (-2) dX6_copy_22 zk_b_m2 ?_
      exact ze_iret hR dX6_copy_24
set_option maxRecDepth 20000 in
theorem e_X6_hutsBy_69 {l : Launch} {G : zGT} {T : Option Value × zMem} (h : zOk G l cX6_hutsBy RX6 8 3 0 0 false) (hR : zR G cX6_hutsBy (some .int) T zFull 0 0)   : ∀ (n : Nat) (x11 : Int32) (x12 : Int32) (x13 : Int32) (x14 : Int32) (x15 : Int32) (s16 : zMem), zE G T (fun r : Int32 => some (.int r)) zFull 0 0 69 [some (.ref 0), some (.int x11), none, some (.int x12), some (.int x13), some (.int x14), some (.int x15), none] [] s16 (f_X6_hutsBy_69 n x11 x12 x13 x14 x15 s16) := by
  intro n
  induction n with
  | zero => intro _ _ _ _ _ _; exact ze_none
  | succ n ih =>
    intro x11 x12 x13 x14 x15 s16
    rw [f_X6_hutsBy_69]
    refine ze_iload h dX6_hutsBy_69 rfl ?_
    refine ze_iload h dX6_hutsBy_71 rfl ?_
    refine ze_icmp_ge h 146 dX6_hutsBy_73 (by decide) ?_ ?_
    · refine ze_iload h dX6_hutsBy_146 rfl ?_
      exact ze_iret hR dX6_hutsBy_148
    · refine ze_aload_n h dX6_hutsBy_76 rfl ?_
      refine ze_getR h zl_0 rfl zf_X6_67 dX6_hutsBy_77 ?_
      refine ze_iload_n h dX6_hutsBy_80 rfl ?_
      refine ze_iload_n h dX6_hutsBy_81 rfl ?_
      refine ze_iconst h 2 dX6_hutsBy_82 zk_i_2 ?_
      refine ze_iload h dX6_hutsBy_83 rfl ?_
      refine ze_imul h dX6_hutsBy_85 ?_
      refine ze_iconst h 2 dX6_hutsBy_86 zk_i_2 ?_
      refine ze_iadd h dX6_hutsBy_87 ?_
      refine ze_callVi h (st := []) zce_X3_isStretch zi_X3_isStretch zs_X3_isStretch zm_X6_287 zl_42 rfl rfl (Nat.le_of_ble_eq_true rfl) zkn (c_X3_isStretch l  x11 x12 ((2 * x15) + 2) s16) rfl (Nat.le_of_ble_eq_true rfl) rfl dX6_hutsBy_88 (fun r17 s18 => ?_)
      refine ze_if_ne h 97 dX6_hutsBy_91 (by decide) ?_ ?_
      · refine ze_iload_n h dX6_hutsBy_97 rfl ?_
        refine ze_iconst h 2 dX6_hutsBy_98 zk_i_2 ?_
        refine ze_iload h dX6_hutsBy_99 rfl ?_
        refine ze_imul h dX6_hutsBy_101 ?_
        refine ze_iadd h dX6_hutsBy_102 ?_
        refine ze_nmI (fun x19 => ?_)
        refine ze_istore h [some (.ref 0), some (.int x11), none, some (.int x12), some (.int x13), some (.int x14), some (.int x15), some (.int x19)] dX6_hutsBy_103 rfl (by decide) rfl ?_
        refine ze_aload_n h dX6_hutsBy_105 rfl ?_
        refine ze_getR h zl_0 rfl zf_X6_54 dX6_hutsBy_106 ?_
        refine ze_aload_n h dX6_hutsBy_109 rfl ?_
        refine ze_getR h zl_0 rfl zf_X6_67 dX6_hutsBy_110 ?_
        refine ze_iload_n h dX6_hutsBy_113 rfl ?_
        refine ze_iload h dX6_hutsBy_114 rfl ?_
        refine ze_callVi h (st := [.ref 9]) zce_X3_at zi_X3_at zs_X3_at zm_X6_260 zl_42 rfl rfl (Nat.le_of_ble_eq_true rfl) zkn (c_X3_at l  x11 x19 s18) rfl (Nat.le_of_ble_eq_true rfl) rfl dX6_hutsBy_116 (fun r20 s21 => ?_)
        refine ze_pc 119 rfl ?_
        refine ze_aload_n h dX6_hutsBy_119 rfl ?_
        refine ze_getR h zl_0 rfl zf_X6_67 dX6_hutsBy_120 ?_
        refine ze_iload_n h dX6_hutsBy_123 rfl ?_
        refine ze_iload h dX6_hutsBy_124 rfl ?_
        refine ze_iconst h 1 dX6_hutsBy_126 zk_i_1 ?_
        refine ze_iadd h dX6_hutsBy_127 ?_
        refine ze_callVi h (st := [.int r20, .ref 9]) zce_X3_at zi_X3_at zs_X3_at zm_X6_260 zl_42 rfl rfl (Nat.le_of_ble_eq_true rfl) zkn (c_X3_at l  x11 (x19 + 1) s21) rfl (Nat.le_of_ble_eq_true rfl) rfl dX6_hutsBy_128 (fun r22 s23 => ?_)
        refine ze_callVi h (st := []) zce_X5_comes zi_X5_comes zs_X5_comes zm_X6_116 zl_9 rfl rfl (Nat.le_of_ble_eq_true rfl) zkn (c_X5_comes l zIsW_9 r20 r22 s23) rfl (Nat.le_of_ble_eq_true rfl) rfl dX6_hutsBy_131 (fun r24 s25 => ?_)
        refine ze_if_lt h 140 dX6_hutsBy_134 (by decide) ?_ ?_
        · refine ze_iincN h (fun y9 => [some (.ref 0), some (.int x11), none, some (.int x12), some (.int x13), some (.int x14), some (.int y9), some (.int x19)]) 1 dX6_hutsBy_140 rfl zk_i_1 rfl (by decide) (fun _ => rfl) (fun x26 => ?_)
          refine ze_goto h 69 dX6_hutsBy_143 (by decide) ?_
          refine zE_weak h [true, true, false, true, true, true, true, false] rfl ?_
          exact ih x11 x12 x13 x14 x26 s25
        · refine ze_iincN h (fun y9 => [some (.ref 0), some (.int x11), none, some (.int x12), some (.int x13), some (.int y9), some (.int x15), some (.int x19)]) 1 dX6_hutsBy_137 rfl zk_i_1 rfl (by decide) (fun _ => rfl) (fun x27 => ?_)
          refine ze_iincN h (fun y9 => [some (.ref 0), some (.int x11), none, some (.int x12), some (.int x13), some (.int x27), some (.int y9), some (.int x19)]) 1 dX6_hutsBy_140 rfl zk_i_1 rfl (by decide) (fun _ => rfl) (fun x28 => ?_)
          refine ze_goto h 69 dX6_hutsBy_143 (by decide) ?_
          refine zE_weak h [true, true, false, true, true, true, true, false] rfl ?_
          exact ih x11 x12 x13 x27 x28 s25
      · refine ze_bipush h (-12) dX6_hutsBy_94 zk_b_m12 ?_
        exact ze_iret hR dX6_hutsBy_96
set_option maxRecDepth 20000 in
theorem c_X6_hutsBy (l : Launch)  (p1 : Int32) (p2 : Int32) (p3 : Int32) (p4 : Int32) (s0 : zMem) : zC l yX6_hutsBy (.code yX6_hutsBy cX6_hutsBy 8 (some .int)) 3 [.ref 0, .int p1, .int p2, .int p3, .int p4] zFull s0 (fun r : Int32 => some (.int r)) (f_X6_hutsBy p1 p2 p3 p4 s0) := by
  refine zC_of (own := RX6) rfl rfl (Nat.le_of_ble_eq_true rfl) [some (.ref 0), some (.int p1), some (.int p2), some (.int p3), some (.int p4), none, none, none] rfl (fun G T h hR => ?_)
  unfold f_X6_hutsBy
  refine ze_aload_n h dX6_hutsBy_0 rfl ?_
  refine ze_getR h zl_0 rfl zf_X6_67 dX6_hutsBy_1 ?_
  refine ze_iload_n h dX6_hutsBy_4 rfl ?_
  refine ze_callVi h (st := []) zce_X3_isSheet zi_X3_isSheet zs_X3_isSheet zm_X6_248 zl_42 rfl rfl (Nat.le_of_ble_eq_true rfl) zkn (c_X3_isSheet l  p1 s0) rfl (Nat.le_of_ble_eq_true rfl) rfl dX6_hutsBy_5 (fun r1 s2 => ?_)
  refine ze_if_eq h 31 dX6_hutsBy_8 (by decide) ?_ ?_
  · refine ze_bipush h (-2) dX6_hutsBy_31 zk_b_m2 ?_
    exact ze_iret hR dX6_hutsBy_33
  · refine ze_iload_n h dX6_hutsBy_11 rfl ?_
    refine ze_iconst h 0 dX6_hutsBy_12 zk_i_0 ?_
    refine ze_iconst h 2 dX6_hutsBy_13 zk_i_2 ?_
    refine ze_callSi h (st := []) zce_X6_isFromTo zt_X6_isFromTo zm_X6_101 (Nat.le_of_ble_eq_true rfl) zkn (c_X6_isFromTo l zFull p2 0 2 s2) rfl (Nat.le_of_ble_eq_true rfl) rfl dX6_hutsBy_14 (fun r3 s4 => ?_)
    refine ze_if_eq h 31 dX6_hutsBy_17 (by decide) ?_ ?_
    · refine ze_bipush h (-2) dX6_hutsBy_31 zk_b_m2 ?_
      exact ze_iret hR dX6_hutsBy_33
    · refine ze_iload h dX6_hutsBy_20 rfl ?_
      refine ze_iconst h 0 dX6_hutsBy_22 zk_i_0 ?_
      refine ze_bipush h 6 dX6_hutsBy_23 zk_b_6 ?_
      refine ze_callSi h (st := []) zce_X6_isFromTo zt_X6_isFromTo zm_X6_101 (Nat.le_of_ble_eq_true rfl) zkn (c_X6_isFromTo l zFull p4 0 6 s4) rfl (Nat.le_of_ble_eq_true rfl) rfl dX6_hutsBy_25 (fun r5 s6 => ?_)
      refine ze_if_ne h 34 dX6_hutsBy_28 (by decide) ?_ ?_
      · refine ze_aload_n h dX6_hutsBy_34 rfl ?_
        refine ze_getR h zl_0 rfl zf_X6_67 dX6_hutsBy_35 ?_
        refine ze_iload_n h dX6_hutsBy_38 rfl ?_
        refine ze_callVi h (st := []) zce_X3_isMissing zi_X3_isMissing zs_X3_isMissing zm_X6_263 zl_42 rfl rfl (Nat.le_of_ble_eq_true rfl) zkn (c_X3_isMissing l  p1 s6) rfl (Nat.le_of_ble_eq_true rfl) rfl dX6_hutsBy_39 (fun r7 s8 => ?_)
        refine ze_if_eq h 48 dX6_hutsBy_42 (by decide) ?_ ?_
        · refine ze_aload_n h dX6_hutsBy_48 rfl ?_
          refine ze_getR h zl_0 rfl zf_X6_67 dX6_hutsBy_49 ?_
          refine ze_iload_n h dX6_hutsBy_52 rfl ?_
          refine ze_callVi h (st := []) zce_X3_sortOf zi_X3_sortOf zs_X3_sortOf zm_X6_284 zl_42 rfl rfl (Nat.le_of_ble_eq_true rfl) zkn (c_X3_sortOf l  p1 s8) rfl (Nat.le_of_ble_eq_true rfl) rfl dX6_hutsBy_53 (fun r9 s10 => ?_)
          refine ze_iload_n h dX6_hutsBy_56 rfl ?_
          refine ze_icmp_eq h 63 dX6_hutsBy_57 (by decide) ?_ ?_
          · refine ze_iconst h 0 dX6_hutsBy_63 zk_i_0 ?_
            refine ze_istore h [some (.ref 0), some (.int p1), some (.int p2), some (.int p3), some (.int p4), some (.int 0), none, none] dX6_hutsBy_64 rfl (by decide) rfl ?_
            refine ze_iconst h 0 dX6_hutsBy_66 zk_i_0 ?_
            refine ze_istore h [some (.ref 0), some (.int p1), some (.int p2), some (.int p3), some (.int p4), some (.int 0), some (.int 0), none] dX6_hutsBy_67 rfl (by decide) rfl ?_
            refine zE_weak h [true, true, false, true, true, true, true, false] rfl ?_
            exact e_X6_hutsBy_69 h hR  zN p1 p3 p4 0 0 s10
          · refine ze_bipush h (-13) dX6_hutsBy_60 zk_b_m13 ?_
            exact ze_iret hR dX6_hutsBy_62
        · refine ze_bipush h (-11) dX6_hutsBy_45 zk_b_m11 ?_
          exact ze_iret hR dX6_hutsBy_47
      · refine ze_bipush h (-2) dX6_hutsBy_31 zk_b_m2 ?_
        exact ze_iret hR dX6_hutsBy_33
set_option maxRecDepth 20000 in
theorem e_X6_taken_55 {l : Launch} {G : zGT} {T : Option Value × zMem} (h : zOk G l cX6_taken RX6 5 2 0 0 false) (hR : zR G cX6_taken (some .int) T zFull 0 0)   : ∀ (x8 : Int32) (x9 : Int32) (x10 : Int32) (t11 : Int32) (s12 : zMem), zE G T (fun r : Int32 => some (.int r)) zFull 0 0 55 [some (.ref 0), some (.int x8), some (.int x9), some (.int x10), none] [.int t11] s12 (f_X6_taken_55  x8 x9 x10 t11 s12) := by
  intro x8 x9 x10 t11 s12
  unfold f_X6_taken_55
  refine ze_istore h [some (.ref 0), some (.int x8), some (.int x9), some (.int x10), some (.int t11)] dX6_taken_55 rfl (by decide) rfl ?_
  refine ze_iload_n h dX6_taken_57 rfl ?_
  refine ze_bipush h 6 dX6_taken_58 zk_b_6 ?_
  refine ze_icmp_lt h 83 dX6_taken_60 (by decide) ?_ ?_
  · refine ze_iload h dX6_taken_83 rfl ?_
    refine ze_if_ne h 108 dX6_taken_85 (by decide) ?_ ?_
    · refine ze_bipush h (-13) dX6_taken_108 zk_b_m13 ?_
      exact ze_iret hR dX6_taken_110
    · refine ze_aload_n h dX6_taken_88 rfl ?_
      refine ze_getR h zl_0 rfl zf_X6_54 dX6_taken_89 ?_
      refine ze_getR h zl_9 rfl zf_X6_131 dX6_taken_92 ?_
      refine ze_iload_n h dX6_taken_95 rfl ?_
      refine ze_ialdG h zl_13 dX6_taken_96 ?_
      refine ze_iload_n h dX6_taken_97 rfl ?_
      refine ze_callSi h (st := []) zce_X1_isOne zt_X1_isOne zm_X6_294 (Nat.le_of_ble_eq_true rfl) zkn (c_X1_isOne l zFull (s12 13 (zix x10)) x9 s12) rfl (Nat.le_of_ble_eq_true rfl) rfl dX6_taken_98 (fun r13 s14 => ?_)
      refine ze_if_eq h 108 dX6_taken_101 (by decide) ?_ ?_
      · refine ze_bipush h (-13) dX6_taken_108 zk_b_m13 ?_
        exact ze_iret hR dX6_taken_110
      · refine ze_iload_n h dX6_taken_104 rfl ?_
        refine ze_goto h 110 dX6_taken_105 (by decide) ?_
        exact ze_iret hR dX6_taken_110
  · refine ze_iload h dX6_taken_63 rfl ?_
    refine ze_if_eq h 80 dX6_taken_65 (by decide) ?_ ?_
    · refine ze_bipush h (-13) dX6_taken_80 zk_b_m13 ?_
      exact ze_iret hR dX6_taken_82
    · refine ze_aload_n h dX6_taken_68 rfl ?_
      refine ze_getR h zl_0 rfl zf_X6_54 dX6_taken_69 ?_
      refine ze_getR h zl_9 rfl zf_X6_188 dX6_taken_72 ?_
      refine ze_iload_n h dX6_taken_75 rfl ?_
      refine ze_ialdG h zl_10 dX6_taken_76 ?_
      refine ze_goto h 82 dX6_taken_77 (by decide) ?_
      exact ze_iret hR dX6_taken_82
set_option maxRecDepth 20000 in
theorem c_X6_taken (l : Launch)  (p1 : Int32) (p2 : Int32) (s0 : zMem) : zC l yX6_taken (.code yX6_taken cX6_taken 5 (some .int)) 2 [.ref 0, .int p1, .int p2] zFull s0 (fun r : Int32 => some (.int r)) (f_X6_taken p1 p2 s0) := by
  refine zC_of (own := RX6) rfl rfl (Nat.le_of_ble_eq_true rfl) [some (.ref 0), some (.int p1), some (.int p2), none, none] rfl (fun G T h hR => ?_)
  unfold f_X6_taken
  refine ze_iload_n h dX6_taken_0 rfl ?_
  refine ze_iconst h 0 dX6_taken_1 zk_i_0 ?_
  refine ze_bipush h 6 dX6_taken_2 zk_b_6 ?_
  refine ze_callSi h (st := []) zce_X6_isFromTo zt_X6_isFromTo zm_X6_101 (Nat.le_of_ble_eq_true rfl) zkn (c_X6_isFromTo l zFull p2 0 6 s0) rfl (Nat.le_of_ble_eq_true rfl) rfl dX6_taken_4 (fun r1 s2 => ?_)
  refine ze_if_ne h 13 dX6_taken_7 (by decide) ?_ ?_
  · refine ze_iload_n h dX6_taken_13 rfl ?_
    refine ze_iconst h 0 dX6_taken_14 zk_i_0 ?_
    refine ze_bipush h 11 dX6_taken_15 zk_b_11 ?_
    refine ze_callSi h (st := []) zce_X6_isFromTo zt_X6_isFromTo zm_X6_101 (Nat.le_of_ble_eq_true rfl) zkn (c_X6_isFromTo l zFull p1 0 11 s2) rfl (Nat.le_of_ble_eq_true rfl) rfl dX6_taken_17 (fun r3 s4 => ?_)
    refine ze_if_ne h 26 dX6_taken_20 (by decide) ?_ ?_
    · refine ze_iload_n h dX6_taken_26 rfl ?_
      refine ze_bipush h 6 dX6_taken_27 zk_b_6 ?_
      refine ze_irem h dX6_taken_29 (by decide) ?_
      refine ze_nmI (fun x5 => ?_)
      refine ze_istore_n h [some (.ref 0), some (.int p1), some (.int p2), some (.int x5), none] dX6_taken_30 rfl (by decide) rfl ?_
      refine ze_aload_n h dX6_taken_31 rfl ?_
      refine ze_getR h zl_0 rfl zf_X6_54 dX6_taken_32 ?_
      refine ze_iload_n h dX6_taken_35 rfl ?_
      refine ze_callVi h (st := []) zce_X5_isHut zi_X5_isHut zs_X5_isHut zm_X6_109 zl_9 rfl rfl (Nat.le_of_ble_eq_true rfl) zkn (c_X5_isHut l zIsW_9 x5 s4) rfl (Nat.le_of_ble_eq_true rfl) rfl dX6_taken_36 (fun r6 s7 => ?_)
      refine ze_if_ne h 45 dX6_taken_39 (by decide) ?_ ?_
      · refine ze_iload_n h dX6_taken_45 rfl ?_
        refine ze_iconst h 5 dX6_taken_46 zk_i_5 ?_
        refine ze_icmp_le h 54 dX6_taken_47 (by decide) ?_ ?_
        · refine ze_iconst h 0 dX6_taken_54 zk_i_0 ?_
          exact e_X6_taken_55 h hR  p1 p2 x5 0 s7
        · refine ze_iconst h 1 dX6_taken_50 zk_i_1 ?_
          refine ze_goto h 55 dX6_taken_51 (by decide) ?_
          exact e_X6_taken_55 h hR  p1 p2 x5 1 s7
      · refine ze_bipush h (-11) dX6_taken_42 zk_b_m11 ?_
        exact ze_iret hR dX6_taken_44
    · refine ze_bipush h (-12) dX6_taken_23 zk_b_m12 ?_
      exact ze_iret hR dX6_taken_25
  · refine ze_bipush h (-2) dX6_taken_10 zk_b_m2 ?_
    exact ze_iret hR dX6_taken_12
