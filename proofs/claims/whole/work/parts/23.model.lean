set_option maxRecDepth 20000 in
theorem c_X7_in (l : Launch) (Λ : zLay) (p1 : Int32) (p2 : Int32) (p3 : Int32) (s0 : zMem) : zC l yX7_in (.code yX7_in cX7_in 3 (some .boolean)) 1 [.int p1, .int p2, .int p3] Λ s0 (fun r : Int32 => some (.int r)) (f_X7_in p1 p2 p3 s0) := by
  refine zC_of (own := RX7) rfl rfl (Nat.le_of_ble_eq_true rfl) [some (.int p1), some (.int p2), some (.int p3)] rfl (fun G T h hR => ?_)
  unfold f_X7_in
  refine ze_iload_n h dX7_in_0 rfl ?_
  refine ze_iload_n h dX7_in_1 rfl ?_
  refine ze_icmp_lt h 14 dX7_in_2 (by decide) ?_ ?_
  · refine ze_iconst h 0 dX7_in_14 zk_i_0 ?_
    exact ze_zret hR rfl dX7_in_15
  · refine ze_iload_n h dX7_in_5 rfl ?_
    refine ze_iload_n h dX7_in_6 rfl ?_
    refine ze_icmp_gt h 14 dX7_in_7 (by decide) ?_ ?_
    · refine ze_iconst h 0 dX7_in_14 zk_i_0 ?_
      exact ze_zret hR rfl dX7_in_15
    · refine ze_iconst h 1 dX7_in_10 zk_i_1 ?_
      refine ze_goto h 15 dX7_in_11 (by decide) ?_
      exact ze_zret hR rfl dX7_in_15
set_option maxRecDepth 20000 in
theorem c_X7_within (l : Launch) (Λ : zLay) (p1 : Int32) (p2 : Int32) (p3 : Int32) (s0 : zMem) : zC l yX7_within (.code yX7_within cX7_within 3 (some .int)) 1 [.int p1, .int p2, .int p3] Λ s0 (fun r : Int32 => some (.int r)) (f_X7_within p1 p2 p3 s0) := by
  refine zC_of (own := RX7) rfl rfl (Nat.le_of_ble_eq_true rfl) [some (.int p1), some (.int p2), some (.int p3)] rfl (fun G T h hR => ?_)
  unfold f_X7_within
  refine ze_iload_n h dX7_within_0 rfl ?_
  refine ze_iload_n h dX7_within_1 rfl ?_
  refine ze_icmp_ge h 9 dX7_within_2 (by decide) ?_ ?_
  · refine ze_iload_n h dX7_within_9 rfl ?_
    refine ze_iload_n h dX7_within_10 rfl ?_
    refine ze_icmp_le h 18 dX7_within_11 (by decide) ?_ ?_
    · refine ze_iload_n h dX7_within_18 rfl ?_
      exact ze_iret hR dX7_within_19
    · refine ze_iload_n h dX7_within_14 rfl ?_
      refine ze_goto h 19 dX7_within_15 (by decide) ?_
      exact ze_iret hR dX7_within_19
  · refine ze_iload_n h dX7_within_5 rfl ?_
    refine ze_goto h 19 dX7_within_6 (by decide) ?_
    exact ze_iret hR dX7_within_19
set_option maxRecDepth 20000 in
theorem c_X7_isHut (l : Launch)  (p1 : Int32) (s0 : zMem) : zC l yX7_isHut (.code yX7_isHut cX7_isHut 2 (some .boolean)) 2 [.ref 47, .int p1] zFull s0 (fun r : Int32 => some (.int r)) (f_X7_isHut p1 s0) := by
  refine zC_of (own := RX7) rfl rfl (Nat.le_of_ble_eq_true rfl) [some (.ref 47), some (.int p1)] rfl (fun G T h hR => ?_)
  unfold f_X7_isHut
  refine ze_iload_n h dX7_isHut_0 rfl ?_
  refine ze_iconst h 0 dX7_isHut_1 zk_i_0 ?_
  refine ze_aload_n h dX7_isHut_2 rfl ?_
  refine ze_getI h zl_47 rfl zf_X7_84 dX7_isHut_3 ?_
  refine ze_iconst h 1 dX7_isHut_6 zk_i_1 ?_
  refine ze_isub h dX7_isHut_7 ?_
  refine ze_callSi h (st := []) zce_X7_in zt_X7_in zm_X7_87 (Nat.le_of_ble_eq_true rfl) zkn (c_X7_in l zFull p1 0 ((s0 47 0) - 1) s0) rfl (Nat.le_of_ble_eq_true rfl) rfl dX7_isHut_8 (fun r1 s2 => ?_)
  exact ze_zretG hR dX7_isHut_11
set_option maxRecDepth 20000 in
theorem c_X7_isLoan (l : Launch)  (p1 : Int32) (s0 : zMem) : zC l yX7_isLoan (.code yX7_isLoan cX7_isLoan 2 (some .boolean)) 2 [.ref 47, .int p1] zFull s0 (fun r : Int32 => some (.int r)) (f_X7_isLoan p1 s0) := by
  refine zC_of (own := RX7) rfl rfl (Nat.le_of_ble_eq_true rfl) [some (.ref 47), some (.int p1)] rfl (fun G T h hR => ?_)
  unfold f_X7_isLoan
  refine ze_iload_n h dX7_isLoan_0 rfl ?_
  refine ze_iconst h 0 dX7_isLoan_1 zk_i_0 ?_
  refine ze_aload_n h dX7_isLoan_2 rfl ?_
  refine ze_getI h zl_47 rfl zf_X7_91 dX7_isLoan_3 ?_
  refine ze_iconst h 1 dX7_isLoan_6 zk_i_1 ?_
  refine ze_isub h dX7_isLoan_7 ?_
  refine ze_callSi h (st := []) zce_X7_in zt_X7_in zm_X7_87 (Nat.le_of_ble_eq_true rfl) zkn (c_X7_in l zFull p1 0 ((s0 47 8) - 1) s0) rfl (Nat.le_of_ble_eq_true rfl) rfl dX7_isLoan_8 (fun r1 s2 => ?_)
  exact ze_zretG hR dX7_isLoan_11
set_option maxRecDepth 20000 in
theorem e_X7_owedBy_4 {l : Launch} {G : zGT} {T : Option Value × zMem} (h : zOk G l cX7_owedBy RX7 4 1 0 0 false) (hR : zR G cX7_owedBy (some .int) T zFull 0 0)   : ∀ (n : Nat) (x1 : Int32) (x2 : Int32) (x3 : Int32) (s4 : zMem), zE G T (fun r : Int32 => some (.int r)) zFull 0 0 4 [some (.ref 47), some (.int x1), some (.int x2), some (.int x3)] [] s4 (f_X7_owedBy_4 n x1 x2 x3 s4) := by
  intro n
  induction n with
  | zero => intro _ _ _ _; exact ze_none
  | succ n ih =>
    intro x1 x2 x3 s4
    rw [f_X7_owedBy_4]
    refine ze_iload_n h dX7_owedBy_4 rfl ?_
    refine ze_aload_n h dX7_owedBy_5 rfl ?_
    refine ze_getI h zl_47 rfl zf_X7_91 dX7_owedBy_6 ?_
    refine ze_icmp_ge h 41 dX7_owedBy_9 (by decide) ?_ ?_
    · refine ze_iload_n h dX7_owedBy_41 rfl ?_
      exact ze_iret hR dX7_owedBy_42
    · refine ze_iload_n h dX7_owedBy_12 rfl ?_
      refine ze_aload_n h dX7_owedBy_13 rfl ?_
      refine ze_getR h zl_47 rfl zf_X7_22 dX7_owedBy_14 ?_
      refine ze_iload_n h dX7_owedBy_17 rfl ?_
      refine ze_ialdG h zl_52 dX7_owedBy_18 ?_
      refine ze_iload_n h dX7_owedBy_19 rfl ?_
      refine ze_icmp_ne h 32 dX7_owedBy_20 (by decide) ?_ ?_
      · refine ze_iconst h 0 dX7_owedBy_32 zk_i_0 ?_
        refine ze_iadd h dX7_owedBy_33 ?_
        refine ze_nmI (fun x5 => ?_)
        refine ze_istore_n h [some (.ref 47), some (.int x1), some (.int x5), some (.int x3)] dX7_owedBy_34 rfl (by decide) rfl ?_
        refine ze_iincN h (fun y9 => [some (.ref 47), some (.int x1), some (.int x5), some (.int y9)]) 1 dX7_owedBy_35 rfl zk_i_1 rfl (by decide) (fun _ => rfl) (fun x6 => ?_)
        refine ze_goto h 4 dX7_owedBy_38 (by decide) ?_
        exact ih x1 x5 x6 s4
      · refine ze_aload_n h dX7_owedBy_23 rfl ?_
        refine ze_getR h zl_47 rfl zf_X7_25 dX7_owedBy_24 ?_
        refine ze_iload_n h dX7_owedBy_27 rfl ?_
        refine ze_ialdG h zl_53 dX7_owedBy_28 ?_
        refine ze_goto h 33 dX7_owedBy_29 (by decide) ?_
        refine ze_iadd h dX7_owedBy_33 ?_
        refine ze_nmI (fun x7 => ?_)
        refine ze_istore_n h [some (.ref 47), some (.int x1), some (.int x7), some (.int x3)] dX7_owedBy_34 rfl (by decide) rfl ?_
        refine ze_iincN h (fun y9 => [some (.ref 47), some (.int x1), some (.int x7), some (.int y9)]) 1 dX7_owedBy_35 rfl zk_i_1 rfl (by decide) (fun _ => rfl) (fun x8 => ?_)
        refine ze_goto h 4 dX7_owedBy_38 (by decide) ?_
        exact ih x1 x7 x8 s4
set_option maxRecDepth 20000 in
theorem c_X7_owedBy (l : Launch)  (p1 : Int32) (s0 : zMem) : zC l yX7_owedBy (.code yX7_owedBy cX7_owedBy 4 (some .int)) 1 [.ref 47, .int p1] zFull s0 (fun r : Int32 => some (.int r)) (f_X7_owedBy p1 s0) := by
  refine zC_of (own := RX7) rfl rfl (Nat.le_of_ble_eq_true rfl) [some (.ref 47), some (.int p1), none, none] rfl (fun G T h hR => ?_)
  unfold f_X7_owedBy
  refine ze_iconst h 0 dX7_owedBy_0 zk_i_0 ?_
  refine ze_istore_n h [some (.ref 47), some (.int p1), some (.int 0), none] dX7_owedBy_1 rfl (by decide) rfl ?_
  refine ze_iconst h 0 dX7_owedBy_2 zk_i_0 ?_
  refine ze_istore_n h [some (.ref 47), some (.int p1), some (.int 0), some (.int 0)] dX7_owedBy_3 rfl (by decide) rfl ?_
  exact e_X7_owedBy_4 h hR  zN p1 0 0 s0
set_option maxRecDepth 20000 in
theorem e_X7_owedTo_4 {l : Launch} {G : zGT} {T : Option Value × zMem} (h : zOk G l cX7_owedTo RX7 4 1 0 0 false) (hR : zR G cX7_owedTo (some .int) T zFull 0 0)   : ∀ (n : Nat) (x1 : Int32) (x2 : Int32) (x3 : Int32) (s4 : zMem), zE G T (fun r : Int32 => some (.int r)) zFull 0 0 4 [some (.ref 47), some (.int x1), some (.int x2), some (.int x3)] [] s4 (f_X7_owedTo_4 n x1 x2 x3 s4) := by
  intro n
  induction n with
  | zero => intro _ _ _ _; exact ze_none
  | succ n ih =>
    intro x1 x2 x3 s4
    rw [f_X7_owedTo_4]
    refine ze_iload_n h dX7_owedTo_4 rfl ?_
    refine ze_aload_n h dX7_owedTo_5 rfl ?_
    refine ze_getI h zl_47 rfl zf_X7_91 dX7_owedTo_6 ?_
    refine ze_icmp_ge h 41 dX7_owedTo_9 (by decide) ?_ ?_
    · refine ze_iload_n h dX7_owedTo_41 rfl ?_
      exact ze_iret hR dX7_owedTo_42
    · refine ze_iload_n h dX7_owedTo_12 rfl ?_
      refine ze_aload_n h dX7_owedTo_13 rfl ?_
      refine ze_getR h zl_47 rfl zf_X7_19 dX7_owedTo_14 ?_
      refine ze_iload_n h dX7_owedTo_17 rfl ?_
      refine ze_ialdG h zl_51 dX7_owedTo_18 ?_
      refine ze_iload_n h dX7_owedTo_19 rfl ?_
      refine ze_icmp_ne h 32 dX7_owedTo_20 (by decide) ?_ ?_
      · refine ze_iconst h 0 dX7_owedTo_32 zk_i_0 ?_
        refine ze_iadd h dX7_owedTo_33 ?_
        refine ze_nmI (fun x5 => ?_)
        refine ze_istore_n h [some (.ref 47), some (.int x1), some (.int x5), some (.int x3)] dX7_owedTo_34 rfl (by decide) rfl ?_
        refine ze_iincN h (fun y9 => [some (.ref 47), some (.int x1), some (.int x5), some (.int y9)]) 1 dX7_owedTo_35 rfl zk_i_1 rfl (by decide) (fun _ => rfl) (fun x6 => ?_)
        refine ze_goto h 4 dX7_owedTo_38 (by decide) ?_
        exact ih x1 x5 x6 s4
      · refine ze_aload_n h dX7_owedTo_23 rfl ?_
        refine ze_getR h zl_47 rfl zf_X7_25 dX7_owedTo_24 ?_
        refine ze_iload_n h dX7_owedTo_27 rfl ?_
        refine ze_ialdG h zl_53 dX7_owedTo_28 ?_
        refine ze_goto h 33 dX7_owedTo_29 (by decide) ?_
        refine ze_iadd h dX7_owedTo_33 ?_
        refine ze_nmI (fun x7 => ?_)
        refine ze_istore_n h [some (.ref 47), some (.int x1), some (.int x7), some (.int x3)] dX7_owedTo_34 rfl (by decide) rfl ?_
        refine ze_iincN h (fun y9 => [some (.ref 47), some (.int x1), some (.int x7), some (.int y9)]) 1 dX7_owedTo_35 rfl zk_i_1 rfl (by decide) (fun _ => rfl) (fun x8 => ?_)
        refine ze_goto h 4 dX7_owedTo_38 (by decide) ?_
        exact ih x1 x7 x8 s4
set_option maxRecDepth 20000 in
theorem c_X7_owedTo (l : Launch)  (p1 : Int32) (s0 : zMem) : zC l yX7_owedTo (.code yX7_owedTo cX7_owedTo 4 (some .int)) 1 [.ref 47, .int p1] zFull s0 (fun r : Int32 => some (.int r)) (f_X7_owedTo p1 s0) := by
  refine zC_of (own := RX7) rfl rfl (Nat.le_of_ble_eq_true rfl) [some (.ref 47), some (.int p1), none, none] rfl (fun G T h hR => ?_)
  unfold f_X7_owedTo
  refine ze_iconst h 0 dX7_owedTo_0 zk_i_0 ?_
  refine ze_istore_n h [some (.ref 47), some (.int p1), some (.int 0), none] dX7_owedTo_1 rfl (by decide) rfl ?_
  refine ze_iconst h 0 dX7_owedTo_2 zk_i_0 ?_
  refine ze_istore_n h [some (.ref 47), some (.int p1), some (.int 0), some (.int 0)] dX7_owedTo_3 rfl (by decide) rfl ?_
  exact e_X7_owedTo_4 h hR  zN p1 0 0 s0
set_option maxRecDepth 20000 in
theorem e_X7_lentBy_4 {l : Launch} {G : zGT} {T : Option Value × zMem} (h : zOk G l cX7_lentBy RX7 4 1 0 0 false) (hR : zR G cX7_lentBy (some .int) T zFull 0 0)   : ∀ (n : Nat) (x1 : Int32) (x2 : Int32) (x3 : Int32) (s4 : zMem), zE G T (fun r : Int32 => some (.int r)) zFull 0 0 4 [some (.ref 47), some (.int x1), some (.int x2), some (.int x3)] [] s4 (f_X7_lentBy_4 n x1 x2 x3 s4) := by
  intro n
  induction n with
  | zero => intro _ _ _ _; exact ze_none
  | succ n ih =>
    intro x1 x2 x3 s4
    rw [f_X7_lentBy_4]
    refine ze_iload_n h dX7_lentBy_4 rfl ?_
    refine ze_aload_n h dX7_lentBy_5 rfl ?_
    refine ze_getI h zl_47 rfl zf_X7_91 dX7_lentBy_6 ?_
    refine ze_icmp_ge h 36 dX7_lentBy_9 (by decide) ?_ ?_
    · refine ze_iload_n h dX7_lentBy_36 rfl ?_
      exact ze_iret hR dX7_lentBy_37
    · refine ze_iload_n h dX7_lentBy_12 rfl ?_
      refine ze_aload_n h dX7_lentBy_13 rfl ?_
      refine ze_getR h zl_47 rfl zf_X7_19 dX7_lentBy_14 ?_
      refine ze_iload_n h dX7_lentBy_17 rfl ?_
      refine ze_ialdG h zl_51 dX7_lentBy_18 ?_
      refine ze_iload_n h dX7_lentBy_19 rfl ?_
      refine ze_icmp_ne h 27 dX7_lentBy_20 (by decide) ?_ ?_
      · refine ze_iconst h 0 dX7_lentBy_27 zk_i_0 ?_
        refine ze_iadd h dX7_lentBy_28 ?_
        refine ze_nmI (fun x5 => ?_)
        refine ze_istore_n h [some (.ref 47), some (.int x1), some (.int x5), some (.int x3)] dX7_lentBy_29 rfl (by decide) rfl ?_
        refine ze_iincN h (fun y9 => [some (.ref 47), some (.int x1), some (.int x5), some (.int y9)]) 1 dX7_lentBy_30 rfl zk_i_1 rfl (by decide) (fun _ => rfl) (fun x6 => ?_)
        refine ze_goto h 4 dX7_lentBy_33 (by decide) ?_
        exact ih x1 x5 x6 s4
      · refine ze_iconst h 1 dX7_lentBy_23 zk_i_1 ?_
        refine ze_goto h 28 dX7_lentBy_24 (by decide) ?_
        refine ze_iadd h dX7_lentBy_28 ?_
        refine ze_nmI (fun x7 => ?_)
        refine ze_istore_n h [some (.ref 47), some (.int x1), some (.int x7), some (.int x3)] dX7_lentBy_29 rfl (by decide) rfl ?_
        refine ze_iincN h (fun y9 => [some (.ref 47), some (.int x1), some (.int x7), some (.int y9)]) 1 dX7_lentBy_30 rfl zk_i_1 rfl (by decide) (fun _ => rfl) (fun x8 => ?_)
        refine ze_goto h 4 dX7_lentBy_33 (by decide) ?_
        exact ih x1 x7 x8 s4
set_option maxRecDepth 20000 in
theorem c_X7_lentBy (l : Launch)  (p1 : Int32) (s0 : zMem) : zC l yX7_lentBy (.code yX7_lentBy cX7_lentBy 4 (some .int)) 1 [.ref 47, .int p1] zFull s0 (fun r : Int32 => some (.int r)) (f_X7_lentBy p1 s0) := by
  refine zC_of (own := RX7) rfl rfl (Nat.le_of_ble_eq_true rfl) [some (.ref 47), some (.int p1), none, none] rfl (fun G T h hR => ?_)
  unfold f_X7_lentBy
  refine ze_iconst h 0 dX7_lentBy_0 zk_i_0 ?_
  refine ze_istore_n h [some (.ref 47), some (.int p1), some (.int 0), none] dX7_lentBy_1 rfl (by decide) rfl ?_
  refine ze_iconst h 0 dX7_lentBy_2 zk_i_0 ?_
  refine ze_istore_n h [some (.ref 47), some (.int p1), some (.int 0), some (.int 0)] dX7_lentBy_3 rfl (by decide) rfl ?_
  exact e_X7_lentBy_4 h hR  zN p1 0 0 s0
set_option maxRecDepth 20000 in
theorem e_X7_heatAll_4 {l : Launch} {G : zGT} {T : Option Value × zMem} (h : zOk G l cX7_heatAll RX7 3 1 0 0 false) (hR : zR G cX7_heatAll (some .int) T zFull 0 0)   : ∀ (n : Nat) (x1 : Int32) (x2 : Int32) (s3 : zMem), zE G T (fun r : Int32 => some (.int r)) zFull 0 0 4 [some (.ref 47), some (.int x1), some (.int x2)] [] s3 (f_X7_heatAll_4 n x1 x2 s3) := by
  intro n
  induction n with
  | zero => intro _ _ _; exact ze_none
  | succ n ih =>
    intro x1 x2 s3
    rw [f_X7_heatAll_4]
    refine ze_iload_n h dX7_heatAll_4 rfl ?_
    refine ze_aload_n h dX7_heatAll_5 rfl ?_
    refine ze_getI h zl_47 rfl zf_X7_84 dX7_heatAll_6 ?_
    refine ze_icmp_ge h 29 dX7_heatAll_9 (by decide) ?_ ?_
    · refine ze_iload_n h dX7_heatAll_29 rfl ?_
      exact ze_iret hR dX7_heatAll_30
    · refine ze_iload_n h dX7_heatAll_12 rfl ?_
      refine ze_aload_n h dX7_heatAll_13 rfl ?_
      refine ze_getR h zl_47 rfl zf_X7_16 dX7_heatAll_14 ?_
      refine ze_iconst h 3 dX7_heatAll_17 zk_i_3 ?_
      refine ze_iload_n h dX7_heatAll_18 rfl ?_
      refine ze_imul h dX7_heatAll_19 ?_
      refine ze_ialdG h zl_50 dX7_heatAll_20 ?_
      refine ze_iadd h dX7_heatAll_21 ?_
      refine ze_nmI (fun x4 => ?_)
      refine ze_istore_n h [some (.ref 47), some (.int x4), some (.int x2)] dX7_heatAll_22 rfl (by decide) rfl ?_
      refine ze_iincN h (fun y9 => [some (.ref 47), some (.int x4), some (.int y9)]) 1 dX7_heatAll_23 rfl zk_i_1 rfl (by decide) (fun _ => rfl) (fun x5 => ?_)
      refine ze_goto h 4 dX7_heatAll_26 (by decide) ?_
      exact ih x4 x5 s3
set_option maxRecDepth 20000 in
theorem c_X7_heatAll (l : Launch)   (s0 : zMem) : zC l yX7_heatAll (.code yX7_heatAll cX7_heatAll 3 (some .int)) 1 [.ref 47] zFull s0 (fun r : Int32 => some (.int r)) (f_X7_heatAll s0) := by
  refine zC_of (own := RX7) rfl rfl (Nat.le_of_ble_eq_true rfl) [some (.ref 47), none, none] rfl (fun G T h hR => ?_)
  unfold f_X7_heatAll
  refine ze_iconst h 0 dX7_heatAll_0 zk_i_0 ?_
  refine ze_istore_n h [some (.ref 47), some (.int 0), none] dX7_heatAll_1 rfl (by decide) rfl ?_
  refine ze_iconst h 0 dX7_heatAll_2 zk_i_0 ?_
  refine ze_istore_n h [some (.ref 47), some (.int 0), some (.int 0)] dX7_heatAll_3 rfl (by decide) rfl ?_
  exact e_X7_heatAll_4 h hR  zN 0 0 s0
set_option maxRecDepth 20000 in
theorem c_X7_count (l : Launch)  (p1 : Int32) (s0 : zMem) : zC l yX7_count (.code yX7_count cX7_count 2 (some .int)) 2 [.ref 47, .int p1] zFull s0 (fun r : Int32 => some (.int r)) (f_X7_count p1 s0) := by
  refine zC_of (own := RX7) rfl rfl (Nat.le_of_ble_eq_true rfl) [some (.ref 47), some (.int p1)] rfl (fun G T h hR => ?_)
  unfold f_X7_count
  refine ze_iload_n h dX7_count_0 rfl ?_
  refine ze_case 0 (fun q1_0 => ?_) (fun q1_0 => ?_)
  · refine ze_tabIn h 44 dX7_count_1 (by decide) (by decide) rfl (by decide) ?_
    refine ze_aload_n h dX7_count_44 rfl ?_
    refine ze_getI h zl_47 rfl zf_X7_84 dX7_count_45 ?_
    exact ze_iret hR dX7_count_48
  refine ze_case 1 (fun q1_1 => ?_) (fun q1_1 => ?_)
  · refine ze_tabIn h 49 dX7_count_1 (by decide) (by decide) rfl (by decide) ?_
    refine ze_aload_n h dX7_count_49 rfl ?_
    refine ze_getI h zl_47 rfl zf_X7_91 dX7_count_50 ?_
    exact ze_iret hR dX7_count_53
  refine ze_case 2 (fun q1_2 => ?_) (fun q1_2 => ?_)
  · refine ze_tabIn h 54 dX7_count_1 (by decide) (by decide) rfl (by decide) ?_
    refine ze_aload_n h dX7_count_54 rfl ?_
    refine ze_getI h zl_47 rfl zf_X7_94 dX7_count_55 ?_
    exact ze_iret hR dX7_count_58
  refine ze_case 3 (fun q1_3 => ?_) (fun q1_3 => ?_)
  · refine ze_tabIn h 59 dX7_count_1 (by decide) (by decide) rfl (by decide) ?_
    refine ze_aload_n h dX7_count_59 rfl ?_
    refine ze_callVi h (st := []) zce_X7_heatAll zi_X7_heatAll zs_X7_heatAll zm_X7_97 zl_47 rfl rfl (Nat.le_of_ble_eq_true rfl) zkn (c_X7_heatAll l  s0) rfl (Nat.le_of_ble_eq_true rfl) rfl dX7_count_60 (fun r1 s2 => ?_)
    exact ze_iret hR dX7_count_63
  refine ze_case 4 (fun q1_4 => ?_) (fun q1_4 => ?_)
  · refine ze_tabIn h 64 dX7_count_1 (by decide) (by decide) rfl (by decide) ?_
    refine ze_aload_n h dX7_count_64 rfl ?_
    refine ze_getI h zl_47 rfl zf_X7_100 dX7_count_65 ?_
    exact ze_iret hR dX7_count_68
  refine ze_case 5 (fun q1_5 => ?_) (fun q1_5 => ?_)
  · refine ze_tabIn h 69 dX7_count_1 (by decide) (by decide) rfl (by decide) ?_
    refine ze_aload_n h dX7_count_69 rfl ?_
    refine ze_getI h zl_47 rfl zf_X7_103 dX7_count_70 ?_
    exact ze_iret hR dX7_count_73
  refine ze_case 6 (fun q1_6 => ?_) (fun q1_6 => ?_)
  · refine ze_tabIn h 74 dX7_count_1 (by decide) (by decide) rfl (by decide) ?_
    refine ze_aload_n h dX7_count_74 rfl ?_
    refine ze_getI h zl_47 rfl zf_X7_76 dX7_count_75 ?_
    exact ze_iret hR dX7_count_78
  refine ze_tabOut h 79 dX7_count_1 (by have z0 := lv_neT q1_0 (a := 0) rfl; have z1 := lv_neT q1_1 (a := 1) rfl; have z2 := lv_neT q1_2 (a := 2) rfl; have z3 := lv_neT q1_3 (a := 3) rfl; have z4 := lv_neT q1_4 (a := 4) rfl; have z5 := lv_neT q1_5 (a := 5) rfl; have z6 := lv_neT q1_6 (a := 6) rfl; omega) (by decide) ?_
  refine ze_bipush h (-2) dX7_count_79 zk_b_m2 ?_
  exact ze_iret hR dX7_count_81
set_option maxRecDepth 20000 in
theorem c_X7_isByte (l : Launch) (Λ : zLay) (p1 : Int32) (s0 : zMem) : zC l yX7_isByte (.code yX7_isByte cX7_isByte 1 (some .boolean)) 2 [.int p1] Λ s0 (fun r : Int32 => some (.int r)) (f_X7_isByte p1 s0) := by
  refine zC_of (own := RX7) rfl rfl (Nat.le_of_ble_eq_true rfl) [some (.int p1)] rfl (fun G T h hR => ?_)
  unfold f_X7_isByte
  refine ze_iload_n h dX7_isByte_0 rfl ?_
  refine ze_iconst h 0 dX7_isByte_1 zk_i_0 ?_
  refine ze_sipush h 255 dX7_isByte_2 zk_s_255 ?_
  refine ze_callSi h (st := []) zce_X7_in zt_X7_in zm_X7_87 (Nat.le_of_ble_eq_true rfl) zkn (c_X7_in l Λ p1 0 255 s0) rfl (Nat.le_of_ble_eq_true rfl) rfl dX7_isByte_5 (fun r1 s2 => ?_)
  exact ze_zretG hR dX7_isByte_8
set_option maxRecDepth 20000 in
theorem e_X7_feed_68 {l : Launch} {G : zGT} {T : Option Value × zMem} (h : zOk G l cX7_feed RX7 8 3 0 0 false) (hR : zR G cX7_feed (some .int) T zFull 0 0)   : ∀ (n : Nat) (x13 : Int32) (x14 : Int32) (x15 : Int32) (x16 : Int32) (x17 : Int32) (x18 : Int32) (x19 : Int32) (s20 : zMem), zE G T (fun r : Int32 => some (.int r)) zFull 0 0 68 [some (.ref 47), some (.int x13), some (.int x14), some (.int x15), some (.int x16), some (.int x17), some (.int x18), some (.int x19)] [] s20 (f_X7_feed_68 n x13 x14 x15 x16 x17 x18 x19 s20) := by
  intro n
  induction n with
  | zero => intro _ _ _ _ _ _ _ _; exact ze_none
  | succ n ih =>
    intro x13 x14 x15 x16 x17 x18 x19 s20
    rw [f_X7_feed_68]
    refine ze_iload h dX7_feed_68 rfl ?_
    refine ze_iload_n h dX7_feed_70 rfl ?_
    refine ze_icmp_ge h 142 dX7_feed_71 (by decide) ?_ ?_
    · refine ze_aload_n h dX7_feed_142 rfl ?_
      refine ze_getI h zl_47 rfl zf_X7_76 dX7_feed_143 ?_
      exact ze_iret hR dX7_feed_146
    · refine ze_aload_n h dX7_feed_74 rfl ?_
      refine ze_getR h zl_47 rfl zf_X7_31 dX7_feed_75 ?_
      refine ze_aload_n h dX7_feed_78 rfl ?_
      refine ze_getI h zl_47 rfl zf_X7_76 dX7_feed_79 ?_
      refine ze_iload h dX7_feed_82 rfl ?_
      refine ze_if_ne h 91 dX7_feed_84 (by decide) ?_ ?_
      · refine ze_iload h dX7_feed_91 rfl ?_
        refine ze_iconst h 1 dX7_feed_93 zk_i_1 ?_
        refine ze_icmp_ne h 101 dX7_feed_94 (by decide) ?_ ?_
        · refine ze_iload h dX7_feed_101 rfl ?_
          refine ze_iconst h 2 dX7_feed_103 zk_i_2 ?_
          refine ze_icmp_ne h 112 dX7_feed_104 (by decide) ?_ ?_
          · refine ze_iload h dX7_feed_112 rfl ?_
            refine ze_iconst h 3 dX7_feed_114 zk_i_3 ?_
            refine ze_icmp_ne h 123 dX7_feed_115 (by decide) ?_ ?_
            · refine ze_iload h dX7_feed_123 rfl ?_
              refine ze_iastG h zl_55 dX7_feed_125 ?_
              refine ze_nmS (fun s21 => ?_)
              refine ze_aload_n h dX7_feed_126 rfl ?_
              refine ze_dup h dX7_feed_127 rfl ?_
              refine ze_getI h zl_47 rfl zf_X7_76 dX7_feed_128 ?_
              refine ze_iconst h 1 dX7_feed_131 zk_i_1 ?_
              refine ze_iadd h dX7_feed_132 ?_
              refine ze_putI h zl_47 rfl zf_X7_76 rfl rfl dX7_feed_133 ?_
              refine ze_nmS (fun s22 => ?_)
              refine ze_iincN h (fun y9 => [some (.ref 47), some (.int x13), some (.int x14), some (.int x15), some (.int x16), some (.int x17), some (.int x18), some (.int y9)]) 1 dX7_feed_136 rfl zk_i_1 rfl (by decide) (fun _ => rfl) (fun x23 => ?_)
              refine ze_goto h 68 dX7_feed_139 (by decide) ?_
              exact ih x13 x14 x15 x16 x17 x18 x23 s22
            · refine ze_iload h dX7_feed_118 rfl ?_
              refine ze_goto h 125 dX7_feed_120 (by decide) ?_
              refine ze_iastG h zl_55 dX7_feed_125 ?_
              refine ze_nmS (fun s24 => ?_)
              refine ze_aload_n h dX7_feed_126 rfl ?_
              refine ze_dup h dX7_feed_127 rfl ?_
              refine ze_getI h zl_47 rfl zf_X7_76 dX7_feed_128 ?_
              refine ze_iconst h 1 dX7_feed_131 zk_i_1 ?_
              refine ze_iadd h dX7_feed_132 ?_
              refine ze_putI h zl_47 rfl zf_X7_76 rfl rfl dX7_feed_133 ?_
              refine ze_nmS (fun s25 => ?_)
              refine ze_iincN h (fun y9 => [some (.ref 47), some (.int x13), some (.int x14), some (.int x15), some (.int x16), some (.int x17), some (.int x18), some (.int y9)]) 1 dX7_feed_136 rfl zk_i_1 rfl (by decide) (fun _ => rfl) (fun x26 => ?_)
              refine ze_goto h 68 dX7_feed_139 (by decide) ?_
              exact ih x13 x14 x15 x16 x17 x18 x26 s25
          · refine ze_iload h dX7_feed_107 rfl ?_
            refine ze_goto h 125 dX7_feed_109 (by decide) ?_
            refine ze_iastG h zl_55 dX7_feed_125 ?_
            refine ze_nmS (fun s27 => ?_)
            refine ze_aload_n h dX7_feed_126 rfl ?_
            refine ze_dup h dX7_feed_127 rfl ?_
            refine ze_getI h zl_47 rfl zf_X7_76 dX7_feed_128 ?_
            refine ze_iconst h 1 dX7_feed_131 zk_i_1 ?_
            refine ze_iadd h dX7_feed_132 ?_
            refine ze_putI h zl_47 rfl zf_X7_76 rfl rfl dX7_feed_133 ?_
            refine ze_nmS (fun s28 => ?_)
            refine ze_iincN h (fun y9 => [some (.ref 47), some (.int x13), some (.int x14), some (.int x15), some (.int x16), some (.int x17), some (.int x18), some (.int y9)]) 1 dX7_feed_136 rfl zk_i_1 rfl (by decide) (fun _ => rfl) (fun x29 => ?_)
            refine ze_goto h 68 dX7_feed_139 (by decide) ?_
            exact ih x13 x14 x15 x16 x17 x18 x29 s28
        · refine ze_iload_n h dX7_feed_97 rfl ?_
          refine ze_goto h 125 dX7_feed_98 (by decide) ?_
          refine ze_iastG h zl_55 dX7_feed_125 ?_
          refine ze_nmS (fun s30 => ?_)
          refine ze_aload_n h dX7_feed_126 rfl ?_
          refine ze_dup h dX7_feed_127 rfl ?_
          refine ze_getI h zl_47 rfl zf_X7_76 dX7_feed_128 ?_
          refine ze_iconst h 1 dX7_feed_131 zk_i_1 ?_
          refine ze_iadd h dX7_feed_132 ?_
          refine ze_putI h zl_47 rfl zf_X7_76 rfl rfl dX7_feed_133 ?_
          refine ze_nmS (fun s31 => ?_)
          refine ze_iincN h (fun y9 => [some (.ref 47), some (.int x13), some (.int x14), some (.int x15), some (.int x16), some (.int x17), some (.int x18), some (.int y9)]) 1 dX7_feed_136 rfl zk_i_1 rfl (by decide) (fun _ => rfl) (fun x32 => ?_)
          refine ze_goto h 68 dX7_feed_139 (by decide) ?_
          exact ih x13 x14 x15 x16 x17 x18 x32 s31
      · refine ze_iload_n h dX7_feed_87 rfl ?_
        refine ze_goto h 125 dX7_feed_88 (by decide) ?_
        refine ze_iastG h zl_55 dX7_feed_125 ?_
        refine ze_nmS (fun s33 => ?_)
        refine ze_aload_n h dX7_feed_126 rfl ?_
        refine ze_dup h dX7_feed_127 rfl ?_
        refine ze_getI h zl_47 rfl zf_X7_76 dX7_feed_128 ?_
        refine ze_iconst h 1 dX7_feed_131 zk_i_1 ?_
        refine ze_iadd h dX7_feed_132 ?_
        refine ze_putI h zl_47 rfl zf_X7_76 rfl rfl dX7_feed_133 ?_
        refine ze_nmS (fun s34 => ?_)
        refine ze_iincN h (fun y9 => [some (.ref 47), some (.int x13), some (.int x14), some (.int x15), some (.int x16), some (.int x17), some (.int x18), some (.int y9)]) 1 dX7_feed_136 rfl zk_i_1 rfl (by decide) (fun _ => rfl) (fun x35 => ?_)
        refine ze_goto h 68 dX7_feed_139 (by decide) ?_
        exact ih x13 x14 x15 x16 x17 x18 x35 s34
set_option maxRecDepth 20000 in
theorem c_X7_feed (l : Launch)  (p1 : Int32) (p2 : Int32) (p3 : Int32) (p4 : Int32) (p5 : Int32) (p6 : Int32) (s0 : zMem) : zC l yX7_feed (.code yX7_feed cX7_feed 8 (some .int)) 3 [.ref 47, .int p1, .int p2, .int p3, .int p4, .int p5, .int p6] zFull s0 (fun r : Int32 => some (.int r)) (f_X7_feed p1 p2 p3 p4 p5 p6 s0) := by
  refine zC_of (own := RX7) rfl rfl (Nat.le_of_ble_eq_true rfl) [some (.ref 47), some (.int p1), some (.int p2), some (.int p3), some (.int p4), some (.int p5), some (.int p6), none] rfl (fun G T h hR => ?_)
  unfold f_X7_feed
  refine ze_iload_n h dX7_feed_0 rfl ?_
  refine ze_iconst h 1 dX7_feed_1 zk_i_1 ?_
  refine ze_iconst h 5 dX7_feed_2 zk_i_5 ?_
  refine ze_callSi h (st := []) zce_X7_in zt_X7_in zm_X7_87 (Nat.le_of_ble_eq_true rfl) zkn (c_X7_in l zFull p1 1 5 s0) rfl (Nat.le_of_ble_eq_true rfl) rfl dX7_feed_3 (fun r1 s2 => ?_)
  refine ze_if_eq h 47 dX7_feed_6 (by decide) ?_ ?_
  · refine ze_bipush h (-2) dX7_feed_47 zk_b_m2 ?_
    exact ze_iret hR dX7_feed_49
  · refine ze_iload_n h dX7_feed_9 rfl ?_
    refine ze_callSi h (st := []) zce_X7_isByte zt_X7_isByte zm_X7_106 (Nat.le_of_ble_eq_true rfl) zkn (c_X7_isByte l zFull p2 s2) rfl (Nat.le_of_ble_eq_true rfl) rfl dX7_feed_10 (fun r3 s4 => ?_)
    refine ze_if_eq h 47 dX7_feed_13 (by decide) ?_ ?_
    · refine ze_bipush h (-2) dX7_feed_47 zk_b_m2 ?_
      exact ze_iret hR dX7_feed_49
    · refine ze_iload_n h dX7_feed_16 rfl ?_
      refine ze_callSi h (st := []) zce_X7_isByte zt_X7_isByte zm_X7_106 (Nat.le_of_ble_eq_true rfl) zkn (c_X7_isByte l zFull p3 s4) rfl (Nat.le_of_ble_eq_true rfl) rfl dX7_feed_17 (fun r5 s6 => ?_)
      refine ze_if_eq h 47 dX7_feed_20 (by decide) ?_ ?_
      · refine ze_bipush h (-2) dX7_feed_47 zk_b_m2 ?_
        exact ze_iret hR dX7_feed_49
      · refine ze_iload h dX7_feed_23 rfl ?_
        refine ze_callSi h (st := []) zce_X7_isByte zt_X7_isByte zm_X7_106 (Nat.le_of_ble_eq_true rfl) zkn (c_X7_isByte l zFull p4 s6) rfl (Nat.le_of_ble_eq_true rfl) rfl dX7_feed_25 (fun r7 s8 => ?_)
        refine ze_if_eq h 47 dX7_feed_28 (by decide) ?_ ?_
        · refine ze_bipush h (-2) dX7_feed_47 zk_b_m2 ?_
          exact ze_iret hR dX7_feed_49
        · refine ze_iload h dX7_feed_31 rfl ?_
          refine ze_callSi h (st := []) zce_X7_isByte zt_X7_isByte zm_X7_106 (Nat.le_of_ble_eq_true rfl) zkn (c_X7_isByte l zFull p5 s8) rfl (Nat.le_of_ble_eq_true rfl) rfl dX7_feed_33 (fun r9 s10 => ?_)
          refine ze_if_eq h 47 dX7_feed_36 (by decide) ?_ ?_
          · refine ze_bipush h (-2) dX7_feed_47 zk_b_m2 ?_
            exact ze_iret hR dX7_feed_49
          · refine ze_iload h dX7_feed_39 rfl ?_
            refine ze_callSi h (st := []) zce_X7_isByte zt_X7_isByte zm_X7_106 (Nat.le_of_ble_eq_true rfl) zkn (c_X7_isByte l zFull p6 s10) rfl (Nat.le_of_ble_eq_true rfl) rfl dX7_feed_41 (fun r11 s12 => ?_)
            refine ze_if_ne h 50 dX7_feed_44 (by decide) ?_ ?_
            · refine ze_aload_n h dX7_feed_50 rfl ?_
              refine ze_getI h zl_47 rfl zf_X7_76 dX7_feed_51 ?_
              refine ze_iload_n h dX7_feed_54 rfl ?_
              refine ze_iadd h dX7_feed_55 ?_
              refine ze_sipush h 160 dX7_feed_56 zk_s_160 ?_
              refine ze_icmp_le h 65 dX7_feed_59 (by decide) ?_ ?_
              · refine ze_iconst h 0 dX7_feed_65 zk_i_0 ?_
                refine ze_istore h [some (.ref 47), some (.int p1), some (.int p2), some (.int p3), some (.int p4), some (.int p5), some (.int p6), some (.int 0)] dX7_feed_66 rfl (by decide) rfl ?_
                exact e_X7_feed_68 h hR  zN p1 p2 p3 p4 p5 p6 0 s12
              · refine ze_bipush h (-4) dX7_feed_62 zk_b_m4 ?_
                exact ze_iret hR dX7_feed_64
            · refine ze_bipush h (-2) dX7_feed_47 zk_b_m2 ?_
              exact ze_iret hR dX7_feed_49
set_option maxRecDepth 20000 in
theorem e_X7_wordFrom_26 {l : Launch} {G : zGT} {T : Option Value × zMem} (h : zOk G l cX7_wordFrom RX7 6 1 0 0 false) (hR : zR G cX7_wordFrom (some .int) T zFull 0 0)  (c88 : Int32 → Int32 → Int32 → Int32 → zMem → Option (Int32 × zMem)) (hc88 : ∀ (y1 : Int32) (y2 : Int32) (y3 : Int32) (y4 : Int32) (s9 : zMem), zE G T (fun r : Int32 => some (.int r)) zFull 0 0 88 [some (.ref 47), some (.int y1), some (.int y2), some (.int y3), some (.int y4), none] [] s9 (c88 y1 y2 y3 y4 s9)) : ∀ (n : Nat) (x10 : Int32) (x11 : Int32) (x12 : Int32) (x13 : Int32) (x14 : Int32) (s15 : zMem), zE G T (fun r : Int32 => some (.int r)) zFull 0 0 26 [some (.ref 47), some (.int x10), some (.int x11), some (.int x12), some (.int x13), some (.int x14)] [] s15 (f_X7_wordFrom_26 c88 n x10 x11 x12 x13 x14 s15) := by
  intro n
  induction n with
  | zero => intro _ _ _ _ _ _; exact ze_none
  | succ n ih =>
    intro x10 x11 x12 x13 x14 s15
    rw [f_X7_wordFrom_26]
    refine ze_iload h dX7_wordFrom_26 rfl ?_
    refine ze_bipush h 8 dX7_wordFrom_28 zk_b_8 ?_
    refine ze_icmp_ge h 88 dX7_wordFrom_30 (by decide) ?_ ?_
    · refine zE_weak h [true, true, true, true, true, false] rfl ?_
      exact hc88 x10 x11 x12 x13 s15
    · refine ze_iload h dX7_wordFrom_33 rfl ?_
      refine ze_if_eq h 88 dX7_wordFrom_35 (by decide) ?_ ?_
      · refine zE_weak h [true, true, true, true, true, false] rfl ?_
        exact hc88 x10 x11 x12 x13 s15
      · refine ze_aload_n h dX7_wordFrom_38 rfl ?_
        refine ze_getR h zl_47 rfl zf_X7_58 dX7_wordFrom_39 ?_
        refine ze_bipush h 8 dX7_wordFrom_42 zk_b_8 ?_
        refine ze_iload_n h dX7_wordFrom_44 rfl ?_
        refine ze_imul h dX7_wordFrom_45 ?_
        refine ze_iload h dX7_wordFrom_46 rfl ?_
        refine ze_iadd h dX7_wordFrom_48 ?_
        refine ze_ialdG h zl_64 dX7_wordFrom_49 ?_
        refine ze_iload_n h dX7_wordFrom_50 rfl ?_
        refine ze_iload h dX7_wordFrom_51 rfl ?_
        refine ze_iadd h dX7_wordFrom_53 ?_
        refine ze_iload_n h dX7_wordFrom_54 rfl ?_
        refine ze_icmp_ge h 70 dX7_wordFrom_55 (by decide) ?_ ?_
        · refine ze_bipush h 32 dX7_wordFrom_70 zk_b_32 ?_
          refine ze_icmp_ne h 79 dX7_wordFrom_72 (by decide) ?_ ?_
          · refine ze_iconst h 0 dX7_wordFrom_79 zk_i_0 ?_
            refine ze_istore h [some (.ref 47), some (.int x10), some (.int x11), some (.int x12), some (.int 0), some (.int x14)] dX7_wordFrom_80 rfl (by decide) rfl ?_
            refine ze_iincN h (fun y9 => [some (.ref 47), some (.int x10), some (.int x11), some (.int x12), some (.int 0), some (.int y9)]) 1 dX7_wordFrom_82 rfl zk_i_1 rfl (by decide) (fun _ => rfl) (fun x16 => ?_)
            refine ze_goto h 26 dX7_wordFrom_85 (by decide) ?_
            exact ih x10 x11 x12 0 x16 s15
          · refine ze_iconst h 1 dX7_wordFrom_75 zk_i_1 ?_
            refine ze_goto h 80 dX7_wordFrom_76 (by decide) ?_
            refine ze_istore h [some (.ref 47), some (.int x10), some (.int x11), some (.int x12), some (.int 1), some (.int x14)] dX7_wordFrom_80 rfl (by decide) rfl ?_
            refine ze_iincN h (fun y9 => [some (.ref 47), some (.int x10), some (.int x11), some (.int x12), some (.int 1), some (.int y9)]) 1 dX7_wordFrom_82 rfl zk_i_1 rfl (by decide) (fun _ => rfl) (fun x17 => ?_)
            refine ze_goto h 26 dX7_wordFrom_85 (by decide) ?_
            exact ih x10 x11 x12 1 x17 s15
        · refine ze_aload_n h dX7_wordFrom_58 rfl ?_
          refine ze_getR h zl_47 rfl zf_X7_31 dX7_wordFrom_59 ?_
          refine ze_iload_n h dX7_wordFrom_62 rfl ?_
          refine ze_iload h dX7_wordFrom_63 rfl ?_
          refine ze_iadd h dX7_wordFrom_65 ?_
          refine ze_ialdG h zl_55 dX7_wordFrom_66 ?_
          refine ze_goto h 72 dX7_wordFrom_67 (by decide) ?_
          refine ze_icmp_ne h 79 dX7_wordFrom_72 (by decide) ?_ ?_
          · refine ze_iconst h 0 dX7_wordFrom_79 zk_i_0 ?_
            refine ze_istore h [some (.ref 47), some (.int x10), some (.int x11), some (.int x12), some (.int 0), some (.int x14)] dX7_wordFrom_80 rfl (by decide) rfl ?_
            refine ze_iincN h (fun y9 => [some (.ref 47), some (.int x10), some (.int x11), some (.int x12), some (.int 0), some (.int y9)]) 1 dX7_wordFrom_82 rfl zk_i_1 rfl (by decide) (fun _ => rfl) (fun x18 => ?_)
            refine ze_goto h 26 dX7_wordFrom_85 (by decide) ?_
            exact ih x10 x11 x12 0 x18 s15
          · refine ze_iconst h 1 dX7_wordFrom_75 zk_i_1 ?_
            refine ze_goto h 80 dX7_wordFrom_76 (by decide) ?_
            refine ze_istore h [some (.ref 47), some (.int x10), some (.int x11), some (.int x12), some (.int 1), some (.int x14)] dX7_wordFrom_80 rfl (by decide) rfl ?_
            refine ze_iincN h (fun y9 => [some (.ref 47), some (.int x10), some (.int x11), some (.int x12), some (.int 1), some (.int y9)]) 1 dX7_wordFrom_82 rfl zk_i_1 rfl (by decide) (fun _ => rfl) (fun x19 => ?_)
            refine ze_goto h 26 dX7_wordFrom_85 (by decide) ?_
            exact ih x10 x11 x12 1 x19 s15
set_option maxRecDepth 20000 in
theorem e_X7_wordFrom_21 {l : Launch} {G : zGT} {T : Option Value × zMem} (h : zOk G l cX7_wordFrom RX7 6 1 0 0 false) (hR : zR G cX7_wordFrom (some .int) T zFull 0 0)  (c2 : Int32 → Int32 → Int32 → zMem → Option (Int32 × zMem)) (hc2 : ∀ (y1 : Int32) (y2 : Int32) (y3 : Int32) (s9 : zMem), zE G T (fun r : Int32 => some (.int r)) zFull 0 0 2 [some (.ref 47), some (.int y1), some (.int y2), some (.int y3), none, none] [] s9 (c2 y1 y2 y3 s9)) : ∀ (x5 : Int32) (x6 : Int32) (x7 : Int32) (t8 : Int32) (s9 : zMem), zE G T (fun r : Int32 => some (.int r)) zFull 0 0 21 [some (.ref 47), some (.int x5), some (.int x6), some (.int x7), none, none] [.int t8] s9 (f_X7_wordFrom_21 c2  x5 x6 x7 t8 s9) := by
  intro x5 x6 x7 t8 s9
  unfold f_X7_wordFrom_21
  refine ze_istore h [some (.ref 47), some (.int x5), some (.int x6), some (.int x7), some (.int t8), none] dX7_wordFrom_21 rfl (by decide) rfl ?_
  refine ze_iconst h 0 dX7_wordFrom_23 zk_i_0 ?_
  refine ze_istore h [some (.ref 47), some (.int x5), some (.int x6), some (.int x7), some (.int t8), some (.int 0)] dX7_wordFrom_24 rfl (by decide) rfl ?_
  refine e_X7_wordFrom_26 h hR _ ?_ zN x5 x6 x7 t8 0 s9
  · intro x20 x21 x22 x23 s24
    refine ze_iload h dX7_wordFrom_88 rfl ?_
    refine ze_if_eq h 95 dX7_wordFrom_90 (by decide) ?_ ?_
    · refine ze_iincN h (fun y9 => [some (.ref 47), some (.int x20), some (.int x21), some (.int y9), some (.int x23), none]) 1 dX7_wordFrom_95 rfl zk_i_1 rfl (by decide) (fun _ => rfl) (fun x25 => ?_)
      refine ze_goto h 2 dX7_wordFrom_98 (by decide) ?_
      refine zE_weak h [true, true, true, true, false, false] rfl ?_
      exact hc2 x20 x21 x25 s24
    · refine ze_iload_n h dX7_wordFrom_93 rfl ?_
      exact ze_iret hR dX7_wordFrom_94
set_option maxRecDepth 20000 in
theorem e_X7_wordFrom_2 {l : Launch} {G : zGT} {T : Option Value × zMem} (h : zOk G l cX7_wordFrom RX7 6 1 0 0 false) (hR : zR G cX7_wordFrom (some .int) T zFull 0 0)   : ∀ (n : Nat) (x1 : Int32) (x2 : Int32) (x3 : Int32) (s4 : zMem), zE G T (fun r : Int32 => some (.int r)) zFull 0 0 2 [some (.ref 47), some (.int x1), some (.int x2), some (.int x3), none, none] [] s4 (f_X7_wordFrom_2 n x1 x2 x3 s4) := by
  intro n
  induction n with
  | zero => intro _ _ _ _; exact ze_none
  | succ n ih =>
    intro x1 x2 x3 s4
    rw [f_X7_wordFrom_2]
    refine ze_iload_n h dX7_wordFrom_2 rfl ?_
    refine ze_bipush h 12 dX7_wordFrom_3 zk_b_12 ?_
    refine ze_icmp_ge h 101 dX7_wordFrom_5 (by decide) ?_ ?_
    · refine ze_bipush h 12 dX7_wordFrom_101 zk_b_12 ?_
      exact ze_iret hR dX7_wordFrom_103
    · refine ze_iload_n h dX7_wordFrom_8 rfl ?_
      refine ze_iload_n h dX7_wordFrom_9 rfl ?_
      refine ze_isub h dX7_wordFrom_10 ?_
      refine ze_bipush h 8 dX7_wordFrom_11 zk_b_8 ?_
      refine ze_icmp_gt h 20 dX7_wordFrom_13 (by decide) ?_ ?_
      · refine ze_iconst h 0 dX7_wordFrom_20 zk_i_0 ?_
        refine e_X7_wordFrom_21 h hR _ ?_ x1 x2 x3 0 s4
        · intro x26 x27 x28 s29
          exact ih x26 x27 x28 s29
      · refine ze_iconst h 1 dX7_wordFrom_16 zk_i_1 ?_
        refine ze_goto h 21 dX7_wordFrom_17 (by decide) ?_
        refine e_X7_wordFrom_21 h hR _ ?_ x1 x2 x3 1 s4
        · intro x30 x31 x32 s33
          exact ih x30 x31 x32 s33
set_option maxRecDepth 20000 in
theorem c_X7_wordFrom (l : Launch)  (p1 : Int32) (p2 : Int32) (s0 : zMem) : zC l yX7_wordFrom (.code yX7_wordFrom cX7_wordFrom 6 (some .int)) 1 [.ref 47, .int p1, .int p2] zFull s0 (fun r : Int32 => some (.int r)) (f_X7_wordFrom p1 p2 s0) := by
  refine zC_of (own := RX7) rfl rfl (Nat.le_of_ble_eq_true rfl) [some (.ref 47), some (.int p1), some (.int p2), none, none, none] rfl (fun G T h hR => ?_)
  unfold f_X7_wordFrom
  refine ze_iconst h 0 dX7_wordFrom_0 zk_i_0 ?_
  refine ze_istore_n h [some (.ref 47), some (.int p1), some (.int p2), some (.int 0), none, none] dX7_wordFrom_1 rfl (by decide) rfl ?_
  exact e_X7_wordFrom_2 h hR  zN p1 p2 0 s0
set_option maxRecDepth 20000 in
theorem e_X7_next_0 {l : Launch} {G : zGT} {T : Option Value × zMem} (h : zOk G l cX7_next RX7 3 2 0 0 false) (hR : zR G cX7_next none T zFull 0 0)  (c52 : zMem → Option (Unit × zMem)) (hc52 : ∀ (s9 : zMem), zE G T (fun _ : Unit => none) zFull 0 0 52 [some (.ref 47), none, none] [] s9 (c52 s9)) : ∀ (n : Nat) (s1 : zMem), zE G T (fun _ : Unit => none) zFull 0 0 0 [some (.ref 47), none, none] [] s1 (f_X7_next_0 c52 n s1) := by
  intro n
  induction n with
  | zero => intro _; exact ze_none
  | succ n ih =>
    intro s1
    rw [f_X7_next_0]
    refine ze_aload_n h dX7_next_0 rfl ?_
    refine ze_getI h zl_47 rfl zf_X7_110 dX7_next_1 ?_
    refine ze_aload_n h dX7_next_4 rfl ?_
    refine ze_getI h zl_47 rfl zf_X7_76 dX7_next_5 ?_
    refine ze_icmp_ge h 52 dX7_next_8 (by decide) ?_ ?_
    · exact hc52 s1
    · refine ze_aload_n h dX7_next_11 rfl ?_
      refine ze_getR h zl_47 rfl zf_X7_31 dX7_next_12 ?_
      refine ze_aload_n h dX7_next_15 rfl ?_
      refine ze_getI h zl_47 rfl zf_X7_110 dX7_next_16 ?_
      refine ze_ialdG h zl_55 dX7_next_19 ?_
      refine ze_bipush h 32 dX7_next_20 zk_b_32 ?_
      refine ze_icmp_eq h 39 dX7_next_22 (by decide) ?_ ?_
      · refine ze_aload_n h dX7_next_39 rfl ?_
        refine ze_dup h dX7_next_40 rfl ?_
        refine ze_getI h zl_47 rfl zf_X7_110 dX7_next_41 ?_
        refine ze_iconst h 1 dX7_next_44 zk_i_1 ?_
        refine ze_iadd h dX7_next_45 ?_
        refine ze_putI h zl_47 rfl zf_X7_110 rfl rfl dX7_next_46 ?_
        refine ze_nmS (fun s2 => ?_)
        refine ze_goto h 0 dX7_next_49 (by decide) ?_
        exact ih s2
      · refine ze_aload_n h dX7_next_25 rfl ?_
        refine ze_getR h zl_47 rfl zf_X7_31 dX7_next_26 ?_
        refine ze_aload_n h dX7_next_29 rfl ?_
        refine ze_getI h zl_47 rfl zf_X7_110 dX7_next_30 ?_
        refine ze_ialdG h zl_55 dX7_next_33 ?_
        refine ze_bipush h 10 dX7_next_34 zk_b_10 ?_
        refine ze_icmp_ne h 52 dX7_next_36 (by decide) ?_ ?_
        · exact hc52 s1
        · refine ze_aload_n h dX7_next_39 rfl ?_
          refine ze_dup h dX7_next_40 rfl ?_
          refine ze_getI h zl_47 rfl zf_X7_110 dX7_next_41 ?_
          refine ze_iconst h 1 dX7_next_44 zk_i_1 ?_
          refine ze_iadd h dX7_next_45 ?_
          refine ze_putI h zl_47 rfl zf_X7_110 rfl rfl dX7_next_46 ?_
          refine ze_nmS (fun s3 => ?_)
          refine ze_goto h 0 dX7_next_49 (by decide) ?_
          exact ih s3
set_option maxRecDepth 20000 in
theorem e_X7_next_379 {l : Launch} {G : zGT} {T : Option Value × zMem} (h : zOk G l cX7_next RX7 3 2 0 0 false) (hR : zR G cX7_next none T zFull 0 0)   : ∀ (x16 : Int32) (t17 : Int32) (s18 : zMem), zE G T (fun _ : Unit => none) zFull 0 0 379 [some (.ref 47), some (.int x16), none] [.int t17] s18 (f_X7_next_379  x16 t17 s18) := by
  intro x16 t17 s18
  unfold f_X7_next_379
  refine ze_istore_n h [some (.ref 47), some (.int x16), some (.int t17)] dX7_next_379 rfl (by decide) rfl ?_
  refine ze_aload_n h dX7_next_380 rfl ?_
  refine ze_iload_n h dX7_next_381 rfl ?_
  refine ze_if_eq h 389 dX7_next_382 (by decide) ?_ ?_
  · refine ze_iconst h (-1) dX7_next_389 zk_i_m1 ?_
    refine ze_putI h zl_47 rfl zf_X7_116 rfl rfl dX7_next_390 ?_
    refine ze_nmS (fun s19 => ?_)
    refine ze_aload_n h dX7_next_393 rfl ?_
    refine ze_dup h dX7_next_394 rfl ?_
    refine ze_getI h zl_47 rfl zf_X7_110 dX7_next_395 ?_
    refine ze_iconst h 1 dX7_next_398 zk_i_1 ?_
    refine ze_iadd h dX7_next_399 ?_
    refine ze_putI h zl_47 rfl zf_X7_110 rfl rfl dX7_next_400 ?_
    refine ze_nmS (fun s20 => ?_)
    exact ze_vret hR dX7_next_403
  · refine ze_iload_n h dX7_next_385 rfl ?_
    refine ze_goto h 390 dX7_next_386 (by decide) ?_
    refine ze_putI h zl_47 rfl zf_X7_116 rfl rfl dX7_next_390 ?_
    refine ze_nmS (fun s21 => ?_)
    refine ze_aload_n h dX7_next_393 rfl ?_
    refine ze_dup h dX7_next_394 rfl ?_
    refine ze_getI h zl_47 rfl zf_X7_110 dX7_next_395 ?_
    refine ze_iconst h 1 dX7_next_398 zk_i_1 ?_
    refine ze_iadd h dX7_next_399 ?_
    refine ze_putI h zl_47 rfl zf_X7_110 rfl rfl dX7_next_400 ?_
    refine ze_nmS (fun s22 => ?_)
    exact ze_vret hR dX7_next_403
set_option maxRecDepth 20000 in
theorem e_X7_next_374 {l : Launch} {G : zGT} {T : Option Value × zMem} (h : zOk G l cX7_next RX7 3 2 0 0 false) (hR : zR G cX7_next none T zFull 0 0)   : ∀ (x14 : Int32) (s15 : zMem), zE G T (fun _ : Unit => none) zFull 0 0 374 [some (.ref 47), some (.int x14), none] [] s15 (f_X7_next_374  x14 s15) := by
  intro x14 s15
  unfold f_X7_next_374
  refine ze_iconst h 1 dX7_next_374 zk_i_1 ?_
  refine ze_goto h 379 dX7_next_375 (by decide) ?_
  exact e_X7_next_379 h hR  x14 1 s15
set_option maxRecDepth 20000 in
theorem e_X7_next_230 {l : Launch} {G : zGT} {T : Option Value × zMem} (h : zOk G l cX7_next RX7 3 2 0 0 false) (hR : zR G cX7_next none T zFull 0 0)  (c309 : Int32 → zMem → Option (Unit × zMem)) (hc309 : ∀ (y1 : Int32) (s9 : zMem), zE G T (fun _ : Unit => none) zFull 0 0 309 [some (.ref 47), none, some (.int y1)] [] s9 (c309 y1 s9)) : ∀ (n : Nat) (x23 : Int32) (s24 : zMem), zE G T (fun _ : Unit => none) zFull 0 0 230 [some (.ref 47), none, some (.int x23)] [] s24 (f_X7_next_230 c309 n x23 s24) := by
  intro n
  induction n with
  | zero => intro _ _; exact ze_none
  | succ n ih =>
    intro x23 s24
    rw [f_X7_next_230]
    refine ze_aload_n h dX7_next_230 rfl ?_
    refine ze_getI h zl_47 rfl zf_X7_110 dX7_next_231 ?_
    refine ze_aload_n h dX7_next_234 rfl ?_
    refine ze_getI h zl_47 rfl zf_X7_76 dX7_next_235 ?_
    refine ze_icmp_ge h 309 dX7_next_238 (by decide) ?_ ?_
    · exact hc309 x23 s24
    · refine ze_aload_n h dX7_next_241 rfl ?_
      refine ze_getR h zl_47 rfl zf_X7_31 dX7_next_242 ?_
      refine ze_aload_n h dX7_next_245 rfl ?_
      refine ze_getI h zl_47 rfl zf_X7_110 dX7_next_246 ?_
      refine ze_ialdG h zl_55 dX7_next_249 ?_
      refine ze_bipush h 48 dX7_next_250 zk_b_48 ?_
      refine ze_bipush h 57 dX7_next_252 zk_b_57 ?_
      refine ze_callSi h (st := []) zce_X7_in zt_X7_in zm_X7_87 (Nat.le_of_ble_eq_true rfl) zkn (c_X7_in l zFull (s24 55 (zix (s24 47 23))) 48 57 s24) rfl (Nat.le_of_ble_eq_true rfl) rfl dX7_next_254 (fun r25 s26 => ?_)
      refine ze_if_eq h 309 dX7_next_257 (by decide) ?_ ?_
      · exact hc309 x23 s26
      · refine ze_aload_n h dX7_next_260 rfl ?_
        refine ze_iload_n h dX7_next_261 rfl ?_
        refine ze_iconst h 4 dX7_next_262 zk_i_4 ?_
        refine ze_icmp_ge h 289 dX7_next_263 (by decide) ?_ ?_
        · refine ze_iconst h 0 dX7_next_289 zk_i_0 ?_
          refine ze_putI h zl_47 rfl zf_X7_119 rfl rfl dX7_next_290 ?_
          refine ze_nmS (fun s27 => ?_)
          refine ze_iincN h (fun y9 => [some (.ref 47), none, some (.int y9)]) 1 dX7_next_293 rfl zk_i_1 rfl (by decide) (fun _ => rfl) (fun x28 => ?_)
          refine ze_aload_n h dX7_next_296 rfl ?_
          refine ze_dup h dX7_next_297 rfl ?_
          refine ze_getI h zl_47 rfl zf_X7_110 dX7_next_298 ?_
          refine ze_iconst h 1 dX7_next_301 zk_i_1 ?_
          refine ze_iadd h dX7_next_302 ?_
          refine ze_putI h zl_47 rfl zf_X7_110 rfl rfl dX7_next_303 ?_
          refine ze_nmS (fun s29 => ?_)
          refine ze_goto h 230 dX7_next_306 (by decide) ?_
          exact ih x28 s29
        · refine ze_bipush h 10 dX7_next_266 zk_b_10 ?_
          refine ze_aload_n h dX7_next_268 rfl ?_
          refine ze_getI h zl_47 rfl zf_X7_119 dX7_next_269 ?_
          refine ze_imul h dX7_next_272 ?_
          refine ze_aload_n h dX7_next_273 rfl ?_
          refine ze_getR h zl_47 rfl zf_X7_31 dX7_next_274 ?_
          refine ze_aload_n h dX7_next_277 rfl ?_
          refine ze_getI h zl_47 rfl zf_X7_110 dX7_next_278 ?_
          refine ze_ialdG h zl_55 dX7_next_281 ?_
          refine ze_iadd h dX7_next_282 ?_
          refine ze_bipush h 48 dX7_next_283 zk_b_48 ?_
          refine ze_isub h dX7_next_285 ?_
          refine ze_goto h 290 dX7_next_286 (by decide) ?_
          refine ze_pc 290 rfl ?_
          refine ze_putI h zl_47 rfl zf_X7_119 rfl rfl dX7_next_290 ?_
          refine ze_nmS (fun s30 => ?_)
          refine ze_iincN h (fun y9 => [some (.ref 47), none, some (.int y9)]) 1 dX7_next_293 rfl zk_i_1 rfl (by decide) (fun _ => rfl) (fun x31 => ?_)
          refine ze_aload_n h dX7_next_296 rfl ?_
          refine ze_dup h dX7_next_297 rfl ?_
          refine ze_getI h zl_47 rfl zf_X7_110 dX7_next_298 ?_
          refine ze_iconst h 1 dX7_next_301 zk_i_1 ?_
          refine ze_iadd h dX7_next_302 ?_
          refine ze_putI h zl_47 rfl zf_X7_110 rfl rfl dX7_next_303 ?_
          refine ze_nmS (fun s32 => ?_)
          refine ze_goto h 230 dX7_next_306 (by decide) ?_
          exact ih x31 s32
set_option maxRecDepth 20000 in
theorem e_X7_next_103 {l : Launch} {G : zGT} {T : Option Value × zMem} (h : zOk G l cX7_next RX7 3 2 0 0 false) (hR : zR G cX7_next none T zFull 0 0)  (c146 : zMem → Option (Unit × zMem)) (hc146 : ∀ (s9 : zMem), zE G T (fun _ : Unit => none) zFull 0 0 146 [some (.ref 47), none, none] [] s9 (c146 s9)) : ∀ (n : Nat) (s37 : zMem), zE G T (fun _ : Unit => none) zFull 0 0 103 [some (.ref 47), none, none] [] s37 (f_X7_next_103 c146 n s37) := by
  intro n
  induction n with
  | zero => intro _; exact ze_none
  | succ n ih =>
    intro s37
    rw [f_X7_next_103]
    refine ze_aload_n h dX7_next_103 rfl ?_
    refine ze_getI h zl_47 rfl zf_X7_110 dX7_next_104 ?_
    refine ze_aload_n h dX7_next_107 rfl ?_
    refine ze_getI h zl_47 rfl zf_X7_76 dX7_next_108 ?_
    refine ze_icmp_ge h 146 dX7_next_111 (by decide) ?_ ?_
    · exact hc146 s37
    · refine ze_aload_n h dX7_next_114 rfl ?_
      refine ze_getR h zl_47 rfl zf_X7_31 dX7_next_115 ?_
      refine ze_aload_n h dX7_next_118 rfl ?_
      refine ze_getI h zl_47 rfl zf_X7_110 dX7_next_119 ?_
      refine ze_ialdG h zl_55 dX7_next_122 ?_
      refine ze_bipush h 97 dX7_next_123 zk_b_97 ?_
      refine ze_bipush h 122 dX7_next_125 zk_b_122 ?_
      refine ze_callSi h (st := []) zce_X7_in zt_X7_in zm_X7_87 (Nat.le_of_ble_eq_true rfl) zkn (c_X7_in l zFull (s37 55 (zix (s37 47 23))) 97 122 s37) rfl (Nat.le_of_ble_eq_true rfl) rfl dX7_next_127 (fun r38 s39 => ?_)
      refine ze_if_eq h 146 dX7_next_130 (by decide) ?_ ?_
      · exact hc146 s39
      · refine ze_aload_n h dX7_next_133 rfl ?_
        refine ze_dup h dX7_next_134 rfl ?_
        refine ze_getI h zl_47 rfl zf_X7_110 dX7_next_135 ?_
        refine ze_iconst h 1 dX7_next_138 zk_i_1 ?_
        refine ze_iadd h dX7_next_139 ?_
        refine ze_putI h zl_47 rfl zf_X7_110 rfl rfl dX7_next_140 ?_
        refine ze_nmS (fun s40 => ?_)
        refine ze_goto h 103 dX7_next_143 (by decide) ?_
        exact ih s40
set_option maxRecDepth 20000 in
theorem e_X7_next_146 {l : Launch} {G : zGT} {T : Option Value × zMem} (h : zOk G l cX7_next RX7 3 2 0 0 false) (hR : zR G cX7_next none T zFull 0 0)   : ∀ (s42 : zMem), zE G T (fun _ : Unit => none) zFull 0 0 146 [some (.ref 47), none, none] [] s42 (f_X7_next_146  s42) := by
  intro s42
  unfold f_X7_next_146
  refine ze_aload_n h dX7_next_146 rfl ?_
  refine ze_aload_n h dX7_next_147 rfl ?_
  refine ze_getI h zl_47 rfl zf_X7_113 dX7_next_148 ?_
  refine ze_aload_n h dX7_next_151 rfl ?_
  refine ze_getI h zl_47 rfl zf_X7_110 dX7_next_152 ?_
  refine ze_callVi h (st := []) zce_X7_wordFrom zi_X7_wordFrom zs_X7_wordFrom zm_X7_122 zl_47 rfl rfl (Nat.le_of_ble_eq_true rfl) zkn (c_X7_wordFrom l  (s42 47 24) (s42 47 23) s42) rfl (Nat.le_of_ble_eq_true rfl) rfl dX7_next_155 (fun r43 s44 => ?_)
  refine ze_istore_n h [some (.ref 47), none, some (.int r43)] dX7_next_158 rfl (by decide) rfl ?_
  refine ze_aload_n h dX7_next_159 rfl ?_
  refine ze_iload_n h dX7_next_160 rfl ?_
  refine ze_iconst h 3 dX7_next_161 zk_i_3 ?_
  refine ze_icmp_ge h 169 dX7_next_162 (by decide) ?_ ?_
  · refine ze_iload_n h dX7_next_169 rfl ?_
    refine ze_bipush h 9 dX7_next_170 zk_b_9 ?_
    refine ze_icmp_ge h 179 dX7_next_172 (by decide) ?_ ?_
    · refine ze_iload_n h dX7_next_179 rfl ?_
      refine ze_bipush h 12 dX7_next_180 zk_b_12 ?_
      refine ze_icmp_ne h 189 dX7_next_182 (by decide) ?_ ?_
      · refine ze_iconst h 4 dX7_next_189 zk_i_4 ?_
        refine ze_iload_n h dX7_next_190 rfl ?_
        refine ze_iadd h dX7_next_191 ?_
        refine ze_bipush h 9 dX7_next_192 zk_b_9 ?_
        refine ze_isub h dX7_next_194 ?_
        refine ze_putI h zl_47 rfl zf_X7_116 rfl rfl dX7_next_195 ?_
        refine ze_nmS (fun s45 => ?_)
        refine ze_aload_n h dX7_next_198 rfl ?_
        refine ze_iload_n h dX7_next_199 rfl ?_
        refine ze_iconst h 3 dX7_next_200 zk_i_3 ?_
        refine ze_icmp_ge h 208 dX7_next_201 (by decide) ?_ ?_
        · refine ze_iload_n h dX7_next_208 rfl ?_
          refine ze_iconst h 3 dX7_next_209 zk_i_3 ?_
          refine ze_isub h dX7_next_210 ?_
          refine ze_putI h zl_47 rfl zf_X7_119 rfl rfl dX7_next_211 ?_
          refine ze_nmS (fun s46 => ?_)
          refine ze_goto h 403 dX7_next_214 (by decide) ?_
          exact ze_vret hR dX7_next_403
        · refine ze_iload_n h dX7_next_204 rfl ?_
          refine ze_goto h 211 dX7_next_205 (by decide) ?_
          refine ze_putI h zl_47 rfl zf_X7_119 rfl rfl dX7_next_211 ?_
          refine ze_nmS (fun s47 => ?_)
          refine ze_goto h 403 dX7_next_214 (by decide) ?_
          exact ze_vret hR dX7_next_403
      · refine ze_iconst h (-1) dX7_next_185 zk_i_m1 ?_
        refine ze_goto h 195 dX7_next_186 (by decide) ?_
        refine ze_putI h zl_47 rfl zf_X7_116 rfl rfl dX7_next_195 ?_
        refine ze_nmS (fun s48 => ?_)
        refine ze_aload_n h dX7_next_198 rfl ?_
        refine ze_iload_n h dX7_next_199 rfl ?_
        refine ze_iconst h 3 dX7_next_200 zk_i_3 ?_
        refine ze_icmp_ge h 208 dX7_next_201 (by decide) ?_ ?_
        · refine ze_iload_n h dX7_next_208 rfl ?_
          refine ze_iconst h 3 dX7_next_209 zk_i_3 ?_
          refine ze_isub h dX7_next_210 ?_
          refine ze_putI h zl_47 rfl zf_X7_119 rfl rfl dX7_next_211 ?_
          refine ze_nmS (fun s49 => ?_)
          refine ze_goto h 403 dX7_next_214 (by decide) ?_
          exact ze_vret hR dX7_next_403
        · refine ze_iload_n h dX7_next_204 rfl ?_
          refine ze_goto h 211 dX7_next_205 (by decide) ?_
          refine ze_putI h zl_47 rfl zf_X7_119 rfl rfl dX7_next_211 ?_
          refine ze_nmS (fun s50 => ?_)
          refine ze_goto h 403 dX7_next_214 (by decide) ?_
          exact ze_vret hR dX7_next_403
    · refine ze_iconst h 2 dX7_next_175 zk_i_2 ?_
      refine ze_goto h 195 dX7_next_176 (by decide) ?_
      refine ze_putI h zl_47 rfl zf_X7_116 rfl rfl dX7_next_195 ?_
      refine ze_nmS (fun s51 => ?_)
      refine ze_aload_n h dX7_next_198 rfl ?_
      refine ze_iload_n h dX7_next_199 rfl ?_
      refine ze_iconst h 3 dX7_next_200 zk_i_3 ?_
      refine ze_icmp_ge h 208 dX7_next_201 (by decide) ?_ ?_
      · refine ze_iload_n h dX7_next_208 rfl ?_
        refine ze_iconst h 3 dX7_next_209 zk_i_3 ?_
        refine ze_isub h dX7_next_210 ?_
        refine ze_putI h zl_47 rfl zf_X7_119 rfl rfl dX7_next_211 ?_
        refine ze_nmS (fun s52 => ?_)
        refine ze_goto h 403 dX7_next_214 (by decide) ?_
        exact ze_vret hR dX7_next_403
      · refine ze_iload_n h dX7_next_204 rfl ?_
        refine ze_goto h 211 dX7_next_205 (by decide) ?_
        refine ze_putI h zl_47 rfl zf_X7_119 rfl rfl dX7_next_211 ?_
        refine ze_nmS (fun s53 => ?_)
        refine ze_goto h 403 dX7_next_214 (by decide) ?_
        exact ze_vret hR dX7_next_403
  · refine ze_iconst h 3 dX7_next_165 zk_i_3 ?_
    refine ze_goto h 195 dX7_next_166 (by decide) ?_
    refine ze_putI h zl_47 rfl zf_X7_116 rfl rfl dX7_next_195 ?_
    refine ze_nmS (fun s54 => ?_)
    refine ze_aload_n h dX7_next_198 rfl ?_
    refine ze_iload_n h dX7_next_199 rfl ?_
    refine ze_iconst h 3 dX7_next_200 zk_i_3 ?_
    refine ze_icmp_ge h 208 dX7_next_201 (by decide) ?_ ?_
    · refine ze_iload_n h dX7_next_208 rfl ?_
      refine ze_iconst h 3 dX7_next_209 zk_i_3 ?_
      refine ze_isub h dX7_next_210 ?_
      refine ze_putI h zl_47 rfl zf_X7_119 rfl rfl dX7_next_211 ?_
      refine ze_nmS (fun s55 => ?_)
      refine ze_goto h 403 dX7_next_214 (by decide) ?_
      exact ze_vret hR dX7_next_403
    · refine ze_iload_n h dX7_next_204 rfl ?_
      refine ze_goto h 211 dX7_next_205 (by decide) ?_
      refine ze_putI h zl_47 rfl zf_X7_119 rfl rfl dX7_next_211 ?_
      refine ze_nmS (fun s56 => ?_)
      refine ze_goto h 403 dX7_next_214 (by decide) ?_
      exact ze_vret hR dX7_next_403
set_option maxRecDepth 20000 in
theorem e_X7_next_52 {l : Launch} {G : zGT} {T : Option Value × zMem} (h : zOk G l cX7_next RX7 3 2 0 0 false) (hR : zR G cX7_next none T zFull 0 0)   : ∀ (s5 : zMem), zE G T (fun _ : Unit => none) zFull 0 0 52 [some (.ref 47), none, none] [] s5 (f_X7_next_52  s5) := by
  intro s5
  unfold f_X7_next_52
  refine ze_aload_n h dX7_next_52 rfl ?_
  refine ze_aload_n h dX7_next_53 rfl ?_
  refine ze_getI h zl_47 rfl zf_X7_110 dX7_next_54 ?_
  refine ze_putI h zl_47 rfl zf_X7_113 rfl rfl dX7_next_57 ?_
  refine ze_nmS (fun s6 => ?_)
  refine ze_aload_n h dX7_next_60 rfl ?_
  refine ze_iconst h 0 dX7_next_61 zk_i_0 ?_
  refine ze_putI h zl_47 rfl zf_X7_116 rfl rfl dX7_next_62 ?_
  refine ze_nmS (fun s7 => ?_)
  refine ze_aload_n h dX7_next_65 rfl ?_
  refine ze_iconst h 0 dX7_next_66 zk_i_0 ?_
  refine ze_putI h zl_47 rfl zf_X7_119 rfl rfl dX7_next_67 ?_
  refine ze_nmS (fun s8 => ?_)
  refine ze_aload_n h dX7_next_70 rfl ?_
  refine ze_getI h zl_47 rfl zf_X7_110 dX7_next_71 ?_
  refine ze_aload_n h dX7_next_74 rfl ?_
  refine ze_pc 75 rfl ?_
  refine ze_getI h zl_47 rfl zf_X7_76 dX7_next_75 ?_
  refine ze_icmp_ne h 82 dX7_next_78 (by decide) ?_ ?_
  · refine ze_aload_n h dX7_next_82 rfl ?_
    refine ze_getR h zl_47 rfl zf_X7_31 dX7_next_83 ?_
    refine ze_aload_n h dX7_next_86 rfl ?_
    refine ze_getI h zl_47 rfl zf_X7_110 dX7_next_87 ?_
    refine ze_ialdG h zl_55 dX7_next_90 ?_
    refine ze_nmI (fun x9 => ?_)
    refine ze_istore_n h [some (.ref 47), some (.int x9), none] dX7_next_91 rfl (by decide) rfl ?_
    refine ze_iload_n h dX7_next_92 rfl ?_
    refine ze_bipush h 97 dX7_next_93 zk_b_97 ?_
    refine ze_bipush h 122 dX7_next_95 zk_b_122 ?_
    refine ze_callSi h (st := []) zce_X7_in zt_X7_in zm_X7_87 (Nat.le_of_ble_eq_true rfl) zkn (c_X7_in l zFull x9 97 122 s8) rfl (Nat.le_of_ble_eq_true rfl) rfl dX7_next_97 (fun r10 s11 => ?_)
    refine ze_if_eq h 217 dX7_next_100 (by decide) ?_ ?_
    · refine ze_iload_n h dX7_next_217 rfl ?_
      refine ze_bipush h 48 dX7_next_218 zk_b_48 ?_
      refine ze_bipush h 57 dX7_next_220 zk_b_57 ?_
      refine ze_callSi h (st := []) zce_X7_in zt_X7_in zm_X7_87 (Nat.le_of_ble_eq_true rfl) zkn (c_X7_in l zFull x9 48 57 s11) rfl (Nat.le_of_ble_eq_true rfl) rfl dX7_next_222 (fun r12 s13 => ?_)
      refine ze_if_eq h 326 dX7_next_225 (by decide) ?_ ?_
      · refine ze_iload_n h dX7_next_326 rfl ?_
        refine ze_bipush h 40 dX7_next_327 zk_b_40 ?_
        refine ze_icmp_eq h 374 dX7_next_329 (by decide) ?_ ?_
        · exact e_X7_next_374 h hR  x9 s13
        · refine ze_iload_n h dX7_next_332 rfl ?_
          refine ze_bipush h 41 dX7_next_333 zk_b_41 ?_
          refine ze_icmp_eq h 374 dX7_next_335 (by decide) ?_ ?_
          · exact e_X7_next_374 h hR  x9 s13
          · refine ze_iload_n h dX7_next_338 rfl ?_
            refine ze_bipush h 59 dX7_next_339 zk_b_59 ?_
            refine ze_icmp_eq h 374 dX7_next_341 (by decide) ?_ ?_
            · exact e_X7_next_374 h hR  x9 s13
            · refine ze_iload_n h dX7_next_344 rfl ?_
              refine ze_bipush h 43 dX7_next_345 zk_b_43 ?_
              refine ze_icmp_eq h 374 dX7_next_347 (by decide) ?_ ?_
              · exact e_X7_next_374 h hR  x9 s13
              · refine ze_iload_n h dX7_next_350 rfl ?_
                refine ze_bipush h 45 dX7_next_351 zk_b_45 ?_
                refine ze_icmp_eq h 374 dX7_next_353 (by decide) ?_ ?_
                · exact e_X7_next_374 h hR  x9 s13
                · refine ze_iload_n h dX7_next_356 rfl ?_
                  refine ze_bipush h 42 dX7_next_357 zk_b_42 ?_
                  refine ze_icmp_eq h 374 dX7_next_359 (by decide) ?_ ?_
                  · exact e_X7_next_374 h hR  x9 s13
                  · refine ze_iload_n h dX7_next_362 rfl ?_
                    refine ze_bipush h 60 dX7_next_363 zk_b_60 ?_
                    refine ze_icmp_eq h 374 dX7_next_365 (by decide) ?_ ?_
                    · exact e_X7_next_374 h hR  x9 s13
                    · refine ze_iload_n h dX7_next_368 rfl ?_
                      refine ze_bipush h 61 dX7_next_369 zk_b_61 ?_
                      refine ze_icmp_ne h 378 dX7_next_371 (by decide) ?_ ?_
                      · refine ze_iconst h 0 dX7_next_378 zk_i_0 ?_
                        exact e_X7_next_379 h hR  x9 0 s13
                      · exact e_X7_next_374 h hR  x9 s13
      · refine ze_iconst h 0 dX7_next_228 zk_i_0 ?_
        refine ze_istore_n h [some (.ref 47), some (.int x9), some (.int 0)] dX7_next_229 rfl (by decide) rfl ?_
        refine zE_weak h [true, false, true] rfl ?_
        refine e_X7_next_230 h hR _ ?_ zN 0 s13
        · intro x33 s34
          refine ze_aload_n h dX7_next_309 rfl ?_
          refine ze_iload_n h dX7_next_310 rfl ?_
          refine ze_iconst h 4 dX7_next_311 zk_i_4 ?_
          refine ze_icmp_le h 319 dX7_next_312 (by decide) ?_ ?_
          · refine ze_iconst h 1 dX7_next_319 zk_i_1 ?_
            refine ze_putI h zl_47 rfl zf_X7_116 rfl rfl dX7_next_320 ?_
            refine ze_nmS (fun s35 => ?_)
            refine ze_goto h 403 dX7_next_323 (by decide) ?_
            exact ze_vret hR dX7_next_403
          · refine ze_iconst h (-1) dX7_next_315 zk_i_m1 ?_
            refine ze_goto h 320 dX7_next_316 (by decide) ?_
            refine ze_putI h zl_47 rfl zf_X7_116 rfl rfl dX7_next_320 ?_
            refine ze_nmS (fun s36 => ?_)
            refine ze_goto h 403 dX7_next_323 (by decide) ?_
            exact ze_vret hR dX7_next_403
    · refine zE_weak h [true, false, false] rfl ?_
      refine e_X7_next_103 h hR _ ?_ zN s11
      · intro s41
        exact e_X7_next_146 h hR  s41
  · exact ze_vret hR dX7_next_81
set_option maxRecDepth 20000 in
theorem c_X7_next (l : Launch)   (s0 : zMem) : zC l yX7_next (.code yX7_next cX7_next 3 none) 2 [.ref 47] zFull s0 (fun _ : Unit => none) (f_X7_next s0) := by
  refine zC_of (own := RX7) rfl rfl (Nat.le_of_ble_eq_true rfl) [some (.ref 47), none, none] rfl (fun G T h hR => ?_)
  unfold f_X7_next
  refine e_X7_next_0 h hR _ ?_ zN s0
  · intro s4
    exact e_X7_next_52 h hR  s4
set_option maxRecDepth 20000 in
theorem c_X7_rank (l : Launch) (Λ : zLay) (p1 : Int32) (s0 : zMem) : zC l yX7_rank (.code yX7_rank cX7_rank 1 (some .int)) 1 [.int p1] Λ s0 (fun r : Int32 => some (.int r)) (f_X7_rank p1 s0) := by
  refine zC_of (own := RX7) rfl rfl (Nat.le_of_ble_eq_true rfl) [some (.int p1)] rfl (fun G T h hR => ?_)
  unfold f_X7_rank
  refine ze_iload_n h dX7_rank_0 rfl ?_
  refine ze_if_ne h 8 dX7_rank_1 (by decide) ?_ ?_
  · refine ze_iload_n h dX7_rank_8 rfl ?_
    refine ze_bipush h 11 dX7_rank_9 zk_b_11 ?_
    refine ze_icmp_ne h 18 dX7_rank_11 (by decide) ?_ ?_
    · refine ze_iload_n h dX7_rank_18 rfl ?_
      refine ze_bipush h 12 dX7_rank_19 zk_b_12 ?_
      refine ze_icmp_ne h 28 dX7_rank_21 (by decide) ?_ ?_
      · refine ze_iload_n h dX7_rank_28 rfl ?_
        refine ze_bipush h 13 dX7_rank_29 zk_b_13 ?_
        refine ze_icmp_ne h 38 dX7_rank_31 (by decide) ?_ ?_
        · refine ze_iload_n h dX7_rank_38 rfl ?_
          refine ze_bipush h 15 dX7_rank_39 zk_b_15 ?_
          refine ze_icmp_gt h 48 dX7_rank_41 (by decide) ?_ ?_
          · refine ze_iload_n h dX7_rank_48 rfl ?_
            refine ze_bipush h 17 dX7_rank_49 zk_b_17 ?_
            refine ze_icmp_gt h 58 dX7_rank_51 (by decide) ?_ ?_
            · refine ze_iload_n h dX7_rank_58 rfl ?_
              refine ze_bipush h 18 dX7_rank_59 zk_b_18 ?_
              refine ze_icmp_ne h 69 dX7_rank_61 (by decide) ?_ ?_
              · refine ze_bipush h 7 dX7_rank_69 zk_b_7 ?_
                exact ze_iret hR dX7_rank_71
              · refine ze_bipush h 6 dX7_rank_64 zk_b_6 ?_
                refine ze_goto h 71 dX7_rank_66 (by decide) ?_
                exact ze_iret hR dX7_rank_71
            · refine ze_iconst h 5 dX7_rank_54 zk_i_5 ?_
              refine ze_goto h 71 dX7_rank_55 (by decide) ?_
              exact ze_iret hR dX7_rank_71
          · refine ze_iconst h 4 dX7_rank_44 zk_i_4 ?_
            refine ze_goto h 71 dX7_rank_45 (by decide) ?_
            exact ze_iret hR dX7_rank_71
        · refine ze_iconst h 3 dX7_rank_34 zk_i_3 ?_
          refine ze_goto h 71 dX7_rank_35 (by decide) ?_
          exact ze_iret hR dX7_rank_71
      · refine ze_iconst h 2 dX7_rank_24 zk_i_2 ?_
        refine ze_goto h 71 dX7_rank_25 (by decide) ?_
        exact ze_iret hR dX7_rank_71
    · refine ze_iconst h 1 dX7_rank_14 zk_i_1 ?_
      refine ze_goto h 71 dX7_rank_15 (by decide) ?_
      exact ze_iret hR dX7_rank_71
  · refine ze_iconst h 0 dX7_rank_4 zk_i_0 ?_
    refine ze_goto h 71 dX7_rank_5 (by decide) ?_
    exact ze_iret hR dX7_rank_71
set_option maxRecDepth 20000 in
theorem c_X7_puts (l : Launch)  (p1 : Int32) (s0 : zMem) : zC l yX7_puts (.code yX7_puts cX7_puts 2 none) 1 [.ref 47, .int p1] zFull s0 (fun _ : Unit => none) (f_X7_puts p1 s0) := by
  refine zC_of (own := RX7) rfl rfl (Nat.le_of_ble_eq_true rfl) [some (.ref 47), some (.int p1)] rfl (fun G T h hR => ?_)
  unfold f_X7_puts
  refine ze_aload_n h dX7_puts_0 rfl ?_
  refine ze_getR h zl_47 rfl zf_X7_34 dX7_puts_1 ?_
  refine ze_sipush h 200 dX7_puts_4 zk_s_200 ?_
  refine ze_aload_n h dX7_puts_7 rfl ?_
  refine ze_getI h zl_47 rfl zf_X7_100 dX7_puts_8 ?_
  refine ze_imul h dX7_puts_11 ?_
  refine ze_aload_n h dX7_puts_12 rfl ?_
  refine ze_getI h zl_47 rfl zf_X7_126 dX7_puts_13 ?_
  refine ze_iadd h dX7_puts_16 ?_
  refine ze_iload_n h dX7_puts_17 rfl ?_
  refine ze_iastG h zl_56 dX7_puts_18 ?_
  refine ze_nmS (fun s1 => ?_)
  refine ze_aload_n h dX7_puts_19 rfl ?_
  refine ze_dup h dX7_puts_20 rfl ?_
  refine ze_pc 21 rfl ?_
  refine ze_getI h zl_47 rfl zf_X7_126 dX7_puts_21 ?_
  refine ze_iconst h 1 dX7_puts_24 zk_i_1 ?_
  refine ze_iadd h dX7_puts_25 ?_
  refine ze_putI h zl_47 rfl zf_X7_126 rfl rfl dX7_puts_26 ?_
  refine ze_nmS (fun s2 => ?_)
  exact ze_vret hR dX7_puts_29
set_option maxRecDepth 20000 in
theorem e_X7_unwinds_0 {l : Launch} {G : zGT} {T : Option Value × zMem} (h : zOk G l cX7_unwinds RX7 3 2 0 0 false) (hR : zR G cX7_unwinds none T zFull 0 0)   : ∀ (n : Nat) (x1 : Int32) (s2 : zMem), zE G T (fun _ : Unit => none) zFull 0 0 0 [some (.ref 47), some (.int x1), none] [] s2 (f_X7_unwinds_0 n x1 s2) := by
  intro n
  induction n with
  | zero => intro _ _; exact ze_none
  | succ n ih =>
    intro x1 s2
    rw [f_X7_unwinds_0]
    refine ze_aload_n h dX7_unwinds_0 rfl ?_
    refine ze_getI h zl_47 rfl zf_X7_129 dX7_unwinds_1 ?_
    refine ze_if_le h 79 dX7_unwinds_4 (by decide) ?_ ?_
    · exact ze_vret hR dX7_unwinds_79
    · refine ze_aload_n h dX7_unwinds_7 rfl ?_
      refine ze_getR h zl_47 rfl zf_X7_61 dX7_unwinds_8 ?_
      refine ze_aload_n h dX7_unwinds_11 rfl ?_
      refine ze_getI h zl_47 rfl zf_X7_129 dX7_unwinds_12 ?_
      refine ze_iconst h 1 dX7_unwinds_15 zk_i_1 ?_
      refine ze_isub h dX7_unwinds_16 ?_
      refine ze_ialdG h zl_65 dX7_unwinds_17 ?_
      refine ze_callSi h (st := []) zce_X7_rank zt_X7_rank zm_X7_132 (Nat.le_of_ble_eq_true rfl) zkn (c_X7_rank l zFull (s2 65 (zix ((s2 47 29) - 1))) s2) rfl (Nat.le_of_ble_eq_true rfl) rfl dX7_unwinds_18 (fun r3 s4 => ?_)
      refine ze_iload_n h dX7_unwinds_21 rfl ?_
      refine ze_icmp_lt h 79 dX7_unwinds_22 (by decide) ?_ ?_
      · exact ze_vret hR dX7_unwinds_79
      · refine ze_aload_n h dX7_unwinds_25 rfl ?_
        refine ze_dup h dX7_unwinds_26 rfl ?_
        refine ze_getI h zl_47 rfl zf_X7_129 dX7_unwinds_27 ?_
        refine ze_iconst h 1 dX7_unwinds_30 zk_i_1 ?_
        refine ze_isub h dX7_unwinds_31 ?_
        refine ze_putI h zl_47 rfl zf_X7_129 rfl rfl dX7_unwinds_32 ?_
        refine ze_nmS (fun s5 => ?_)
        refine ze_aload_n h dX7_unwinds_35 rfl ?_
        refine ze_getR h zl_47 rfl zf_X7_61 dX7_unwinds_36 ?_
        refine ze_aload_n h dX7_unwinds_39 rfl ?_
        refine ze_getI h zl_47 rfl zf_X7_129 dX7_unwinds_40 ?_
        refine ze_ialdG h zl_65 dX7_unwinds_43 ?_
        refine ze_nmI (fun x6 => ?_)
        refine ze_istore_n h [some (.ref 47), some (.int x1), some (.int x6)] dX7_unwinds_44 rfl (by decide) rfl ?_
        refine ze_aload_n h dX7_unwinds_45 rfl ?_
        refine ze_pc 46 rfl ?_
        refine ze_dup h dX7_unwinds_46 rfl ?_
        refine ze_getI h zl_47 rfl zf_X7_136 dX7_unwinds_47 ?_
        refine ze_iload_n h dX7_unwinds_50 rfl ?_
        refine ze_bipush h 13 dX7_unwinds_51 zk_b_13 ?_
        refine ze_icmp_eq h 62 dX7_unwinds_53 (by decide) ?_ ?_
        · refine ze_iconst h 1 dX7_unwinds_62 zk_i_1 ?_
          refine ze_goto h 67 dX7_unwinds_63 (by decide) ?_
          refine ze_isub h dX7_unwinds_67 ?_
          refine ze_putI h zl_47 rfl zf_X7_136 rfl rfl dX7_unwinds_68 ?_
          refine ze_nmS (fun s7 => ?_)
          refine ze_aload_n h dX7_unwinds_71 rfl ?_
          refine ze_iload_n h dX7_unwinds_72 rfl ?_
          refine ze_callVv h (st := []) zce_X7_puts zi_X7_puts zs_X7_puts zm_X7_139 zl_47 rfl rfl (Nat.le_of_ble_eq_true rfl) zkn (c_X7_puts l  x6 s7) rfl (Nat.le_of_ble_eq_true rfl) rfl dX7_unwinds_73 (fun _ s9 => ?_)
          refine ze_goto h 0 dX7_unwinds_76 (by decide) ?_
          refine zE_weak h [true, true, false] rfl ?_
          exact ih x1 s9
        · refine ze_iload_n h dX7_unwinds_56 rfl ?_
          refine ze_bipush h 19 dX7_unwinds_57 zk_b_19 ?_
          refine ze_icmp_ne h 66 dX7_unwinds_59 (by decide) ?_ ?_
          · refine ze_iconst h 0 dX7_unwinds_66 zk_i_0 ?_
            refine ze_isub h dX7_unwinds_67 ?_
            refine ze_putI h zl_47 rfl zf_X7_136 rfl rfl dX7_unwinds_68 ?_
            refine ze_nmS (fun s10 => ?_)
            refine ze_aload_n h dX7_unwinds_71 rfl ?_
            refine ze_iload_n h dX7_unwinds_72 rfl ?_
            refine ze_callVv h (st := []) zce_X7_puts zi_X7_puts zs_X7_puts zm_X7_139 zl_47 rfl rfl (Nat.le_of_ble_eq_true rfl) zkn (c_X7_puts l  x6 s10) rfl (Nat.le_of_ble_eq_true rfl) rfl dX7_unwinds_73 (fun _ s12 => ?_)
            refine ze_goto h 0 dX7_unwinds_76 (by decide) ?_
            refine zE_weak h [true, true, false] rfl ?_
            exact ih x1 s12
          · refine ze_iconst h 1 dX7_unwinds_62 zk_i_1 ?_
            refine ze_goto h 67 dX7_unwinds_63 (by decide) ?_
            refine ze_isub h dX7_unwinds_67 ?_
            refine ze_putI h zl_47 rfl zf_X7_136 rfl rfl dX7_unwinds_68 ?_
            refine ze_nmS (fun s13 => ?_)
            refine ze_aload_n h dX7_unwinds_71 rfl ?_
            refine ze_iload_n h dX7_unwinds_72 rfl ?_
            refine ze_callVv h (st := []) zce_X7_puts zi_X7_puts zs_X7_puts zm_X7_139 zl_47 rfl rfl (Nat.le_of_ble_eq_true rfl) zkn (c_X7_puts l  x6 s13) rfl (Nat.le_of_ble_eq_true rfl) rfl dX7_unwinds_73 (fun _ s15 => ?_)
            refine ze_goto h 0 dX7_unwinds_76 (by decide) ?_
            refine zE_weak h [true, true, false] rfl ?_
            exact ih x1 s15
set_option maxRecDepth 20000 in
theorem c_X7_unwinds (l : Launch)  (p1 : Int32) (s0 : zMem) : zC l yX7_unwinds (.code yX7_unwinds cX7_unwinds 3 none) 2 [.ref 47, .int p1] zFull s0 (fun _ : Unit => none) (f_X7_unwinds p1 s0) := by
  refine zC_of (own := RX7) rfl rfl (Nat.le_of_ble_eq_true rfl) [some (.ref 47), some (.int p1), none] rfl (fun G T h hR => ?_)
  unfold f_X7_unwinds
  exact e_X7_unwinds_0 h hR  zN p1 s0
set_option maxRecDepth 20000 in
theorem c_X7_holds (l : Launch)  (p1 : Int32) (s0 : zMem) : zC l yX7_holds (.code yX7_holds cX7_holds 2 none) 1 [.ref 47, .int p1] zFull s0 (fun _ : Unit => none) (f_X7_holds p1 s0) := by
  refine zC_of (own := RX7) rfl rfl (Nat.le_of_ble_eq_true rfl) [some (.ref 47), some (.int p1)] rfl (fun G T h hR => ?_)
  unfold f_X7_holds
  refine ze_aload_n h dX7_holds_0 rfl ?_
  refine ze_getR h zl_47 rfl zf_X7_61 dX7_holds_1 ?_
  refine ze_aload_n h dX7_holds_4 rfl ?_
  refine ze_getI h zl_47 rfl zf_X7_129 dX7_holds_5 ?_
  refine ze_iload_n h dX7_holds_8 rfl ?_
  refine ze_iastG h zl_65 dX7_holds_9 ?_
  refine ze_nmS (fun s1 => ?_)
  refine ze_aload_n h dX7_holds_10 rfl ?_
  refine ze_dup h dX7_holds_11 rfl ?_
  refine ze_getI h zl_47 rfl zf_X7_129 dX7_holds_12 ?_
  refine ze_iconst h 1 dX7_holds_15 zk_i_1 ?_
  refine ze_iadd h dX7_holds_16 ?_
  refine ze_putI h zl_47 rfl zf_X7_129 rfl rfl dX7_holds_17 ?_
  refine ze_nmS (fun s2 => ?_)
  exact ze_vret hR dX7_holds_20
set_option maxRecDepth 20000 in
theorem c_X7_opensOne (l : Launch)  (p1 : Int32) (s0 : zMem) : zC l yX7_opensOne (.code yX7_opensOne cX7_opensOne 2 (some .boolean)) 2 [.ref 47, .int p1] zFull s0 (fun r : Int32 => some (.int r)) (f_X7_opensOne p1 s0) := by
  refine zC_of (own := RX7) rfl rfl (Nat.le_of_ble_eq_true rfl) [some (.ref 47), some (.int p1)] rfl (fun G T h hR => ?_)
  unfold f_X7_opensOne
  refine ze_aload_n h dX7_opensOne_0 rfl ?_
  refine ze_getI h zl_47 rfl zf_X7_136 dX7_opensOne_1 ?_
  refine ze_iconst h 5 dX7_opensOne_4 zk_i_5 ?_
  refine ze_icmp_ne h 10 dX7_opensOne_5 (by decide) ?_ ?_
  · refine ze_aload_n h dX7_opensOne_10 rfl ?_
    refine ze_dup h dX7_opensOne_11 rfl ?_
    refine ze_getI h zl_47 rfl zf_X7_136 dX7_opensOne_12 ?_
    refine ze_iconst h 1 dX7_opensOne_15 zk_i_1 ?_
    refine ze_iadd h dX7_opensOne_16 ?_
    refine ze_putI h zl_47 rfl zf_X7_136 rfl rfl dX7_opensOne_17 ?_
    refine ze_nmS (fun s1 => ?_)
    refine ze_aload_n h dX7_opensOne_20 rfl ?_
    refine ze_iload_n h dX7_opensOne_21 rfl ?_
    refine ze_callVv h (st := []) zce_X7_holds zi_X7_holds zs_X7_holds zm_X7_143 zl_47 rfl rfl (Nat.le_of_ble_eq_true rfl) zkn (c_X7_holds l  p1 s1) rfl (Nat.le_of_ble_eq_true rfl) rfl dX7_opensOne_22 (fun _ s3 => ?_)
    refine ze_iconst h 1 dX7_opensOne_25 zk_i_1 ?_
    exact ze_zret hR rfl dX7_opensOne_26
  · refine ze_iconst h 0 dX7_opensOne_8 zk_i_0 ?_
    exact ze_zret hR rfl dX7_opensOne_9
set_option maxRecDepth 20000 in
theorem e_X7_between_17 {l : Launch} {G : zGT} {T : Option Value × zMem} (h : zOk G l cX7_between RX7 2 3 0 0 false) (hR : zR G cX7_between (some .boolean) T zFull 0 0)   : ∀ (x5 : Int32) (t6 : Int32) (s7 : zMem), zE G T (fun r : Int32 => some (.int r)) zFull 0 0 17 [some (.ref 47), some (.int x5)] [.int t6, .ref 47] s7 (f_X7_between_17  x5 t6 s7) := by
  intro x5 t6 s7
  unfold f_X7_between_17
  refine ze_callVv h (st := []) zce_X7_unwinds zi_X7_unwinds zs_X7_unwinds zm_X7_146 zl_47 rfl rfl (Nat.le_of_ble_eq_true rfl) zkn (c_X7_unwinds l  t6 s7) rfl (Nat.le_of_ble_eq_true rfl) rfl dX7_between_17 (fun _ s9 => ?_)
  refine ze_iload_n h dX7_between_20 rfl ?_
  refine ze_callSi h (st := []) zce_X7_rank zt_X7_rank zm_X7_132 (Nat.le_of_ble_eq_true rfl) zkn (c_X7_rank l zFull x5 s9) rfl (Nat.le_of_ble_eq_true rfl) rfl dX7_between_21 (fun r10 s11 => ?_)
  refine ze_iconst h 4 dX7_between_24 zk_i_4 ?_
  refine ze_icmp_ne h 55 dX7_between_25 (by decide) ?_ ?_
  · refine ze_aload_n h dX7_between_55 rfl ?_
    refine ze_iload_n h dX7_between_56 rfl ?_
    refine ze_callVv h (st := []) zce_X7_holds zi_X7_holds zs_X7_holds zm_X7_143 zl_47 rfl rfl (Nat.le_of_ble_eq_true rfl) zkn (c_X7_holds l  x5 s11) rfl (Nat.le_of_ble_eq_true rfl) rfl dX7_between_57 (fun _ s13 => ?_)
    refine ze_iconst h 1 dX7_between_60 zk_i_1 ?_
    exact ze_zret hR rfl dX7_between_61
  · refine ze_aload_n h dX7_between_28 rfl ?_
    refine ze_getI h zl_47 rfl zf_X7_129 dX7_between_29 ?_
    refine ze_if_le h 55 dX7_between_32 (by decide) ?_ ?_
    · refine ze_aload_n h dX7_between_55 rfl ?_
      refine ze_iload_n h dX7_between_56 rfl ?_
      refine ze_callVv h (st := []) zce_X7_holds zi_X7_holds zs_X7_holds zm_X7_143 zl_47 rfl rfl (Nat.le_of_ble_eq_true rfl) zkn (c_X7_holds l  x5 s11) rfl (Nat.le_of_ble_eq_true rfl) rfl dX7_between_57 (fun _ s15 => ?_)
      refine ze_iconst h 1 dX7_between_60 zk_i_1 ?_
      exact ze_zret hR rfl dX7_between_61
    · refine ze_aload_n h dX7_between_35 rfl ?_
      refine ze_getR h zl_47 rfl zf_X7_61 dX7_between_36 ?_
      refine ze_aload_n h dX7_between_39 rfl ?_
      refine ze_getI h zl_47 rfl zf_X7_129 dX7_between_40 ?_
      refine ze_iconst h 1 dX7_between_43 zk_i_1 ?_
      refine ze_isub h dX7_between_44 ?_
      refine ze_ialdG h zl_65 dX7_between_45 ?_
      refine ze_callSi h (st := []) zce_X7_rank zt_X7_rank zm_X7_132 (Nat.le_of_ble_eq_true rfl) zkn (c_X7_rank l zFull (s11 65 (zix ((s11 47 29) - 1))) s11) rfl (Nat.le_of_ble_eq_true rfl) rfl dX7_between_46 (fun r16 s17 => ?_)
      refine ze_iconst h 4 dX7_between_49 zk_i_4 ?_
      refine ze_icmp_ne h 55 dX7_between_50 (by decide) ?_ ?_
      · refine ze_aload_n h dX7_between_55 rfl ?_
        refine ze_iload_n h dX7_between_56 rfl ?_
        refine ze_callVv h (st := []) zce_X7_holds zi_X7_holds zs_X7_holds zm_X7_143 zl_47 rfl rfl (Nat.le_of_ble_eq_true rfl) zkn (c_X7_holds l  x5 s17) rfl (Nat.le_of_ble_eq_true rfl) rfl dX7_between_57 (fun _ s19 => ?_)
        refine ze_iconst h 1 dX7_between_60 zk_i_1 ?_
        exact ze_zret hR rfl dX7_between_61
      · refine ze_iconst h 0 dX7_between_53 zk_i_0 ?_
        exact ze_zret hR rfl dX7_between_54
set_option maxRecDepth 20000 in
theorem c_X7_between (l : Launch)  (p1 : Int32) (s0 : zMem) : zC l yX7_between (.code yX7_between cX7_between 2 (some .boolean)) 3 [.ref 47, .int p1] zFull s0 (fun r : Int32 => some (.int r)) (f_X7_between p1 s0) := by
  refine zC_of (own := RX7) rfl rfl (Nat.le_of_ble_eq_true rfl) [some (.ref 47), some (.int p1)] rfl (fun G T h hR => ?_)
  unfold f_X7_between
  refine ze_aload_n h dX7_between_0 rfl ?_
  refine ze_iload_n h dX7_between_1 rfl ?_
  refine ze_callSi h (st := [.ref 47]) zce_X7_rank zt_X7_rank zm_X7_132 (Nat.le_of_ble_eq_true rfl) zkn (c_X7_rank l zFull p1 s0) rfl (Nat.le_of_ble_eq_true rfl) rfl dX7_between_2 (fun r1 s2 => ?_)
  refine ze_iconst h 4 dX7_between_5 zk_i_4 ?_
  refine ze_icmp_ne h 13 dX7_between_6 (by decide) ?_ ?_
  · refine ze_iload_n h dX7_between_13 rfl ?_
    refine ze_callSi h (st := [.ref 47]) zce_X7_rank zt_X7_rank zm_X7_132 (Nat.le_of_ble_eq_true rfl) zkn (c_X7_rank l zFull p1 s2) rfl (Nat.le_of_ble_eq_true rfl) rfl dX7_between_14 (fun r3 s4 => ?_)
    exact e_X7_between_17 h hR  p1 r3 s4
  · refine ze_iconst h 5 dX7_between_9 zk_i_5 ?_
    refine ze_goto h 17 dX7_between_10 (by decide) ?_
    exact e_X7_between_17 h hR  p1 5 s2
set_option maxRecDepth 20000 in
theorem c_X7_signOf (l : Launch)   (s0 : zMem) : zC l yX7_signOf (.code yX7_signOf cX7_signOf 1 (some .int)) 1 [.ref 47] zFull s0 (fun r : Int32 => some (.int r)) (f_X7_signOf s0) := by
  refine zC_of (own := RX7) rfl rfl (Nat.le_of_ble_eq_true rfl) [some (.ref 47)] rfl (fun G T h hR => ?_)
  unfold f_X7_signOf
  refine ze_aload_n h dX7_signOf_0 rfl ?_
  refine ze_getI h zl_47 rfl zf_X7_116 dX7_signOf_1 ?_
  refine ze_iconst h 4 dX7_signOf_4 zk_i_4 ?_
  refine ze_icmp_ne h 13 dX7_signOf_5 (by decide) ?_ ?_
  · refine ze_aload_n h dX7_signOf_13 rfl ?_
    refine ze_getI h zl_47 rfl zf_X7_116 dX7_signOf_14 ?_
    refine ze_iconst h 5 dX7_signOf_17 zk_i_5 ?_
    refine ze_icmp_ne h 26 dX7_signOf_18 (by decide) ?_ ?_
    · refine ze_aload_n h dX7_signOf_26 rfl ?_
      refine ze_getI h zl_47 rfl zf_X7_116 dX7_signOf_27 ?_
      refine ze_bipush h 60 dX7_signOf_30 zk_b_60 ?_
      refine ze_icmp_ne h 40 dX7_signOf_32 (by decide) ?_ ?_
      · refine ze_aload_n h dX7_signOf_40 rfl ?_
        refine ze_getI h zl_47 rfl zf_X7_116 dX7_signOf_41 ?_
        refine ze_bipush h 61 dX7_signOf_44 zk_b_61 ?_
        refine ze_icmp_ne h 54 dX7_signOf_46 (by decide) ?_ ?_
        · refine ze_aload_n h dX7_signOf_54 rfl ?_
          refine ze_getI h zl_47 rfl zf_X7_116 dX7_signOf_55 ?_
          refine ze_bipush h 43 dX7_signOf_58 zk_b_43 ?_
          refine ze_icmp_ne h 68 dX7_signOf_60 (by decide) ?_ ?_
          · refine ze_aload_n h dX7_signOf_68 rfl ?_
            refine ze_getI h zl_47 rfl zf_X7_116 dX7_signOf_69 ?_
            refine ze_bipush h 45 dX7_signOf_72 zk_b_45 ?_
            refine ze_icmp_ne h 82 dX7_signOf_74 (by decide) ?_ ?_
            · refine ze_aload_n h dX7_signOf_82 rfl ?_
              refine ze_getI h zl_47 rfl zf_X7_116 dX7_signOf_83 ?_
              refine ze_bipush h 42 dX7_signOf_86 zk_b_42 ?_
              refine ze_icmp_ne h 96 dX7_signOf_88 (by decide) ?_ ?_
              · refine ze_iconst h (-1) dX7_signOf_96 zk_i_m1 ?_
                exact ze_iret hR dX7_signOf_97
              · refine ze_bipush h 18 dX7_signOf_91 zk_b_18 ?_
                refine ze_goto h 97 dX7_signOf_93 (by decide) ?_
                exact ze_iret hR dX7_signOf_97
            · refine ze_bipush h 17 dX7_signOf_77 zk_b_17 ?_
              refine ze_goto h 97 dX7_signOf_79 (by decide) ?_
              exact ze_iret hR dX7_signOf_97
          · refine ze_bipush h 16 dX7_signOf_63 zk_b_16 ?_
            refine ze_goto h 97 dX7_signOf_65 (by decide) ?_
            exact ze_iret hR dX7_signOf_97
        · refine ze_bipush h 15 dX7_signOf_49 zk_b_15 ?_
          refine ze_goto h 97 dX7_signOf_51 (by decide) ?_
          exact ze_iret hR dX7_signOf_97
      · refine ze_bipush h 14 dX7_signOf_35 zk_b_14 ?_
        refine ze_goto h 97 dX7_signOf_37 (by decide) ?_
        exact ze_iret hR dX7_signOf_97
    · refine ze_bipush h 12 dX7_signOf_21 zk_b_12 ?_
      refine ze_goto h 97 dX7_signOf_23 (by decide) ?_
      exact ze_iret hR dX7_signOf_97
  · refine ze_bipush h 11 dX7_signOf_8 zk_b_11 ?_
    refine ze_goto h 97 dX7_signOf_10 (by decide) ?_
    exact ze_iret hR dX7_signOf_97
set_option maxRecDepth 20000 in
theorem e_X7_eRead_38 {l : Launch} {G : zGT} {T : Option Value × zMem} (h : zOk G l cX7_eRead RX7 4 4 0 0 false) (hR : zR G cX7_eRead (some .boolean) T zFull 0 0)  (c14 : Int32 → Int32 → zMem → Option (Int32 × zMem)) (hc14 : ∀ (y1 : Int32) (y2 : Int32) (s9 : zMem), zE G T (fun r : Int32 => some (.int r)) zFull 0 0 14 [some (.ref 47), some (.int y1), some (.int y2), none] [] s9 (c14 y1 y2 s9)) : ∀ (x18 : Int32) (s19 : zMem), zE G T (fun r : Int32 => some (.int r)) zFull 0 0 38 [some (.ref 47), none, some (.int x18), none] [] s19 (f_X7_eRead_38 c14  x18 s19) := by
  intro x18 s19
  unfold f_X7_eRead_38
  refine ze_aload_n h dX7_eRead_38 rfl ?_
  refine ze_aload_n h dX7_eRead_39 rfl ?_
  refine ze_getI h zl_47 rfl zf_X7_116 dX7_eRead_40 ?_
  refine ze_iconst h 1 dX7_eRead_43 zk_i_1 ?_
  refine ze_icmp_ne h 57 dX7_eRead_44 (by decide) ?_ ?_
  · refine ze_aload_n h dX7_eRead_57 rfl ?_
    refine ze_getI h zl_47 rfl zf_X7_119 dX7_eRead_58 ?_
    refine ze_callVv h (st := []) zce_X7_puts zi_X7_puts zs_X7_puts zm_X7_139 zl_47 rfl rfl (Nat.le_of_ble_eq_true rfl) zkn (c_X7_puts l  (s19 47 26) s19) rfl (Nat.le_of_ble_eq_true rfl) rfl dX7_eRead_61 (fun _ s21 => ?_)
    refine ze_aload_n h dX7_eRead_64 rfl ?_
    refine ze_bipush h 7 dX7_eRead_65 zk_b_7 ?_
    refine ze_callVv h (st := []) zce_X7_unwinds zi_X7_unwinds zs_X7_unwinds zm_X7_146 zl_47 rfl rfl (Nat.le_of_ble_eq_true rfl) zkn (c_X7_unwinds l  7 s21) rfl (Nat.le_of_ble_eq_true rfl) rfl dX7_eRead_67 (fun _ s23 => ?_)
    refine ze_iconst h 0 dX7_eRead_70 zk_i_0 ?_
    refine ze_istore_n h [some (.ref 47), some (.int 0), some (.int x18), none] dX7_eRead_71 rfl (by decide) rfl ?_
    refine ze_goto h 14 dX7_eRead_72 (by decide) ?_
    exact hc14 0 x18 s23
  · refine ze_ldc h zq_X7_152 dX7_eRead_47 ?_
    refine ze_aload_n h dX7_eRead_49 rfl ?_
    refine ze_getI h zl_47 rfl zf_X7_119 dX7_eRead_50 ?_
    refine ze_iadd h dX7_eRead_53 ?_
    refine ze_goto h 61 dX7_eRead_54 (by decide) ?_
    refine ze_callVv h (st := []) zce_X7_puts zi_X7_puts zs_X7_puts zm_X7_139 zl_47 rfl rfl (Nat.le_of_ble_eq_true rfl) zkn (c_X7_puts l  (100000 + (s19 47 26)) s19) rfl (Nat.le_of_ble_eq_true rfl) rfl dX7_eRead_61 (fun _ s25 => ?_)
    refine ze_aload_n h dX7_eRead_64 rfl ?_
    refine ze_bipush h 7 dX7_eRead_65 zk_b_7 ?_
    refine ze_callVv h (st := []) zce_X7_unwinds zi_X7_unwinds zs_X7_unwinds zm_X7_146 zl_47 rfl rfl (Nat.le_of_ble_eq_true rfl) zkn (c_X7_unwinds l  7 s25) rfl (Nat.le_of_ble_eq_true rfl) rfl dX7_eRead_67 (fun _ s27 => ?_)
    refine ze_iconst h 0 dX7_eRead_70 zk_i_0 ?_
    refine ze_istore_n h [some (.ref 47), some (.int 0), some (.int x18), none] dX7_eRead_71 rfl (by decide) rfl ?_
    refine ze_goto h 14 dX7_eRead_72 (by decide) ?_
    exact hc14 0 x18 s27
set_option maxRecDepth 20000 in
theorem e_X7_eRead_99 {l : Launch} {G : zGT} {T : Option Value × zMem} (h : zOk G l cX7_eRead RX7 4 4 0 0 false) (hR : zR G cX7_eRead (some .boolean) T zFull 0 0)  (c14 : Int32 → Int32 → zMem → Option (Int32 × zMem)) (hc14 : ∀ (y1 : Int32) (y2 : Int32) (s9 : zMem), zE G T (fun r : Int32 => some (.int r)) zFull 0 0 14 [some (.ref 47), some (.int y1), some (.int y2), none] [] s9 (c14 y1 y2 s9)) : ∀ (x31 : Int32) (s32 : zMem), zE G T (fun r : Int32 => some (.int r)) zFull 0 0 99 [some (.ref 47), some (.int x31), none, none] [] s32 (f_X7_eRead_99 c14  x31 s32) := by
  intro x31 s32
  unfold f_X7_eRead_99
  refine ze_aload_n h dX7_eRead_99 rfl ?_
  refine ze_getI h zl_47 rfl zf_X7_116 dX7_eRead_100 ?_
  refine ze_bipush h 45 dX7_eRead_103 zk_b_45 ?_
  refine ze_icmp_ne h 124 dX7_eRead_105 (by decide) ?_ ?_
  · refine ze_aload_n h dX7_eRead_124 rfl ?_
    refine ze_getI h zl_47 rfl zf_X7_116 dX7_eRead_125 ?_
    refine ze_bipush h 40 dX7_eRead_128 zk_b_40 ?_
    refine ze_icmp_ne h 148 dX7_eRead_130 (by decide) ?_ ?_
    · refine ze_iconst h 0 dX7_eRead_148 zk_i_0 ?_
      exact ze_zret hR rfl dX7_eRead_149
    · refine ze_aload_n h dX7_eRead_133 rfl ?_
      refine ze_iconst h 0 dX7_eRead_134 zk_i_0 ?_
      refine ze_callVi h (st := []) zce_X7_opensOne zi_X7_opensOne zs_X7_opensOne zm_X7_153 zl_47 rfl rfl (Nat.le_of_ble_eq_true rfl) zkn (c_X7_opensOne l  0 s32) rfl (Nat.le_of_ble_eq_true rfl) rfl dX7_eRead_135 (fun r33 s34 => ?_)
      refine ze_if_ne h 143 dX7_eRead_138 (by decide) ?_ ?_
      · refine ze_iconst h 1 dX7_eRead_143 zk_i_1 ?_
        refine ze_istore_n h [some (.ref 47), some (.int x31), some (.int 1), none] dX7_eRead_144 rfl (by decide) rfl ?_
        refine ze_goto h 14 dX7_eRead_145 (by decide) ?_
        exact hc14 x31 1 s34
      · refine ze_iconst h 0 dX7_eRead_141 zk_i_0 ?_
        exact ze_zret hR rfl dX7_eRead_142
  · refine ze_aload_n h dX7_eRead_108 rfl ?_
    refine ze_bipush h 19 dX7_eRead_109 zk_b_19 ?_
    refine ze_callVi h (st := []) zce_X7_opensOne zi_X7_opensOne zs_X7_opensOne zm_X7_153 zl_47 rfl rfl (Nat.le_of_ble_eq_true rfl) zkn (c_X7_opensOne l  19 s32) rfl (Nat.le_of_ble_eq_true rfl) rfl dX7_eRead_111 (fun r35 s36 => ?_)
    refine ze_if_ne h 119 dX7_eRead_114 (by decide) ?_ ?_
    · refine ze_iconst h 0 dX7_eRead_119 zk_i_0 ?_
      refine ze_istore_n h [some (.ref 47), some (.int x31), some (.int 0), none] dX7_eRead_120 rfl (by decide) rfl ?_
      refine ze_goto h 14 dX7_eRead_121 (by decide) ?_
      exact hc14 x31 0 s36
    · refine ze_iconst h 0 dX7_eRead_117 zk_i_0 ?_
      exact ze_zret hR rfl dX7_eRead_118
set_option maxRecDepth 20000 in
theorem e_X7_eRead_14 {l : Launch} {G : zGT} {T : Option Value × zMem} (h : zOk G l cX7_eRead RX7 4 4 0 0 false) (hR : zR G cX7_eRead (some .boolean) T zFull 0 0)  (c159 : zMem → Option (Int32 × zMem)) (hc159 : ∀ (s9 : zMem), zE G T (fun r : Int32 => some (.int r)) zFull 0 0 159 [some (.ref 47), none, none, none] [] s9 (c159 s9)) : ∀ (n : Nat) (x3 : Int32) (x4 : Int32) (s5 : zMem), zE G T (fun r : Int32 => some (.int r)) zFull 0 0 14 [some (.ref 47), some (.int x3), some (.int x4), none] [] s5 (f_X7_eRead_14 c159 n x3 x4 s5) := by
  intro n
  induction n with
  | zero => intro _ _ _; exact ze_none
  | succ n ih =>
    intro x3 x4 s5
    rw [f_X7_eRead_14]
    refine ze_aload_n h dX7_eRead_14 rfl ?_
    refine ze_callVv h (st := []) zce_X7_next zi_X7_next zs_X7_next zm_X7_149 zl_47 rfl rfl (Nat.le_of_ble_eq_true rfl) zkn (c_X7_next l  s5) rfl (Nat.le_of_ble_eq_true rfl) rfl dX7_eRead_15 (fun _ s7 => ?_)
    refine ze_iload_n h dX7_eRead_18 rfl ?_
    refine ze_if_eq h 150 dX7_eRead_19 (by decide) ?_ ?_
    · refine ze_aload_n h dX7_eRead_150 rfl ?_
      refine ze_getI h zl_47 rfl zf_X7_116 dX7_eRead_151 ?_
      refine ze_bipush h 59 dX7_eRead_154 zk_b_59 ?_
      refine ze_icmp_ne h 177 dX7_eRead_156 (by decide) ?_ ?_
      · refine ze_aload_n h dX7_eRead_177 rfl ?_
        refine ze_getI h zl_47 rfl zf_X7_116 dX7_eRead_178 ?_
        refine ze_bipush h 41 dX7_eRead_181 zk_b_41 ?_
        refine ze_icmp_ne h 229 dX7_eRead_183 (by decide) ?_ ?_
        · refine ze_aload_n h dX7_eRead_229 rfl ?_
          refine ze_callVi h (st := []) zce_X7_signOf zi_X7_signOf zs_X7_signOf zm_X7_156 zl_47 rfl rfl (Nat.le_of_ble_eq_true rfl) zkn (c_X7_signOf l  s7) rfl (Nat.le_of_ble_eq_true rfl) rfl dX7_eRead_230 (fun r8 s9 => ?_)
          refine ze_istore_n h [some (.ref 47), some (.int x3), some (.int x4), some (.int r8)] dX7_eRead_233 rfl (by decide) rfl ?_
          refine ze_iload_n h dX7_eRead_234 rfl ?_
          refine ze_iconst h (-1) dX7_eRead_235 zk_i_m1 ?_
          refine ze_icmp_eq h 247 dX7_eRead_236 (by decide) ?_ ?_
          · refine ze_iconst h 0 dX7_eRead_247 zk_i_0 ?_
            exact ze_zret hR rfl dX7_eRead_248
          · refine ze_aload_n h dX7_eRead_239 rfl ?_
            refine ze_iload_n h dX7_eRead_240 rfl ?_
            refine ze_callVi h (st := []) zce_X7_between zi_X7_between zs_X7_between zm_X7_159 zl_47 rfl rfl (Nat.le_of_ble_eq_true rfl) zkn (c_X7_between l  r8 s9) rfl (Nat.le_of_ble_eq_true rfl) rfl dX7_eRead_241 (fun r10 s11 => ?_)
            refine ze_if_ne h 249 dX7_eRead_244 (by decide) ?_ ?_
            · refine ze_iconst h 1 dX7_eRead_249 zk_i_1 ?_
              refine ze_istore_n h [some (.ref 47), some (.int 1), some (.int x4), some (.int r8)] dX7_eRead_250 rfl (by decide) rfl ?_
              refine ze_iload_n h dX7_eRead_251 rfl ?_
              refine ze_bipush h 12 dX7_eRead_252 zk_b_12 ?_
              refine ze_icmp_gt h 261 dX7_eRead_254 (by decide) ?_ ?_
              · refine ze_iconst h 0 dX7_eRead_261 zk_i_0 ?_
                refine ze_istore_n h [some (.ref 47), some (.int 1), some (.int 0), some (.int r8)] dX7_eRead_262 rfl (by decide) rfl ?_
                refine ze_goto h 14 dX7_eRead_263 (by decide) ?_
                refine zE_weak h [true, true, true, false] rfl ?_
                exact ih 1 0 s11
              · refine ze_iconst h 1 dX7_eRead_257 zk_i_1 ?_
                refine ze_goto h 262 dX7_eRead_258 (by decide) ?_
                refine ze_istore_n h [some (.ref 47), some (.int 1), some (.int 1), some (.int r8)] dX7_eRead_262 rfl (by decide) rfl ?_
                refine ze_goto h 14 dX7_eRead_263 (by decide) ?_
                refine zE_weak h [true, true, true, false] rfl ?_
                exact ih 1 1 s11
            · refine ze_iconst h 0 dX7_eRead_247 zk_i_0 ?_
              exact ze_zret hR rfl dX7_eRead_248
        · refine ze_aload_n h dX7_eRead_186 rfl ?_
          refine ze_iconst h 1 dX7_eRead_187 zk_i_1 ?_
          refine ze_callVv h (st := []) zce_X7_unwinds zi_X7_unwinds zs_X7_unwinds zm_X7_146 zl_47 rfl rfl (Nat.le_of_ble_eq_true rfl) zkn (c_X7_unwinds l  1 s7) rfl (Nat.le_of_ble_eq_true rfl) rfl dX7_eRead_188 (fun _ s13 => ?_)
          refine ze_aload_n h dX7_eRead_191 rfl ?_
          refine ze_getI h zl_47 rfl zf_X7_129 dX7_eRead_192 ?_
          refine ze_if_ne h 200 dX7_eRead_195 (by decide) ?_ ?_
          · refine ze_aload_n h dX7_eRead_200 rfl ?_
            refine ze_dup h dX7_eRead_201 rfl ?_
            refine ze_getI h zl_47 rfl zf_X7_129 dX7_eRead_202 ?_
            refine ze_iconst h 1 dX7_eRead_205 zk_i_1 ?_
            refine ze_isub h dX7_eRead_206 ?_
            refine ze_putI h zl_47 rfl zf_X7_129 rfl rfl dX7_eRead_207 ?_
            refine ze_nmS (fun s14 => ?_)
            refine ze_aload_n h dX7_eRead_210 rfl ?_
            refine ze_dup h dX7_eRead_211 rfl ?_
            refine ze_getI h zl_47 rfl zf_X7_136 dX7_eRead_212 ?_
            refine ze_iconst h 1 dX7_eRead_215 zk_i_1 ?_
            refine ze_isub h dX7_eRead_216 ?_
            refine ze_putI h zl_47 rfl zf_X7_136 rfl rfl dX7_eRead_217 ?_
            refine ze_nmS (fun s15 => ?_)
            refine ze_aload_n h dX7_eRead_220 rfl ?_
            refine ze_pc 221 rfl ?_
            refine ze_bipush h 7 dX7_eRead_221 zk_b_7 ?_
            refine ze_callVv h (st := []) zce_X7_unwinds zi_X7_unwinds zs_X7_unwinds zm_X7_146 zl_47 rfl rfl (Nat.le_of_ble_eq_true rfl) zkn (c_X7_unwinds l  7 s15) rfl (Nat.le_of_ble_eq_true rfl) rfl dX7_eRead_223 (fun _ s17 => ?_)
            refine ze_goto h 14 dX7_eRead_226 (by decide) ?_
            exact ih x3 x4 s17
          · refine ze_iconst h 0 dX7_eRead_198 zk_i_0 ?_
            exact ze_zret hR rfl dX7_eRead_199
      · refine zE_weak h [true, false, false, false] rfl ?_
        exact hc159 s7
    · refine ze_aload_n h dX7_eRead_22 rfl ?_
      refine ze_getI h zl_47 rfl zf_X7_116 dX7_eRead_23 ?_
      refine ze_iconst h 1 dX7_eRead_26 zk_i_1 ?_
      refine ze_icmp_eq h 38 dX7_eRead_27 (by decide) ?_ ?_
      · refine zE_weak h [true, false, true, false] rfl ?_
        refine e_X7_eRead_38 h hR _ ?_ x4 s7
        · intro x28 x29 s30
          exact ih x28 x29 s30
      · refine ze_aload_n h dX7_eRead_30 rfl ?_
        refine ze_getI h zl_47 rfl zf_X7_116 dX7_eRead_31 ?_
        refine ze_iconst h 2 dX7_eRead_34 zk_i_2 ?_
        refine ze_icmp_ne h 75 dX7_eRead_35 (by decide) ?_ ?_
        · refine ze_aload_n h dX7_eRead_75 rfl ?_
          refine ze_getI h zl_47 rfl zf_X7_116 dX7_eRead_76 ?_
          refine ze_bipush h 6 dX7_eRead_79 zk_b_6 ?_
          refine ze_icmp_ne h 99 dX7_eRead_81 (by decide) ?_ ?_
          · refine zE_weak h [true, true, false, false] rfl ?_
            refine e_X7_eRead_99 h hR _ ?_ x3 s7
            · intro x37 x38 s39
              exact ih x37 x38 s39
          · refine ze_iload_n h dX7_eRead_84 rfl ?_
            refine ze_if_eq h 99 dX7_eRead_85 (by decide) ?_ ?_
            · refine zE_weak h [true, true, false, false] rfl ?_
              refine e_X7_eRead_99 h hR _ ?_ x3 s7
              · intro x40 x41 s42
                exact ih x40 x41 s42
            · refine ze_aload_n h dX7_eRead_88 rfl ?_
              refine ze_bipush h 13 dX7_eRead_89 zk_b_13 ?_
              refine ze_callVi h (st := []) zce_X7_opensOne zi_X7_opensOne zs_X7_opensOne zm_X7_153 zl_47 rfl rfl (Nat.le_of_ble_eq_true rfl) zkn (c_X7_opensOne l  13 s7) rfl (Nat.le_of_ble_eq_true rfl) rfl dX7_eRead_91 (fun r43 s44 => ?_)
              refine ze_if_ne h 14 dX7_eRead_94 (by decide) ?_ ?_
              · exact ih x3 x4 s44
              · refine ze_iconst h 0 dX7_eRead_97 zk_i_0 ?_
                exact ze_zret hR rfl dX7_eRead_98
        · refine zE_weak h [true, false, true, false] rfl ?_
          refine e_X7_eRead_38 h hR _ ?_ x4 s7
          · intro x45 x46 s47
            exact ih x45 x46 s47
set_option maxRecDepth 20000 in
theorem c_X7_eRead (l : Launch)   (s0 : zMem) : zC l yX7_eRead (.code yX7_eRead cX7_eRead 4 (some .boolean)) 4 [.ref 47] zFull s0 (fun r : Int32 => some (.int r)) (f_X7_eRead s0) := by
  refine zC_of (own := RX7) rfl rfl (Nat.le_of_ble_eq_true rfl) [some (.ref 47), none, none, none] rfl (fun G T h hR => ?_)
  unfold f_X7_eRead
  refine ze_aload_n h dX7_eRead_0 rfl ?_
  refine ze_iconst h 0 dX7_eRead_1 zk_i_0 ?_
  refine ze_putI h zl_47 rfl zf_X7_129 rfl rfl dX7_eRead_2 ?_
  refine ze_nmS (fun s1 => ?_)
  refine ze_aload_n h dX7_eRead_5 rfl ?_
  refine ze_iconst h 0 dX7_eRead_6 zk_i_0 ?_
  refine ze_putI h zl_47 rfl zf_X7_136 rfl rfl dX7_eRead_7 ?_
  refine ze_nmS (fun s2 => ?_)
  refine ze_iconst h 1 dX7_eRead_10 zk_i_1 ?_
  refine ze_istore_n h [some (.ref 47), some (.int 1), none, none] dX7_eRead_11 rfl (by decide) rfl ?_
  refine ze_iconst h 1 dX7_eRead_12 zk_i_1 ?_
  refine ze_istore_n h [some (.ref 47), some (.int 1), some (.int 1), none] dX7_eRead_13 rfl (by decide) rfl ?_
  refine e_X7_eRead_14 h hR _ ?_ zN 1 1 s2
  · intro s48
    refine ze_aload_n h dX7_eRead_159 rfl ?_
    refine ze_iconst h 1 dX7_eRead_160 zk_i_1 ?_
    refine ze_callVv h (st := []) zce_X7_unwinds zi_X7_unwinds zs_X7_unwinds zm_X7_146 zl_47 rfl rfl (Nat.le_of_ble_eq_true rfl) zkn (c_X7_unwinds l  1 s48) rfl (Nat.le_of_ble_eq_true rfl) rfl dX7_eRead_161 (fun _ s50 => ?_)
    refine ze_aload_n h dX7_eRead_164 rfl ?_
    refine ze_getI h zl_47 rfl zf_X7_129 dX7_eRead_165 ?_
    refine ze_if_ne h 175 dX7_eRead_168 (by decide) ?_ ?_
    · refine ze_iconst h 0 dX7_eRead_175 zk_i_0 ?_
      exact ze_zret hR rfl dX7_eRead_176
    · refine ze_iconst h 1 dX7_eRead_171 zk_i_1 ?_
      refine ze_goto h 176 dX7_eRead_172 (by decide) ?_
      exact ze_zret hR rfl dX7_eRead_176
set_option maxRecDepth 20000 in
theorem e_X7_text_60 {l : Launch} {G : zGT} {T : Option Value × zMem} (h : zOk G l cX7_text RX7 3 5 0 0 false) (hR : zR G cX7_text (some .int) T zFull 0 0)  (c26 : Int32 → Int32 → zMem → Option (Int32 × zMem)) (hc26 : ∀ (y1 : Int32) (y2 : Int32) (s9 : zMem), zE G T (fun r : Int32 => some (.int r)) zFull 0 0 26 [some (.ref 47), some (.int y1), some (.int y2)] [] s9 (c26 y1 y2 s9)) : ∀ (x10 : Int32) (t11 : Int32) (s12 : zMem), zE G T (fun r : Int32 => some (.int r)) zFull 0 0 60 [some (.ref 47), none, some (.int x10)] [.int t11] s12 (f_X7_text_60 c26  x10 t11 s12) := by
  intro x10 t11 s12
  unfold f_X7_text_60
  refine ze_istore_n h [some (.ref 47), some (.int t11), some (.int x10)] dX7_text_60 rfl (by decide) rfl ?_
  refine ze_aload_n h dX7_text_61 rfl ?_
  refine ze_getR h zl_47 rfl zf_X7_37 dX7_text_62 ?_
  refine ze_iconst h 4 dX7_text_65 zk_i_4 ?_
  refine ze_aload_n h dX7_text_66 rfl ?_
  refine ze_getI h zl_47 rfl zf_X7_100 dX7_text_67 ?_
  refine ze_imul h dX7_text_70 ?_
  refine ze_iload_n h dX7_text_71 rfl ?_
  refine ze_iadd h dX7_text_72 ?_
  refine ze_aload_n h dX7_text_73 rfl ?_
  refine ze_getI h zl_47 rfl zf_X7_126 dX7_text_74 ?_
  refine ze_iastG h zl_57 dX7_text_77 ?_
  refine ze_nmS (fun s13 => ?_)
  refine ze_iload_n h dX7_text_78 rfl ?_
  refine ze_pc 79 rfl ?_
  refine ze_if_eq h 93 dX7_text_79 (by decide) ?_ ?_
  · refine ze_iconst h 0 dX7_text_93 zk_i_0 ?_
    refine ze_istore_n h [some (.ref 47), some (.int 0), some (.int x10)] dX7_text_94 rfl (by decide) rfl ?_
    refine ze_iincN h (fun y9 => [some (.ref 47), some (.int 0), some (.int y9)]) 1 dX7_text_95 rfl zk_i_1 rfl (by decide) (fun _ => rfl) (fun x14 => ?_)
    refine ze_goto h 26 dX7_text_98 (by decide) ?_
    exact hc26 0 x14 s13
  · refine ze_aload_n h dX7_text_82 rfl ?_
    refine ze_callVi h (st := []) zce_X7_eRead zi_X7_eRead zs_X7_eRead zm_X7_162 zl_47 rfl rfl (Nat.le_of_ble_eq_true rfl) zkn (c_X7_eRead l  s13) rfl (Nat.le_of_ble_eq_true rfl) rfl dX7_text_83 (fun r15 s16 => ?_)
    refine ze_if_eq h 93 dX7_text_86 (by decide) ?_ ?_
    · refine ze_iconst h 0 dX7_text_93 zk_i_0 ?_
      refine ze_istore_n h [some (.ref 47), some (.int 0), some (.int x10)] dX7_text_94 rfl (by decide) rfl ?_
      refine ze_iincN h (fun y9 => [some (.ref 47), some (.int 0), some (.int y9)]) 1 dX7_text_95 rfl zk_i_1 rfl (by decide) (fun _ => rfl) (fun x17 => ?_)
      refine ze_goto h 26 dX7_text_98 (by decide) ?_
      exact hc26 0 x17 s16
    · refine ze_iconst h 1 dX7_text_89 zk_i_1 ?_
      refine ze_goto h 94 dX7_text_90 (by decide) ?_
      refine ze_istore_n h [some (.ref 47), some (.int 1), some (.int x10)] dX7_text_94 rfl (by decide) rfl ?_
      refine ze_iincN h (fun y9 => [some (.ref 47), some (.int 1), some (.int y9)]) 1 dX7_text_95 rfl zk_i_1 rfl (by decide) (fun _ => rfl) (fun x18 => ?_)
      refine ze_goto h 26 dX7_text_98 (by decide) ?_
      exact hc26 1 x18 s16
set_option maxRecDepth 20000 in
theorem e_X7_text_59 {l : Launch} {G : zGT} {T : Option Value × zMem} (h : zOk G l cX7_text RX7 3 5 0 0 false) (hR : zR G cX7_text (some .int) T zFull 0 0)  (c26 : Int32 → Int32 → zMem → Option (Int32 × zMem)) (hc26 : ∀ (y1 : Int32) (y2 : Int32) (s9 : zMem), zE G T (fun r : Int32 => some (.int r)) zFull 0 0 26 [some (.ref 47), some (.int y1), some (.int y2)] [] s9 (c26 y1 y2 s9)) : ∀ (x8 : Int32) (s9 : zMem), zE G T (fun r : Int32 => some (.int r)) zFull 0 0 59 [some (.ref 47), none, some (.int x8)] [] s9 (f_X7_text_59 c26  x8 s9) := by
  intro x8 s9
  unfold f_X7_text_59
  refine ze_iconst h 0 dX7_text_59 zk_i_0 ?_
  refine e_X7_text_60 h hR _ ?_ x8 0 s9
  · intro x19 x20 s21
    exact hc26 x19 x20 s21
set_option maxRecDepth 20000 in
theorem e_X7_text_26 {l : Launch} {G : zGT} {T : Option Value × zMem} (h : zOk G l cX7_text RX7 3 5 0 0 false) (hR : zR G cX7_text (some .int) T zFull 0 0)  (c101 : Int32 → zMem → Option (Int32 × zMem)) (hc101 : ∀ (y1 : Int32) (s9 : zMem), zE G T (fun r : Int32 => some (.int r)) zFull 0 0 101 [some (.ref 47), some (.int y1), none] [] s9 (c101 y1 s9)) : ∀ (n : Nat) (x3 : Int32) (x4 : Int32) (s5 : zMem), zE G T (fun r : Int32 => some (.int r)) zFull 0 0 26 [some (.ref 47), some (.int x3), some (.int x4)] [] s5 (f_X7_text_26 c101 n x3 x4 s5) := by
  intro n
  induction n with
  | zero => intro _ _ _; exact ze_none
  | succ n ih =>
    intro x3 x4 s5
    rw [f_X7_text_26]
    refine ze_iload_n h dX7_text_26 rfl ?_
    refine ze_iconst h 3 dX7_text_27 zk_i_3 ?_
    refine ze_icmp_ge h 101 dX7_text_28 (by decide) ?_ ?_
    · refine zE_weak h [true, true, false] rfl ?_
      exact hc101 x3 s5
    · refine ze_iload_n h dX7_text_31 rfl ?_
      refine ze_if_eq h 101 dX7_text_32 (by decide) ?_ ?_
      · refine zE_weak h [true, true, false] rfl ?_
        exact hc101 x3 s5
      · refine ze_aload_n h dX7_text_35 rfl ?_
        refine ze_callVv h (st := []) zce_X7_next zi_X7_next zs_X7_next zm_X7_149 zl_47 rfl rfl (Nat.le_of_ble_eq_true rfl) zkn (c_X7_next l  s5) rfl (Nat.le_of_ble_eq_true rfl) rfl dX7_text_36 (fun _ s7 => ?_)
        refine ze_aload_n h dX7_text_39 rfl ?_
        refine ze_getI h zl_47 rfl zf_X7_116 dX7_text_40 ?_
        refine ze_iconst h 3 dX7_text_43 zk_i_3 ?_
        refine ze_icmp_ne h 59 dX7_text_44 (by decide) ?_ ?_
        · refine zE_weak h [true, false, true] rfl ?_
          refine e_X7_text_59 h hR _ ?_ x4 s7
          · intro x22 x23 s24
            exact ih x22 x23 s24
        · refine ze_aload_n h dX7_text_47 rfl ?_
          refine ze_getI h zl_47 rfl zf_X7_119 dX7_text_48 ?_
          refine ze_iload_n h dX7_text_51 rfl ?_
          refine ze_icmp_ne h 59 dX7_text_52 (by decide) ?_ ?_
          · refine zE_weak h [true, false, true] rfl ?_
            refine e_X7_text_59 h hR _ ?_ x4 s7
            · intro x25 x26 s27
              exact ih x25 x26 s27
          · refine ze_iconst h 1 dX7_text_55 zk_i_1 ?_
            refine ze_goto h 60 dX7_text_56 (by decide) ?_
            refine zE_weak h [true, false, true] rfl ?_
            refine e_X7_text_60 h hR _ ?_ x4 1 s7
            · intro x28 x29 s30
              exact ih x28 x29 s30
set_option maxRecDepth 20000 in
theorem e_X7_text_122 {l : Launch} {G : zGT} {T : Option Value × zMem} (h : zOk G l cX7_text RX7 3 5 0 0 false) (hR : zR G cX7_text (some .int) T zFull 0 0)   : ∀ (x35 : Int32) (s36 : zMem), zE G T (fun r : Int32 => some (.int r)) zFull 0 0 122 [some (.ref 47), some (.int x35), none] [] s36 (f_X7_text_122  x35 s36) := by
  intro x35 s36
  unfold f_X7_text_122
  refine ze_aload_n h dX7_text_122 rfl ?_
  refine ze_getR h zl_47 rfl zf_X7_37 dX7_text_123 ?_
  refine ze_iconst h 4 dX7_text_126 zk_i_4 ?_
  refine ze_aload_n h dX7_text_127 rfl ?_
  refine ze_getI h zl_47 rfl zf_X7_100 dX7_text_128 ?_
  refine ze_imul h dX7_text_131 ?_
  refine ze_iconst h 3 dX7_text_132 zk_i_3 ?_
  refine ze_iadd h dX7_text_133 ?_
  refine ze_aload_n h dX7_text_134 rfl ?_
  refine ze_getI h zl_47 rfl zf_X7_126 dX7_text_135 ?_
  refine ze_iastG h zl_57 dX7_text_138 ?_
  refine ze_nmS (fun s37 => ?_)
  refine ze_aload_n h dX7_text_139 rfl ?_
  refine ze_iconst h 0 dX7_text_140 zk_i_0 ?_
  refine ze_pc 141 rfl ?_
  refine ze_putI h zl_47 rfl zf_X7_76 rfl rfl dX7_text_141 ?_
  refine ze_nmS (fun s38 => ?_)
  refine ze_iload_n h dX7_text_144 rfl ?_
  refine ze_if_ne h 156 dX7_text_145 (by decide) ?_ ?_
  · refine ze_aload_n h dX7_text_156 rfl ?_
    refine ze_dup h dX7_text_157 rfl ?_
    refine ze_getI h zl_47 rfl zf_X7_100 dX7_text_158 ?_
    refine ze_iconst h 1 dX7_text_161 zk_i_1 ?_
    refine ze_iadd h dX7_text_162 ?_
    refine ze_putI h zl_47 rfl zf_X7_100 rfl rfl dX7_text_163 ?_
    refine ze_nmS (fun s39 => ?_)
    refine ze_aload_n h dX7_text_166 rfl ?_
    refine ze_getI h zl_47 rfl zf_X7_100 dX7_text_167 ?_
    refine ze_iconst h 1 dX7_text_170 zk_i_1 ?_
    refine ze_isub h dX7_text_171 ?_
    exact ze_iret hR dX7_text_172
  · refine ze_bipush h (-100) dX7_text_148 zk_b_m100 ?_
    refine ze_aload_n h dX7_text_150 rfl ?_
    refine ze_getI h zl_47 rfl zf_X7_113 dX7_text_151 ?_
    refine ze_isub h dX7_text_154 ?_
    exact ze_iret hR dX7_text_155
set_option maxRecDepth 20000 in
theorem e_X7_text_121 {l : Launch} {G : zGT} {T : Option Value × zMem} (h : zOk G l cX7_text RX7 3 5 0 0 false) (hR : zR G cX7_text (some .int) T zFull 0 0)   : ∀ (t42 : Int32) (s43 : zMem), zE G T (fun r : Int32 => some (.int r)) zFull 0 0 121 [some (.ref 47), none, none] [.int t42] s43 (f_X7_text_121  t42 s43) := by
  intro t42 s43
  unfold f_X7_text_121
  refine ze_istore_n h [some (.ref 47), some (.int t42), none] dX7_text_121 rfl (by decide) rfl ?_
  exact e_X7_text_122 h hR  t42 s43
set_option maxRecDepth 20000 in
theorem e_X7_text_101 {l : Launch} {G : zGT} {T : Option Value × zMem} (h : zOk G l cX7_text RX7 3 5 0 0 false) (hR : zR G cX7_text (some .int) T zFull 0 0)   : ∀ (x33 : Int32) (s34 : zMem), zE G T (fun r : Int32 => some (.int r)) zFull 0 0 101 [some (.ref 47), some (.int x33), none] [] s34 (f_X7_text_101  x33 s34) := by
  intro x33 s34
  unfold f_X7_text_101
  refine ze_iload_n h dX7_text_101 rfl ?_
  refine ze_if_eq h 122 dX7_text_102 (by decide) ?_ ?_
  · exact e_X7_text_122 h hR  x33 s34
  · refine ze_aload_n h dX7_text_105 rfl ?_
    refine ze_callVv h (st := []) zce_X7_next zi_X7_next zs_X7_next zm_X7_149 zl_47 rfl rfl (Nat.le_of_ble_eq_true rfl) zkn (c_X7_next l  s34) rfl (Nat.le_of_ble_eq_true rfl) rfl dX7_text_106 (fun _ s41 => ?_)
    refine ze_aload_n h dX7_text_109 rfl ?_
    refine ze_getI h zl_47 rfl zf_X7_116 dX7_text_110 ?_
    refine ze_if_ne h 120 dX7_text_113 (by decide) ?_ ?_
    · refine ze_iconst h 0 dX7_text_120 zk_i_0 ?_
      refine zE_weak h [true, false, false] rfl ?_
      exact e_X7_text_121 h hR  0 s41
    · refine ze_iconst h 1 dX7_text_116 zk_i_1 ?_
      refine ze_goto h 121 dX7_text_117 (by decide) ?_
      refine zE_weak h [true, false, false] rfl ?_
      exact e_X7_text_121 h hR  1 s41
set_option maxRecDepth 20000 in
theorem c_X7_text (l : Launch)   (s0 : zMem) : zC l yX7_text (.code yX7_text cX7_text 3 (some .int)) 5 [.ref 47] zFull s0 (fun r : Int32 => some (.int r)) (f_X7_text s0) := by
  refine zC_of (own := RX7) rfl rfl (Nat.le_of_ble_eq_true rfl) [some (.ref 47), none, none] rfl (fun G T h hR => ?_)
  unfold f_X7_text
  refine ze_aload_n h dX7_text_0 rfl ?_
  refine ze_getI h zl_47 rfl zf_X7_100 dX7_text_1 ?_
  refine ze_bipush h 6 dX7_text_4 zk_b_6 ?_
  refine ze_icmp_ne h 12 dX7_text_6 (by decide) ?_ ?_
  · refine ze_aload_n h dX7_text_12 rfl ?_
    refine ze_iconst h 0 dX7_text_13 zk_i_0 ?_
    refine ze_putI h zl_47 rfl zf_X7_110 rfl rfl dX7_text_14 ?_
    refine ze_nmS (fun s1 => ?_)
    refine ze_aload_n h dX7_text_17 rfl ?_
    refine ze_iconst h 0 dX7_text_18 zk_i_0 ?_
    refine ze_putI h zl_47 rfl zf_X7_126 rfl rfl dX7_text_19 ?_
    refine ze_nmS (fun s2 => ?_)
    refine ze_iconst h 1 dX7_text_22 zk_i_1 ?_
    refine ze_istore_n h [some (.ref 47), some (.int 1), none] dX7_text_23 rfl (by decide) rfl ?_
    refine ze_iconst h 0 dX7_text_24 zk_i_0 ?_
    refine ze_istore_n h [some (.ref 47), some (.int 1), some (.int 0)] dX7_text_25 rfl (by decide) rfl ?_
    refine e_X7_text_26 h hR _ ?_ zN 1 0 s2
    · intro x31 s32
      exact e_X7_text_101 h hR  x31 s32
  · refine ze_bipush h (-4) dX7_text_9 zk_b_m4 ?_
    exact ze_iret hR dX7_text_11
set_option maxRecDepth 20000 in
theorem c_X7_two (l : Launch) (Λ : zLay) (p1 : Int32) (p2 : Int32) (p3 : Int32) (s0 : zMem) : zC l yX7_two (.code yX7_two cX7_two 3 (some .int)) 1 [.int p1, .int p2, .int p3] Λ s0 (fun r : Int32 => some (.int r)) (f_X7_two p1 p2 p3 s0) := by
  refine zC_of (own := RX7) rfl rfl (Nat.le_of_ble_eq_true rfl) [some (.int p1), some (.int p2), some (.int p3)] rfl (fun G T h hR => ?_)
  unfold f_X7_two
  refine ze_iload_n h dX7_two_0 rfl ?_
  refine ze_case 11 (fun q1_0 => ?_) (fun q1_0 => ?_)
  · refine ze_tabIn h 44 dX7_two_1 (by decide) (by decide) rfl (by decide) ?_
    refine ze_iload_n h dX7_two_44 rfl ?_
    refine ze_if_ne h 52 dX7_two_45 (by decide) ?_ ?_
    · refine ze_iconst h 1 dX7_two_52 zk_i_1 ?_
      refine ze_goto h 57 dX7_two_53 (by decide) ?_
      exact ze_iret hR dX7_two_57
    · refine ze_iload_n h dX7_two_48 rfl ?_
      refine ze_if_eq h 56 dX7_two_49 (by decide) ?_ ?_
      · refine ze_iconst h 0 dX7_two_56 zk_i_0 ?_
        exact ze_iret hR dX7_two_57
      · refine ze_iconst h 1 dX7_two_52 zk_i_1 ?_
        refine ze_goto h 57 dX7_two_53 (by decide) ?_
        exact ze_iret hR dX7_two_57
  refine ze_case 12 (fun q1_1 => ?_) (fun q1_1 => ?_)
  · refine ze_tabIn h 58 dX7_two_1 (by decide) (by decide) rfl (by decide) ?_
    refine ze_iload_n h dX7_two_58 rfl ?_
    refine ze_if_eq h 70 dX7_two_59 (by decide) ?_ ?_
    · refine ze_iconst h 0 dX7_two_70 zk_i_0 ?_
      exact ze_iret hR dX7_two_71
    · refine ze_iload_n h dX7_two_62 rfl ?_
      refine ze_if_eq h 70 dX7_two_63 (by decide) ?_ ?_
      · refine ze_iconst h 0 dX7_two_70 zk_i_0 ?_
        exact ze_iret hR dX7_two_71
      · refine ze_iconst h 1 dX7_two_66 zk_i_1 ?_
        refine ze_goto h 71 dX7_two_67 (by decide) ?_
        exact ze_iret hR dX7_two_71
  refine ze_case 13 (fun q1_2 => ?_) (fun q1_2 => ?_)
  · refine ze_tabIn h 102 dX7_two_1 (by decide) (by decide) rfl (by decide) ?_
    refine ze_iload_n h dX7_two_102 rfl ?_
    refine ze_iload_n h dX7_two_103 rfl ?_
    refine ze_imul h dX7_two_104 ?_
    exact ze_iret hR dX7_two_105
  refine ze_case 14 (fun q1_3 => ?_) (fun q1_3 => ?_)
  · refine ze_tabIn h 72 dX7_two_1 (by decide) (by decide) rfl (by decide) ?_
    refine ze_iload_n h dX7_two_72 rfl ?_
    refine ze_iload_n h dX7_two_73 rfl ?_
    refine ze_icmp_ge h 81 dX7_two_74 (by decide) ?_ ?_
    · refine ze_iconst h 0 dX7_two_81 zk_i_0 ?_
      exact ze_iret hR dX7_two_82
    · refine ze_iconst h 1 dX7_two_77 zk_i_1 ?_
      refine ze_goto h 82 dX7_two_78 (by decide) ?_
      exact ze_iret hR dX7_two_82
  refine ze_case 15 (fun q1_4 => ?_) (fun q1_4 => ?_)
  · refine ze_tabIn h 83 dX7_two_1 (by decide) (by decide) rfl (by decide) ?_
    refine ze_iload_n h dX7_two_83 rfl ?_
    refine ze_iload_n h dX7_two_84 rfl ?_
    refine ze_icmp_ne h 92 dX7_two_85 (by decide) ?_ ?_
    · refine ze_iconst h 0 dX7_two_92 zk_i_0 ?_
      exact ze_iret hR dX7_two_93
    · refine ze_iconst h 1 dX7_two_88 zk_i_1 ?_
      refine ze_goto h 93 dX7_two_89 (by decide) ?_
      exact ze_iret hR dX7_two_93
  refine ze_case 16 (fun q1_5 => ?_) (fun q1_5 => ?_)
  · refine ze_tabIn h 94 dX7_two_1 (by decide) (by decide) rfl (by decide) ?_
    refine ze_iload_n h dX7_two_94 rfl ?_
    refine ze_iload_n h dX7_two_95 rfl ?_
    refine ze_iadd h dX7_two_96 ?_
    exact ze_iret hR dX7_two_97
  refine ze_case 17 (fun q1_6 => ?_) (fun q1_6 => ?_)
  · refine ze_tabIn h 98 dX7_two_1 (by decide) (by decide) rfl (by decide) ?_
    refine ze_iload_n h dX7_two_98 rfl ?_
    refine ze_iload_n h dX7_two_99 rfl ?_
    refine ze_isub h dX7_two_100 ?_
    exact ze_iret hR dX7_two_101
  refine ze_tabOut h 102 dX7_two_1 (by have z0 := lv_neT q1_0 (a := 11) rfl; have z1 := lv_neT q1_1 (a := 12) rfl; have z2 := lv_neT q1_2 (a := 13) rfl; have z3 := lv_neT q1_3 (a := 14) rfl; have z4 := lv_neT q1_4 (a := 15) rfl; have z5 := lv_neT q1_5 (a := 16) rfl; have z6 := lv_neT q1_6 (a := 17) rfl; omega) (by decide) ?_
  refine ze_iload_n h dX7_two_102 rfl ?_
  refine ze_iload_n h dX7_two_103 rfl ?_
  refine ze_imul h dX7_two_104 ?_
  exact ze_iret hR dX7_two_105
set_option maxRecDepth 20000 in
theorem e_X7_says_66 {l : Launch} {G : zGT} {T : Option Value × zMem} (h : zOk G l cX7_says RX7 5 2 0 0 false) (hR : zR G cX7_says (some .int) T zFull 0 0)  (c16 : Int32 → Int32 → Int32 → zMem → Option (Int32 × zMem)) (hc16 : ∀ (y1 : Int32) (y2 : Int32) (y3 : Int32) (s9 : zMem), zE G T (fun r : Int32 => some (.int r)) zFull 0 0 16 [some (.ref 47), some (.int y1), some (.int y2), some (.int y3), none] [] s9 (c16 y1 y2 y3 s9)) : ∀ (x7 : Int32) (x8 : Int32) (x9 : Int32) (x10 : Int32) (s11 : zMem), zE G T (fun r : Int32 => some (.int r)) zFull 0 0 66 [some (.ref 47), some (.int x7), some (.int x8), some (.int x9), some (.int x10)] [] s11 (f_X7_says_66 c16  x7 x8 x9 x10 s11) := by
  intro x7 x8 x9 x10 s11
  unfold f_X7_says_66
  refine ze_aload_n h dX7_says_66 rfl ?_
  refine ze_getR h zl_47 rfl zf_X7_64 dX7_says_67 ?_
  refine ze_iload_n h dX7_says_70 rfl ?_
  refine ze_iload h dX7_says_71 rfl ?_
  refine ze_bipush h 11 dX7_says_73 zk_b_11 ?_
  refine ze_icmp_ge h 88 dX7_says_75 (by decide) ?_ ?_
  · refine ze_iload h dX7_says_88 rfl ?_
    refine ze_ldc h zq_X7_152 dX7_says_90 ?_
    refine ze_isub h dX7_says_92 ?_
    refine ze_iastG h zl_66 dX7_says_93 ?_
    refine ze_nmS (fun s12 => ?_)
    refine ze_iincN h (fun y9 => [some (.ref 47), some (.int x7), some (.int y9), some (.int x9), some (.int x10)]) 1 dX7_says_94 rfl zk_i_1 rfl (by decide) (fun _ => rfl) (fun x13 => ?_)
    refine ze_goto h 191 dX7_says_97 (by decide) ?_
    refine ze_iincN h (fun y9 => [some (.ref 47), some (.int x7), some (.int x13), some (.int y9), some (.int x10)]) 1 dX7_says_191 rfl zk_i_1 rfl (by decide) (fun _ => rfl) (fun x14 => ?_)
    refine ze_goto h 16 dX7_says_194 (by decide) ?_
    refine zE_weak h [true, true, true, true, false] rfl ?_
    exact hc16 x7 x13 x14 s12
  · refine ze_aload_n h dX7_says_78 rfl ?_
    refine ze_getR h zl_47 rfl zf_X7_67 dX7_says_79 ?_
    refine ze_iload h dX7_says_82 rfl ?_
    refine ze_ialdG h zl_67 dX7_says_84 ?_
    refine ze_goto h 93 dX7_says_85 (by decide) ?_
    refine ze_iastG h zl_66 dX7_says_93 ?_
    refine ze_nmS (fun s15 => ?_)
    refine ze_iincN h (fun y9 => [some (.ref 47), some (.int x7), some (.int y9), some (.int x9), some (.int x10)]) 1 dX7_says_94 rfl zk_i_1 rfl (by decide) (fun _ => rfl) (fun x16 => ?_)
    refine ze_goto h 191 dX7_says_97 (by decide) ?_
    refine ze_iincN h (fun y9 => [some (.ref 47), some (.int x7), some (.int x16), some (.int y9), some (.int x10)]) 1 dX7_says_191 rfl zk_i_1 rfl (by decide) (fun _ => rfl) (fun x17 => ?_)
    refine ze_goto h 16 dX7_says_194 (by decide) ?_
    refine zE_weak h [true, true, true, true, false] rfl ?_
    exact hc16 x7 x16 x17 s15
set_option maxRecDepth 20000 in
theorem e_X7_says_16 {l : Launch} {G : zGT} {T : Option Value × zMem} (h : zOk G l cX7_says RX7 5 2 0 0 false) (hR : zR G cX7_says (some .int) T zFull 0 0)   : ∀ (n : Nat) (x2 : Int32) (x3 : Int32) (x4 : Int32) (s5 : zMem), zE G T (fun r : Int32 => some (.int r)) zFull 0 0 16 [some (.ref 47), some (.int x2), some (.int x3), some (.int x4), none] [] s5 (f_X7_says_16 n x2 x3 x4 s5) := by
  intro n
  induction n with
  | zero => intro _ _ _ _; exact ze_none
  | succ n ih =>
    intro x2 x3 x4 s5
    rw [f_X7_says_16]
    refine ze_iload_n h dX7_says_16 rfl ?_
    refine ze_aload_n h dX7_says_17 rfl ?_
    refine ze_getR h zl_47 rfl zf_X7_37 dX7_says_18 ?_
    refine ze_iconst h 4 dX7_says_21 zk_i_4 ?_
    refine ze_aload_n h dX7_says_22 rfl ?_
    refine ze_getI h zl_47 rfl zf_X7_103 dX7_says_23 ?_
    refine ze_imul h dX7_says_26 ?_
    refine ze_iload_n h dX7_says_27 rfl ?_
    refine ze_iadd h dX7_says_28 ?_
    refine ze_iconst h 1 dX7_says_29 zk_i_1 ?_
    refine ze_iadd h dX7_says_30 ?_
    refine ze_ialdG h zl_57 dX7_says_31 ?_
    refine ze_icmp_ge h 197 dX7_says_32 (by decide) ?_ ?_
    · refine ze_aload_n h dX7_says_197 rfl ?_
      refine ze_getR h zl_47 rfl zf_X7_64 dX7_says_198 ?_
      refine ze_iconst h 0 dX7_says_201 zk_i_0 ?_
      refine ze_ialdG h zl_66 dX7_says_202 ?_
      exact ze_iret hR dX7_says_203
    · refine ze_aload_n h dX7_says_35 rfl ?_
      refine ze_getR h zl_47 rfl zf_X7_34 dX7_says_36 ?_
      refine ze_sipush h 200 dX7_says_39 zk_s_200 ?_
      refine ze_aload_n h dX7_says_42 rfl ?_
      refine ze_getI h zl_47 rfl zf_X7_103 dX7_says_43 ?_
      refine ze_imul h dX7_says_46 ?_
      refine ze_iload_n h dX7_says_47 rfl ?_
      refine ze_iadd h dX7_says_48 ?_
      refine ze_ialdG h zl_56 dX7_says_49 ?_
      refine ze_nmI (fun x6 => ?_)
      refine ze_istore h [some (.ref 47), some (.int x2), some (.int x3), some (.int x4), some (.int x6)] dX7_says_50 rfl (by decide) rfl ?_
      refine ze_iload h dX7_says_52 rfl ?_
      refine ze_ldc h zq_X7_152 dX7_says_54 ?_
      refine ze_icmp_ge h 66 dX7_says_56 (by decide) ?_ ?_
      · refine e_X7_says_66 h hR _ ?_ x2 x3 x4 x6 s5
        · intro x18 x19 x20 s21
          exact ih x18 x19 x20 s21
      · refine ze_iload h dX7_says_59 rfl ?_
        refine ze_bipush h 11 dX7_says_61 zk_b_11 ?_
        refine ze_icmp_ge h 100 dX7_says_63 (by decide) ?_ ?_
        · refine ze_iload h dX7_says_100 rfl ?_
          refine ze_bipush h 13 dX7_says_102 zk_b_13 ?_
          refine ze_icmp_ne h 134 dX7_says_104 (by decide) ?_ ?_
          · refine ze_iload h dX7_says_134 rfl ?_
            refine ze_bipush h 19 dX7_says_136 zk_b_19 ?_
            refine ze_icmp_ne h 161 dX7_says_138 (by decide) ?_ ?_
            · refine ze_iincN h (fun y9 => [some (.ref 47), some (.int x2), some (.int y9), some (.int x4), some (.int x6)]) (-1) dX7_says_161 rfl zk_i_m1 rfl (by decide) (fun _ => rfl) (fun x22 => ?_)
              refine ze_aload_n h dX7_says_164 rfl ?_
              refine ze_getR h zl_47 rfl zf_X7_64 dX7_says_165 ?_
              refine ze_iload_n h dX7_says_168 rfl ?_
              refine ze_iconst h 1 dX7_says_169 zk_i_1 ?_
              refine ze_isub h dX7_says_170 ?_
              refine ze_iload h dX7_says_171 rfl ?_
              refine ze_aload_n h dX7_says_173 rfl ?_
              refine ze_getR h zl_47 rfl zf_X7_64 dX7_says_174 ?_
              refine ze_iload_n h dX7_says_177 rfl ?_
              refine ze_iconst h 1 dX7_says_178 zk_i_1 ?_
              refine ze_isub h dX7_says_179 ?_
              refine ze_ialdG h zl_66 dX7_says_180 ?_
              refine ze_pc 181 rfl ?_
              refine ze_aload_n h dX7_says_181 rfl ?_
              refine ze_getR h zl_47 rfl zf_X7_64 dX7_says_182 ?_
              refine ze_iload_n h dX7_says_185 rfl ?_
              refine ze_ialdG h zl_66 dX7_says_186 ?_
              refine ze_callSi h (st := [.int (x22 - 1), .ref 66]) zce_X7_two zt_X7_two zm_X7_166 (Nat.le_of_ble_eq_true rfl) zkn (c_X7_two l zFull x6 (s5 66 (zix (x22 - 1))) (s5 66 (zix x22)) s5) rfl (Nat.le_of_ble_eq_true rfl) rfl dX7_says_187 (fun r23 s24 => ?_)
              refine ze_iastG h zl_66 dX7_says_190 ?_
              refine ze_nmS (fun s25 => ?_)
              refine ze_iincN h (fun y9 => [some (.ref 47), some (.int x2), some (.int x22), some (.int y9), some (.int x6)]) 1 dX7_says_191 rfl zk_i_1 rfl (by decide) (fun _ => rfl) (fun x26 => ?_)
              refine ze_goto h 16 dX7_says_194 (by decide) ?_
              refine zE_weak h [true, true, true, true, false] rfl ?_
              exact ih x2 x22 x26 s25
            · refine ze_aload_n h dX7_says_141 rfl ?_
              refine ze_getR h zl_47 rfl zf_X7_64 dX7_says_142 ?_
              refine ze_iload_n h dX7_says_145 rfl ?_
              refine ze_iconst h 1 dX7_says_146 zk_i_1 ?_
              refine ze_isub h dX7_says_147 ?_
              refine ze_aload_n h dX7_says_148 rfl ?_
              refine ze_getR h zl_47 rfl zf_X7_64 dX7_says_149 ?_
              refine ze_iload_n h dX7_says_152 rfl ?_
              refine ze_iconst h 1 dX7_says_153 zk_i_1 ?_
              refine ze_isub h dX7_says_154 ?_
              refine ze_ialdG h zl_66 dX7_says_155 ?_
              refine ze_ineg h dX7_says_156 ?_
              refine ze_iastG h zl_66 dX7_says_157 ?_
              refine ze_nmS (fun s27 => ?_)
              refine ze_pc 158 rfl ?_
              refine ze_goto h 191 dX7_says_158 (by decide) ?_
              refine ze_iincN h (fun y9 => [some (.ref 47), some (.int x2), some (.int x3), some (.int y9), some (.int x6)]) 1 dX7_says_191 rfl zk_i_1 rfl (by decide) (fun _ => rfl) (fun x28 => ?_)
              refine ze_goto h 16 dX7_says_194 (by decide) ?_
              refine zE_weak h [true, true, true, true, false] rfl ?_
              exact ih x2 x3 x28 s27
          · refine ze_aload_n h dX7_says_107 rfl ?_
            refine ze_getR h zl_47 rfl zf_X7_64 dX7_says_108 ?_
            refine ze_iload_n h dX7_says_111 rfl ?_
            refine ze_iconst h 1 dX7_says_112 zk_i_1 ?_
            refine ze_isub h dX7_says_113 ?_
            refine ze_aload_n h dX7_says_114 rfl ?_
            refine ze_getR h zl_47 rfl zf_X7_64 dX7_says_115 ?_
            refine ze_iload_n h dX7_says_118 rfl ?_
            refine ze_iconst h 1 dX7_says_119 zk_i_1 ?_
            refine ze_isub h dX7_says_120 ?_
            refine ze_ialdG h zl_66 dX7_says_121 ?_
            refine ze_if_ne h 129 dX7_says_122 (by decide) ?_ ?_
            · refine ze_iconst h 0 dX7_says_129 zk_i_0 ?_
              refine ze_iastG h zl_66 dX7_says_130 ?_
              refine ze_nmS (fun s29 => ?_)
              refine ze_goto h 191 dX7_says_131 (by decide) ?_
              refine ze_iincN h (fun y9 => [some (.ref 47), some (.int x2), some (.int x3), some (.int y9), some (.int x6)]) 1 dX7_says_191 rfl zk_i_1 rfl (by decide) (fun _ => rfl) (fun x30 => ?_)
              refine ze_goto h 16 dX7_says_194 (by decide) ?_
              refine zE_weak h [true, true, true, true, false] rfl ?_
              exact ih x2 x3 x30 s29
            · refine ze_iconst h 1 dX7_says_125 zk_i_1 ?_
              refine ze_goto h 130 dX7_says_126 (by decide) ?_
              refine ze_iastG h zl_66 dX7_says_130 ?_
              refine ze_nmS (fun s31 => ?_)
              refine ze_goto h 191 dX7_says_131 (by decide) ?_
              refine ze_iincN h (fun y9 => [some (.ref 47), some (.int x2), some (.int x3), some (.int y9), some (.int x6)]) 1 dX7_says_191 rfl zk_i_1 rfl (by decide) (fun _ => rfl) (fun x32 => ?_)
              refine ze_goto h 16 dX7_says_194 (by decide) ?_
              refine zE_weak h [true, true, true, true, false] rfl ?_
              exact ih x2 x3 x32 s31
        · refine e_X7_says_66 h hR _ ?_ x2 x3 x4 x6 s5
          · intro x33 x34 x35 s36
            exact ih x33 x34 x35 s36
set_option maxRecDepth 20000 in
theorem c_X7_says (l : Launch)  (p1 : Int32) (s0 : zMem) : zC l yX7_says (.code yX7_says cX7_says 5 (some .int)) 2 [.ref 47, .int p1] zFull s0 (fun r : Int32 => some (.int r)) (f_X7_says p1 s0) := by
  refine zC_of (own := RX7) rfl rfl (Nat.le_of_ble_eq_true rfl) [some (.ref 47), some (.int p1), none, none, none] rfl (fun G T h hR => ?_)
  unfold f_X7_says
  refine ze_iconst h 0 dX7_says_0 zk_i_0 ?_
  refine ze_istore_n h [some (.ref 47), some (.int p1), some (.int 0), none, none] dX7_says_1 rfl (by decide) rfl ?_
  refine ze_aload_n h dX7_says_2 rfl ?_
  refine ze_getR h zl_47 rfl zf_X7_37 dX7_says_3 ?_
  refine ze_iconst h 4 dX7_says_6 zk_i_4 ?_
  refine ze_aload_n h dX7_says_7 rfl ?_
  refine ze_getI h zl_47 rfl zf_X7_103 dX7_says_8 ?_
  refine ze_imul h dX7_says_11 ?_
  refine ze_iload_n h dX7_says_12 rfl ?_
  refine ze_iadd h dX7_says_13 ?_
  refine ze_ialdG h zl_57 dX7_says_14 ?_
  refine ze_nmI (fun x1 => ?_)
  refine ze_istore_n h [some (.ref 47), some (.int p1), some (.int 0), some (.int x1), none] dX7_says_15 rfl (by decide) rfl ?_
  exact e_X7_says_16 h hR  zN p1 0 x1 s0
set_option maxRecDepth 20000 in
theorem c_X7_force (l : Launch)  (p1 : Int32) (s0 : zMem) : zC l yX7_force (.code yX7_force cX7_force 3 (some .int)) 2 [.ref 47, .int p1] zFull s0 (fun r : Int32 => some (.int r)) (f_X7_force p1 s0) := by
  refine zC_of (own := RX7) rfl rfl (Nat.le_of_ble_eq_true rfl) [some (.ref 47), some (.int p1), none] rfl (fun G T h hR => ?_)
  unfold f_X7_force
  refine ze_iload_n h dX7_force_0 rfl ?_
  refine ze_iconst h 0 dX7_force_1 zk_i_0 ?_
  refine ze_aload_n h dX7_force_2 rfl ?_
  refine ze_getI h zl_47 rfl zf_X7_100 dX7_force_3 ?_
  refine ze_iconst h 1 dX7_force_6 zk_i_1 ?_
  refine ze_isub h dX7_force_7 ?_
  refine ze_callSi h (st := []) zce_X7_in zt_X7_in zm_X7_87 (Nat.le_of_ble_eq_true rfl) zkn (c_X7_in l zFull p1 0 ((s0 47 14) - 1) s0) rfl (Nat.le_of_ble_eq_true rfl) rfl dX7_force_8 (fun r1 s2 => ?_)
  refine ze_if_ne h 17 dX7_force_11 (by decide) ?_ ?_
  · refine ze_aload_n h dX7_force_17 rfl ?_
    refine ze_getI h zl_47 rfl zf_X7_103 dX7_force_18 ?_
    refine ze_nmI (fun x3 => ?_)
    refine ze_istore_n h [some (.ref 47), some (.int p1), some (.int x3)] dX7_force_21 rfl (by decide) rfl ?_
    refine ze_aload_n h dX7_force_22 rfl ?_
    refine ze_iload_n h dX7_force_23 rfl ?_
    refine ze_putI h zl_47 rfl zf_X7_103 rfl rfl dX7_force_24 ?_
    refine ze_nmS (fun s4 => ?_)
    refine ze_iload_n h dX7_force_27 rfl ?_
    exact ze_iret hR dX7_force_28
  · refine ze_bipush h (-2) dX7_force_14 zk_b_m2 ?_
    exact ze_iret hR dX7_force_16
set_option maxRecDepth 20000 in
theorem c_X7_asksOf (l : Launch)  (p1 : Int32) (p2 : Int32) (p3 : Int32) (s0 : zMem) : zC l yX7_asksOf (.code yX7_asksOf cX7_asksOf 4 (some .int)) 3 [.ref 47, .int p1, .int p2, .int p3] zFull s0 (fun r : Int32 => some (.int r)) (f_X7_asksOf p1 p2 p3 s0) := by
  refine zC_of (own := RX7) rfl rfl (Nat.le_of_ble_eq_true rfl) [some (.ref 47), some (.int p1), some (.int p2), some (.int p3)] rfl (fun G T h hR => ?_)
  unfold f_X7_asksOf
  refine ze_aload_n h dX7_asksOf_0 rfl ?_
  refine ze_getR h zl_47 rfl zf_X7_67 dX7_asksOf_1 ?_
  refine ze_iconst h 0 dX7_asksOf_4 zk_i_0 ?_
  refine ze_aload_n h dX7_asksOf_5 rfl ?_
  refine ze_getR h zl_47 rfl zf_X7_16 dX7_asksOf_6 ?_
  refine ze_iconst h 3 dX7_asksOf_9 zk_i_3 ?_
  refine ze_iload_n h dX7_asksOf_10 rfl ?_
  refine ze_imul h dX7_asksOf_11 ?_
  refine ze_ialdG h zl_50 dX7_asksOf_12 ?_
  refine ze_iastG h zl_67 dX7_asksOf_13 ?_
  refine ze_nmS (fun s1 => ?_)
  refine ze_aload_n h dX7_asksOf_14 rfl ?_
  refine ze_getR h zl_47 rfl zf_X7_67 dX7_asksOf_15 ?_
  refine ze_iconst h 1 dX7_asksOf_18 zk_i_1 ?_
  refine ze_pc 19 rfl ?_
  refine ze_aload_n h dX7_asksOf_19 rfl ?_
  refine ze_getR h zl_47 rfl zf_X7_16 dX7_asksOf_20 ?_
  refine ze_iconst h 3 dX7_asksOf_23 zk_i_3 ?_
  refine ze_iload_n h dX7_asksOf_24 rfl ?_
  refine ze_imul h dX7_asksOf_25 ?_
  refine ze_iconst h 1 dX7_asksOf_26 zk_i_1 ?_
  refine ze_iadd h dX7_asksOf_27 ?_
  refine ze_ialdG h zl_50 dX7_asksOf_28 ?_
  refine ze_iastG h zl_67 dX7_asksOf_29 ?_
  refine ze_nmS (fun s2 => ?_)
  refine ze_aload_n h dX7_asksOf_30 rfl ?_
  refine ze_getR h zl_47 rfl zf_X7_67 dX7_asksOf_31 ?_
  refine ze_iconst h 2 dX7_asksOf_34 zk_i_2 ?_
  refine ze_aload_n h dX7_asksOf_35 rfl ?_
  refine ze_getI h zl_47 rfl zf_X7_94 dX7_asksOf_36 ?_
  refine ze_pc 39 rfl ?_
  refine ze_iastG h zl_67 dX7_asksOf_39 ?_
  refine ze_nmS (fun s3 => ?_)
  refine ze_aload_n h dX7_asksOf_40 rfl ?_
  refine ze_getR h zl_47 rfl zf_X7_67 dX7_asksOf_41 ?_
  refine ze_iconst h 3 dX7_asksOf_44 zk_i_3 ?_
  refine ze_iload_n h dX7_asksOf_45 rfl ?_
  refine ze_iastG h zl_67 dX7_asksOf_46 ?_
  refine ze_nmS (fun s4 => ?_)
  refine ze_aload_n h dX7_asksOf_47 rfl ?_
  refine ze_getR h zl_47 rfl zf_X7_67 dX7_asksOf_48 ?_
  refine ze_iconst h 4 dX7_asksOf_51 zk_i_4 ?_
  refine ze_aload_n h dX7_asksOf_52 rfl ?_
  refine ze_iload_n h dX7_asksOf_53 rfl ?_
  refine ze_callVi h (st := [.int 4, .ref 67]) zce_X7_owedBy zi_X7_owedBy zs_X7_owedBy zm_X7_170 zl_47 rfl rfl (Nat.le_of_ble_eq_true rfl) zkn (c_X7_owedBy l  p2 s4) rfl (Nat.le_of_ble_eq_true rfl) rfl dX7_asksOf_54 (fun r5 s6 => ?_)
  refine ze_iastG h zl_67 dX7_asksOf_57 ?_
  refine ze_nmS (fun s7 => ?_)
  refine ze_aload_n h dX7_asksOf_58 rfl ?_
  refine ze_pc 59 rfl ?_
  refine ze_getR h zl_47 rfl zf_X7_67 dX7_asksOf_59 ?_
  refine ze_iconst h 5 dX7_asksOf_62 zk_i_5 ?_
  refine ze_aload_n h dX7_asksOf_63 rfl ?_
  refine ze_getR h zl_47 rfl zf_X7_13 dX7_asksOf_64 ?_
  refine ze_iload_n h dX7_asksOf_67 rfl ?_
  refine ze_ialdG h zl_49 dX7_asksOf_68 ?_
  refine ze_iastG h zl_67 dX7_asksOf_69 ?_
  refine ze_nmS (fun s8 => ?_)
  refine ze_aload_n h dX7_asksOf_70 rfl ?_
  refine ze_iload_n h dX7_asksOf_71 rfl ?_
  refine ze_callVi h (st := []) zce_X7_says zi_X7_says zs_X7_says zm_X7_173 zl_47 rfl rfl (Nat.le_of_ble_eq_true rfl) zkn (c_X7_says l  p1 s8) rfl (Nat.le_of_ble_eq_true rfl) rfl dX7_asksOf_72 (fun r9 s10 => ?_)
  refine ze_iconst h 0 dX7_asksOf_75 zk_i_0 ?_
  refine ze_bipush h 99 dX7_asksOf_76 zk_b_99 ?_
  refine ze_callSi h (st := []) zce_X7_within zt_X7_within zm_X7_176 (Nat.le_of_ble_eq_true rfl) zkn (c_X7_within l zFull r9 0 99 s10) rfl (Nat.le_of_ble_eq_true rfl) rfl dX7_asksOf_78 (fun r11 s12 => ?_)
  exact ze_iret hR dX7_asksOf_81
set_option maxRecDepth 20000 in
theorem c_X7_asks (l : Launch)  (p1 : Int32) (p2 : Int32) (p3 : Int32) (s0 : zMem) : zC l yX7_asks (.code yX7_asks cX7_asks 4 (some .int)) 4 [.ref 47, .int p1, .int p2, .int p3] zFull s0 (fun r : Int32 => some (.int r)) (f_X7_asks p1 p2 p3 s0) := by
  refine zC_of (own := RX7) rfl rfl (Nat.le_of_ble_eq_true rfl) [some (.ref 47), some (.int p1), some (.int p2), some (.int p3)] rfl (fun G T h hR => ?_)
  unfold f_X7_asks
  refine ze_iload_n h dX7_asks_0 rfl ?_
  refine ze_iconst h 0 dX7_asks_1 zk_i_0 ?_
  refine ze_iconst h 2 dX7_asks_2 zk_i_2 ?_
  refine ze_callSi h (st := []) zce_X7_in zt_X7_in zm_X7_87 (Nat.le_of_ble_eq_true rfl) zkn (c_X7_in l zFull p1 0 2 s0) rfl (Nat.le_of_ble_eq_true rfl) rfl dX7_asks_3 (fun r1 s2 => ?_)
  refine ze_if_eq h 38 dX7_asks_6 (by decide) ?_ ?_
  · refine ze_bipush h (-2) dX7_asks_38 zk_b_m2 ?_
    exact ze_iret hR dX7_asks_40
  · refine ze_aload_n h dX7_asks_9 rfl ?_
    refine ze_iload_n h dX7_asks_10 rfl ?_
    refine ze_callVi h (st := []) zce_X7_isHut zi_X7_isHut zs_X7_isHut zm_X7_179 zl_47 rfl rfl (Nat.le_of_ble_eq_true rfl) zkn (c_X7_isHut l  p2 s2) rfl (Nat.le_of_ble_eq_true rfl) rfl dX7_asks_11 (fun r3 s4 => ?_)
    refine ze_if_eq h 38 dX7_asks_14 (by decide) ?_ ?_
    · refine ze_bipush h (-2) dX7_asks_38 zk_b_m2 ?_
      exact ze_iret hR dX7_asks_40
    · refine ze_iload_n h dX7_asks_17 rfl ?_
      refine ze_iconst h 0 dX7_asks_18 zk_i_0 ?_
      refine ze_sipush h 9999 dX7_asks_19 zk_s_9999 ?_
      refine ze_callSi h (st := []) zce_X7_in zt_X7_in zm_X7_87 (Nat.le_of_ble_eq_true rfl) zkn (c_X7_in l zFull p3 0 9999 s4) rfl (Nat.le_of_ble_eq_true rfl) rfl dX7_asks_22 (fun r5 s6 => ?_)
      refine ze_if_eq h 38 dX7_asks_25 (by decide) ?_ ?_
      · refine ze_bipush h (-2) dX7_asks_38 zk_b_m2 ?_
        exact ze_iret hR dX7_asks_40
      · refine ze_aload_n h dX7_asks_28 rfl ?_
        refine ze_iload_n h dX7_asks_29 rfl ?_
        refine ze_iload_n h dX7_asks_30 rfl ?_
        refine ze_iload_n h dX7_asks_31 rfl ?_
        refine ze_callVi h (st := []) zce_X7_asksOf zi_X7_asksOf zs_X7_asksOf zm_X7_182 zl_47 rfl rfl (Nat.le_of_ble_eq_true rfl) zkn (c_X7_asksOf l  p1 p2 p3 s6) rfl (Nat.le_of_ble_eq_true rfl) rfl dX7_asks_32 (fun r7 s8 => ?_)
        refine ze_goto h 40 dX7_asks_35 (by decide) ?_
        exact ze_iret hR dX7_asks_40
set_option maxRecDepth 20000 in
theorem c_X7_hut (l : Launch)  (p1 : Int32) (p2 : Int32) (s0 : zMem) : zC l yX7_hut (.code yX7_hut cX7_hut 3 (some .int)) 2 [.ref 47, .int p1, .int p2] zFull s0 (fun r : Int32 => some (.int r)) (f_X7_hut p1 p2 s0) := by
  refine zC_of (own := RX7) rfl rfl (Nat.le_of_ble_eq_true rfl) [some (.ref 47), some (.int p1), some (.int p2)] rfl (fun G T h hR => ?_)
  unfold f_X7_hut
  refine ze_iload_n h dX7_hut_0 rfl ?_
  refine ze_iconst h 0 dX7_hut_1 zk_i_0 ?_
  refine ze_bipush h 59 dX7_hut_2 zk_b_59 ?_
  refine ze_callSi h (st := []) zce_X7_in zt_X7_in zm_X7_87 (Nat.le_of_ble_eq_true rfl) zkn (c_X7_in l zFull p1 0 59 s0) rfl (Nat.le_of_ble_eq_true rfl) rfl dX7_hut_4 (fun r1 s2 => ?_)
  refine ze_if_eq h 20 dX7_hut_7 (by decide) ?_ ?_
  · refine ze_bipush h (-2) dX7_hut_20 zk_b_m2 ?_
    exact ze_iret hR dX7_hut_22
  · refine ze_iload_n h dX7_hut_10 rfl ?_
    refine ze_iconst h 0 dX7_hut_11 zk_i_0 ?_
    refine ze_ldc h zq_X7_185 dX7_hut_12 ?_
    refine ze_callSi h (st := []) zce_X7_in zt_X7_in zm_X7_87 (Nat.le_of_ble_eq_true rfl) zkn (c_X7_in l zFull p2 0 999999 s2) rfl (Nat.le_of_ble_eq_true rfl) rfl dX7_hut_14 (fun r3 s4 => ?_)
    refine ze_if_ne h 23 dX7_hut_17 (by decide) ?_ ?_
    · refine ze_aload_n h dX7_hut_23 rfl ?_
      refine ze_getI h zl_47 rfl zf_X7_84 dX7_hut_24 ?_
      refine ze_bipush h 6 dX7_hut_27 zk_b_6 ?_
      refine ze_icmp_ne h 35 dX7_hut_29 (by decide) ?_ ?_
      · refine ze_aload_n h dX7_hut_35 rfl ?_
        refine ze_getR h zl_47 rfl zf_X7_7 dX7_hut_36 ?_
        refine ze_aload_n h dX7_hut_39 rfl ?_
        refine ze_getI h zl_47 rfl zf_X7_84 dX7_hut_40 ?_
        refine ze_iload_n h dX7_hut_43 rfl ?_
        refine ze_bipush h 10 dX7_hut_44 zk_b_10 ?_
        refine ze_idiv h dX7_hut_46 (by decide) ?_
        refine ze_iastG h zl_48 dX7_hut_47 ?_
        refine ze_nmS (fun s5 => ?_)
        refine ze_aload_n h dX7_hut_48 rfl ?_
        refine ze_getR h zl_47 rfl zf_X7_13 dX7_hut_49 ?_
        refine ze_aload_n h dX7_hut_52 rfl ?_
        refine ze_getI h zl_47 rfl zf_X7_84 dX7_hut_53 ?_
        refine ze_iload_n h dX7_hut_56 rfl ?_
        refine ze_pc 57 rfl ?_
        refine ze_bipush h 10 dX7_hut_57 zk_b_10 ?_
        refine ze_irem h dX7_hut_59 (by decide) ?_
        refine ze_iastG h zl_49 dX7_hut_60 ?_
        refine ze_nmS (fun s6 => ?_)
        refine ze_aload_n h dX7_hut_61 rfl ?_
        refine ze_getR h zl_47 rfl zf_X7_16 dX7_hut_62 ?_
        refine ze_iconst h 3 dX7_hut_65 zk_i_3 ?_
        refine ze_aload_n h dX7_hut_66 rfl ?_
        refine ze_getI h zl_47 rfl zf_X7_84 dX7_hut_67 ?_
        refine ze_imul h dX7_hut_70 ?_
        refine ze_iload_n h dX7_hut_71 rfl ?_
        refine ze_bipush h 100 dX7_hut_72 zk_b_100 ?_
        refine ze_idiv h dX7_hut_74 (by decide) ?_
        refine ze_iastG h zl_50 dX7_hut_75 ?_
        refine ze_nmS (fun s7 => ?_)
        refine ze_aload_n h dX7_hut_76 rfl ?_
        refine ze_pc 77 rfl ?_
        refine ze_getR h zl_47 rfl zf_X7_16 dX7_hut_77 ?_
        refine ze_iconst h 3 dX7_hut_80 zk_i_3 ?_
        refine ze_aload_n h dX7_hut_81 rfl ?_
        refine ze_getI h zl_47 rfl zf_X7_84 dX7_hut_82 ?_
        refine ze_imul h dX7_hut_85 ?_
        refine ze_iconst h 1 dX7_hut_86 zk_i_1 ?_
        refine ze_iadd h dX7_hut_87 ?_
        refine ze_iload_n h dX7_hut_88 rfl ?_
        refine ze_bipush h 100 dX7_hut_89 zk_b_100 ?_
        refine ze_irem h dX7_hut_91 (by decide) ?_
        refine ze_iastG h zl_50 dX7_hut_92 ?_
        refine ze_nmS (fun s8 => ?_)
        refine ze_aload_n h dX7_hut_93 rfl ?_
        refine ze_getR h zl_47 rfl zf_X7_16 dX7_hut_94 ?_
        refine ze_iconst h 3 dX7_hut_97 zk_i_3 ?_
        refine ze_pc 98 rfl ?_
        refine ze_aload_n h dX7_hut_98 rfl ?_
        refine ze_getI h zl_47 rfl zf_X7_84 dX7_hut_99 ?_
        refine ze_imul h dX7_hut_102 ?_
        refine ze_iconst h 2 dX7_hut_103 zk_i_2 ?_
        refine ze_iadd h dX7_hut_104 ?_
        refine ze_iconst h 0 dX7_hut_105 zk_i_0 ?_
        refine ze_iastG h zl_50 dX7_hut_106 ?_
        refine ze_nmS (fun s9 => ?_)
        refine ze_aload_n h dX7_hut_107 rfl ?_
        refine ze_dup h dX7_hut_108 rfl ?_
        refine ze_getI h zl_47 rfl zf_X7_84 dX7_hut_109 ?_
        refine ze_iconst h 1 dX7_hut_112 zk_i_1 ?_
        refine ze_iadd h dX7_hut_113 ?_
        refine ze_putI h zl_47 rfl zf_X7_84 rfl rfl dX7_hut_114 ?_
        refine ze_nmS (fun s10 => ?_)
        refine ze_aload_n h dX7_hut_117 rfl ?_
        refine ze_pc 118 rfl ?_
        refine ze_getI h zl_47 rfl zf_X7_84 dX7_hut_118 ?_
        refine ze_iconst h 1 dX7_hut_121 zk_i_1 ?_
        refine ze_isub h dX7_hut_122 ?_
        exact ze_iret hR dX7_hut_123
      · refine ze_bipush h (-4) dX7_hut_32 zk_b_m4 ?_
        exact ze_iret hR dX7_hut_34
    · refine ze_bipush h (-2) dX7_hut_20 zk_b_m2 ?_
      exact ze_iret hR dX7_hut_22
set_option maxRecDepth 20000 in
theorem e_X7_put_34 {l : Launch} {G : zGT} {T : Option Value × zMem} (h : zOk G l cX7_put RX7 5 3 0 0 false) (hR : zR G cX7_put (some .int) T zFull 0 0)   : ∀ (x5 : Int32) (x6 : Int32) (x7 : Int32) (t8 : Int32) (t9 : Int32) (t10 : Int32) (s11 : zMem), zE G T (fun r : Int32 => some (.int r)) zFull 0 0 34 [some (.ref 47), some (.int x5), some (.int x6), some (.int x7), none] [.int t8, .int t9, .int t10] s11 (f_X7_put_34  x5 x6 x7 t8 t9 t10 s11) := by
  intro x5 x6 x7 t8 t9 t10 s11
  unfold f_X7_put_34
  refine ze_callSi h (st := []) zce_X7_in zt_X7_in zm_X7_87 (Nat.le_of_ble_eq_true rfl) zkn (c_X7_in l zFull t10 t9 t8 s11) rfl (Nat.le_of_ble_eq_true rfl) rfl dX7_put_34 (fun r12 s13 => ?_)
  refine ze_if_ne h 43 dX7_put_37 (by decide) ?_ ?_
  · refine ze_aload_n h dX7_put_43 rfl ?_
    refine ze_getR h zl_47 rfl zf_X7_16 dX7_put_44 ?_
    refine ze_iconst h 3 dX7_put_47 zk_i_3 ?_
    refine ze_iload_n h dX7_put_48 rfl ?_
    refine ze_imul h dX7_put_49 ?_
    refine ze_iload_n h dX7_put_50 rfl ?_
    refine ze_iadd h dX7_put_51 ?_
    refine ze_ialdG h zl_50 dX7_put_52 ?_
    refine ze_nmI (fun x14 => ?_)
    refine ze_istore h [some (.ref 47), some (.int x5), some (.int x6), some (.int x7), some (.int x14)] dX7_put_53 rfl (by decide) rfl ?_
    refine ze_aload_n h dX7_put_55 rfl ?_
    refine ze_getR h zl_47 rfl zf_X7_16 dX7_put_56 ?_
    refine ze_iconst h 3 dX7_put_59 zk_i_3 ?_
    refine ze_iload_n h dX7_put_60 rfl ?_
    refine ze_pc 61 rfl ?_
    refine ze_imul h dX7_put_61 ?_
    refine ze_iload_n h dX7_put_62 rfl ?_
    refine ze_iadd h dX7_put_63 ?_
    refine ze_iload_n h dX7_put_64 rfl ?_
    refine ze_iastG h zl_50 dX7_put_65 ?_
    refine ze_nmS (fun s15 => ?_)
    refine ze_iload h dX7_put_66 rfl ?_
    exact ze_iret hR dX7_put_68
  · refine ze_bipush h (-7) dX7_put_40 zk_b_m7 ?_
    exact ze_iret hR dX7_put_42
set_option maxRecDepth 20000 in
theorem c_X7_put (l : Launch)  (p1 : Int32) (p2 : Int32) (p3 : Int32) (s0 : zMem) : zC l yX7_put (.code yX7_put cX7_put 5 (some .int)) 3 [.ref 47, .int p1, .int p2, .int p3] zFull s0 (fun r : Int32 => some (.int r)) (f_X7_put p1 p2 p3 s0) := by
  refine zC_of (own := RX7) rfl rfl (Nat.le_of_ble_eq_true rfl) [some (.ref 47), some (.int p1), some (.int p2), some (.int p3), none] rfl (fun G T h hR => ?_)
  unfold f_X7_put
  refine ze_aload_n h dX7_put_0 rfl ?_
  refine ze_iload_n h dX7_put_1 rfl ?_
  refine ze_callVi h (st := []) zce_X7_isHut zi_X7_isHut zs_X7_isHut zm_X7_179 zl_47 rfl rfl (Nat.le_of_ble_eq_true rfl) zkn (c_X7_isHut l  p1 s0) rfl (Nat.le_of_ble_eq_true rfl) rfl dX7_put_2 (fun r1 s2 => ?_)
  refine ze_if_ne h 11 dX7_put_5 (by decide) ?_ ?_
  · refine ze_iload_n h dX7_put_11 rfl ?_
    refine ze_iconst h 0 dX7_put_12 zk_i_0 ?_
    refine ze_iconst h 2 dX7_put_13 zk_i_2 ?_
    refine ze_callSi h (st := []) zce_X7_in zt_X7_in zm_X7_87 (Nat.le_of_ble_eq_true rfl) zkn (c_X7_in l zFull p2 0 2 s2) rfl (Nat.le_of_ble_eq_true rfl) rfl dX7_put_14 (fun r3 s4 => ?_)
    refine ze_if_eq h 40 dX7_put_17 (by decide) ?_ ?_
    · refine ze_bipush h (-7) dX7_put_40 zk_b_m7 ?_
      exact ze_iret hR dX7_put_42
    · refine ze_iload_n h dX7_put_20 rfl ?_
      refine ze_iconst h 0 dX7_put_21 zk_i_0 ?_
      refine ze_iload_n h dX7_put_22 rfl ?_
      refine ze_if_ne h 32 dX7_put_23 (by decide) ?_ ?_
      · refine ze_bipush h 99 dX7_put_32 zk_b_99 ?_
        exact e_X7_put_34 h hR  p1 p2 p3 99 0 p3 s4
      · refine ze_sipush h 9999 dX7_put_26 zk_s_9999 ?_
        refine ze_goto h 34 dX7_put_29 (by decide) ?_
        exact e_X7_put_34 h hR  p1 p2 p3 9999 0 p3 s4
  · refine ze_bipush h (-5) dX7_put_8 zk_b_m5 ?_
    exact ze_iret hR dX7_put_10
set_option maxRecDepth 20000 in
theorem c_X7_told (l : Launch)  (p1 : Int32) (p2 : Int32) (s0 : zMem) : zC l yX7_told (.code yX7_told cX7_told 3 (some .int)) 3 [.ref 47, .int p1, .int p2] zFull s0 (fun r : Int32 => some (.int r)) (f_X7_told p1 p2 s0) := by
  refine zC_of (own := RX7) rfl rfl (Nat.le_of_ble_eq_true rfl) [some (.ref 47), some (.int p1), some (.int p2)] rfl (fun G T h hR => ?_)
  unfold f_X7_told
  refine ze_aload_n h dX7_told_0 rfl ?_
  refine ze_iload_n h dX7_told_1 rfl ?_
  refine ze_callVi h (st := []) zce_X7_isHut zi_X7_isHut zs_X7_isHut zm_X7_179 zl_47 rfl rfl (Nat.le_of_ble_eq_true rfl) zkn (c_X7_isHut l  p1 s0) rfl (Nat.le_of_ble_eq_true rfl) rfl dX7_told_2 (fun r1 s2 => ?_)
  refine ze_if_ne h 11 dX7_told_5 (by decide) ?_ ?_
  · refine ze_iload_n h dX7_told_11 rfl ?_
    refine ze_case 0 (fun q12_0 => ?_) (fun q12_0 => ?_)
    · refine ze_tabIn h 60 dX7_told_12 (by decide) (by decide) rfl (by decide) ?_
      refine ze_aload_n h dX7_told_60 rfl ?_
      refine ze_getR h zl_47 rfl zf_X7_16 dX7_told_61 ?_
      refine ze_iconst h 3 dX7_told_64 zk_i_3 ?_
      refine ze_iload_n h dX7_told_65 rfl ?_
      refine ze_imul h dX7_told_66 ?_
      refine ze_iload_n h dX7_told_67 rfl ?_
      refine ze_iadd h dX7_told_68 ?_
      refine ze_ialdG h zl_50 dX7_told_69 ?_
      exact ze_iret hR dX7_told_70
    refine ze_case 1 (fun q12_1 => ?_) (fun q12_1 => ?_)
    · refine ze_tabIn h 60 dX7_told_12 (by decide) (by decide) rfl (by decide) ?_
      refine ze_aload_n h dX7_told_60 rfl ?_
      refine ze_getR h zl_47 rfl zf_X7_16 dX7_told_61 ?_
      refine ze_iconst h 3 dX7_told_64 zk_i_3 ?_
      refine ze_iload_n h dX7_told_65 rfl ?_
      refine ze_imul h dX7_told_66 ?_
      refine ze_iload_n h dX7_told_67 rfl ?_
      refine ze_iadd h dX7_told_68 ?_
      refine ze_ialdG h zl_50 dX7_told_69 ?_
      exact ze_iret hR dX7_told_70
    refine ze_case 2 (fun q12_2 => ?_) (fun q12_2 => ?_)
    · refine ze_tabIn h 60 dX7_told_12 (by decide) (by decide) rfl (by decide) ?_
      refine ze_aload_n h dX7_told_60 rfl ?_
      refine ze_getR h zl_47 rfl zf_X7_16 dX7_told_61 ?_
      refine ze_iconst h 3 dX7_told_64 zk_i_3 ?_
      refine ze_iload_n h dX7_told_65 rfl ?_
      refine ze_imul h dX7_told_66 ?_
      refine ze_iload_n h dX7_told_67 rfl ?_
      refine ze_iadd h dX7_told_68 ?_
      refine ze_ialdG h zl_50 dX7_told_69 ?_
      exact ze_iret hR dX7_told_70
    refine ze_case 3 (fun q12_3 => ?_) (fun q12_3 => ?_)
    · refine ze_tabIn h 71 dX7_told_12 (by decide) (by decide) rfl (by decide) ?_
      refine ze_aload_n h dX7_told_71 rfl ?_
      refine ze_getR h zl_47 rfl zf_X7_7 dX7_told_72 ?_
      refine ze_iload_n h dX7_told_75 rfl ?_
      refine ze_ialdG h zl_48 dX7_told_76 ?_
      exact ze_iret hR dX7_told_77
    refine ze_case 4 (fun q12_4 => ?_) (fun q12_4 => ?_)
    · refine ze_tabIn h 78 dX7_told_12 (by decide) (by decide) rfl (by decide) ?_
      refine ze_aload_n h dX7_told_78 rfl ?_
      refine ze_getR h zl_47 rfl zf_X7_13 dX7_told_79 ?_
      refine ze_iload_n h dX7_told_82 rfl ?_
      refine ze_ialdG h zl_49 dX7_told_83 ?_
      exact ze_iret hR dX7_told_84
    refine ze_case 5 (fun q12_5 => ?_) (fun q12_5 => ?_)
    · refine ze_tabIn h 85 dX7_told_12 (by decide) (by decide) rfl (by decide) ?_
      refine ze_aload_n h dX7_told_85 rfl ?_
      refine ze_iload_n h dX7_told_86 rfl ?_
      refine ze_callVi h (st := []) zce_X7_owedBy zi_X7_owedBy zs_X7_owedBy zm_X7_170 zl_47 rfl rfl (Nat.le_of_ble_eq_true rfl) zkn (c_X7_owedBy l  p1 s2) rfl (Nat.le_of_ble_eq_true rfl) rfl dX7_told_87 (fun r3 s4 => ?_)
      exact ze_iret hR dX7_told_90
    refine ze_case 6 (fun q12_6 => ?_) (fun q12_6 => ?_)
    · refine ze_tabIn h 91 dX7_told_12 (by decide) (by decide) rfl (by decide) ?_
      refine ze_aload_n h dX7_told_91 rfl ?_
      refine ze_iload_n h dX7_told_92 rfl ?_
      refine ze_callVi h (st := []) zce_X7_owedTo zi_X7_owedTo zs_X7_owedTo zm_X7_186 zl_47 rfl rfl (Nat.le_of_ble_eq_true rfl) zkn (c_X7_owedTo l  p1 s2) rfl (Nat.le_of_ble_eq_true rfl) rfl dX7_told_93 (fun r5 s6 => ?_)
      exact ze_iret hR dX7_told_96
    refine ze_case 7 (fun q12_7 => ?_) (fun q12_7 => ?_)
    · refine ze_tabIn h 97 dX7_told_12 (by decide) (by decide) rfl (by decide) ?_
      refine ze_aload_n h dX7_told_97 rfl ?_
      refine ze_iload_n h dX7_told_98 rfl ?_
      refine ze_callVi h (st := []) zce_X7_lentBy zi_X7_lentBy zs_X7_lentBy zm_X7_189 zl_47 rfl rfl (Nat.le_of_ble_eq_true rfl) zkn (c_X7_lentBy l  p1 s2) rfl (Nat.le_of_ble_eq_true rfl) rfl dX7_told_99 (fun r7 s8 => ?_)
      exact ze_iret hR dX7_told_102
    refine ze_tabOut h 103 dX7_told_12 (by have z0 := lv_neT q12_0 (a := 0) rfl; have z1 := lv_neT q12_1 (a := 1) rfl; have z2 := lv_neT q12_2 (a := 2) rfl; have z3 := lv_neT q12_3 (a := 3) rfl; have z4 := lv_neT q12_4 (a := 4) rfl; have z5 := lv_neT q12_5 (a := 5) rfl; have z6 := lv_neT q12_6 (a := 6) rfl; have z7 := lv_neT q12_7 (a := 7) rfl; omega) (by decide) ?_
    refine ze_bipush h (-7) dX7_told_103 zk_b_m7 ?_
    exact ze_iret hR dX7_told_105
  · refine ze_bipush h (-5) dX7_told_8 zk_b_m5 ?_
    exact ze_iret hR dX7_told_10
set_option maxRecDepth 20000 in
theorem c_X7_areCoalNights (l : Launch) (Λ : zLay) (p1 : Int32) (s0 : zMem) : zC l yX7_areCoalNights (.code yX7_areCoalNights cX7_areCoalNights 1 (some .boolean)) 2 [.int p1] Λ s0 (fun r : Int32 => some (.int r)) (f_X7_areCoalNights p1 s0) := by
  refine zC_of (own := RX7) rfl rfl (Nat.le_of_ble_eq_true rfl) [some (.int p1)] rfl (fun G T h hR => ?_)
  unfold f_X7_areCoalNights
  refine ze_iload_n h dX7_areCoalNights_0 rfl ?_
  refine ze_bipush h 101 dX7_areCoalNights_1 zk_b_101 ?_
  refine ze_ldc h zq_X7_185 dX7_areCoalNights_3 ?_
  refine ze_callSi h (st := []) zce_X7_in zt_X7_in zm_X7_87 (Nat.le_of_ble_eq_true rfl) zkn (c_X7_in l Λ p1 101 999999 s0) rfl (Nat.le_of_ble_eq_true rfl) rfl dX7_areCoalNights_5 (fun r1 s2 => ?_)
  refine ze_if_eq h 22 dX7_areCoalNights_8 (by decide) ?_ ?_
  · refine ze_iconst h 0 dX7_areCoalNights_22 zk_i_0 ?_
    exact ze_zret hR rfl dX7_areCoalNights_23
  · refine ze_iload_n h dX7_areCoalNights_11 rfl ?_
    refine ze_bipush h 100 dX7_areCoalNights_12 zk_b_100 ?_
    refine ze_irem h dX7_areCoalNights_14 (by decide) ?_
    refine ze_if_le h 22 dX7_areCoalNights_15 (by decide) ?_ ?_
    · refine ze_iconst h 0 dX7_areCoalNights_22 zk_i_0 ?_
      exact ze_zret hR rfl dX7_areCoalNights_23
    · refine ze_iconst h 1 dX7_areCoalNights_18 zk_i_1 ?_
      refine ze_goto h 23 dX7_areCoalNights_19 (by decide) ?_
      exact ze_zret hR rfl dX7_areCoalNights_23
set_option maxRecDepth 20000 in
theorem c_X7_mayLend (l : Launch)  (p1 : Int32) (p2 : Int32) (s0 : zMem) : zC l yX7_mayLend (.code yX7_mayLend cX7_mayLend 3 (some .boolean)) 1 [.ref 47, .int p1, .int p2] zFull s0 (fun r : Int32 => some (.int r)) (f_X7_mayLend p1 p2 s0) := by
  refine zC_of (own := RX7) rfl rfl (Nat.le_of_ble_eq_true rfl) [some (.ref 47), some (.int p1), some (.int p2)] rfl (fun G T h hR => ?_)
  unfold f_X7_mayLend
  refine ze_aload_n h dX7_mayLend_0 rfl ?_
  refine ze_getR h zl_47 rfl zf_X7_16 dX7_mayLend_1 ?_
  refine ze_iconst h 3 dX7_mayLend_4 zk_i_3 ?_
  refine ze_iload_n h dX7_mayLend_5 rfl ?_
  refine ze_imul h dX7_mayLend_6 ?_
  refine ze_iconst h 2 dX7_mayLend_7 zk_i_2 ?_
  refine ze_iadd h dX7_mayLend_8 ?_
  refine ze_ialdG h zl_50 dX7_mayLend_9 ?_
  refine ze_if_ne h 29 dX7_mayLend_10 (by decide) ?_ ?_
  · refine ze_iconst h 0 dX7_mayLend_29 zk_i_0 ?_
    exact ze_zret hR rfl dX7_mayLend_30
  · refine ze_aload_n h dX7_mayLend_13 rfl ?_
    refine ze_getR h zl_47 rfl zf_X7_16 dX7_mayLend_14 ?_
    refine ze_iconst h 3 dX7_mayLend_17 zk_i_3 ?_
    refine ze_iload_n h dX7_mayLend_18 rfl ?_
    refine ze_imul h dX7_mayLend_19 ?_
    refine ze_ialdG h zl_50 dX7_mayLend_20 ?_
    refine ze_iload_n h dX7_mayLend_21 rfl ?_
    refine ze_icmp_lt h 29 dX7_mayLend_22 (by decide) ?_ ?_
    · refine ze_iconst h 0 dX7_mayLend_29 zk_i_0 ?_
      exact ze_zret hR rfl dX7_mayLend_30
    · refine ze_iconst h 1 dX7_mayLend_25 zk_i_1 ?_
      refine ze_goto h 30 dX7_mayLend_26 (by decide) ?_
      exact ze_zret hR rfl dX7_mayLend_30
set_option maxRecDepth 20000 in
theorem c_X7_moves (l : Launch)  (p1 : Int32) (p2 : Int32) (p3 : Int32) (s0 : zMem) : zC l yX7_moves (.code yX7_moves cX7_moves 4 none) 2 [.ref 47, .int p1, .int p2, .int p3] zFull s0 (fun _ : Unit => none) (f_X7_moves p1 p2 p3 s0) := by
  refine zC_of (own := RX7) rfl rfl (Nat.le_of_ble_eq_true rfl) [some (.ref 47), some (.int p1), some (.int p2), some (.int p3)] rfl (fun G T h hR => ?_)
  unfold f_X7_moves
  refine ze_aload_n h dX7_moves_0 rfl ?_
  refine ze_getR h zl_47 rfl zf_X7_16 dX7_moves_1 ?_
  refine ze_iconst h 3 dX7_moves_4 zk_i_3 ?_
  refine ze_iload_n h dX7_moves_5 rfl ?_
  refine ze_imul h dX7_moves_6 ?_
  refine ze_dup2 h dX7_moves_7 rfl rfl ?_
  refine ze_ialdG h zl_50 dX7_moves_8 ?_
  refine ze_iload_n h dX7_moves_9 rfl ?_
  refine ze_isub h dX7_moves_10 ?_
  refine ze_iastG h zl_50 dX7_moves_11 ?_
  refine ze_nmS (fun s1 => ?_)
  refine ze_aload_n h dX7_moves_12 rfl ?_
  refine ze_getR h zl_47 rfl zf_X7_16 dX7_moves_13 ?_
  refine ze_iconst h 3 dX7_moves_16 zk_i_3 ?_
  refine ze_pc 17 rfl ?_
  refine ze_iload_n h dX7_moves_17 rfl ?_
  refine ze_imul h dX7_moves_18 ?_
  refine ze_aload_n h dX7_moves_19 rfl ?_
  refine ze_getR h zl_47 rfl zf_X7_16 dX7_moves_20 ?_
  refine ze_iconst h 3 dX7_moves_23 zk_i_3 ?_
  refine ze_iload_n h dX7_moves_24 rfl ?_
  refine ze_imul h dX7_moves_25 ?_
  refine ze_ialdG h zl_50 dX7_moves_26 ?_
  refine ze_iload_n h dX7_moves_27 rfl ?_
  refine ze_iadd h dX7_moves_28 ?_
  refine ze_iconst h 0 dX7_moves_29 zk_i_0 ?_
  refine ze_sipush h 9999 dX7_moves_30 zk_s_9999 ?_
  refine ze_callSi h (st := [.int (3 * p2), .ref 50]) zce_X7_within zt_X7_within zm_X7_176 (Nat.le_of_ble_eq_true rfl) zkn (c_X7_within l zFull ((s1 50 (zix (3 * p2))) + p3) 0 9999 s1) rfl (Nat.le_of_ble_eq_true rfl) rfl dX7_moves_33 (fun r2 s3 => ?_)
  refine ze_iastG h zl_50 dX7_moves_36 ?_
  refine ze_nmS (fun s4 => ?_)
  refine ze_pc 37 rfl ?_
  exact ze_vret hR dX7_moves_37
set_option maxRecDepth 20000 in
theorem c_X7_lends (l : Launch)  (p1 : Int32) (p2 : Int32) (p3 : Int32) (s0 : zMem) : zC l yX7_lends (.code yX7_lends cX7_lends 4 none) 3 [.ref 47, .int p1, .int p2, .int p3] zFull s0 (fun _ : Unit => none) (f_X7_lends p1 p2 p3 s0) := by
  refine zC_of (own := RX7) rfl rfl (Nat.le_of_ble_eq_true rfl) [some (.ref 47), some (.int p1), some (.int p2), some (.int p3)] rfl (fun G T h hR => ?_)
  unfold f_X7_lends
  refine ze_aload_n h dX7_lends_0 rfl ?_
  refine ze_getR h zl_47 rfl zf_X7_19 dX7_lends_1 ?_
  refine ze_aload_n h dX7_lends_4 rfl ?_
  refine ze_getI h zl_47 rfl zf_X7_91 dX7_lends_5 ?_
  refine ze_iload_n h dX7_lends_8 rfl ?_
  refine ze_iastG h zl_51 dX7_lends_9 ?_
  refine ze_nmS (fun s1 => ?_)
  refine ze_aload_n h dX7_lends_10 rfl ?_
  refine ze_getR h zl_47 rfl zf_X7_22 dX7_lends_11 ?_
  refine ze_aload_n h dX7_lends_14 rfl ?_
  refine ze_getI h zl_47 rfl zf_X7_91 dX7_lends_15 ?_
  refine ze_iload_n h dX7_lends_18 rfl ?_
  refine ze_iastG h zl_52 dX7_lends_19 ?_
  refine ze_nmS (fun s2 => ?_)
  refine ze_aload_n h dX7_lends_20 rfl ?_
  refine ze_pc 21 rfl ?_
  refine ze_getR h zl_47 rfl zf_X7_25 dX7_lends_21 ?_
  refine ze_aload_n h dX7_lends_24 rfl ?_
  refine ze_getI h zl_47 rfl zf_X7_91 dX7_lends_25 ?_
  refine ze_iload_n h dX7_lends_28 rfl ?_
  refine ze_bipush h 100 dX7_lends_29 zk_b_100 ?_
  refine ze_idiv h dX7_lends_31 (by decide) ?_
  refine ze_iastG h zl_53 dX7_lends_32 ?_
  refine ze_nmS (fun s3 => ?_)
  refine ze_aload_n h dX7_lends_33 rfl ?_
  refine ze_getR h zl_47 rfl zf_X7_28 dX7_lends_34 ?_
  refine ze_aload_n h dX7_lends_37 rfl ?_
  refine ze_getI h zl_47 rfl zf_X7_91 dX7_lends_38 ?_
  refine ze_aload_n h dX7_lends_41 rfl ?_
  refine ze_getI h zl_47 rfl zf_X7_94 dX7_lends_42 ?_
  refine ze_iload_n h dX7_lends_45 rfl ?_
  refine ze_pc 46 rfl ?_
  refine ze_bipush h 100 dX7_lends_46 zk_b_100 ?_
  refine ze_irem h dX7_lends_48 (by decide) ?_
  refine ze_iadd h dX7_lends_49 ?_
  refine ze_iastG h zl_54 dX7_lends_50 ?_
  refine ze_nmS (fun s4 => ?_)
  refine ze_aload_n h dX7_lends_51 rfl ?_
  refine ze_iload_n h dX7_lends_52 rfl ?_
  refine ze_iload_n h dX7_lends_53 rfl ?_
  refine ze_iload_n h dX7_lends_54 rfl ?_
  refine ze_bipush h 100 dX7_lends_55 zk_b_100 ?_
  refine ze_idiv h dX7_lends_57 (by decide) ?_
  refine ze_callVv h (st := []) zce_X7_moves zi_X7_moves zs_X7_moves zm_X7_192 zl_47 rfl rfl (Nat.le_of_ble_eq_true rfl) zkn (c_X7_moves l  p1 p2 (p3 / 100) s4) rfl (Nat.le_of_ble_eq_true rfl) rfl dX7_lends_58 (fun _ s6 => ?_)
  refine ze_aload_n h dX7_lends_61 rfl ?_
  refine ze_dup h dX7_lends_62 rfl ?_
  refine ze_getI h zl_47 rfl zf_X7_91 dX7_lends_63 ?_
  refine ze_pc 66 rfl ?_
  refine ze_iconst h 1 dX7_lends_66 zk_i_1 ?_
  refine ze_iadd h dX7_lends_67 ?_
  refine ze_putI h zl_47 rfl zf_X7_91 rfl rfl dX7_lends_68 ?_
  refine ze_nmS (fun s7 => ?_)
  exact ze_vret hR dX7_lends_71
set_option maxRecDepth 20000 in
theorem c_X7_lend (l : Launch)  (p1 : Int32) (p2 : Int32) (s0 : zMem) : zC l yX7_lend (.code yX7_lend cX7_lend 5 (some .int)) 4 [.ref 47, .int p1, .int p2] zFull s0 (fun r : Int32 => some (.int r)) (f_X7_lend p1 p2 s0) := by
  refine zC_of (own := RX7) rfl rfl (Nat.le_of_ble_eq_true rfl) [some (.ref 47), some (.int p1), some (.int p2), none, none] rfl (fun G T h hR => ?_)
  unfold f_X7_lend
  refine ze_iload_n h dX7_lend_0 rfl ?_
  refine ze_bipush h 10 dX7_lend_1 zk_b_10 ?_
  refine ze_idiv h dX7_lend_3 (by decide) ?_
  refine ze_nmI (fun x1 => ?_)
  refine ze_istore_n h [some (.ref 47), some (.int p1), some (.int p2), some (.int x1), none] dX7_lend_4 rfl (by decide) rfl ?_
  refine ze_iload_n h dX7_lend_5 rfl ?_
  refine ze_bipush h 10 dX7_lend_6 zk_b_10 ?_
  refine ze_irem h dX7_lend_8 (by decide) ?_
  refine ze_nmI (fun x2 => ?_)
  refine ze_istore h [some (.ref 47), some (.int p1), some (.int p2), some (.int x1), some (.int x2)] dX7_lend_9 rfl (by decide) rfl ?_
  refine ze_iload_n h dX7_lend_11 rfl ?_
  refine ze_iconst h 0 dX7_lend_12 zk_i_0 ?_
  refine ze_bipush h 55 dX7_lend_13 zk_b_55 ?_
  refine ze_callSi h (st := []) zce_X7_in zt_X7_in zm_X7_87 (Nat.le_of_ble_eq_true rfl) zkn (c_X7_in l zFull p1 0 55 s0) rfl (Nat.le_of_ble_eq_true rfl) rfl dX7_lend_15 (fun r3 s4 => ?_)
  refine ze_if_eq h 44 dX7_lend_18 (by decide) ?_ ?_
  · refine ze_bipush h (-5) dX7_lend_44 zk_b_m5 ?_
    exact ze_iret hR dX7_lend_46
  · refine ze_aload_n h dX7_lend_21 rfl ?_
    refine ze_iload_n h dX7_lend_22 rfl ?_
    refine ze_callVi h (st := []) zce_X7_isHut zi_X7_isHut zs_X7_isHut zm_X7_179 zl_47 rfl rfl (Nat.le_of_ble_eq_true rfl) zkn (c_X7_isHut l  x1 s4) rfl (Nat.le_of_ble_eq_true rfl) rfl dX7_lend_23 (fun r5 s6 => ?_)
    refine ze_if_eq h 44 dX7_lend_26 (by decide) ?_ ?_
    · refine ze_bipush h (-5) dX7_lend_44 zk_b_m5 ?_
      exact ze_iret hR dX7_lend_46
    · refine ze_aload_n h dX7_lend_29 rfl ?_
      refine ze_iload h dX7_lend_30 rfl ?_
      refine ze_callVi h (st := []) zce_X7_isHut zi_X7_isHut zs_X7_isHut zm_X7_179 zl_47 rfl rfl (Nat.le_of_ble_eq_true rfl) zkn (c_X7_isHut l  x2 s6) rfl (Nat.le_of_ble_eq_true rfl) rfl dX7_lend_32 (fun r7 s8 => ?_)
      refine ze_if_eq h 44 dX7_lend_35 (by decide) ?_ ?_
      · refine ze_bipush h (-5) dX7_lend_44 zk_b_m5 ?_
        exact ze_iret hR dX7_lend_46
      · refine ze_iload_n h dX7_lend_38 rfl ?_
        refine ze_iload h dX7_lend_39 rfl ?_
        refine ze_icmp_ne h 47 dX7_lend_41 (by decide) ?_ ?_
        · refine ze_iload_n h dX7_lend_47 rfl ?_
          refine ze_callSi h (st := []) zce_X7_areCoalNights zt_X7_areCoalNights zm_X7_196 (Nat.le_of_ble_eq_true rfl) zkn (c_X7_areCoalNights l zFull p2 s8) rfl (Nat.le_of_ble_eq_true rfl) rfl dX7_lend_48 (fun r9 s10 => ?_)
          refine ze_if_ne h 57 dX7_lend_51 (by decide) ?_ ?_
          · refine ze_aload_n h dX7_lend_57 rfl ?_
            refine ze_getI h zl_47 rfl zf_X7_91 dX7_lend_58 ?_
            refine ze_bipush h 10 dX7_lend_61 zk_b_10 ?_
            refine ze_icmp_ne h 69 dX7_lend_63 (by decide) ?_ ?_
            · refine ze_aload_n h dX7_lend_69 rfl ?_
              refine ze_iload_n h dX7_lend_70 rfl ?_
              refine ze_iload_n h dX7_lend_71 rfl ?_
              refine ze_bipush h 100 dX7_lend_72 zk_b_100 ?_
              refine ze_idiv h dX7_lend_74 (by decide) ?_
              refine ze_callVi h (st := []) zce_X7_mayLend zi_X7_mayLend zs_X7_mayLend zm_X7_199 zl_47 rfl rfl (Nat.le_of_ble_eq_true rfl) zkn (c_X7_mayLend l  x1 (p2 / 100) s10) rfl (Nat.le_of_ble_eq_true rfl) rfl dX7_lend_75 (fun r11 s12 => ?_)
              refine ze_if_ne h 84 dX7_lend_78 (by decide) ?_ ?_
              · refine ze_aload_n h dX7_lend_84 rfl ?_
                refine ze_iload_n h dX7_lend_85 rfl ?_
                refine ze_iload h dX7_lend_86 rfl ?_
                refine ze_iload_n h dX7_lend_88 rfl ?_
                refine ze_callVv h (st := []) zce_X7_lends zi_X7_lends zs_X7_lends zm_X7_203 zl_47 rfl rfl (Nat.le_of_ble_eq_true rfl) zkn (c_X7_lends l  x1 x2 p2 s12) rfl (Nat.le_of_ble_eq_true rfl) rfl dX7_lend_89 (fun _ s14 => ?_)
                refine ze_aload_n h dX7_lend_92 rfl ?_
                refine ze_getI h zl_47 rfl zf_X7_91 dX7_lend_93 ?_
                refine ze_iconst h 1 dX7_lend_96 zk_i_1 ?_
                refine ze_isub h dX7_lend_97 ?_
                exact ze_iret hR dX7_lend_98
              · refine ze_bipush h (-3) dX7_lend_81 zk_b_m3 ?_
                exact ze_iret hR dX7_lend_83
            · refine ze_bipush h (-4) dX7_lend_66 zk_b_m4 ?_
              exact ze_iret hR dX7_lend_68
          · refine ze_bipush h (-7) dX7_lend_54 zk_b_m7 ?_
            exact ze_iret hR dX7_lend_56
        · refine ze_bipush h (-5) dX7_lend_44 zk_b_m5 ?_
          exact ze_iret hR dX7_lend_46
set_option maxRecDepth 20000 in
theorem c_X7_loan (l : Launch)  (p1 : Int32) (p2 : Int32) (s0 : zMem) : zC l yX7_loan (.code yX7_loan cX7_loan 3 (some .int)) 3 [.ref 47, .int p1, .int p2] zFull s0 (fun r : Int32 => some (.int r)) (f_X7_loan p1 p2 s0) := by
  refine zC_of (own := RX7) rfl rfl (Nat.le_of_ble_eq_true rfl) [some (.ref 47), some (.int p1), some (.int p2)] rfl (fun G T h hR => ?_)
  unfold f_X7_loan
  refine ze_aload_n h dX7_loan_0 rfl ?_
  refine ze_iload_n h dX7_loan_1 rfl ?_
  refine ze_callVi h (st := []) zce_X7_isLoan zi_X7_isLoan zs_X7_isLoan zm_X7_206 zl_47 rfl rfl (Nat.le_of_ble_eq_true rfl) zkn (c_X7_isLoan l  p1 s0) rfl (Nat.le_of_ble_eq_true rfl) rfl dX7_loan_2 (fun r1 s2 => ?_)
  refine ze_if_ne h 11 dX7_loan_5 (by decide) ?_ ?_
  · refine ze_iload_n h dX7_loan_11 rfl ?_
    refine ze_case 0 (fun q12_0 => ?_) (fun q12_0 => ?_)
    · refine ze_tabIn h 44 dX7_loan_12 (by decide) (by decide) rfl (by decide) ?_
      refine ze_aload_n h dX7_loan_44 rfl ?_
      refine ze_getR h zl_47 rfl zf_X7_19 dX7_loan_45 ?_
      refine ze_iload_n h dX7_loan_48 rfl ?_
      refine ze_ialdG h zl_51 dX7_loan_49 ?_
      exact ze_iret hR dX7_loan_50
    refine ze_case 1 (fun q12_1 => ?_) (fun q12_1 => ?_)
    · refine ze_tabIn h 51 dX7_loan_12 (by decide) (by decide) rfl (by decide) ?_
      refine ze_aload_n h dX7_loan_51 rfl ?_
      refine ze_getR h zl_47 rfl zf_X7_22 dX7_loan_52 ?_
      refine ze_iload_n h dX7_loan_55 rfl ?_
      refine ze_ialdG h zl_52 dX7_loan_56 ?_
      exact ze_iret hR dX7_loan_57
    refine ze_case 2 (fun q12_2 => ?_) (fun q12_2 => ?_)
    · refine ze_tabIn h 58 dX7_loan_12 (by decide) (by decide) rfl (by decide) ?_
      refine ze_aload_n h dX7_loan_58 rfl ?_
      refine ze_getR h zl_47 rfl zf_X7_25 dX7_loan_59 ?_
      refine ze_iload_n h dX7_loan_62 rfl ?_
      refine ze_ialdG h zl_53 dX7_loan_63 ?_
      exact ze_iret hR dX7_loan_64
    refine ze_case 3 (fun q12_3 => ?_) (fun q12_3 => ?_)
    · refine ze_tabIn h 65 dX7_loan_12 (by decide) (by decide) rfl (by decide) ?_
      refine ze_aload_n h dX7_loan_65 rfl ?_
      refine ze_getR h zl_47 rfl zf_X7_28 dX7_loan_66 ?_
      refine ze_iload_n h dX7_loan_69 rfl ?_
      refine ze_ialdG h zl_54 dX7_loan_70 ?_
      exact ze_iret hR dX7_loan_71
    refine ze_tabOut h 72 dX7_loan_12 (by have z0 := lv_neT q12_0 (a := 0) rfl; have z1 := lv_neT q12_1 (a := 1) rfl; have z2 := lv_neT q12_2 (a := 2) rfl; have z3 := lv_neT q12_3 (a := 3) rfl; omega) (by decide) ?_
    refine ze_bipush h (-7) dX7_loan_72 zk_b_m7 ?_
    exact ze_iret hR dX7_loan_74
  · refine ze_bipush h (-5) dX7_loan_8 zk_b_m5 ?_
    exact ze_iret hR dX7_loan_10
set_option maxRecDepth 20000 in
theorem e_X7_drops_2 {l : Launch} {G : zGT} {T : Option Value × zMem} (h : zOk G l cX7_drops RX7 3 1 0 0 false) (hR : zR G cX7_drops none T zFull 0 0)  (c74 : zMem → Option (Unit × zMem)) (hc74 : ∀ (s9 : zMem), zE G T (fun _ : Unit => none) zFull 0 0 74 [some (.ref 47), none, none] [] s9 (c74 s9)) : ∀ (n : Nat) (x1 : Int32) (s2 : zMem), zE G T (fun _ : Unit => none) zFull 0 0 2 [some (.ref 47), none, some (.int x1)] [] s2 (f_X7_drops_2 c74 n x1 s2) := by
  intro n
  induction n with
  | zero => intro _ _; exact ze_none
  | succ n ih =>
    intro x1 s2
    rw [f_X7_drops_2]
    refine ze_iload_n h dX7_drops_2 rfl ?_
    refine ze_iconst h 1 dX7_drops_3 zk_i_1 ?_
    refine ze_iadd h dX7_drops_4 ?_
    refine ze_aload_n h dX7_drops_5 rfl ?_
    refine ze_getI h zl_47 rfl zf_X7_91 dX7_drops_6 ?_
    refine ze_icmp_ge h 74 dX7_drops_9 (by decide) ?_ ?_
    · refine zE_weak h [true, false, false] rfl ?_
      exact hc74 s2
    · refine ze_aload_n h dX7_drops_12 rfl ?_
      refine ze_getR h zl_47 rfl zf_X7_19 dX7_drops_13 ?_
      refine ze_iload_n h dX7_drops_16 rfl ?_
      refine ze_aload_n h dX7_drops_17 rfl ?_
      refine ze_getR h zl_47 rfl zf_X7_19 dX7_drops_18 ?_
      refine ze_iload_n h dX7_drops_21 rfl ?_
      refine ze_iconst h 1 dX7_drops_22 zk_i_1 ?_
      refine ze_iadd h dX7_drops_23 ?_
      refine ze_ialdG h zl_51 dX7_drops_24 ?_
      refine ze_iastG h zl_51 dX7_drops_25 ?_
      refine ze_nmS (fun s3 => ?_)
      refine ze_aload_n h dX7_drops_26 rfl ?_
      refine ze_getR h zl_47 rfl zf_X7_22 dX7_drops_27 ?_
      refine ze_iload_n h dX7_drops_30 rfl ?_
      refine ze_pc 31 rfl ?_
      refine ze_aload_n h dX7_drops_31 rfl ?_
      refine ze_getR h zl_47 rfl zf_X7_22 dX7_drops_32 ?_
      refine ze_iload_n h dX7_drops_35 rfl ?_
      refine ze_iconst h 1 dX7_drops_36 zk_i_1 ?_
      refine ze_iadd h dX7_drops_37 ?_
      refine ze_ialdG h zl_52 dX7_drops_38 ?_
      refine ze_iastG h zl_52 dX7_drops_39 ?_
      refine ze_nmS (fun s4 => ?_)
      refine ze_aload_n h dX7_drops_40 rfl ?_
      refine ze_getR h zl_47 rfl zf_X7_25 dX7_drops_41 ?_
      refine ze_iload_n h dX7_drops_44 rfl ?_
      refine ze_aload_n h dX7_drops_45 rfl ?_
      refine ze_getR h zl_47 rfl zf_X7_25 dX7_drops_46 ?_
      refine ze_iload_n h dX7_drops_49 rfl ?_
      refine ze_iconst h 1 dX7_drops_50 zk_i_1 ?_
      refine ze_pc 51 rfl ?_
      refine ze_iadd h dX7_drops_51 ?_
      refine ze_ialdG h zl_53 dX7_drops_52 ?_
      refine ze_iastG h zl_53 dX7_drops_53 ?_
      refine ze_nmS (fun s5 => ?_)
      refine ze_aload_n h dX7_drops_54 rfl ?_
      refine ze_getR h zl_47 rfl zf_X7_28 dX7_drops_55 ?_
      refine ze_iload_n h dX7_drops_58 rfl ?_
      refine ze_aload_n h dX7_drops_59 rfl ?_
      refine ze_getR h zl_47 rfl zf_X7_28 dX7_drops_60 ?_
      refine ze_iload_n h dX7_drops_63 rfl ?_
      refine ze_iconst h 1 dX7_drops_64 zk_i_1 ?_
      refine ze_iadd h dX7_drops_65 ?_
      refine ze_ialdG h zl_54 dX7_drops_66 ?_
      refine ze_iastG h zl_54 dX7_drops_67 ?_
      refine ze_nmS (fun s6 => ?_)
      refine ze_iincN h (fun y9 => [some (.ref 47), none, some (.int y9)]) 1 dX7_drops_68 rfl zk_i_1 rfl (by decide) (fun _ => rfl) (fun x7 => ?_)
      refine ze_pc 71 rfl ?_
      refine ze_goto h 2 dX7_drops_71 (by decide) ?_
      exact ih x7 s6
set_option maxRecDepth 20000 in
theorem c_X7_drops (l : Launch)  (p1 : Int32) (s0 : zMem) : zC l yX7_drops (.code yX7_drops cX7_drops 3 none) 1 [.ref 47, .int p1] zFull s0 (fun _ : Unit => none) (f_X7_drops p1 s0) := by
  refine zC_of (own := RX7) rfl rfl (Nat.le_of_ble_eq_true rfl) [some (.ref 47), some (.int p1), none] rfl (fun G T h hR => ?_)
  unfold f_X7_drops
  refine ze_iload_n h dX7_drops_0 rfl ?_
  refine ze_istore_n h [some (.ref 47), some (.int p1), some (.int p1)] dX7_drops_1 rfl (by decide) rfl ?_
  refine zE_weak h [true, false, true] rfl ?_
  refine e_X7_drops_2 h hR _ ?_ zN p1 s0
  · intro s8
    refine ze_aload_n h dX7_drops_74 rfl ?_
    refine ze_dup h dX7_drops_75 rfl ?_
    refine ze_getI h zl_47 rfl zf_X7_91 dX7_drops_76 ?_
    refine ze_iconst h 1 dX7_drops_79 zk_i_1 ?_
    refine ze_isub h dX7_drops_80 ?_
    refine ze_putI h zl_47 rfl zf_X7_91 rfl rfl dX7_drops_81 ?_
    refine ze_nmS (fun s9 => ?_)
    exact ze_vret hR dX7_drops_84
set_option maxRecDepth 20000 in
theorem c_X7_repay (l : Launch)  (p1 : Int32) (s0 : zMem) : zC l yX7_repay (.code yX7_repay cX7_repay 3 (some .int)) 3 [.ref 47, .int p1] zFull s0 (fun r : Int32 => some (.int r)) (f_X7_repay p1 s0) := by
  refine zC_of (own := RX7) rfl rfl (Nat.le_of_ble_eq_true rfl) [some (.ref 47), some (.int p1), none] rfl (fun G T h hR => ?_)
  unfold f_X7_repay
  refine ze_aload_n h dX7_repay_0 rfl ?_
  refine ze_iload_n h dX7_repay_1 rfl ?_
  refine ze_callVi h (st := []) zce_X7_isLoan zi_X7_isLoan zs_X7_isLoan zm_X7_206 zl_47 rfl rfl (Nat.le_of_ble_eq_true rfl) zkn (c_X7_isLoan l  p1 s0) rfl (Nat.le_of_ble_eq_true rfl) rfl dX7_repay_2 (fun r1 s2 => ?_)
  refine ze_if_ne h 11 dX7_repay_5 (by decide) ?_ ?_
  · refine ze_aload_n h dX7_repay_11 rfl ?_
    refine ze_getR h zl_47 rfl zf_X7_25 dX7_repay_12 ?_
    refine ze_iload_n h dX7_repay_15 rfl ?_
    refine ze_ialdG h zl_53 dX7_repay_16 ?_
    refine ze_nmI (fun x3 => ?_)
    refine ze_istore_n h [some (.ref 47), some (.int p1), some (.int x3)] dX7_repay_17 rfl (by decide) rfl ?_
    refine ze_aload_n h dX7_repay_18 rfl ?_
    refine ze_getR h zl_47 rfl zf_X7_16 dX7_repay_19 ?_
    refine ze_iconst h 3 dX7_repay_22 zk_i_3 ?_
    refine ze_aload_n h dX7_repay_23 rfl ?_
    refine ze_getR h zl_47 rfl zf_X7_22 dX7_repay_24 ?_
    refine ze_iload_n h dX7_repay_27 rfl ?_
    refine ze_ialdG h zl_52 dX7_repay_28 ?_
    refine ze_imul h dX7_repay_29 ?_
    refine ze_pc 30 rfl ?_
    refine ze_ialdG h zl_50 dX7_repay_30 ?_
    refine ze_iload_n h dX7_repay_31 rfl ?_
    refine ze_icmp_ge h 38 dX7_repay_32 (by decide) ?_ ?_
    · refine ze_aload_n h dX7_repay_38 rfl ?_
      refine ze_aload_n h dX7_repay_39 rfl ?_
      refine ze_getR h zl_47 rfl zf_X7_22 dX7_repay_40 ?_
      refine ze_iload_n h dX7_repay_43 rfl ?_
      refine ze_ialdG h zl_52 dX7_repay_44 ?_
      refine ze_aload_n h dX7_repay_45 rfl ?_
      refine ze_getR h zl_47 rfl zf_X7_19 dX7_repay_46 ?_
      refine ze_iload_n h dX7_repay_49 rfl ?_
      refine ze_ialdG h zl_51 dX7_repay_50 ?_
      refine ze_iload_n h dX7_repay_51 rfl ?_
      refine ze_callVv h (st := []) zce_X7_moves zi_X7_moves zs_X7_moves zm_X7_192 zl_47 rfl rfl (Nat.le_of_ble_eq_true rfl) zkn (c_X7_moves l  (s2 52 (zix p1)) (s2 51 (zix p1)) x3 s2) rfl (Nat.le_of_ble_eq_true rfl) rfl dX7_repay_52 (fun _ s5 => ?_)
      refine ze_aload_n h dX7_repay_55 rfl ?_
      refine ze_iload_n h dX7_repay_56 rfl ?_
      refine ze_pc 57 rfl ?_
      refine ze_callVv h (st := []) zce_X7_drops zi_X7_drops zs_X7_drops zm_X7_209 zl_47 rfl rfl (Nat.le_of_ble_eq_true rfl) zkn (c_X7_drops l  p1 s5) rfl (Nat.le_of_ble_eq_true rfl) rfl dX7_repay_57 (fun _ s7 => ?_)
      refine ze_iload_n h dX7_repay_60 rfl ?_
      exact ze_iret hR dX7_repay_61
    · refine ze_bipush h (-3) dX7_repay_35 zk_b_m3 ?_
      exact ze_iret hR dX7_repay_37
  · refine ze_bipush h (-5) dX7_repay_8 zk_b_m5 ?_
    exact ze_iret hR dX7_repay_10
set_option maxRecDepth 20000 in
theorem c_X7_forgive (l : Launch)  (p1 : Int32) (s0 : zMem) : zC l yX7_forgive (.code yX7_forgive cX7_forgive 3 (some .int)) 3 [.ref 47, .int p1] zFull s0 (fun r : Int32 => some (.int r)) (f_X7_forgive p1 s0) := by
  refine zC_of (own := RX7) rfl rfl (Nat.le_of_ble_eq_true rfl) [some (.ref 47), some (.int p1), none] rfl (fun G T h hR => ?_)
  unfold f_X7_forgive
  refine ze_aload_n h dX7_forgive_0 rfl ?_
  refine ze_iload_n h dX7_forgive_1 rfl ?_
  refine ze_callVi h (st := []) zce_X7_isLoan zi_X7_isLoan zs_X7_isLoan zm_X7_206 zl_47 rfl rfl (Nat.le_of_ble_eq_true rfl) zkn (c_X7_isLoan l  p1 s0) rfl (Nat.le_of_ble_eq_true rfl) rfl dX7_forgive_2 (fun r1 s2 => ?_)
  refine ze_if_ne h 11 dX7_forgive_5 (by decide) ?_ ?_
  · refine ze_aload_n h dX7_forgive_11 rfl ?_
    refine ze_getR h zl_47 rfl zf_X7_25 dX7_forgive_12 ?_
    refine ze_iload_n h dX7_forgive_15 rfl ?_
    refine ze_ialdG h zl_53 dX7_forgive_16 ?_
    refine ze_nmI (fun x3 => ?_)
    refine ze_istore_n h [some (.ref 47), some (.int p1), some (.int x3)] dX7_forgive_17 rfl (by decide) rfl ?_
    refine ze_aload_n h dX7_forgive_18 rfl ?_
    refine ze_iload_n h dX7_forgive_19 rfl ?_
    refine ze_callVv h (st := []) zce_X7_drops zi_X7_drops zs_X7_drops zm_X7_209 zl_47 rfl rfl (Nat.le_of_ble_eq_true rfl) zkn (c_X7_drops l  p1 s2) rfl (Nat.le_of_ble_eq_true rfl) rfl dX7_forgive_20 (fun _ s5 => ?_)
    refine ze_iload_n h dX7_forgive_23 rfl ?_
    exact ze_iret hR dX7_forgive_24
  · refine ze_bipush h (-5) dX7_forgive_8 zk_b_m5 ?_
    exact ze_iret hR dX7_forgive_10
set_option maxRecDepth 20000 in
theorem c_X7_growsOf (l : Launch)  (p1 : Int32) (p2 : Int32) (s0 : zMem) : zC l yX7_growsOf (.code yX7_growsOf cX7_growsOf 4 (some .int)) 4 [.ref 47, .int p1, .int p2] zFull s0 (fun r : Int32 => some (.int r)) (f_X7_growsOf p1 p2 s0) := by
  refine zC_of (own := RX7) rfl rfl (Nat.le_of_ble_eq_true rfl) [some (.ref 47), some (.int p1), some (.int p2), none] rfl (fun G T h hR => ?_)
  unfold f_X7_growsOf
  refine ze_aload_n h dX7_growsOf_0 rfl ?_
  refine ze_iconst h 0 dX7_growsOf_1 zk_i_0 ?_
  refine ze_iload_n h dX7_growsOf_2 rfl ?_
  refine ze_iload_n h dX7_growsOf_3 rfl ?_
  refine ze_callVi h (st := []) zce_X7_asksOf zi_X7_asksOf zs_X7_asksOf zm_X7_182 zl_47 rfl rfl (Nat.le_of_ble_eq_true rfl) zkn (c_X7_asksOf l  0 p1 p2 s0) rfl (Nat.le_of_ble_eq_true rfl) rfl dX7_growsOf_4 (fun r1 s2 => ?_)
  refine ze_istore_n h [some (.ref 47), some (.int p1), some (.int p2), some (.int r1)] dX7_growsOf_7 rfl (by decide) rfl ?_
  refine ze_aload_n h dX7_growsOf_8 rfl ?_
  refine ze_getR h zl_47 rfl zf_X7_7 dX7_growsOf_9 ?_
  refine ze_iload_n h dX7_growsOf_12 rfl ?_
  refine ze_ialdG h zl_48 dX7_growsOf_13 ?_
  refine ze_nmI (fun x3 => ?_)
  refine ze_case 1 (fun q14_0 => ?_) (fun q14_0 => ?_)
  · refine ze_tabIn h 48 dX7_growsOf_14 (by decide) (by decide) rfl (by decide) ?_
    refine ze_iload_n h dX7_growsOf_48 rfl ?_
    refine ze_bipush h 50 dX7_growsOf_49 zk_b_50 ?_
    refine ze_icmp_le h 65 dX7_growsOf_51 (by decide) ?_ ?_
    · refine ze_iload_n h dX7_growsOf_65 rfl ?_
      exact ze_iret hR dX7_growsOf_66
    · refine ze_iload_n h dX7_growsOf_54 rfl ?_
      refine ze_aload_n h dX7_growsOf_55 rfl ?_
      refine ze_getR h zl_47 rfl zf_X7_13 dX7_growsOf_56 ?_
      refine ze_iload_n h dX7_growsOf_59 rfl ?_
      refine ze_ialdG h zl_49 dX7_growsOf_60 ?_
      refine ze_iadd h dX7_growsOf_61 ?_
      refine ze_goto h 66 dX7_growsOf_62 (by decide) ?_
      exact ze_iret hR dX7_growsOf_66
  refine ze_case 2 (fun q14_1 => ?_) (fun q14_1 => ?_)
  · refine ze_tabIn h 75 dX7_growsOf_14 (by decide) (by decide) rfl (by decide) ?_
    refine ze_iload_n h dX7_growsOf_75 rfl ?_
    exact ze_iret hR dX7_growsOf_76
  refine ze_case 3 (fun q14_2 => ?_) (fun q14_2 => ?_)
  · refine ze_tabIn h 48 dX7_growsOf_14 (by decide) (by decide) rfl (by decide) ?_
    refine ze_iload_n h dX7_growsOf_48 rfl ?_
    refine ze_bipush h 50 dX7_growsOf_49 zk_b_50 ?_
    refine ze_icmp_le h 65 dX7_growsOf_51 (by decide) ?_ ?_
    · refine ze_iload_n h dX7_growsOf_65 rfl ?_
      exact ze_iret hR dX7_growsOf_66
    · refine ze_iload_n h dX7_growsOf_54 rfl ?_
      refine ze_aload_n h dX7_growsOf_55 rfl ?_
      refine ze_getR h zl_47 rfl zf_X7_13 dX7_growsOf_56 ?_
      refine ze_iload_n h dX7_growsOf_59 rfl ?_
      refine ze_ialdG h zl_49 dX7_growsOf_60 ?_
      refine ze_iadd h dX7_growsOf_61 ?_
      refine ze_goto h 66 dX7_growsOf_62 (by decide) ?_
      exact ze_iret hR dX7_growsOf_66
  refine ze_case 4 (fun q14_3 => ?_) (fun q14_3 => ?_)
  · refine ze_tabIn h 67 dX7_growsOf_14 (by decide) (by decide) rfl (by decide) ?_
    refine ze_iconst h 2 dX7_growsOf_67 zk_i_2 ?_
    refine ze_iload_n h dX7_growsOf_68 rfl ?_
    refine ze_imul h dX7_growsOf_69 ?_
    refine ze_iconst h 1 dX7_growsOf_70 zk_i_1 ?_
    refine ze_iadd h dX7_growsOf_71 ?_
    exact ze_iret hR dX7_growsOf_72
  refine ze_case 5 (fun q14_4 => ?_) (fun q14_4 => ?_)
  · refine ze_tabIn h 73 dX7_growsOf_14 (by decide) (by decide) rfl (by decide) ?_
    refine ze_iconst h 0 dX7_growsOf_73 zk_i_0 ?_
    exact ze_iret hR dX7_growsOf_74
  refine ze_tabOut h 75 dX7_growsOf_14 (by have z0 := lv_neT q14_0 (a := 1) rfl; have z1 := lv_neT q14_1 (a := 2) rfl; have z2 := lv_neT q14_2 (a := 3) rfl; have z3 := lv_neT q14_3 (a := 4) rfl; have z4 := lv_neT q14_4 (a := 5) rfl; omega) (by decide) ?_
  refine ze_iload_n h dX7_growsOf_75 rfl ?_
  exact ze_iret hR dX7_growsOf_76
set_option maxRecDepth 20000 in
theorem c_X7_coolsOf (l : Launch)  (p1 : Int32) (s0 : zMem) : zC l yX7_coolsOf (.code yX7_coolsOf cX7_coolsOf 4 (some .int)) 4 [.ref 47, .int p1] zFull s0 (fun r : Int32 => some (.int r)) (f_X7_coolsOf p1 s0) := by
  refine zC_of (own := RX7) rfl rfl (Nat.le_of_ble_eq_true rfl) [some (.ref 47), some (.int p1), none, none] rfl (fun G T h hR => ?_)
  unfold f_X7_coolsOf
  refine ze_aload_n h dX7_coolsOf_0 rfl ?_
  refine ze_iconst h 1 dX7_coolsOf_1 zk_i_1 ?_
  refine ze_iload_n h dX7_coolsOf_2 rfl ?_
  refine ze_iconst h 0 dX7_coolsOf_3 zk_i_0 ?_
  refine ze_callVi h (st := []) zce_X7_asksOf zi_X7_asksOf zs_X7_asksOf zm_X7_182 zl_47 rfl rfl (Nat.le_of_ble_eq_true rfl) zkn (c_X7_asksOf l  1 p1 0 s0) rfl (Nat.le_of_ble_eq_true rfl) rfl dX7_coolsOf_4 (fun r1 s2 => ?_)
  refine ze_istore_n h [some (.ref 47), some (.int p1), some (.int r1), none] dX7_coolsOf_7 rfl (by decide) rfl ?_
  refine ze_aload_n h dX7_coolsOf_8 rfl ?_
  refine ze_getR h zl_47 rfl zf_X7_16 dX7_coolsOf_9 ?_
  refine ze_iconst h 3 dX7_coolsOf_12 zk_i_3 ?_
  refine ze_iload_n h dX7_coolsOf_13 rfl ?_
  refine ze_imul h dX7_coolsOf_14 ?_
  refine ze_ialdG h zl_50 dX7_coolsOf_15 ?_
  refine ze_nmI (fun x3 => ?_)
  refine ze_istore_n h [some (.ref 47), some (.int p1), some (.int r1), some (.int x3)] dX7_coolsOf_16 rfl (by decide) rfl ?_
  refine ze_pc 17 rfl ?_
  refine ze_aload_n h dX7_coolsOf_17 rfl ?_
  refine ze_getR h zl_47 rfl zf_X7_7 dX7_coolsOf_18 ?_
  refine ze_iload_n h dX7_coolsOf_21 rfl ?_
  refine ze_ialdG h zl_48 dX7_coolsOf_22 ?_
  refine ze_nmI (fun x4 => ?_)
  refine ze_case 1 (fun q23_0 => ?_) (fun q23_0 => ?_)
  · refine ze_tabIn h 52 dX7_coolsOf_23 (by decide) (by decide) rfl (by decide) ?_
    refine ze_iload_n h dX7_coolsOf_52 rfl ?_
    refine ze_iconst h 2 dX7_coolsOf_53 zk_i_2 ?_
    refine ze_idiv h dX7_coolsOf_54 (by decide) ?_
    exact ze_iret hR dX7_coolsOf_55
  refine ze_case 2 (fun q23_1 => ?_) (fun q23_1 => ?_)
  · refine ze_tabIn h 56 dX7_coolsOf_23 (by decide) (by decide) rfl (by decide) ?_
    refine ze_iload_n h dX7_coolsOf_56 rfl ?_
    refine ze_iload_n h dX7_coolsOf_57 rfl ?_
    refine ze_bipush h 20 dX7_coolsOf_58 zk_b_20 ?_
    refine ze_idiv h dX7_coolsOf_60 (by decide) ?_
    refine ze_iadd h dX7_coolsOf_61 ?_
    exact ze_iret hR dX7_coolsOf_62
  refine ze_case 3 (fun q23_2 => ?_) (fun q23_2 => ?_)
  · refine ze_tabIn h 63 dX7_coolsOf_23 (by decide) (by decide) rfl (by decide) ?_
    refine ze_iload_n h dX7_coolsOf_63 rfl ?_
    refine ze_sipush h 200 dX7_coolsOf_64 zk_s_200 ?_
    refine ze_icmp_le h 74 dX7_coolsOf_67 (by decide) ?_ ?_
    · refine ze_iload_n h dX7_coolsOf_74 rfl ?_
      refine ze_iconst h 2 dX7_coolsOf_75 zk_i_2 ?_
      refine ze_idiv h dX7_coolsOf_76 (by decide) ?_
      exact ze_iret hR dX7_coolsOf_77
    · refine ze_iload_n h dX7_coolsOf_70 rfl ?_
      refine ze_goto h 77 dX7_coolsOf_71 (by decide) ?_
      exact ze_iret hR dX7_coolsOf_77
  refine ze_case 4 (fun q23_3 => ?_) (fun q23_3 => ?_)
  · refine ze_tabIn h 56 dX7_coolsOf_23 (by decide) (by decide) rfl (by decide) ?_
    refine ze_iload_n h dX7_coolsOf_56 rfl ?_
    refine ze_iload_n h dX7_coolsOf_57 rfl ?_
    refine ze_bipush h 20 dX7_coolsOf_58 zk_b_20 ?_
    refine ze_idiv h dX7_coolsOf_60 (by decide) ?_
    refine ze_iadd h dX7_coolsOf_61 ?_
    exact ze_iret hR dX7_coolsOf_62
  refine ze_tabOut h 78 dX7_coolsOf_23 (by have z0 := lv_neT q23_0 (a := 1) rfl; have z1 := lv_neT q23_1 (a := 2) rfl; have z2 := lv_neT q23_2 (a := 3) rfl; have z3 := lv_neT q23_3 (a := 4) rfl; omega) (by decide) ?_
  refine ze_iload_n h dX7_coolsOf_78 rfl ?_
  exact ze_iret hR dX7_coolsOf_79
set_option maxRecDepth 20000 in
theorem c_X7_burnsOf (l : Launch)  (p1 : Int32) (s0 : zMem) : zC l yX7_burnsOf (.code yX7_burnsOf cX7_burnsOf 3 (some .int)) 4 [.ref 47, .int p1] zFull s0 (fun r : Int32 => some (.int r)) (f_X7_burnsOf p1 s0) := by
  refine zC_of (own := RX7) rfl rfl (Nat.le_of_ble_eq_true rfl) [some (.ref 47), some (.int p1), none] rfl (fun G T h hR => ?_)
  unfold f_X7_burnsOf
  refine ze_aload_n h dX7_burnsOf_0 rfl ?_
  refine ze_iconst h 2 dX7_burnsOf_1 zk_i_2 ?_
  refine ze_iload_n h dX7_burnsOf_2 rfl ?_
  refine ze_iconst h 0 dX7_burnsOf_3 zk_i_0 ?_
  refine ze_callVi h (st := []) zce_X7_asksOf zi_X7_asksOf zs_X7_asksOf zm_X7_182 zl_47 rfl rfl (Nat.le_of_ble_eq_true rfl) zkn (c_X7_asksOf l  2 p1 0 s0) rfl (Nat.le_of_ble_eq_true rfl) rfl dX7_burnsOf_4 (fun r1 s2 => ?_)
  refine ze_istore_n h [some (.ref 47), some (.int p1), some (.int r1)] dX7_burnsOf_7 rfl (by decide) rfl ?_
  refine ze_aload_n h dX7_burnsOf_8 rfl ?_
  refine ze_getR h zl_47 rfl zf_X7_7 dX7_burnsOf_9 ?_
  refine ze_iload_n h dX7_burnsOf_12 rfl ?_
  refine ze_ialdG h zl_48 dX7_burnsOf_13 ?_
  refine ze_nmI (fun x3 => ?_)
  refine ze_case 2 (fun q14_0 => ?_) (fun q14_0 => ?_)
  · refine ze_tabIn h 44 dX7_burnsOf_14 (by decide) (by decide) rfl (by decide) ?_
    refine ze_iconst h 2 dX7_burnsOf_44 zk_i_2 ?_
    refine ze_iload_n h dX7_burnsOf_45 rfl ?_
    refine ze_imul h dX7_burnsOf_46 ?_
    exact ze_iret hR dX7_burnsOf_47
  refine ze_case 3 (fun q14_1 => ?_) (fun q14_1 => ?_)
  · refine ze_tabIn h 48 dX7_burnsOf_14 (by decide) (by decide) rfl (by decide) ?_
    refine ze_iload_n h dX7_burnsOf_48 rfl ?_
    refine ze_aload_n h dX7_burnsOf_49 rfl ?_
    refine ze_getR h zl_47 rfl zf_X7_13 dX7_burnsOf_50 ?_
    refine ze_iload_n h dX7_burnsOf_53 rfl ?_
    refine ze_ialdG h zl_49 dX7_burnsOf_54 ?_
    refine ze_iadd h dX7_burnsOf_55 ?_
    exact ze_iret hR dX7_burnsOf_56
  refine ze_case 4 (fun q14_2 => ?_) (fun q14_2 => ?_)
  · refine ze_tabIn h 57 dX7_burnsOf_14 (by decide) (by decide) rfl (by decide) ?_
    refine ze_aload_n h dX7_burnsOf_57 rfl ?_
    refine ze_getI h zl_47 rfl zf_X7_94 dX7_burnsOf_58 ?_
    refine ze_aload_n h dX7_burnsOf_61 rfl ?_
    refine ze_getR h zl_47 rfl zf_X7_13 dX7_burnsOf_62 ?_
    refine ze_iload_n h dX7_burnsOf_65 rfl ?_
    refine ze_ialdG h zl_49 dX7_burnsOf_66 ?_
    refine ze_icmp_ge h 74 dX7_burnsOf_67 (by decide) ?_ ?_
    · refine ze_iconst h 2 dX7_burnsOf_74 zk_i_2 ?_
      refine ze_iload_n h dX7_burnsOf_75 rfl ?_
      refine ze_imul h dX7_burnsOf_76 ?_
      exact ze_iret hR dX7_burnsOf_77
    · refine ze_iconst h 0 dX7_burnsOf_70 zk_i_0 ?_
      refine ze_goto h 77 dX7_burnsOf_71 (by decide) ?_
      exact ze_iret hR dX7_burnsOf_77
  refine ze_case 5 (fun q14_3 => ?_) (fun q14_3 => ?_)
  · refine ze_tabIn h 78 dX7_burnsOf_14 (by decide) (by decide) rfl (by decide) ?_
    refine ze_aload_n h dX7_burnsOf_78 rfl ?_
    refine ze_getI h zl_47 rfl zf_X7_94 dX7_burnsOf_79 ?_
    refine ze_iconst h 2 dX7_burnsOf_82 zk_i_2 ?_
    refine ze_irem h dX7_burnsOf_83 (by decide) ?_
    refine ze_iconst h 1 dX7_burnsOf_84 zk_i_1 ?_
    refine ze_icmp_ne h 93 dX7_burnsOf_85 (by decide) ?_ ?_
    · refine ze_iconst h 0 dX7_burnsOf_93 zk_i_0 ?_
      exact ze_iret hR dX7_burnsOf_94
    · refine ze_bipush h 30 dX7_burnsOf_88 zk_b_30 ?_
      refine ze_goto h 94 dX7_burnsOf_90 (by decide) ?_
      exact ze_iret hR dX7_burnsOf_94
  refine ze_tabOut h 95 dX7_burnsOf_14 (by have z0 := lv_neT q14_0 (a := 2) rfl; have z1 := lv_neT q14_1 (a := 3) rfl; have z2 := lv_neT q14_2 (a := 4) rfl; have z3 := lv_neT q14_3 (a := 5) rfl; omega) (by decide) ?_
  refine ze_iload_n h dX7_burnsOf_95 rfl ?_
  exact ze_iret hR dX7_burnsOf_96
set_option maxRecDepth 20000 in
theorem e_X7_hearth_97 {l : Launch} {G : zGT} {T : Option Value × zMem} (h : zOk G l cX7_hearth RX7 3 5 0 0 false) (hR : zR G cX7_hearth none T zFull 0 0)   : ∀ (x1 : Int32) (s2 : zMem), zE G T (fun _ : Unit => none) zFull 0 0 97 [some (.ref 47), some (.int x1), none] [] s2 (f_X7_hearth_97  x1 s2) := by
  intro x1 s2
  unfold f_X7_hearth_97
  refine ze_aload_n h dX7_hearth_97 rfl ?_
  refine ze_getR h zl_47 rfl zf_X7_16 dX7_hearth_98 ?_
  refine ze_iconst h 3 dX7_hearth_101 zk_i_3 ?_
  refine ze_iload_n h dX7_hearth_102 rfl ?_
  refine ze_imul h dX7_hearth_103 ?_
  refine ze_ialdG h zl_50 dX7_hearth_104 ?_
  refine ze_aload_n h dX7_hearth_105 rfl ?_
  refine ze_iload_n h dX7_hearth_106 rfl ?_
  refine ze_callVi h (st := [.int (s2 50 (zix (3 * x1)))]) zce_X7_coolsOf zi_X7_coolsOf zs_X7_coolsOf zm_X7_215 zl_47 rfl rfl (Nat.le_of_ble_eq_true rfl) zkn (c_X7_coolsOf l  x1 s2) rfl (Nat.le_of_ble_eq_true rfl) rfl dX7_hearth_107 (fun r3 s4 => ?_)
  refine ze_isub h dX7_hearth_110 ?_
  refine ze_nmI (fun x5 => ?_)
  refine ze_istore_n h [some (.ref 47), some (.int x1), some (.int x5)] dX7_hearth_111 rfl (by decide) rfl ?_
  refine ze_aload_n h dX7_hearth_112 rfl ?_
  refine ze_getR h zl_47 rfl zf_X7_16 dX7_hearth_113 ?_
  refine ze_pc 116 rfl ?_
  refine ze_iconst h 3 dX7_hearth_116 zk_i_3 ?_
  refine ze_iload_n h dX7_hearth_117 rfl ?_
  refine ze_imul h dX7_hearth_118 ?_
  refine ze_iload_n h dX7_hearth_119 rfl ?_
  refine ze_if_ge h 127 dX7_hearth_120 (by decide) ?_ ?_
  · refine ze_iload_n h dX7_hearth_127 rfl ?_
    refine ze_iastG h zl_50 dX7_hearth_128 ?_
    refine ze_nmS (fun s6 => ?_)
    exact ze_vret hR dX7_hearth_129
  · refine ze_iconst h 0 dX7_hearth_123 zk_i_0 ?_
    refine ze_goto h 128 dX7_hearth_124 (by decide) ?_
    refine ze_iastG h zl_50 dX7_hearth_128 ?_
    refine ze_nmS (fun s7 => ?_)
    exact ze_vret hR dX7_hearth_129
set_option maxRecDepth 20000 in
theorem c_X7_hearth (l : Launch)  (p1 : Int32) (s0 : zMem) : zC l yX7_hearth (.code yX7_hearth cX7_hearth 3 none) 5 [.ref 47, .int p1] zFull s0 (fun _ : Unit => none) (f_X7_hearth p1 s0) := by
  refine zC_of (own := RX7) rfl rfl (Nat.le_of_ble_eq_true rfl) [some (.ref 47), some (.int p1), none] rfl (fun G T h hR => ?_)
  unfold f_X7_hearth
  refine ze_aload_n h dX7_hearth_0 rfl ?_
  refine ze_getR h zl_47 rfl zf_X7_16 dX7_hearth_1 ?_
  refine ze_iconst h 3 dX7_hearth_4 zk_i_3 ?_
  refine ze_iload_n h dX7_hearth_5 rfl ?_
  refine ze_imul h dX7_hearth_6 ?_
  refine ze_iconst h 2 dX7_hearth_7 zk_i_2 ?_
  refine ze_iadd h dX7_hearth_8 ?_
  refine ze_ialdG h zl_50 dX7_hearth_9 ?_
  refine ze_if_le h 39 dX7_hearth_10 (by decide) ?_ ?_
  · refine ze_aload_n h dX7_hearth_39 rfl ?_
    refine ze_getR h zl_47 rfl zf_X7_16 dX7_hearth_40 ?_
    refine ze_iconst h 3 dX7_hearth_43 zk_i_3 ?_
    refine ze_iload_n h dX7_hearth_44 rfl ?_
    refine ze_imul h dX7_hearth_45 ?_
    refine ze_iconst h 1 dX7_hearth_46 zk_i_1 ?_
    refine ze_iadd h dX7_hearth_47 ?_
    refine ze_ialdG h zl_50 dX7_hearth_48 ?_
    refine ze_if_le h 97 dX7_hearth_49 (by decide) ?_ ?_
    · exact e_X7_hearth_97 h hR  p1 s0
    · refine ze_aload_n h dX7_hearth_52 rfl ?_
      refine ze_iload_n h dX7_hearth_53 rfl ?_
      refine ze_callVi h (st := []) zce_X7_burnsOf zi_X7_burnsOf zs_X7_burnsOf zm_X7_212 zl_47 rfl rfl (Nat.le_of_ble_eq_true rfl) zkn (c_X7_burnsOf l  p1 s0) rfl (Nat.le_of_ble_eq_true rfl) rfl dX7_hearth_54 (fun r8 s9 => ?_)
      refine ze_istore_n h [some (.ref 47), some (.int p1), some (.int r8)] dX7_hearth_57 rfl (by decide) rfl ?_
      refine ze_aload_n h dX7_hearth_58 rfl ?_
      refine ze_getR h zl_47 rfl zf_X7_16 dX7_hearth_59 ?_
      refine ze_iconst h 3 dX7_hearth_62 zk_i_3 ?_
      refine ze_iload_n h dX7_hearth_63 rfl ?_
      refine ze_imul h dX7_hearth_64 ?_
      refine ze_aload_n h dX7_hearth_65 rfl ?_
      refine ze_getR h zl_47 rfl zf_X7_16 dX7_hearth_66 ?_
      refine ze_iconst h 3 dX7_hearth_69 zk_i_3 ?_
      refine ze_iload_n h dX7_hearth_70 rfl ?_
      refine ze_pc 71 rfl ?_
      refine ze_imul h dX7_hearth_71 ?_
      refine ze_ialdG h zl_50 dX7_hearth_72 ?_
      refine ze_iload_n h dX7_hearth_73 rfl ?_
      refine ze_iadd h dX7_hearth_74 ?_
      refine ze_iconst h 0 dX7_hearth_75 zk_i_0 ?_
      refine ze_sipush h 9999 dX7_hearth_76 zk_s_9999 ?_
      refine ze_callSi h (st := [.int (3 * p1), .ref 50]) zce_X7_within zt_X7_within zm_X7_176 (Nat.le_of_ble_eq_true rfl) zkn (c_X7_within l zFull ((s9 50 (zix (3 * p1))) + r8) 0 9999 s9) rfl (Nat.le_of_ble_eq_true rfl) rfl dX7_hearth_79 (fun r10 s11 => ?_)
      refine ze_iastG h zl_50 dX7_hearth_82 ?_
      refine ze_nmS (fun s12 => ?_)
      refine ze_aload_n h dX7_hearth_83 rfl ?_
      refine ze_getR h zl_47 rfl zf_X7_16 dX7_hearth_84 ?_
      refine ze_iconst h 3 dX7_hearth_87 zk_i_3 ?_
      refine ze_iload_n h dX7_hearth_88 rfl ?_
      refine ze_imul h dX7_hearth_89 ?_
      refine ze_iconst h 1 dX7_hearth_90 zk_i_1 ?_
      refine ze_pc 91 rfl ?_
      refine ze_iadd h dX7_hearth_91 ?_
      refine ze_dup2 h dX7_hearth_92 rfl rfl ?_
      refine ze_ialdG h zl_50 dX7_hearth_93 ?_
      refine ze_iconst h 1 dX7_hearth_94 zk_i_1 ?_
      refine ze_isub h dX7_hearth_95 ?_
      refine ze_iastG h zl_50 dX7_hearth_96 ?_
      refine ze_nmS (fun s13 => ?_)
      refine zE_weak h [true, true, false] rfl ?_
      exact e_X7_hearth_97 h hR  p1 s13
  · refine ze_aload_n h dX7_hearth_13 rfl ?_
    refine ze_getR h zl_47 rfl zf_X7_16 dX7_hearth_14 ?_
    refine ze_iconst h 3 dX7_hearth_17 zk_i_3 ?_
    refine ze_iload_n h dX7_hearth_18 rfl ?_
    refine ze_imul h dX7_hearth_19 ?_
    refine ze_iconst h 2 dX7_hearth_20 zk_i_2 ?_
    refine ze_iadd h dX7_hearth_21 ?_
    refine ze_dup2 h dX7_hearth_22 rfl rfl ?_
    refine ze_ialdG h zl_50 dX7_hearth_23 ?_
    refine ze_iconst h 1 dX7_hearth_24 zk_i_1 ?_
    refine ze_isub h dX7_hearth_25 ?_
    refine ze_iastG h zl_50 dX7_hearth_26 ?_
    refine ze_nmS (fun s14 => ?_)
    refine ze_aload_n h dX7_hearth_27 rfl ?_
    refine ze_pc 28 rfl ?_
    refine ze_getR h zl_47 rfl zf_X7_16 dX7_hearth_28 ?_
    refine ze_iconst h 3 dX7_hearth_31 zk_i_3 ?_
    refine ze_iload_n h dX7_hearth_32 rfl ?_
    refine ze_imul h dX7_hearth_33 ?_
    refine ze_iconst h 0 dX7_hearth_34 zk_i_0 ?_
    refine ze_iastG h zl_50 dX7_hearth_35 ?_
    refine ze_nmS (fun s15 => ?_)
    refine ze_goto h 129 dX7_hearth_36 (by decide) ?_
    exact ze_vret hR dX7_hearth_129
set_option maxRecDepth 20000 in
theorem e_X7_nightOf_4 {l : Launch} {G : zGT} {T : Option Value × zMem} (h : zOk G l cX7_nightOf RX7 4 6 0 0 false) (hR : zR G cX7_nightOf (some .int) T zFull 0 0)  (c54 : Int32 → zMem → Option (Int32 × zMem)) (hc54 : ∀ (y1 : Int32) (s9 : zMem), zE G T (fun r : Int32 => some (.int r)) zFull 0 0 54 [some (.ref 47), some (.int y1), none, none] [] s9 (c54 y1 s9)) : ∀ (n : Nat) (x1 : Int32) (x2 : Int32) (s3 : zMem), zE G T (fun r : Int32 => some (.int r)) zFull 0 0 4 [some (.ref 47), some (.int x1), some (.int x2), none] [] s3 (f_X7_nightOf_4 c54 n x1 x2 s3) := by
  intro n
  induction n with
  | zero => intro _ _ _; exact ze_none
  | succ n ih =>
    intro x1 x2 s3
    rw [f_X7_nightOf_4]
    refine ze_iload_n h dX7_nightOf_4 rfl ?_
    refine ze_aload_n h dX7_nightOf_5 rfl ?_
    refine ze_getI h zl_47 rfl zf_X7_91 dX7_nightOf_6 ?_
    refine ze_icmp_ge h 54 dX7_nightOf_9 (by decide) ?_ ?_
    · refine zE_weak h [true, true, false, false] rfl ?_
      exact hc54 x1 s3
    · refine ze_aload_n h dX7_nightOf_12 rfl ?_
      refine ze_getR h zl_47 rfl zf_X7_25 dX7_nightOf_13 ?_
      refine ze_iload_n h dX7_nightOf_16 rfl ?_
      refine ze_aload_n h dX7_nightOf_17 rfl ?_
      refine ze_getR h zl_47 rfl zf_X7_25 dX7_nightOf_18 ?_
      refine ze_iload_n h dX7_nightOf_21 rfl ?_
      refine ze_ialdG h zl_53 dX7_nightOf_22 ?_
      refine ze_aload_n h dX7_nightOf_23 rfl ?_
      refine ze_aload_n h dX7_nightOf_24 rfl ?_
      refine ze_getR h zl_47 rfl zf_X7_22 dX7_nightOf_25 ?_
      refine ze_iload_n h dX7_nightOf_28 rfl ?_
      refine ze_ialdG h zl_52 dX7_nightOf_29 ?_
      refine ze_aload_n h dX7_nightOf_30 rfl ?_
      refine ze_pc 31 rfl ?_
      refine ze_getR h zl_47 rfl zf_X7_25 dX7_nightOf_31 ?_
      refine ze_iload_n h dX7_nightOf_34 rfl ?_
      refine ze_ialdG h zl_53 dX7_nightOf_35 ?_
      refine ze_callVi h (st := [.int (s3 53 (zix x2)), .int x2, .ref 53]) zce_X7_growsOf zi_X7_growsOf zs_X7_growsOf zm_X7_218 zl_47 rfl rfl (Nat.le_of_ble_eq_true rfl) zkn (c_X7_growsOf l  (s3 52 (zix x2)) (s3 53 (zix x2)) s3) rfl (Nat.le_of_ble_eq_true rfl) rfl dX7_nightOf_36 (fun r4 s5 => ?_)
      refine ze_iadd h dX7_nightOf_39 ?_
      refine ze_iconst h 0 dX7_nightOf_40 zk_i_0 ?_
      refine ze_sipush h 9999 dX7_nightOf_41 zk_s_9999 ?_
      refine ze_callSi h (st := [.int x2, .ref 53]) zce_X7_within zt_X7_within zm_X7_176 (Nat.le_of_ble_eq_true rfl) zkn (c_X7_within l zFull ((s3 53 (zix x2)) + r4) 0 9999 s5) rfl (Nat.le_of_ble_eq_true rfl) rfl dX7_nightOf_44 (fun r6 s7 => ?_)
      refine ze_iastG h zl_53 dX7_nightOf_47 ?_
      refine ze_nmS (fun s8 => ?_)
      refine ze_iincN h (fun y9 => [some (.ref 47), some (.int x1), some (.int y9), none]) 1 dX7_nightOf_48 rfl zk_i_1 rfl (by decide) (fun _ => rfl) (fun x9 => ?_)
      refine ze_goto h 4 dX7_nightOf_51 (by decide) ?_
      exact ih x1 x9 s8
set_option maxRecDepth 20000 in
theorem e_X7_nightOf_56 {l : Launch} {G : zGT} {T : Option Value × zMem} (h : zOk G l cX7_nightOf RX7 4 6 0 0 false) (hR : zR G cX7_nightOf (some .int) T zFull 0 0)  (c153 : Int32 → zMem → Option (Int32 × zMem)) (hc153 : ∀ (y1 : Int32) (s9 : zMem), zE G T (fun r : Int32 => some (.int r)) zFull 0 0 153 [some (.ref 47), some (.int y1), none, none] [] s9 (c153 y1 s9)) : ∀ (n : Nat) (x12 : Int32) (x13 : Int32) (s14 : zMem), zE G T (fun r : Int32 => some (.int r)) zFull 0 0 56 [some (.ref 47), some (.int x12), some (.int x13), none] [] s14 (f_X7_nightOf_56 c153 n x12 x13 s14) := by
  intro n
  induction n with
  | zero => intro _ _ _; exact ze_none
  | succ n ih =>
    intro x12 x13 s14
    rw [f_X7_nightOf_56]
    refine ze_iload_n h dX7_nightOf_56 rfl ?_
    refine ze_aload_n h dX7_nightOf_57 rfl ?_
    refine ze_getI h zl_47 rfl zf_X7_91 dX7_nightOf_58 ?_
    refine ze_icmp_ge h 153 dX7_nightOf_61 (by decide) ?_ ?_
    · refine zE_weak h [true, true, false, false] rfl ?_
      exact hc153 x12 s14
    · refine ze_aload_n h dX7_nightOf_64 rfl ?_
      refine ze_getR h zl_47 rfl zf_X7_28 dX7_nightOf_65 ?_
      refine ze_iload_n h dX7_nightOf_68 rfl ?_
      refine ze_ialdG h zl_54 dX7_nightOf_69 ?_
      refine ze_aload_n h dX7_nightOf_70 rfl ?_
      refine ze_getI h zl_47 rfl zf_X7_94 dX7_nightOf_71 ?_
      refine ze_icmp_le h 83 dX7_nightOf_74 (by decide) ?_ ?_
      · refine ze_aload_n h dX7_nightOf_83 rfl ?_
        refine ze_getR h zl_47 rfl zf_X7_22 dX7_nightOf_84 ?_
        refine ze_iload_n h dX7_nightOf_87 rfl ?_
        refine ze_ialdG h zl_52 dX7_nightOf_88 ?_
        refine ze_nmI (fun x15 => ?_)
        refine ze_istore_n h [some (.ref 47), some (.int x12), some (.int x13), some (.int x15)] dX7_nightOf_89 rfl (by decide) rfl ?_
        refine ze_aload_n h dX7_nightOf_90 rfl ?_
        refine ze_getR h zl_47 rfl zf_X7_16 dX7_nightOf_91 ?_
        refine ze_iconst h 3 dX7_nightOf_94 zk_i_3 ?_
        refine ze_iload_n h dX7_nightOf_95 rfl ?_
        refine ze_imul h dX7_nightOf_96 ?_
        refine ze_ialdG h zl_50 dX7_nightOf_97 ?_
        refine ze_aload_n h dX7_nightOf_98 rfl ?_
        refine ze_getR h zl_47 rfl zf_X7_25 dX7_nightOf_99 ?_
        refine ze_pc 102 rfl ?_
        refine ze_iload_n h dX7_nightOf_102 rfl ?_
        refine ze_ialdG h zl_53 dX7_nightOf_103 ?_
        refine ze_icmp_lt h 127 dX7_nightOf_104 (by decide) ?_ ?_
        · refine ze_aload_n h dX7_nightOf_127 rfl ?_
          refine ze_getR h zl_47 rfl zf_X7_16 dX7_nightOf_128 ?_
          refine ze_iconst h 3 dX7_nightOf_131 zk_i_3 ?_
          refine ze_iload_n h dX7_nightOf_132 rfl ?_
          refine ze_imul h dX7_nightOf_133 ?_
          refine ze_iconst h 2 dX7_nightOf_134 zk_i_2 ?_
          refine ze_iadd h dX7_nightOf_135 ?_
          refine ze_bipush h 20 dX7_nightOf_136 zk_b_20 ?_
          refine ze_iastG h zl_50 dX7_nightOf_138 ?_
          refine ze_nmS (fun s16 => ?_)
          refine ze_iload_n h dX7_nightOf_139 rfl ?_
          refine ze_iconst h 1 dX7_nightOf_140 zk_i_1 ?_
          refine ze_iload_n h dX7_nightOf_141 rfl ?_
          refine ze_ishl h dX7_nightOf_142 ?_
          refine ze_pc 143 rfl ?_
          refine ze_ior h dX7_nightOf_143 ?_
          refine ze_nmI (fun x17 => ?_)
          refine ze_istore_n h [some (.ref 47), some (.int x17), some (.int x13), some (.int x15)] dX7_nightOf_144 rfl (by decide) rfl ?_
          refine ze_aload_n h dX7_nightOf_145 rfl ?_
          refine ze_iload_n h dX7_nightOf_146 rfl ?_
          refine ze_callVv h (st := []) zce_X7_drops zi_X7_drops zs_X7_drops zm_X7_209 zl_47 rfl rfl (Nat.le_of_ble_eq_true rfl) zkn (c_X7_drops l  x13 s16) rfl (Nat.le_of_ble_eq_true rfl) rfl dX7_nightOf_147 (fun _ s19 => ?_)
          refine ze_goto h 56 dX7_nightOf_150 (by decide) ?_
          refine zE_weak h [true, true, true, false] rfl ?_
          exact ih x17 x13 s19
        · refine ze_aload_n h dX7_nightOf_107 rfl ?_
          refine ze_iload_n h dX7_nightOf_108 rfl ?_
          refine ze_aload_n h dX7_nightOf_109 rfl ?_
          refine ze_getR h zl_47 rfl zf_X7_19 dX7_nightOf_110 ?_
          refine ze_iload_n h dX7_nightOf_113 rfl ?_
          refine ze_ialdG h zl_51 dX7_nightOf_114 ?_
          refine ze_aload_n h dX7_nightOf_115 rfl ?_
          refine ze_getR h zl_47 rfl zf_X7_25 dX7_nightOf_116 ?_
          refine ze_iload_n h dX7_nightOf_119 rfl ?_
          refine ze_ialdG h zl_53 dX7_nightOf_120 ?_
          refine ze_callVv h (st := []) zce_X7_moves zi_X7_moves zs_X7_moves zm_X7_192 zl_47 rfl rfl (Nat.le_of_ble_eq_true rfl) zkn (c_X7_moves l  x15 (s14 51 (zix x13)) (s14 53 (zix x13)) s14) rfl (Nat.le_of_ble_eq_true rfl) rfl dX7_nightOf_121 (fun _ s21 => ?_)
          refine ze_goto h 145 dX7_nightOf_124 (by decide) ?_
          refine ze_aload_n h dX7_nightOf_145 rfl ?_
          refine ze_pc 146 rfl ?_
          refine ze_iload_n h dX7_nightOf_146 rfl ?_
          refine ze_callVv h (st := []) zce_X7_drops zi_X7_drops zs_X7_drops zm_X7_209 zl_47 rfl rfl (Nat.le_of_ble_eq_true rfl) zkn (c_X7_drops l  x13 s21) rfl (Nat.le_of_ble_eq_true rfl) rfl dX7_nightOf_147 (fun _ s23 => ?_)
          refine ze_goto h 56 dX7_nightOf_150 (by decide) ?_
          refine zE_weak h [true, true, true, false] rfl ?_
          exact ih x12 x13 s23
      · refine ze_iincN h (fun y9 => [some (.ref 47), some (.int x12), some (.int y9), none]) 1 dX7_nightOf_77 rfl zk_i_1 rfl (by decide) (fun _ => rfl) (fun x24 => ?_)
        refine ze_goto h 56 dX7_nightOf_80 (by decide) ?_
        exact ih x12 x24 s14
set_option maxRecDepth 20000 in
theorem e_X7_nightOf_155 {l : Launch} {G : zGT} {T : Option Value × zMem} (h : zOk G l cX7_nightOf RX7 4 6 0 0 false) (hR : zR G cX7_nightOf (some .int) T zFull 0 0)  (c174 : Int32 → zMem → Option (Int32 × zMem)) (hc174 : ∀ (y1 : Int32) (s9 : zMem), zE G T (fun r : Int32 => some (.int r)) zFull 0 0 174 [some (.ref 47), some (.int y1), none, none] [] s9 (c174 y1 s9)) : ∀ (n : Nat) (x27 : Int32) (x28 : Int32) (s29 : zMem), zE G T (fun r : Int32 => some (.int r)) zFull 0 0 155 [some (.ref 47), some (.int x27), none, some (.int x28)] [] s29 (f_X7_nightOf_155 c174 n x27 x28 s29) := by
  intro n
  induction n with
  | zero => intro _ _ _; exact ze_none
  | succ n ih =>
    intro x27 x28 s29
    rw [f_X7_nightOf_155]
    refine ze_iload_n h dX7_nightOf_155 rfl ?_
    refine ze_aload_n h dX7_nightOf_156 rfl ?_
    refine ze_getI h zl_47 rfl zf_X7_84 dX7_nightOf_157 ?_
    refine ze_icmp_ge h 174 dX7_nightOf_160 (by decide) ?_ ?_
    · refine zE_weak h [true, true, false, false] rfl ?_
      exact hc174 x27 s29
    · refine ze_aload_n h dX7_nightOf_163 rfl ?_
      refine ze_iload_n h dX7_nightOf_164 rfl ?_
      refine ze_callVv h (st := []) zce_X7_hearth zi_X7_hearth zs_X7_hearth zm_X7_221 zl_47 rfl rfl (Nat.le_of_ble_eq_true rfl) zkn (c_X7_hearth l  x28 s29) rfl (Nat.le_of_ble_eq_true rfl) rfl dX7_nightOf_165 (fun _ s31 => ?_)
      refine ze_iincN h (fun y9 => [some (.ref 47), some (.int x27), none, some (.int y9)]) 1 dX7_nightOf_168 rfl zk_i_1 rfl (by decide) (fun _ => rfl) (fun x32 => ?_)
      refine ze_goto h 155 dX7_nightOf_171 (by decide) ?_
      exact ih x27 x32 s31
set_option maxRecDepth 20000 in
theorem c_X7_nightOf (l : Launch)   (s0 : zMem) : zC l yX7_nightOf (.code yX7_nightOf cX7_nightOf 4 (some .int)) 6 [.ref 47] zFull s0 (fun r : Int32 => some (.int r)) (f_X7_nightOf s0) := by
  refine zC_of (own := RX7) rfl rfl (Nat.le_of_ble_eq_true rfl) [some (.ref 47), none, none, none] rfl (fun G T h hR => ?_)
  unfold f_X7_nightOf
  refine ze_iconst h 0 dX7_nightOf_0 zk_i_0 ?_
  refine ze_istore_n h [some (.ref 47), some (.int 0), none, none] dX7_nightOf_1 rfl (by decide) rfl ?_
  refine ze_iconst h 0 dX7_nightOf_2 zk_i_0 ?_
  refine ze_istore_n h [some (.ref 47), some (.int 0), some (.int 0), none] dX7_nightOf_3 rfl (by decide) rfl ?_
  refine e_X7_nightOf_4 h hR _ ?_ zN 0 0 s0
  · intro x10 s11
    refine ze_iconst h 0 dX7_nightOf_54 zk_i_0 ?_
    refine ze_istore_n h [some (.ref 47), some (.int x10), some (.int 0), none] dX7_nightOf_55 rfl (by decide) rfl ?_
    refine e_X7_nightOf_56 h hR _ ?_ zN x10 0 s11
    · intro x25 s26
      refine ze_iconst h 0 dX7_nightOf_153 zk_i_0 ?_
      refine ze_istore_n h [some (.ref 47), some (.int x25), none, some (.int 0)] dX7_nightOf_154 rfl (by decide) rfl ?_
      refine e_X7_nightOf_155 h hR _ ?_ zN x25 0 s26
      · intro x33 s34
        refine ze_aload_n h dX7_nightOf_174 rfl ?_
        refine ze_dup h dX7_nightOf_175 rfl ?_
        refine ze_getI h zl_47 rfl zf_X7_94 dX7_nightOf_176 ?_
        refine ze_iconst h 1 dX7_nightOf_179 zk_i_1 ?_
        refine ze_iadd h dX7_nightOf_180 ?_
        refine ze_putI h zl_47 rfl zf_X7_94 rfl rfl dX7_nightOf_181 ?_
        refine ze_nmS (fun s35 => ?_)
        refine ze_iload_n h dX7_nightOf_184 rfl ?_
        exact ze_iret hR dX7_nightOf_185
set_option maxRecDepth 20000 in
theorem c_X7_night (l : Launch)   (s0 : zMem) : zC l yX7_night (.code yX7_night cX7_night 1 (some .int)) 7 [.ref 47] zFull s0 (fun r : Int32 => some (.int r)) (f_X7_night s0) := by
  refine zC_of (own := RX7) rfl rfl (Nat.le_of_ble_eq_true rfl) [some (.ref 47)] rfl (fun G T h hR => ?_)
  unfold f_X7_night
  refine ze_aload_n h dX7_night_0 rfl ?_
  refine ze_getI h zl_47 rfl zf_X7_94 dX7_night_1 ?_
  refine ze_sipush h 999 dX7_night_4 zk_s_999 ?_
  refine ze_icmp_ne h 15 dX7_night_7 (by decide) ?_ ?_
  · refine ze_aload_n h dX7_night_15 rfl ?_
    refine ze_callVi h (st := []) zce_X7_nightOf zi_X7_nightOf zs_X7_nightOf zm_X7_224 zl_47 rfl rfl (Nat.le_of_ble_eq_true rfl) zkn (c_X7_nightOf l  s0) rfl (Nat.le_of_ble_eq_true rfl) rfl dX7_night_16 (fun r1 s2 => ?_)
    exact ze_iret hR dX7_night_19
  · refine ze_bipush h (-3) dX7_night_10 zk_b_m3 ?_
    refine ze_goto h 19 dX7_night_12 (by decide) ?_
    exact ze_iret hR dX7_night_19
set_option maxRecDepth 20000 in
theorem e_X7_keeps_2 {l : Launch} {G : zGT} {T : Option Value × zMem} (h : zOk G l cX7_keeps RX7 2 1 0 0 false) (hR : zR G cX7_keeps none T zFull 0 0)  (c26 : zMem → Option (Unit × zMem)) (hc26 : ∀ (s9 : zMem), zE G T (fun _ : Unit => none) zFull 0 0 26 [some (.ref 47), none] [] s9 (c26 s9)) : ∀ (n : Nat) (x1 : Int32) (s2 : zMem), zE G T (fun _ : Unit => none) zFull 0 0 2 [some (.ref 47), some (.int x1)] [] s2 (f_X7_keeps_2 c26 n x1 s2) := by
  intro n
  induction n with
  | zero => intro _ _; exact ze_none
  | succ n ih =>
    intro x1 s2
    rw [f_X7_keeps_2]
    refine ze_iload_n h dX7_keeps_2 rfl ?_
    refine ze_bipush h 18 dX7_keeps_3 zk_b_18 ?_
    refine ze_icmp_ge h 26 dX7_keeps_5 (by decide) ?_ ?_
    · refine zE_weak h [true, false] rfl ?_
      exact hc26 s2
    · refine ze_aload_n h dX7_keeps_8 rfl ?_
      refine ze_getR h zl_47 rfl zf_X7_70 dX7_keeps_9 ?_
      refine ze_iload_n h dX7_keeps_12 rfl ?_
      refine ze_aload_n h dX7_keeps_13 rfl ?_
      refine ze_getR h zl_47 rfl zf_X7_16 dX7_keeps_14 ?_
      refine ze_iload_n h dX7_keeps_17 rfl ?_
      refine ze_ialdG h zl_50 dX7_keeps_18 ?_
      refine ze_iastG h zl_68 dX7_keeps_19 ?_
      refine ze_nmS (fun s3 => ?_)
      refine ze_iincN h (fun y9 => [some (.ref 47), some (.int y9)]) 1 dX7_keeps_20 rfl zk_i_1 rfl (by decide) (fun _ => rfl) (fun x4 => ?_)
      refine ze_goto h 2 dX7_keeps_23 (by decide) ?_
      exact ih x4 s3
set_option maxRecDepth 20000 in
theorem e_X7_keeps_28 {l : Launch} {G : zGT} {T : Option Value × zMem} (h : zOk G l cX7_keeps RX7 2 1 0 0 false) (hR : zR G cX7_keeps none T zFull 0 0)  (c100 : zMem → Option (Unit × zMem)) (hc100 : ∀ (s9 : zMem), zE G T (fun _ : Unit => none) zFull 0 0 100 [some (.ref 47), none] [] s9 (c100 s9)) : ∀ (n : Nat) (x6 : Int32) (s7 : zMem), zE G T (fun _ : Unit => none) zFull 0 0 28 [some (.ref 47), some (.int x6)] [] s7 (f_X7_keeps_28 c100 n x6 s7) := by
  intro n
  induction n with
  | zero => intro _ _; exact ze_none
  | succ n ih =>
    intro x6 s7
    rw [f_X7_keeps_28]
    refine ze_iload_n h dX7_keeps_28 rfl ?_
    refine ze_bipush h 10 dX7_keeps_29 zk_b_10 ?_
    refine ze_icmp_ge h 100 dX7_keeps_31 (by decide) ?_ ?_
    · refine zE_weak h [true, false] rfl ?_
      exact hc100 s7
    · refine ze_aload_n h dX7_keeps_34 rfl ?_
      refine ze_getR h zl_47 rfl zf_X7_70 dX7_keeps_35 ?_
      refine ze_bipush h 18 dX7_keeps_38 zk_b_18 ?_
      refine ze_iload_n h dX7_keeps_40 rfl ?_
      refine ze_iadd h dX7_keeps_41 ?_
      refine ze_aload_n h dX7_keeps_42 rfl ?_
      refine ze_getR h zl_47 rfl zf_X7_19 dX7_keeps_43 ?_
      refine ze_iload_n h dX7_keeps_46 rfl ?_
      refine ze_ialdG h zl_51 dX7_keeps_47 ?_
      refine ze_iastG h zl_68 dX7_keeps_48 ?_
      refine ze_nmS (fun s8 => ?_)
      refine ze_aload_n h dX7_keeps_49 rfl ?_
      refine ze_getR h zl_47 rfl zf_X7_70 dX7_keeps_50 ?_
      refine ze_bipush h 28 dX7_keeps_53 zk_b_28 ?_
      refine ze_pc 55 rfl ?_
      refine ze_iload_n h dX7_keeps_55 rfl ?_
      refine ze_iadd h dX7_keeps_56 ?_
      refine ze_aload_n h dX7_keeps_57 rfl ?_
      refine ze_getR h zl_47 rfl zf_X7_22 dX7_keeps_58 ?_
      refine ze_iload_n h dX7_keeps_61 rfl ?_
      refine ze_ialdG h zl_52 dX7_keeps_62 ?_
      refine ze_iastG h zl_68 dX7_keeps_63 ?_
      refine ze_nmS (fun s9 => ?_)
      refine ze_aload_n h dX7_keeps_64 rfl ?_
      refine ze_getR h zl_47 rfl zf_X7_70 dX7_keeps_65 ?_
      refine ze_bipush h 38 dX7_keeps_68 zk_b_38 ?_
      refine ze_iload_n h dX7_keeps_70 rfl ?_
      refine ze_iadd h dX7_keeps_71 ?_
      refine ze_aload_n h dX7_keeps_72 rfl ?_
      refine ze_getR h zl_47 rfl zf_X7_25 dX7_keeps_73 ?_
      refine ze_pc 76 rfl ?_
      refine ze_iload_n h dX7_keeps_76 rfl ?_
      refine ze_ialdG h zl_53 dX7_keeps_77 ?_
      refine ze_iastG h zl_68 dX7_keeps_78 ?_
      refine ze_nmS (fun s10 => ?_)
      refine ze_aload_n h dX7_keeps_79 rfl ?_
      refine ze_getR h zl_47 rfl zf_X7_70 dX7_keeps_80 ?_
      refine ze_bipush h 48 dX7_keeps_83 zk_b_48 ?_
      refine ze_iload_n h dX7_keeps_85 rfl ?_
      refine ze_iadd h dX7_keeps_86 ?_
      refine ze_aload_n h dX7_keeps_87 rfl ?_
      refine ze_getR h zl_47 rfl zf_X7_28 dX7_keeps_88 ?_
      refine ze_iload_n h dX7_keeps_91 rfl ?_
      refine ze_ialdG h zl_54 dX7_keeps_92 ?_
      refine ze_iastG h zl_68 dX7_keeps_93 ?_
      refine ze_nmS (fun s11 => ?_)
      refine ze_iincN h (fun y9 => [some (.ref 47), some (.int y9)]) 1 dX7_keeps_94 rfl zk_i_1 rfl (by decide) (fun _ => rfl) (fun x12 => ?_)
      refine ze_pc 97 rfl ?_
      refine ze_goto h 28 dX7_keeps_97 (by decide) ?_
      exact ih x12 s11
set_option maxRecDepth 20000 in
theorem c_X7_keeps (l : Launch)   (s0 : zMem) : zC l yX7_keeps (.code yX7_keeps cX7_keeps 2 none) 1 [.ref 47] zFull s0 (fun _ : Unit => none) (f_X7_keeps s0) := by
  refine zC_of (own := RX7) rfl rfl (Nat.le_of_ble_eq_true rfl) [some (.ref 47), none] rfl (fun G T h hR => ?_)
  unfold f_X7_keeps
  refine ze_iconst h 0 dX7_keeps_0 zk_i_0 ?_
  refine ze_istore_n h [some (.ref 47), some (.int 0)] dX7_keeps_1 rfl (by decide) rfl ?_
  refine e_X7_keeps_2 h hR _ ?_ zN 0 s0
  · intro s5
    refine ze_iconst h 0 dX7_keeps_26 zk_i_0 ?_
    refine ze_istore_n h [some (.ref 47), some (.int 0)] dX7_keeps_27 rfl (by decide) rfl ?_
    refine e_X7_keeps_28 h hR _ ?_ zN 0 s5
    · intro s13
      refine ze_aload_n h dX7_keeps_100 rfl ?_
      refine ze_getR h zl_47 rfl zf_X7_70 dX7_keeps_101 ?_
      refine ze_bipush h 58 dX7_keeps_104 zk_b_58 ?_
      refine ze_aload_n h dX7_keeps_106 rfl ?_
      refine ze_getI h zl_47 rfl zf_X7_91 dX7_keeps_107 ?_
      refine ze_iastG h zl_68 dX7_keeps_110 ?_
      refine ze_nmS (fun s14 => ?_)
      refine ze_aload_n h dX7_keeps_111 rfl ?_
      refine ze_getR h zl_47 rfl zf_X7_70 dX7_keeps_112 ?_
      refine ze_bipush h 59 dX7_keeps_115 zk_b_59 ?_
      refine ze_aload_n h dX7_keeps_117 rfl ?_
      refine ze_getI h zl_47 rfl zf_X7_94 dX7_keeps_118 ?_
      refine ze_iastG h zl_68 dX7_keeps_121 ?_
      refine ze_nmS (fun s15 => ?_)
      exact ze_vret hR dX7_keeps_122
set_option maxRecDepth 20000 in
theorem e_X7_lays_2 {l : Launch} {G : zGT} {T : Option Value × zMem} (h : zOk G l cX7_lays RX7 2 1 0 0 false) (hR : zR G cX7_lays none T zFull 0 0)  (c26 : zMem → Option (Unit × zMem)) (hc26 : ∀ (s9 : zMem), zE G T (fun _ : Unit => none) zFull 0 0 26 [some (.ref 47), none] [] s9 (c26 s9)) : ∀ (n : Nat) (x1 : Int32) (s2 : zMem), zE G T (fun _ : Unit => none) zFull 0 0 2 [some (.ref 47), some (.int x1)] [] s2 (f_X7_lays_2 c26 n x1 s2) := by
  intro n
  induction n with
  | zero => intro _ _; exact ze_none
  | succ n ih =>
    intro x1 s2
    rw [f_X7_lays_2]
    refine ze_iload_n h dX7_lays_2 rfl ?_
    refine ze_bipush h 18 dX7_lays_3 zk_b_18 ?_
    refine ze_icmp_ge h 26 dX7_lays_5 (by decide) ?_ ?_
    · refine zE_weak h [true, false] rfl ?_
      exact hc26 s2
    · refine ze_aload_n h dX7_lays_8 rfl ?_
      refine ze_getR h zl_47 rfl zf_X7_16 dX7_lays_9 ?_
      refine ze_iload_n h dX7_lays_12 rfl ?_
      refine ze_aload_n h dX7_lays_13 rfl ?_
      refine ze_getR h zl_47 rfl zf_X7_70 dX7_lays_14 ?_
      refine ze_iload_n h dX7_lays_17 rfl ?_
      refine ze_ialdG h zl_68 dX7_lays_18 ?_
      refine ze_iastG h zl_50 dX7_lays_19 ?_
      refine ze_nmS (fun s3 => ?_)
      refine ze_iincN h (fun y9 => [some (.ref 47), some (.int y9)]) 1 dX7_lays_20 rfl zk_i_1 rfl (by decide) (fun _ => rfl) (fun x4 => ?_)
      refine ze_goto h 2 dX7_lays_23 (by decide) ?_
      exact ih x4 s3
set_option maxRecDepth 20000 in
theorem e_X7_lays_28 {l : Launch} {G : zGT} {T : Option Value × zMem} (h : zOk G l cX7_lays RX7 2 1 0 0 false) (hR : zR G cX7_lays none T zFull 0 0)  (c100 : zMem → Option (Unit × zMem)) (hc100 : ∀ (s9 : zMem), zE G T (fun _ : Unit => none) zFull 0 0 100 [some (.ref 47), none] [] s9 (c100 s9)) : ∀ (n : Nat) (x6 : Int32) (s7 : zMem), zE G T (fun _ : Unit => none) zFull 0 0 28 [some (.ref 47), some (.int x6)] [] s7 (f_X7_lays_28 c100 n x6 s7) := by
  intro n
  induction n with
  | zero => intro _ _; exact ze_none
  | succ n ih =>
    intro x6 s7
    rw [f_X7_lays_28]
    refine ze_iload_n h dX7_lays_28 rfl ?_
    refine ze_bipush h 10 dX7_lays_29 zk_b_10 ?_
    refine ze_icmp_ge h 100 dX7_lays_31 (by decide) ?_ ?_
    · refine zE_weak h [true, false] rfl ?_
      exact hc100 s7
    · refine ze_aload_n h dX7_lays_34 rfl ?_
      refine ze_getR h zl_47 rfl zf_X7_19 dX7_lays_35 ?_
      refine ze_iload_n h dX7_lays_38 rfl ?_
      refine ze_aload_n h dX7_lays_39 rfl ?_
      refine ze_getR h zl_47 rfl zf_X7_70 dX7_lays_40 ?_
      refine ze_bipush h 18 dX7_lays_43 zk_b_18 ?_
      refine ze_iload_n h dX7_lays_45 rfl ?_
      refine ze_iadd h dX7_lays_46 ?_
      refine ze_ialdG h zl_68 dX7_lays_47 ?_
      refine ze_iastG h zl_51 dX7_lays_48 ?_
      refine ze_nmS (fun s8 => ?_)
      refine ze_aload_n h dX7_lays_49 rfl ?_
      refine ze_getR h zl_47 rfl zf_X7_22 dX7_lays_50 ?_
      refine ze_iload_n h dX7_lays_53 rfl ?_
      refine ze_pc 54 rfl ?_
      refine ze_aload_n h dX7_lays_54 rfl ?_
      refine ze_getR h zl_47 rfl zf_X7_70 dX7_lays_55 ?_
      refine ze_bipush h 28 dX7_lays_58 zk_b_28 ?_
      refine ze_iload_n h dX7_lays_60 rfl ?_
      refine ze_iadd h dX7_lays_61 ?_
      refine ze_ialdG h zl_68 dX7_lays_62 ?_
      refine ze_iastG h zl_52 dX7_lays_63 ?_
      refine ze_nmS (fun s9 => ?_)
      refine ze_aload_n h dX7_lays_64 rfl ?_
      refine ze_getR h zl_47 rfl zf_X7_25 dX7_lays_65 ?_
      refine ze_iload_n h dX7_lays_68 rfl ?_
      refine ze_aload_n h dX7_lays_69 rfl ?_
      refine ze_getR h zl_47 rfl zf_X7_70 dX7_lays_70 ?_
      refine ze_bipush h 38 dX7_lays_73 zk_b_38 ?_
      refine ze_iload_n h dX7_lays_75 rfl ?_
      refine ze_pc 76 rfl ?_
      refine ze_iadd h dX7_lays_76 ?_
      refine ze_ialdG h zl_68 dX7_lays_77 ?_
      refine ze_iastG h zl_53 dX7_lays_78 ?_
      refine ze_nmS (fun s10 => ?_)
      refine ze_aload_n h dX7_lays_79 rfl ?_
      refine ze_getR h zl_47 rfl zf_X7_28 dX7_lays_80 ?_
      refine ze_iload_n h dX7_lays_83 rfl ?_
      refine ze_aload_n h dX7_lays_84 rfl ?_
      refine ze_getR h zl_47 rfl zf_X7_70 dX7_lays_85 ?_
      refine ze_bipush h 48 dX7_lays_88 zk_b_48 ?_
      refine ze_iload_n h dX7_lays_90 rfl ?_
      refine ze_iadd h dX7_lays_91 ?_
      refine ze_ialdG h zl_68 dX7_lays_92 ?_
      refine ze_iastG h zl_54 dX7_lays_93 ?_
      refine ze_nmS (fun s11 => ?_)
      refine ze_iincN h (fun y9 => [some (.ref 47), some (.int y9)]) 1 dX7_lays_94 rfl zk_i_1 rfl (by decide) (fun _ => rfl) (fun x12 => ?_)
      refine ze_pc 97 rfl ?_
      refine ze_goto h 28 dX7_lays_97 (by decide) ?_
      exact ih x12 s11
set_option maxRecDepth 20000 in
theorem c_X7_lays (l : Launch)   (s0 : zMem) : zC l yX7_lays (.code yX7_lays cX7_lays 2 none) 1 [.ref 47] zFull s0 (fun _ : Unit => none) (f_X7_lays s0) := by
  refine zC_of (own := RX7) rfl rfl (Nat.le_of_ble_eq_true rfl) [some (.ref 47), none] rfl (fun G T h hR => ?_)
  unfold f_X7_lays
  refine ze_iconst h 0 dX7_lays_0 zk_i_0 ?_
  refine ze_istore_n h [some (.ref 47), some (.int 0)] dX7_lays_1 rfl (by decide) rfl ?_
  refine e_X7_lays_2 h hR _ ?_ zN 0 s0
  · intro s5
    refine ze_iconst h 0 dX7_lays_26 zk_i_0 ?_
    refine ze_istore_n h [some (.ref 47), some (.int 0)] dX7_lays_27 rfl (by decide) rfl ?_
    refine e_X7_lays_28 h hR _ ?_ zN 0 s5
    · intro s13
      refine ze_aload_n h dX7_lays_100 rfl ?_
      refine ze_aload_n h dX7_lays_101 rfl ?_
      refine ze_getR h zl_47 rfl zf_X7_70 dX7_lays_102 ?_
      refine ze_bipush h 58 dX7_lays_105 zk_b_58 ?_
      refine ze_ialdG h zl_68 dX7_lays_107 ?_
      refine ze_putI h zl_47 rfl zf_X7_91 rfl rfl dX7_lays_108 ?_
      refine ze_nmS (fun s14 => ?_)
      refine ze_aload_n h dX7_lays_111 rfl ?_
      refine ze_aload_n h dX7_lays_112 rfl ?_
      refine ze_getR h zl_47 rfl zf_X7_70 dX7_lays_113 ?_
      refine ze_bipush h 59 dX7_lays_116 zk_b_59 ?_
      refine ze_ialdG h zl_68 dX7_lays_118 ?_
      refine ze_putI h zl_47 rfl zf_X7_94 rfl rfl dX7_lays_119 ?_
      refine ze_nmS (fun s15 => ?_)
      exact ze_vret hR dX7_lays_122
set_option maxRecDepth 20000 in
theorem e_X7_goes_4 {l : Launch} {G : zGT} {T : Option Value × zMem} (h : zOk G l cX7_goes RX7 4 7 0 0 false) (hR : zR G cX7_goes (some .int) T zFull 0 0)   : ∀ (n : Nat) (x1 : Int32) (x2 : Int32) (x3 : Int32) (s4 : zMem), zE G T (fun r : Int32 => some (.int r)) zFull 0 0 4 [some (.ref 47), some (.int x1), some (.int x2), some (.int x3)] [] s4 (f_X7_goes_4 n x1 x2 x3 s4) := by
  intro n
  induction n with
  | zero => intro _ _ _ _; exact ze_none
  | succ n ih =>
    intro x1 x2 x3 s4
    rw [f_X7_goes_4]
    refine ze_iload_n h dX7_goes_4 rfl ?_
    refine ze_iload_n h dX7_goes_5 rfl ?_
    refine ze_icmp_ge h 22 dX7_goes_6 (by decide) ?_ ?_
    · refine ze_iload_n h dX7_goes_22 rfl ?_
      exact ze_iret hR dX7_goes_23
    · refine ze_iload_n h dX7_goes_9 rfl ?_
      refine ze_aload_n h dX7_goes_10 rfl ?_
      refine ze_callVi h (st := [.int x2]) zce_X7_nightOf zi_X7_nightOf zs_X7_nightOf zm_X7_224 zl_47 rfl rfl (Nat.le_of_ble_eq_true rfl) zkn (c_X7_nightOf l  s4) rfl (Nat.le_of_ble_eq_true rfl) rfl dX7_goes_11 (fun r5 s6 => ?_)
      refine ze_ior h dX7_goes_14 ?_
      refine ze_nmI (fun x7 => ?_)
      refine ze_istore_n h [some (.ref 47), some (.int x1), some (.int x7), some (.int x3)] dX7_goes_15 rfl (by decide) rfl ?_
      refine ze_iincN h (fun y9 => [some (.ref 47), some (.int x1), some (.int x7), some (.int y9)]) 1 dX7_goes_16 rfl zk_i_1 rfl (by decide) (fun _ => rfl) (fun x8 => ?_)
      refine ze_goto h 4 dX7_goes_19 (by decide) ?_
      exact ih x1 x7 x8 s6
set_option maxRecDepth 20000 in
theorem c_X7_goes (l : Launch)  (p1 : Int32) (s0 : zMem) : zC l yX7_goes (.code yX7_goes cX7_goes 4 (some .int)) 7 [.ref 47, .int p1] zFull s0 (fun r : Int32 => some (.int r)) (f_X7_goes p1 s0) := by
  refine zC_of (own := RX7) rfl rfl (Nat.le_of_ble_eq_true rfl) [some (.ref 47), some (.int p1), none, none] rfl (fun G T h hR => ?_)
  unfold f_X7_goes
  refine ze_iconst h 0 dX7_goes_0 zk_i_0 ?_
  refine ze_istore_n h [some (.ref 47), some (.int p1), some (.int 0), none] dX7_goes_1 rfl (by decide) rfl ?_
  refine ze_iconst h 0 dX7_goes_2 zk_i_0 ?_
  refine ze_istore_n h [some (.ref 47), some (.int p1), some (.int 0), some (.int 0)] dX7_goes_3 rfl (by decide) rfl ?_
  exact e_X7_goes_4 h hR  zN p1 0 0 s0
set_option maxRecDepth 20000 in
theorem e_X7_ones_4 {l : Launch} {G : zGT} {T : Option Value × zMem} {Λ : zLay} (h : zOk G l cX7_ones RX7 3 1 0 0 false) (hR : zR G cX7_ones (some .int) T Λ 0 0)   : ∀ (n : Nat) (x1 : Int32) (x2 : Int32) (x3 : Int32) (s4 : zMem), zE G T (fun r : Int32 => some (.int r)) Λ 0 0 4 [some (.int x1), some (.int x2), some (.int x3)] [] s4 (f_X7_ones_4 n x1 x2 x3 s4) := by
  intro n
  induction n with
  | zero => intro _ _ _ _; exact ze_none
  | succ n ih =>
    intro x1 x2 x3 s4
    rw [f_X7_ones_4]
    refine ze_iload_n h dX7_ones_4 rfl ?_
    refine ze_bipush h 6 dX7_ones_5 zk_b_6 ?_
    refine ze_icmp_ge h 24 dX7_ones_7 (by decide) ?_ ?_
    · refine ze_iload_n h dX7_ones_24 rfl ?_
      exact ze_iret hR dX7_ones_25
    · refine ze_iload_n h dX7_ones_10 rfl ?_
      refine ze_iload_n h dX7_ones_11 rfl ?_
      refine ze_iload_n h dX7_ones_12 rfl ?_
      refine ze_ishr h dX7_ones_13 ?_
      refine ze_iconst h 1 dX7_ones_14 zk_i_1 ?_
      refine ze_iand h dX7_ones_15 ?_
      refine ze_iadd h dX7_ones_16 ?_
      refine ze_nmI (fun x5 => ?_)
      refine ze_istore_n h [some (.int x1), some (.int x5), some (.int x3)] dX7_ones_17 rfl (by decide) rfl ?_
      refine ze_iincN h (fun y9 => [some (.int x1), some (.int x5), some (.int y9)]) 1 dX7_ones_18 rfl zk_i_1 rfl (by decide) (fun _ => rfl) (fun x6 => ?_)
      refine ze_goto h 4 dX7_ones_21 (by decide) ?_
      exact ih x1 x5 x6 s4
set_option maxRecDepth 20000 in
theorem c_X7_ones (l : Launch) (Λ : zLay) (p1 : Int32) (s0 : zMem) : zC l yX7_ones (.code yX7_ones cX7_ones 3 (some .int)) 1 [.int p1] Λ s0 (fun r : Int32 => some (.int r)) (f_X7_ones p1 s0) := by
  refine zC_of (own := RX7) rfl rfl (Nat.le_of_ble_eq_true rfl) [some (.int p1), none, none] rfl (fun G T h hR => ?_)
  unfold f_X7_ones
  refine ze_iconst h 0 dX7_ones_0 zk_i_0 ?_
  refine ze_istore_n h [some (.int p1), some (.int 0), none] dX7_ones_1 rfl (by decide) rfl ?_
  refine ze_iconst h 0 dX7_ones_2 zk_i_0 ?_
  refine ze_istore_n h [some (.int p1), some (.int 0), some (.int 0)] dX7_ones_3 rfl (by decide) rfl ?_
  exact e_X7_ones_4 h hR  zN p1 0 0 s0
set_option maxRecDepth 20000 in
theorem e_X7_run_38 {l : Launch} {G : zGT} {T : Option Value × zMem} (h : zOk G l cX7_run RX7 5 8 0 0 false) (hR : zR G cX7_run (some .int) T zFull 0 0)   : ∀ (x5 : Int32) (x6 : Int32) (s7 : zMem), zE G T (fun r : Int32 => some (.int r)) zFull 0 0 38 [some (.ref 47), some (.int x5), some (.int x6), none, none] [] s7 (f_X7_run_38  x5 x6 s7) := by
  intro x5 x6 s7
  unfold f_X7_run_38
  refine ze_aload_n h dX7_run_38 rfl ?_
  refine ze_callVv h (st := []) zce_X7_keeps zi_X7_keeps zs_X7_keeps zm_X7_227 zl_47 rfl rfl (Nat.le_of_ble_eq_true rfl) zkn (c_X7_keeps l  s7) rfl (Nat.le_of_ble_eq_true rfl) rfl dX7_run_39 (fun _ s9 => ?_)
  refine ze_aload_n h dX7_run_42 rfl ?_
  refine ze_iload_n h dX7_run_43 rfl ?_
  refine ze_callVi h (st := []) zce_X7_goes zi_X7_goes zs_X7_goes zm_X7_230 zl_47 rfl rfl (Nat.le_of_ble_eq_true rfl) zkn (c_X7_goes l  x5 s9) rfl (Nat.le_of_ble_eq_true rfl) rfl dX7_run_44 (fun r10 s11 => ?_)
  refine ze_istore_n h [some (.ref 47), some (.int x5), some (.int x6), some (.int r10), none] dX7_run_47 rfl (by decide) rfl ?_
  refine ze_iload_n h dX7_run_48 rfl ?_
  refine ze_if_ne h 59 dX7_run_49 (by decide) ?_ ?_
  · refine ze_iload_n h dX7_run_59 rfl ?_
    refine ze_iconst h 1 dX7_run_60 zk_i_1 ?_
    refine ze_icmp_ne h 68 dX7_run_61 (by decide) ?_ ?_
    · refine ze_iload_n h dX7_run_68 rfl ?_
      refine ze_iconst h 2 dX7_run_69 zk_i_2 ?_
      refine ze_icmp_ne h 80 dX7_run_70 (by decide) ?_ ?_
      · refine ze_aload_n h dX7_run_80 rfl ?_
        refine ze_getR h zl_47 rfl zf_X7_16 dX7_run_81 ?_
        refine ze_iconst h 3 dX7_run_84 zk_i_3 ?_
        refine ze_iload_n h dX7_run_85 rfl ?_
        refine ze_bipush h 10 dX7_run_86 zk_b_10 ?_
        refine ze_isub h dX7_run_88 ?_
        refine ze_iconst h 0 dX7_run_89 zk_i_0 ?_
        refine ze_iconst h 5 dX7_run_90 zk_i_5 ?_
        refine ze_callSi h (st := [.int 3, .ref 50]) zce_X7_within zt_X7_within zm_X7_176 (Nat.le_of_ble_eq_true rfl) zkn (c_X7_within l zFull (x6 - 10) 0 5 s11) rfl (Nat.le_of_ble_eq_true rfl) rfl dX7_run_91 (fun r12 s13 => ?_)
        refine ze_imul h dX7_run_94 ?_
        refine ze_ialdG h zl_50 dX7_run_95 ?_
        refine ze_nmI (fun x14 => ?_)
        refine ze_istore h [some (.ref 47), some (.int x5), some (.int x6), some (.int r10), some (.int x14)] dX7_run_96 rfl (by decide) rfl ?_
        refine ze_aload_n h dX7_run_98 rfl ?_
        refine ze_pc 99 rfl ?_
        refine ze_callVv h (st := []) zce_X7_lays zi_X7_lays zs_X7_lays zm_X7_233 zl_47 rfl rfl (Nat.le_of_ble_eq_true rfl) zkn (c_X7_lays l  s13) rfl (Nat.le_of_ble_eq_true rfl) rfl dX7_run_99 (fun _ s16 => ?_)
        refine ze_iload h dX7_run_102 rfl ?_
        exact ze_iret hR dX7_run_104
      · refine ze_aload_n h dX7_run_73 rfl ?_
        refine ze_getI h zl_47 rfl zf_X7_91 dX7_run_74 ?_
        refine ze_goto h 96 dX7_run_77 (by decide) ?_
        refine ze_nmI (fun x17 => ?_)
        refine ze_istore h [some (.ref 47), some (.int x5), some (.int x6), some (.int r10), some (.int x17)] dX7_run_96 rfl (by decide) rfl ?_
        refine ze_aload_n h dX7_run_98 rfl ?_
        refine ze_callVv h (st := []) zce_X7_lays zi_X7_lays zs_X7_lays zm_X7_233 zl_47 rfl rfl (Nat.le_of_ble_eq_true rfl) zkn (c_X7_lays l  s11) rfl (Nat.le_of_ble_eq_true rfl) rfl dX7_run_99 (fun _ s19 => ?_)
        refine ze_iload h dX7_run_102 rfl ?_
        exact ze_iret hR dX7_run_104
    · refine ze_iload_n h dX7_run_64 rfl ?_
      refine ze_goto h 96 dX7_run_65 (by decide) ?_
      refine ze_istore h [some (.ref 47), some (.int x5), some (.int x6), some (.int r10), some (.int r10)] dX7_run_96 rfl (by decide) rfl ?_
      refine ze_aload_n h dX7_run_98 rfl ?_
      refine ze_callVv h (st := []) zce_X7_lays zi_X7_lays zs_X7_lays zm_X7_233 zl_47 rfl rfl (Nat.le_of_ble_eq_true rfl) zkn (c_X7_lays l  s11) rfl (Nat.le_of_ble_eq_true rfl) rfl dX7_run_99 (fun _ s21 => ?_)
      refine ze_iload h dX7_run_102 rfl ?_
      exact ze_iret hR dX7_run_104
  · refine ze_aload_n h dX7_run_52 rfl ?_
    refine ze_callVi h (st := []) zce_X7_heatAll zi_X7_heatAll zs_X7_heatAll zm_X7_97 zl_47 rfl rfl (Nat.le_of_ble_eq_true rfl) zkn (c_X7_heatAll l  s11) rfl (Nat.le_of_ble_eq_true rfl) rfl dX7_run_53 (fun r22 s23 => ?_)
    refine ze_goto h 96 dX7_run_56 (by decide) ?_
    refine ze_istore h [some (.ref 47), some (.int x5), some (.int x6), some (.int r10), some (.int r22)] dX7_run_96 rfl (by decide) rfl ?_
    refine ze_aload_n h dX7_run_98 rfl ?_
    refine ze_callVv h (st := []) zce_X7_lays zi_X7_lays zs_X7_lays zm_X7_233 zl_47 rfl rfl (Nat.le_of_ble_eq_true rfl) zkn (c_X7_lays l  s23) rfl (Nat.le_of_ble_eq_true rfl) rfl dX7_run_99 (fun _ s25 => ?_)
    refine ze_iload h dX7_run_102 rfl ?_
    exact ze_iret hR dX7_run_104
set_option maxRecDepth 20000 in
theorem c_X7_run (l : Launch)  (p1 : Int32) (p2 : Int32) (s0 : zMem) : zC l yX7_run (.code yX7_run cX7_run 5 (some .int)) 8 [.ref 47, .int p1, .int p2] zFull s0 (fun r : Int32 => some (.int r)) (f_X7_run p1 p2 s0) := by
  refine zC_of (own := RX7) rfl rfl (Nat.le_of_ble_eq_true rfl) [some (.ref 47), some (.int p1), some (.int p2), none, none] rfl (fun G T h hR => ?_)
  unfold f_X7_run
  refine ze_iload_n h dX7_run_0 rfl ?_
  refine ze_iconst h 0 dX7_run_1 zk_i_0 ?_
  refine ze_bipush h 40 dX7_run_2 zk_b_40 ?_
  refine ze_callSi h (st := []) zce_X7_in zt_X7_in zm_X7_87 (Nat.le_of_ble_eq_true rfl) zkn (c_X7_in l zFull p1 0 40 s0) rfl (Nat.le_of_ble_eq_true rfl) rfl dX7_run_4 (fun r1 s2 => ?_)
  refine ze_if_eq h 35 dX7_run_7 (by decide) ?_ ?_
  · refine ze_bipush h (-2) dX7_run_35 zk_b_m2 ?_
    exact ze_iret hR dX7_run_37
  · refine ze_iload_n h dX7_run_10 rfl ?_
    refine ze_iconst h 0 dX7_run_11 zk_i_0 ?_
    refine ze_iconst h 2 dX7_run_12 zk_i_2 ?_
    refine ze_callSi h (st := []) zce_X7_in zt_X7_in zm_X7_87 (Nat.le_of_ble_eq_true rfl) zkn (c_X7_in l zFull p2 0 2 s2) rfl (Nat.le_of_ble_eq_true rfl) rfl dX7_run_13 (fun r3 s4 => ?_)
    refine ze_if_ne h 38 dX7_run_16 (by decide) ?_ ?_
    · exact e_X7_run_38 h hR  p1 p2 s4
    · refine ze_iload_n h dX7_run_19 rfl ?_
      refine ze_bipush h 10 dX7_run_20 zk_b_10 ?_
      refine ze_bipush h 9 dX7_run_22 zk_b_9 ?_
      refine ze_aload_n h dX7_run_24 rfl ?_
      refine ze_getI h zl_47 rfl zf_X7_84 dX7_run_25 ?_
      refine ze_iadd h dX7_run_28 ?_
      refine ze_callSi h (st := []) zce_X7_in zt_X7_in zm_X7_87 (Nat.le_of_ble_eq_true rfl) zkn (c_X7_in l zFull p2 10 (9 + (s4 47 0)) s4) rfl (Nat.le_of_ble_eq_true rfl) rfl dX7_run_29 (fun r26 s27 => ?_)
      refine ze_if_ne h 38 dX7_run_32 (by decide) ?_ ?_
      · exact e_X7_run_38 h hR  p1 p2 s27
      · refine ze_bipush h (-2) dX7_run_35 zk_b_m2 ?_
        exact ze_iret hR dX7_run_37
set_option maxRecDepth 20000 in
theorem e_X7_lasts_50 {l : Launch} {G : zGT} {T : Option Value × zMem} (h : zOk G l cX7_lasts RX7 7 7 0 0 false) (hR : zR G cX7_lasts (some .int) T zFull 0 0)  (c126 : Int32 → zMem → Option (Int32 × zMem)) (hc126 : ∀ (y1 : Int32) (s9 : zMem), zE G T (fun r : Int32 => some (.int r)) zFull 0 0 126 [some (.ref 47), none, none, some (.int y1), none, none, none] [] s9 (c126 y1 s9)) : ∀ (n : Nat) (x11 : Int32) (x12 : Int32) (x13 : Int32) (x14 : Int32) (s15 : zMem), zE G T (fun r : Int32 => some (.int r)) zFull 0 0 50 [some (.ref 47), some (.int x11), some (.int x12), some (.int x13), some (.int x14), none, none] [] s15 (f_X7_lasts_50 c126 n x11 x12 x13 x14 s15) := by
  intro n
  induction n with
  | zero => intro _ _ _ _ _; exact ze_none
  | succ n ih =>
    intro x11 x12 x13 x14 s15
    rw [f_X7_lasts_50]
    refine ze_iload h dX7_lasts_50 rfl ?_
    refine ze_bipush h 40 dX7_lasts_52 zk_b_40 ?_
    refine ze_icmp_gt h 126 dX7_lasts_54 (by decide) ?_ ?_
    · refine zE_weak h [true, false, false, true, false, false, false] rfl ?_
      exact hc126 x13 s15
    · refine ze_iload_n h dX7_lasts_57 rfl ?_
      refine ze_iconst h (-1) dX7_lasts_58 zk_i_m1 ?_
      refine ze_icmp_ne h 126 dX7_lasts_59 (by decide) ?_ ?_
      · refine zE_weak h [true, false, false, true, false, false, false] rfl ?_
        exact hc126 x13 s15
      · refine ze_aload_n h dX7_lasts_62 rfl ?_
        refine ze_callVi h (st := []) zce_X7_nightOf zi_X7_nightOf zs_X7_nightOf zm_X7_224 zl_47 rfl rfl (Nat.le_of_ble_eq_true rfl) zkn (c_X7_nightOf l  s15) rfl (Nat.le_of_ble_eq_true rfl) rfl dX7_lasts_63 (fun r16 s17 => ?_)
        refine ze_istore h [some (.ref 47), some (.int x11), some (.int x12), some (.int x13), some (.int x14), some (.int r16), none] dX7_lasts_66 rfl (by decide) rfl ?_
        refine ze_iload_n h dX7_lasts_68 rfl ?_
        refine ze_if_ne h 90 dX7_lasts_69 (by decide) ?_ ?_
        · refine ze_aload_n h dX7_lasts_90 rfl ?_
          refine ze_getR h zl_47 rfl zf_X7_16 dX7_lasts_91 ?_
          refine ze_iconst h 3 dX7_lasts_94 zk_i_3 ?_
          refine ze_iload_n h dX7_lasts_95 rfl ?_
          refine ze_imul h dX7_lasts_96 ?_
          refine ze_ialdG h zl_50 dX7_lasts_97 ?_
          refine ze_if_ne h 105 dX7_lasts_98 (by decide) ?_ ?_
          · refine ze_iconst h 0 dX7_lasts_105 zk_i_0 ?_
            refine ze_istore h [some (.ref 47), some (.int x11), some (.int x12), some (.int x13), some (.int x14), some (.int r16), some (.int 0)] dX7_lasts_106 rfl (by decide) rfl ?_
            refine ze_iload h dX7_lasts_108 rfl ?_
            refine ze_if_eqT h 118 dX7_lasts_110 (by decide) (by decide) ?_
            refine ze_iconst h (-1) dX7_lasts_118 zk_i_m1 ?_
            refine ze_istore_n h [some (.ref 47), some (.int x11), some (.int x12), some (.int (-1)), some (.int x14), some (.int r16), some (.int 0)] dX7_lasts_119 rfl (by decide) rfl ?_
            refine ze_iincN h (fun y9 => [some (.ref 47), some (.int x11), some (.int x12), some (.int (-1)), some (.int y9), some (.int r16), some (.int 0)]) 1 dX7_lasts_120 rfl zk_i_1 rfl (by decide) (fun _ => rfl) (fun x18 => ?_)
            refine ze_goto h 50 dX7_lasts_123 (by decide) ?_
            refine zE_weak h [true, true, true, true, true, false, false] rfl ?_
            exact ih x11 x12 (-1) x18 s17
          · refine ze_iconst h 1 dX7_lasts_101 zk_i_1 ?_
            refine ze_goto h 106 dX7_lasts_102 (by decide) ?_
            refine ze_istore h [some (.ref 47), some (.int x11), some (.int x12), some (.int x13), some (.int x14), some (.int r16), some (.int 1)] dX7_lasts_106 rfl (by decide) rfl ?_
            refine ze_iload h dX7_lasts_108 rfl ?_
            refine ze_if_eqF h 118 dX7_lasts_110 (by decide) (by decide) ?_
            refine ze_iload h dX7_lasts_113 rfl ?_
            refine ze_goto h 119 dX7_lasts_115 (by decide) ?_
            refine ze_istore_n h [some (.ref 47), some (.int x11), some (.int x12), some (.int x14), some (.int x14), some (.int r16), some (.int 1)] dX7_lasts_119 rfl (by decide) rfl ?_
            refine ze_iincN h (fun y9 => [some (.ref 47), some (.int x11), some (.int x12), some (.int x14), some (.int y9), some (.int r16), some (.int 1)]) 1 dX7_lasts_120 rfl zk_i_1 rfl (by decide) (fun _ => rfl) (fun x19 => ?_)
            refine ze_goto h 50 dX7_lasts_123 (by decide) ?_
            refine zE_weak h [true, true, true, true, true, false, false] rfl ?_
            exact ih x11 x12 x14 x19 s17
        · refine ze_iload h dX7_lasts_72 rfl ?_
          refine ze_iload_n h dX7_lasts_74 rfl ?_
          refine ze_ishr h dX7_lasts_75 ?_
          refine ze_iconst h 1 dX7_lasts_76 zk_i_1 ?_
          refine ze_iand h dX7_lasts_77 ?_
          refine ze_iconst h 1 dX7_lasts_78 zk_i_1 ?_
          refine ze_icmp_ne h 86 dX7_lasts_79 (by decide) ?_ ?_
          · refine ze_iconst h 0 dX7_lasts_86 zk_i_0 ?_
            refine ze_goto h 106 dX7_lasts_87 (by decide) ?_
            refine ze_istore h [some (.ref 47), some (.int x11), some (.int x12), some (.int x13), some (.int x14), some (.int r16), some (.int 0)] dX7_lasts_106 rfl (by decide) rfl ?_
            refine ze_iload h dX7_lasts_108 rfl ?_
            refine ze_if_eqT h 118 dX7_lasts_110 (by decide) (by decide) ?_
            refine ze_iconst h (-1) dX7_lasts_118 zk_i_m1 ?_
            refine ze_istore_n h [some (.ref 47), some (.int x11), some (.int x12), some (.int (-1)), some (.int x14), some (.int r16), some (.int 0)] dX7_lasts_119 rfl (by decide) rfl ?_
            refine ze_iincN h (fun y9 => [some (.ref 47), some (.int x11), some (.int x12), some (.int (-1)), some (.int y9), some (.int r16), some (.int 0)]) 1 dX7_lasts_120 rfl zk_i_1 rfl (by decide) (fun _ => rfl) (fun x20 => ?_)
            refine ze_goto h 50 dX7_lasts_123 (by decide) ?_
            refine zE_weak h [true, true, true, true, true, false, false] rfl ?_
            exact ih x11 x12 (-1) x20 s17
          · refine ze_iconst h 1 dX7_lasts_82 zk_i_1 ?_
            refine ze_goto h 106 dX7_lasts_83 (by decide) ?_
            refine ze_istore h [some (.ref 47), some (.int x11), some (.int x12), some (.int x13), some (.int x14), some (.int r16), some (.int 1)] dX7_lasts_106 rfl (by decide) rfl ?_
            refine ze_iload h dX7_lasts_108 rfl ?_
            refine ze_if_eqF h 118 dX7_lasts_110 (by decide) (by decide) ?_
            refine ze_iload h dX7_lasts_113 rfl ?_
            refine ze_goto h 119 dX7_lasts_115 (by decide) ?_
            refine ze_istore_n h [some (.ref 47), some (.int x11), some (.int x12), some (.int x14), some (.int x14), some (.int r16), some (.int 1)] dX7_lasts_119 rfl (by decide) rfl ?_
            refine ze_iincN h (fun y9 => [some (.ref 47), some (.int x11), some (.int x12), some (.int x14), some (.int y9), some (.int r16), some (.int 1)]) 1 dX7_lasts_120 rfl zk_i_1 rfl (by decide) (fun _ => rfl) (fun x21 => ?_)
            refine ze_goto h 50 dX7_lasts_123 (by decide) ?_
            refine zE_weak h [true, true, true, true, true, false, false] rfl ?_
            exact ih x11 x12 x14 x21 s17
set_option maxRecDepth 20000 in
theorem e_X7_lasts_47 {l : Launch} {G : zGT} {T : Option Value × zMem} (h : zOk G l cX7_lasts RX7 7 7 0 0 false) (hR : zR G cX7_lasts (some .int) T zFull 0 0)   : ∀ (x7 : Int32) (x8 : Int32) (x9 : Int32) (s10 : zMem), zE G T (fun r : Int32 => some (.int r)) zFull 0 0 47 [some (.ref 47), some (.int x7), some (.int x8), some (.int x9), none, none, none] [] s10 (f_X7_lasts_47  x7 x8 x9 s10) := by
  intro x7 x8 x9 s10
  unfold f_X7_lasts_47
  refine ze_iconst h 1 dX7_lasts_47 zk_i_1 ?_
  refine ze_istore h [some (.ref 47), some (.int x7), some (.int x8), some (.int x9), some (.int 1), none, none] dX7_lasts_48 rfl (by decide) rfl ?_
  refine e_X7_lasts_50 h hR _ ?_ zN x7 x8 x9 1 s10
  · intro x22 s23
    refine ze_aload_n h dX7_lasts_126 rfl ?_
    refine ze_callVv h (st := []) zce_X7_lays zi_X7_lays zs_X7_lays zm_X7_233 zl_47 rfl rfl (Nat.le_of_ble_eq_true rfl) zkn (c_X7_lays l  s23) rfl (Nat.le_of_ble_eq_true rfl) rfl dX7_lasts_127 (fun _ s25 => ?_)
    refine ze_iload_n h dX7_lasts_130 rfl ?_
    exact ze_iret hR dX7_lasts_131
set_option maxRecDepth 20000 in
theorem c_X7_lasts (l : Launch)  (p1 : Int32) (p2 : Int32) (s0 : zMem) : zC l yX7_lasts (.code yX7_lasts cX7_lasts 7 (some .int)) 7 [.ref 47, .int p1, .int p2] zFull s0 (fun r : Int32 => some (.int r)) (f_X7_lasts p1 p2 s0) := by
  refine zC_of (own := RX7) rfl rfl (Nat.le_of_ble_eq_true rfl) [some (.ref 47), some (.int p1), some (.int p2), none, none, none, none] rfl (fun G T h hR => ?_)
  unfold f_X7_lasts
  refine ze_aload_n h dX7_lasts_0 rfl ?_
  refine ze_iload_n h dX7_lasts_1 rfl ?_
  refine ze_callVi h (st := []) zce_X7_isHut zi_X7_isHut zs_X7_isHut zm_X7_179 zl_47 rfl rfl (Nat.le_of_ble_eq_true rfl) zkn (c_X7_isHut l  p1 s0) rfl (Nat.le_of_ble_eq_true rfl) rfl dX7_lasts_2 (fun r1 s2 => ?_)
  refine ze_if_ne h 11 dX7_lasts_5 (by decide) ?_ ?_
  · refine ze_iload_n h dX7_lasts_11 rfl ?_
    refine ze_iconst h 0 dX7_lasts_12 zk_i_0 ?_
    refine ze_iconst h 1 dX7_lasts_13 zk_i_1 ?_
    refine ze_callSi h (st := []) zce_X7_in zt_X7_in zm_X7_87 (Nat.le_of_ble_eq_true rfl) zkn (c_X7_in l zFull p2 0 1 s2) rfl (Nat.le_of_ble_eq_true rfl) rfl dX7_lasts_14 (fun r3 s4 => ?_)
    refine ze_if_ne h 23 dX7_lasts_17 (by decide) ?_ ?_
    · refine ze_iconst h (-1) dX7_lasts_23 zk_i_m1 ?_
      refine ze_istore_n h [some (.ref 47), some (.int p1), some (.int p2), some (.int (-1)), none, none, none] dX7_lasts_24 rfl (by decide) rfl ?_
      refine ze_aload_n h dX7_lasts_25 rfl ?_
      refine ze_callVv h (st := []) zce_X7_keeps zi_X7_keeps zs_X7_keeps zm_X7_227 zl_47 rfl rfl (Nat.le_of_ble_eq_true rfl) zkn (c_X7_keeps l  s4) rfl (Nat.le_of_ble_eq_true rfl) rfl dX7_lasts_26 (fun _ s6 => ?_)
      refine ze_iload_n h dX7_lasts_29 rfl ?_
      refine ze_iconst h 1 dX7_lasts_30 zk_i_1 ?_
      refine ze_icmp_ne h 47 dX7_lasts_31 (by decide) ?_ ?_
      · exact e_X7_lasts_47 h hR  p1 p2 (-1) s6
      · refine ze_aload_n h dX7_lasts_34 rfl ?_
        refine ze_getR h zl_47 rfl zf_X7_16 dX7_lasts_35 ?_
        refine ze_iconst h 3 dX7_lasts_38 zk_i_3 ?_
        refine ze_iload_n h dX7_lasts_39 rfl ?_
        refine ze_imul h dX7_lasts_40 ?_
        refine ze_ialdG h zl_50 dX7_lasts_41 ?_
        refine ze_if_ne h 47 dX7_lasts_42 (by decide) ?_ ?_
        · exact e_X7_lasts_47 h hR  p1 p2 (-1) s6
        · refine ze_iconst h 0 dX7_lasts_45 zk_i_0 ?_
          refine ze_istore_n h [some (.ref 47), some (.int p1), some (.int p2), some (.int 0), none, none, none] dX7_lasts_46 rfl (by decide) rfl ?_
          exact e_X7_lasts_47 h hR  p1 p2 0 s6
    · refine ze_bipush h (-7) dX7_lasts_20 zk_b_m7 ?_
      exact ze_iret hR dX7_lasts_22
  · refine ze_bipush h (-5) dX7_lasts_8 zk_b_m5 ?_
    exact ze_iret hR dX7_lasts_10
set_option maxRecDepth 20000 in
theorem c_X7_net (l : Launch)  (p1 : Int32) (s0 : zMem) : zC l yX7_net (.code yX7_net cX7_net 2 (some .int)) 3 [.ref 47, .int p1] zFull s0 (fun r : Int32 => some (.int r)) (f_X7_net p1 s0) := by
  refine zC_of (own := RX7) rfl rfl (Nat.le_of_ble_eq_true rfl) [some (.ref 47), some (.int p1)] rfl (fun G T h hR => ?_)
  unfold f_X7_net
  refine ze_aload_n h dX7_net_0 rfl ?_
  refine ze_iload_n h dX7_net_1 rfl ?_
  refine ze_callVi h (st := []) zce_X7_isHut zi_X7_isHut zs_X7_isHut zm_X7_179 zl_47 rfl rfl (Nat.le_of_ble_eq_true rfl) zkn (c_X7_isHut l  p1 s0) rfl (Nat.le_of_ble_eq_true rfl) rfl dX7_net_2 (fun r1 s2 => ?_)
  refine ze_if_eq h 22 dX7_net_5 (by decide) ?_ ?_
  · refine ze_ldc h zq_X7_236 dX7_net_22 ?_
    exact ze_iret hR dX7_net_24
  · refine ze_aload_n h dX7_net_8 rfl ?_
    refine ze_iload_n h dX7_net_9 rfl ?_
    refine ze_callVi h (st := []) zce_X7_owedTo zi_X7_owedTo zs_X7_owedTo zm_X7_186 zl_47 rfl rfl (Nat.le_of_ble_eq_true rfl) zkn (c_X7_owedTo l  p1 s2) rfl (Nat.le_of_ble_eq_true rfl) rfl dX7_net_10 (fun r3 s4 => ?_)
    refine ze_aload_n h dX7_net_13 rfl ?_
    refine ze_iload_n h dX7_net_14 rfl ?_
    refine ze_callVi h (st := [.int r3]) zce_X7_owedBy zi_X7_owedBy zs_X7_owedBy zm_X7_170 zl_47 rfl rfl (Nat.le_of_ble_eq_true rfl) zkn (c_X7_owedBy l  p1 s4) rfl (Nat.le_of_ble_eq_true rfl) rfl dX7_net_15 (fun r5 s6 => ?_)
    refine ze_isub h dX7_net_18 ?_
    refine ze_goto h 24 dX7_net_19 (by decide) ?_
    exact ze_iret hR dX7_net_24
set_option maxRecDepth 20000 in
theorem e_X7_settle_14 {l : Launch} {G : zGT} {T : Option Value × zMem} (h : zOk G l cX7_settle RX7 8 2 0 0 false) (hR : zR G cX7_settle (some .int) T zFull 0 0)  (c45 : Int32 → zMem → Option (Int32 × zMem)) (hc45 : ∀ (y1 : Int32) (s9 : zMem), zE G T (fun r : Int32 => some (.int r)) zFull 0 0 45 [some (.ref 47), some (.int y1), none, none, none, none, none, none] [] s9 (c45 y1 s9)) : ∀ (n : Nat) (x3 : Int32) (x4 : Int32) (s5 : zMem), zE G T (fun r : Int32 => some (.int r)) zFull 0 0 14 [some (.ref 47), some (.int x3), some (.int x4), none, none, none, none, none] [] s5 (f_X7_settle_14 c45 n x3 x4 s5) := by
  intro n
  induction n with
  | zero => intro _ _ _; exact ze_none
  | succ n ih =>
    intro x3 x4 s5
    rw [f_X7_settle_14]
    refine ze_iload_n h dX7_settle_14 rfl ?_
    refine ze_aload_n h dX7_settle_15 rfl ?_
    refine ze_getI h zl_47 rfl zf_X7_84 dX7_settle_16 ?_
    refine ze_icmp_ge h 45 dX7_settle_19 (by decide) ?_ ?_
    · refine zE_weak h [true, true, false, false, false, false, false, false] rfl ?_
      exact hc45 x3 s5
    · refine ze_aload_n h dX7_settle_22 rfl ?_
      refine ze_getR h zl_47 rfl zf_X7_73 dX7_settle_23 ?_
      refine ze_iload_n h dX7_settle_26 rfl ?_
      refine ze_aload_n h dX7_settle_27 rfl ?_
      refine ze_iload_n h dX7_settle_28 rfl ?_
      refine ze_callVi h (st := [.int x4, .ref 69]) zce_X7_owedTo zi_X7_owedTo zs_X7_owedTo zm_X7_186 zl_47 rfl rfl (Nat.le_of_ble_eq_true rfl) zkn (c_X7_owedTo l  x4 s5) rfl (Nat.le_of_ble_eq_true rfl) rfl dX7_settle_29 (fun r6 s7 => ?_)
      refine ze_aload_n h dX7_settle_32 rfl ?_
      refine ze_iload_n h dX7_settle_33 rfl ?_
      refine ze_callVi h (st := [.int r6, .int x4, .ref 69]) zce_X7_owedBy zi_X7_owedBy zs_X7_owedBy zm_X7_170 zl_47 rfl rfl (Nat.le_of_ble_eq_true rfl) zkn (c_X7_owedBy l  x4 s7) rfl (Nat.le_of_ble_eq_true rfl) rfl dX7_settle_34 (fun r8 s9 => ?_)
      refine ze_isub h dX7_settle_37 ?_
      refine ze_iastG h zl_69 dX7_settle_38 ?_
      refine ze_nmS (fun s10 => ?_)
      refine ze_iincN h (fun y9 => [some (.ref 47), some (.int x3), some (.int y9), none, none, none, none, none]) 1 dX7_settle_39 rfl zk_i_1 rfl (by decide) (fun _ => rfl) (fun x11 => ?_)
      refine ze_goto h 14 dX7_settle_42 (by decide) ?_
      exact ih x3 x11 s10
set_option maxRecDepth 20000 in
theorem e_X7_settle_99 {l : Launch} {G : zGT} {T : Option Value × zMem} (h : zOk G l cX7_settle RX7 8 2 0 0 false) (hR : zR G cX7_settle (some .int) T zFull 0 0)  (c66 : Int32 → Int32 → Int32 → Int32 → Int32 → Int32 → zMem → Option (Int32 × zMem)) (hc66 : ∀ (y1 : Int32) (y2 : Int32) (y3 : Int32) (y4 : Int32) (y5 : Int32) (y6 : Int32) (s9 : zMem), zE G T (fun r : Int32 => some (.int r)) zFull 0 0 66 [some (.ref 47), some (.int y1), some (.int y2), some (.int y3), none, some (.int y4), some (.int y5), some (.int y6)] [] s9 (c66 y1 y2 y3 y4 y5 y6 s9)) : ∀ (x26 : Int32) (x27 : Int32) (x28 : Int32) (x29 : Int32) (x30 : Int32) (t31 : Int32) (s32 : zMem), zE G T (fun r : Int32 => some (.int r)) zFull 0 0 99 [some (.ref 47), some (.int x26), some (.int x27), some (.int x28), none, none, some (.int x29), some (.int x30)] [.int t31] s32 (f_X7_settle_99 c66  x26 x27 x28 x29 x30 t31 s32) := by
  intro x26 x27 x28 x29 x30 t31 s32
  unfold f_X7_settle_99
  refine ze_istore h [some (.ref 47), some (.int x26), some (.int x27), some (.int x28), none, some (.int t31), some (.int x29), some (.int x30)] dX7_settle_99 rfl (by decide) rfl ?_
  refine ze_aload_n h dX7_settle_101 rfl ?_
  refine ze_getR h zl_47 rfl zf_X7_73 dX7_settle_102 ?_
  refine ze_iload h dX7_settle_105 rfl ?_
  refine ze_ialdG h zl_69 dX7_settle_107 ?_
  refine ze_aload_n h dX7_settle_108 rfl ?_
  refine ze_getR h zl_47 rfl zf_X7_73 dX7_settle_109 ?_
  refine ze_iload h dX7_settle_112 rfl ?_
  refine ze_ialdG h zl_69 dX7_settle_114 ?_
  refine ze_icmp_le h 123 dX7_settle_115 (by decide) ?_ ?_
  · refine ze_iload h dX7_settle_123 rfl ?_
    refine ze_istore h [some (.ref 47), some (.int x26), some (.int x27), some (.int x28), none, some (.int t31), some (.int x29), some (.int x30)] dX7_settle_125 rfl (by decide) rfl ?_
    refine ze_iincN h (fun y9 => [some (.ref 47), some (.int x26), some (.int x27), some (.int x28), none, some (.int t31), some (.int x29), some (.int y9)]) 1 dX7_settle_127 rfl zk_i_1 rfl (by decide) (fun _ => rfl) (fun x33 => ?_)
    refine ze_goto h 66 dX7_settle_130 (by decide) ?_
    exact hc66 x26 x27 x28 t31 x29 x33 s32
  · refine ze_iload h dX7_settle_118 rfl ?_
    refine ze_goto h 125 dX7_settle_120 (by decide) ?_
    refine ze_istore h [some (.ref 47), some (.int x26), some (.int x27), some (.int x28), none, some (.int t31), some (.int x30), some (.int x30)] dX7_settle_125 rfl (by decide) rfl ?_
    refine ze_iincN h (fun y9 => [some (.ref 47), some (.int x26), some (.int x27), some (.int x28), none, some (.int t31), some (.int x30), some (.int y9)]) 1 dX7_settle_127 rfl zk_i_1 rfl (by decide) (fun _ => rfl) (fun x34 => ?_)
    refine ze_goto h 66 dX7_settle_130 (by decide) ?_
    exact hc66 x26 x27 x28 t31 x30 x34 s32
set_option maxRecDepth 20000 in
theorem e_X7_settle_66 {l : Launch} {G : zGT} {T : Option Value × zMem} (h : zOk G l cX7_settle RX7 8 2 0 0 false) (hR : zR G cX7_settle (some .int) T zFull 0 0)  (c133 : Int32 → Int32 → Int32 → Int32 → Int32 → zMem → Option (Int32 × zMem)) (hc133 : ∀ (y1 : Int32) (y2 : Int32) (y3 : Int32) (y4 : Int32) (y5 : Int32) (s9 : zMem), zE G T (fun r : Int32 => some (.int r)) zFull 0 0 133 [some (.ref 47), some (.int y1), some (.int y2), some (.int y3), none, some (.int y4), some (.int y5), none] [] s9 (c133 y1 y2 y3 y4 y5 s9)) : ∀ (n : Nat) (x19 : Int32) (x20 : Int32) (x21 : Int32) (x22 : Int32) (x23 : Int32) (x24 : Int32) (s25 : zMem), zE G T (fun r : Int32 => some (.int r)) zFull 0 0 66 [some (.ref 47), some (.int x19), some (.int x20), some (.int x21), none, some (.int x22), some (.int x23), some (.int x24)] [] s25 (f_X7_settle_66 c133 n x19 x20 x21 x22 x23 x24 s25) := by
  intro n
  induction n with
  | zero => intro _ _ _ _ _ _ _; exact ze_none
  | succ n ih =>
    intro x19 x20 x21 x22 x23 x24 s25
    rw [f_X7_settle_66]
    refine ze_iload h dX7_settle_66 rfl ?_
    refine ze_aload_n h dX7_settle_68 rfl ?_
    refine ze_getI h zl_47 rfl zf_X7_84 dX7_settle_69 ?_
    refine ze_icmp_ge h 133 dX7_settle_72 (by decide) ?_ ?_
    · refine zE_weak h [true, true, true, true, false, true, true, false] rfl ?_
      exact hc133 x19 x20 x21 x22 x23 s25
    · refine ze_aload_n h dX7_settle_75 rfl ?_
      refine ze_getR h zl_47 rfl zf_X7_73 dX7_settle_76 ?_
      refine ze_iload h dX7_settle_79 rfl ?_
      refine ze_ialdG h zl_69 dX7_settle_81 ?_
      refine ze_aload_n h dX7_settle_82 rfl ?_
      refine ze_getR h zl_47 rfl zf_X7_73 dX7_settle_83 ?_
      refine ze_iload h dX7_settle_86 rfl ?_
      refine ze_ialdG h zl_69 dX7_settle_88 ?_
      refine ze_icmp_ge h 97 dX7_settle_89 (by decide) ?_ ?_
      · refine ze_iload h dX7_settle_97 rfl ?_
        refine zE_weak h [true, true, true, true, false, false, true, true] rfl ?_
        refine e_X7_settle_99 h hR _ ?_ x19 x20 x21 x23 x24 x22 s25
        · intro x35 x36 x37 x38 x39 x40 s41
          exact ih x35 x36 x37 x38 x39 x40 s41
      · refine ze_iload h dX7_settle_92 rfl ?_
        refine ze_goto h 99 dX7_settle_94 (by decide) ?_
        refine zE_weak h [true, true, true, true, false, false, true, true] rfl ?_
        refine e_X7_settle_99 h hR _ ?_ x19 x20 x21 x23 x24 x24 s25
        · intro x42 x43 x44 x45 x46 x47 s48
          exact ih x42 x43 x44 x45 x46 x47 s48
set_option maxRecDepth 20000 in
theorem e_X7_settle_198 {l : Launch} {G : zGT} {T : Option Value × zMem} (h : zOk G l cX7_settle RX7 8 2 0 0 false) (hR : zR G cX7_settle (some .int) T zFull 0 0)  (c52 : Int32 → Int32 → Int32 → Int32 → zMem → Option (Int32 × zMem)) (hc52 : ∀ (y1 : Int32) (y2 : Int32) (y3 : Int32) (y4 : Int32) (s9 : zMem), zE G T (fun r : Int32 => some (.int r)) zFull 0 0 52 [some (.ref 47), some (.int y1), some (.int y2), some (.int y3), some (.int y4), none, none, none] [] s9 (c52 y1 y2 y3 y4 s9)) : ∀ (x68 : Int32) (x69 : Int32) (x70 : Int32) (x71 : Int32) (x72 : Int32) (x73 : Int32) (t74 : Int32) (s75 : zMem), zE G T (fun r : Int32 => some (.int r)) zFull 0 0 198 [some (.ref 47), some (.int x68), some (.int x69), some (.int x70), some (.int x71), some (.int x72), some (.int x73), none] [.int t74] s75 (f_X7_settle_198 c52  x68 x69 x70 x71 x72 x73 t74 s75) := by
  intro x68 x69 x70 x71 x72 x73 t74 s75
  unfold f_X7_settle_198
  refine ze_istore h [some (.ref 47), some (.int x68), some (.int x69), some (.int x70), some (.int x71), some (.int x72), some (.int x73), some (.int t74)] dX7_settle_198 rfl (by decide) rfl ?_
  refine ze_aload_n h dX7_settle_200 rfl ?_
  refine ze_getR h zl_47 rfl zf_X7_73 dX7_settle_201 ?_
  refine ze_iload h dX7_settle_204 rfl ?_
  refine ze_dup2 h dX7_settle_206 rfl rfl ?_
  refine ze_ialdG h zl_69 dX7_settle_207 ?_
  refine ze_iload h dX7_settle_208 rfl ?_
  refine ze_iadd h dX7_settle_210 ?_
  refine ze_iastG h zl_69 dX7_settle_211 ?_
  refine ze_nmS (fun s76 => ?_)
  refine ze_aload_n h dX7_settle_212 rfl ?_
  refine ze_getR h zl_47 rfl zf_X7_73 dX7_settle_213 ?_
  refine ze_iload h dX7_settle_216 rfl ?_
  refine ze_dup2 h dX7_settle_218 rfl rfl ?_
  refine ze_pc 219 rfl ?_
  refine ze_ialdG h zl_69 dX7_settle_219 ?_
  refine ze_iload h dX7_settle_220 rfl ?_
  refine ze_isub h dX7_settle_222 ?_
  refine ze_iastG h zl_69 dX7_settle_223 ?_
  refine ze_nmS (fun s77 => ?_)
  refine ze_iincN h (fun y9 => [some (.ref 47), some (.int x68), some (.int y9), some (.int x70), some (.int x71), some (.int x72), some (.int x73), some (.int t74)]) 1 dX7_settle_224 rfl zk_i_1 rfl (by decide) (fun _ => rfl) (fun x78 => ?_)
  refine ze_iload_n h dX7_settle_227 rfl ?_
  refine ze_iload h dX7_settle_228 rfl ?_
  refine ze_iadd h dX7_settle_230 ?_
  refine ze_nmI (fun x79 => ?_)
  refine ze_istore_n h [some (.ref 47), some (.int x68), some (.int x78), some (.int x79), some (.int x71), some (.int x72), some (.int x73), some (.int t74)] dX7_settle_231 rfl (by decide) rfl ?_
  refine ze_goto h 52 dX7_settle_232 (by decide) ?_
  refine zE_weak h [true, true, true, true, true, false, false, false] rfl ?_
  exact hc52 x68 x78 x79 x71 s77
set_option maxRecDepth 20000 in
theorem e_X7_settle_155 {l : Launch} {G : zGT} {T : Option Value × zMem} (h : zOk G l cX7_settle RX7 8 2 0 0 false) (hR : zR G cX7_settle (some .int) T zFull 0 0)  (c52 : Int32 → Int32 → Int32 → Int32 → zMem → Option (Int32 × zMem)) (hc52 : ∀ (y1 : Int32) (y2 : Int32) (y3 : Int32) (y4 : Int32) (s9 : zMem), zE G T (fun r : Int32 => some (.int r)) zFull 0 0 52 [some (.ref 47), some (.int y1), some (.int y2), some (.int y3), some (.int y4), none, none, none] [] s9 (c52 y1 y2 y3 y4 s9)) : ∀ (x61 : Int32) (x62 : Int32) (x63 : Int32) (x64 : Int32) (x65 : Int32) (t66 : Int32) (s67 : zMem), zE G T (fun r : Int32 => some (.int r)) zFull 0 0 155 [some (.ref 47), some (.int x61), some (.int x62), some (.int x63), none, some (.int x64), some (.int x65), none] [.int t66] s67 (f_X7_settle_155 c52  x61 x62 x63 x64 x65 t66 s67) := by
  intro x61 x62 x63 x64 x65 t66 s67
  unfold f_X7_settle_155
  refine ze_istore h [some (.ref 47), some (.int x61), some (.int x62), some (.int x63), some (.int t66), some (.int x64), some (.int x65), none] dX7_settle_155 rfl (by decide) rfl ?_
  refine ze_iload h dX7_settle_157 rfl ?_
  refine ze_if_eq h 232 dX7_settle_159 (by decide) ?_ ?_
  · refine ze_goto h 52 dX7_settle_232 (by decide) ?_
    refine zE_weak h [true, true, true, true, true, false, false, false] rfl ?_
    exact hc52 x61 x62 x63 t66 s67
  · refine ze_aload_n h dX7_settle_162 rfl ?_
    refine ze_getR h zl_47 rfl zf_X7_73 dX7_settle_163 ?_
    refine ze_iload h dX7_settle_166 rfl ?_
    refine ze_ialdG h zl_69 dX7_settle_168 ?_
    refine ze_ineg h dX7_settle_169 ?_
    refine ze_aload_n h dX7_settle_170 rfl ?_
    refine ze_getR h zl_47 rfl zf_X7_73 dX7_settle_171 ?_
    refine ze_iload h dX7_settle_174 rfl ?_
    refine ze_ialdG h zl_69 dX7_settle_176 ?_
    refine ze_icmp_ge h 191 dX7_settle_177 (by decide) ?_ ?_
    · refine ze_aload_n h dX7_settle_191 rfl ?_
      refine ze_getR h zl_47 rfl zf_X7_73 dX7_settle_192 ?_
      refine ze_iload h dX7_settle_195 rfl ?_
      refine ze_ialdG h zl_69 dX7_settle_197 ?_
      refine e_X7_settle_198 h hR _ ?_ x61 x62 x63 t66 x64 x65 (s67 69 (zix x65)) s67
      · intro x80 x81 x82 x83 s84
        exact hc52 x80 x81 x82 x83 s84
    · refine ze_aload_n h dX7_settle_180 rfl ?_
      refine ze_getR h zl_47 rfl zf_X7_73 dX7_settle_181 ?_
      refine ze_iload h dX7_settle_184 rfl ?_
      refine ze_ialdG h zl_69 dX7_settle_186 ?_
      refine ze_ineg h dX7_settle_187 ?_
      refine ze_goto h 198 dX7_settle_188 (by decide) ?_
      refine e_X7_settle_198 h hR _ ?_ x61 x62 x63 t66 x64 x65 (-(s67 69 (zix x64))) s67
      · intro x85 x86 x87 x88 s89
        exact hc52 x85 x86 x87 x88 s89
set_option maxRecDepth 20000 in
theorem e_X7_settle_154 {l : Launch} {G : zGT} {T : Option Value × zMem} (h : zOk G l cX7_settle RX7 8 2 0 0 false) (hR : zR G cX7_settle (some .int) T zFull 0 0)  (c52 : Int32 → Int32 → Int32 → Int32 → zMem → Option (Int32 × zMem)) (hc52 : ∀ (y1 : Int32) (y2 : Int32) (y3 : Int32) (y4 : Int32) (s9 : zMem), zE G T (fun r : Int32 => some (.int r)) zFull 0 0 52 [some (.ref 47), some (.int y1), some (.int y2), some (.int y3), some (.int y4), none, none, none] [] s9 (c52 y1 y2 y3 y4 s9)) : ∀ (x55 : Int32) (x56 : Int32) (x57 : Int32) (x58 : Int32) (x59 : Int32) (s60 : zMem), zE G T (fun r : Int32 => some (.int r)) zFull 0 0 154 [some (.ref 47), some (.int x55), some (.int x56), some (.int x57), none, some (.int x58), some (.int x59), none] [] s60 (f_X7_settle_154 c52  x55 x56 x57 x58 x59 s60) := by
  intro x55 x56 x57 x58 x59 s60
  unfold f_X7_settle_154
  refine ze_iconst h 0 dX7_settle_154 zk_i_0 ?_
  refine e_X7_settle_155 h hR _ ?_ x55 x56 x57 x58 x59 0 s60
  · intro x90 x91 x92 x93 s94
    exact hc52 x90 x91 x92 x93 s94
set_option maxRecDepth 20000 in
theorem e_X7_settle_52 {l : Launch} {G : zGT} {T : Option Value × zMem} (h : zOk G l cX7_settle RX7 8 2 0 0 false) (hR : zR G cX7_settle (some .int) T zFull 0 0)  (c235 : Int32 → Int32 → Int32 → zMem → Option (Int32 × zMem)) (hc235 : ∀ (y1 : Int32) (y2 : Int32) (y3 : Int32) (s9 : zMem), zE G T (fun r : Int32 => some (.int r)) zFull 0 0 235 [none, some (.int y1), some (.int y2), some (.int y3), none, none, none, none] [] s9 (c235 y1 y2 y3 s9)) : ∀ (n : Nat) (x14 : Int32) (x15 : Int32) (x16 : Int32) (x17 : Int32) (s18 : zMem), zE G T (fun r : Int32 => some (.int r)) zFull 0 0 52 [some (.ref 47), some (.int x14), some (.int x15), some (.int x16), some (.int x17), none, none, none] [] s18 (f_X7_settle_52 c235 n x14 x15 x16 x17 s18) := by
  intro n
  induction n with
  | zero => intro _ _ _ _ _; exact ze_none
  | succ n ih =>
    intro x14 x15 x16 x17 s18
    rw [f_X7_settle_52]
    refine ze_iload h dX7_settle_52 rfl ?_
    refine ze_if_eq h 235 dX7_settle_54 (by decide) ?_ ?_
    · refine zE_weak h [false, true, true, true, false, false, false, false] rfl ?_
      exact hc235 x14 x15 x16 s18
    · refine ze_iconst h 0 dX7_settle_57 zk_i_0 ?_
      refine ze_istore h [some (.ref 47), some (.int x14), some (.int x15), some (.int x16), some (.int x17), some (.int 0), none, none] dX7_settle_58 rfl (by decide) rfl ?_
      refine ze_iconst h 0 dX7_settle_60 zk_i_0 ?_
      refine ze_istore h [some (.ref 47), some (.int x14), some (.int x15), some (.int x16), some (.int x17), some (.int 0), some (.int 0), none] dX7_settle_61 rfl (by decide) rfl ?_
      refine ze_iconst h 1 dX7_settle_63 zk_i_1 ?_
      refine ze_istore h [some (.ref 47), some (.int x14), some (.int x15), some (.int x16), some (.int x17), some (.int 0), some (.int 0), some (.int 1)] dX7_settle_64 rfl (by decide) rfl ?_
      refine zE_weak h [true, true, true, true, false, true, true, true] rfl ?_
      refine e_X7_settle_66 h hR _ ?_ zN x14 x15 x16 0 0 1 s18
      · intro x49 x50 x51 x52 x53 s54
        refine ze_aload_n h dX7_settle_133 rfl ?_
        refine ze_getR h zl_47 rfl zf_X7_73 dX7_settle_134 ?_
        refine ze_iload h dX7_settle_137 rfl ?_
        refine ze_ialdG h zl_69 dX7_settle_139 ?_
        refine ze_if_ge h 154 dX7_settle_140 (by decide) ?_ ?_
        · refine e_X7_settle_154 h hR _ ?_ x49 x50 x51 x52 x53 s54
          · intro x95 x96 x97 x98 s99
            exact ih x95 x96 x97 x98 s99
        · refine ze_aload_n h dX7_settle_143 rfl ?_
          refine ze_getI h zl_47 rfl zf_X7_84 dX7_settle_144 ?_
          refine ze_if_le h 154 dX7_settle_147 (by decide) ?_ ?_
          · refine e_X7_settle_154 h hR _ ?_ x49 x50 x51 x52 x53 s54
            · intro x100 x101 x102 x103 s104
              exact ih x100 x101 x102 x103 s104
          · refine ze_iconst h 1 dX7_settle_150 zk_i_1 ?_
            refine ze_goto h 155 dX7_settle_151 (by decide) ?_
            refine e_X7_settle_155 h hR _ ?_ x49 x50 x51 x52 x53 1 s54
            · intro x105 x106 x107 x108 s109
              exact ih x105 x106 x107 x108 s109
set_option maxRecDepth 20000 in
theorem c_X7_settle (l : Launch)  (p1 : Int32) (s0 : zMem) : zC l yX7_settle (.code yX7_settle cX7_settle 8 (some .int)) 2 [.ref 47, .int p1] zFull s0 (fun r : Int32 => some (.int r)) (f_X7_settle p1 s0) := by
  refine zC_of (own := RX7) rfl rfl (Nat.le_of_ble_eq_true rfl) [some (.ref 47), some (.int p1), none, none, none, none, none, none] rfl (fun G T h hR => ?_)
  unfold f_X7_settle
  refine ze_iload_n h dX7_settle_0 rfl ?_
  refine ze_iconst h 0 dX7_settle_1 zk_i_0 ?_
  refine ze_iconst h 1 dX7_settle_2 zk_i_1 ?_
  refine ze_callSi h (st := []) zce_X7_in zt_X7_in zm_X7_87 (Nat.le_of_ble_eq_true rfl) zkn (c_X7_in l zFull p1 0 1 s0) rfl (Nat.le_of_ble_eq_true rfl) rfl dX7_settle_3 (fun r1 s2 => ?_)
  refine ze_if_ne h 12 dX7_settle_6 (by decide) ?_ ?_
  · refine ze_iconst h 0 dX7_settle_12 zk_i_0 ?_
    refine ze_istore_n h [some (.ref 47), some (.int p1), some (.int 0), none, none, none, none, none] dX7_settle_13 rfl (by decide) rfl ?_
    refine e_X7_settle_14 h hR _ ?_ zN p1 0 s2
    · intro x12 s13
      refine ze_iconst h 0 dX7_settle_45 zk_i_0 ?_
      refine ze_istore_n h [some (.ref 47), some (.int x12), some (.int 0), none, none, none, none, none] dX7_settle_46 rfl (by decide) rfl ?_
      refine ze_iconst h 0 dX7_settle_47 zk_i_0 ?_
      refine ze_istore_n h [some (.ref 47), some (.int x12), some (.int 0), some (.int 0), none, none, none, none] dX7_settle_48 rfl (by decide) rfl ?_
      refine ze_iconst h 1 dX7_settle_49 zk_i_1 ?_
      refine ze_istore h [some (.ref 47), some (.int x12), some (.int 0), some (.int 0), some (.int 1), none, none, none] dX7_settle_50 rfl (by decide) rfl ?_
      refine e_X7_settle_52 h hR _ ?_ zN x12 0 0 1 s13
      · intro x110 x111 x112 s113
        refine ze_iload_n h dX7_settle_235 rfl ?_
        refine ze_if_ne h 243 dX7_settle_236 (by decide) ?_ ?_
        · refine ze_iload_n h dX7_settle_243 rfl ?_
          exact ze_iret hR dX7_settle_244
        · refine ze_iload_n h dX7_settle_239 rfl ?_
          refine ze_goto h 244 dX7_settle_240 (by decide) ?_
          exact ze_iret hR dX7_settle_244
  · refine ze_bipush h (-2) dX7_settle_9 zk_b_m2 ?_
    exact ze_iret hR dX7_settle_11
set_option maxRecDepth 20000 in
theorem e_X7_sourceOf_54 {l : Launch} {G : zGT} {T : Option Value × zMem} (h : zOk G l cX7_sourceOf RX7 6 1 0 0 false) (hR : zR G cX7_sourceOf (some .int) T zFull 0 0)  (c14 : Int32 → Int32 → Int32 → Int32 → zMem → Option (Int32 × zMem)) (hc14 : ∀ (y1 : Int32) (y2 : Int32) (y3 : Int32) (y4 : Int32) (s9 : zMem), zE G T (fun r : Int32 => some (.int r)) zFull 0 0 14 [some (.ref 47), some (.int y1), some (.int y2), some (.int y3), some (.int y4), none] [] s9 (c14 y1 y2 y3 y4 s9)) : ∀ (x15 : Int32) (x16 : Int32) (x17 : Int32) (x18 : Int32) (t19 : Int32) (s20 : zMem), zE G T (fun r : Int32 => some (.int r)) zFull 0 0 54 [some (.ref 47), some (.int x15), some (.int x16), some (.int x17), some (.int x18), none] [.int t19] s20 (f_X7_sourceOf_54 c14  x15 x16 x17 x18 t19 s20) := by
  intro x15 x16 x17 x18 t19 s20
  unfold f_X7_sourceOf_54
  refine ze_istore h [some (.ref 47), some (.int x15), some (.int x16), some (.int x17), some (.int x18), some (.int t19)] dX7_sourceOf_54 rfl (by decide) rfl ?_
  refine ze_iload_n h dX7_sourceOf_56 rfl ?_
  refine ze_iload h dX7_sourceOf_57 rfl ?_
  refine ze_if_eq h 74 dX7_sourceOf_59 (by decide) ?_ ?_
  · refine ze_iconst h 0 dX7_sourceOf_74 zk_i_0 ?_
    refine ze_ior h dX7_sourceOf_75 ?_
    refine ze_nmI (fun x21 => ?_)
    refine ze_istore_n h [some (.ref 47), some (.int x15), some (.int x21), some (.int x17), some (.int x18), some (.int t19)] dX7_sourceOf_76 rfl (by decide) rfl ?_
    refine ze_iincN h (fun y9 => [some (.ref 47), some (.int x15), some (.int x21), some (.int x17), some (.int y9), some (.int t19)]) 1 dX7_sourceOf_77 rfl zk_i_1 rfl (by decide) (fun _ => rfl) (fun x22 => ?_)
    refine ze_goto h 14 dX7_sourceOf_80 (by decide) ?_
    refine zE_weak h [true, true, true, true, true, false] rfl ?_
    exact hc14 x15 x21 x17 x22 s20
  · refine ze_iconst h 1 dX7_sourceOf_62 zk_i_1 ?_
    refine ze_aload_n h dX7_sourceOf_63 rfl ?_
    refine ze_getR h zl_47 rfl zf_X7_19 dX7_sourceOf_64 ?_
    refine ze_iload h dX7_sourceOf_67 rfl ?_
    refine ze_ialdG h zl_51 dX7_sourceOf_69 ?_
    refine ze_ishl h dX7_sourceOf_70 ?_
    refine ze_goto h 75 dX7_sourceOf_71 (by decide) ?_
    refine ze_ior h dX7_sourceOf_75 ?_
    refine ze_nmI (fun x23 => ?_)
    refine ze_istore_n h [some (.ref 47), some (.int x15), some (.int x23), some (.int x17), some (.int x18), some (.int t19)] dX7_sourceOf_76 rfl (by decide) rfl ?_
    refine ze_iincN h (fun y9 => [some (.ref 47), some (.int x15), some (.int x23), some (.int x17), some (.int y9), some (.int t19)]) 1 dX7_sourceOf_77 rfl zk_i_1 rfl (by decide) (fun _ => rfl) (fun x24 => ?_)
    refine ze_goto h 14 dX7_sourceOf_80 (by decide) ?_
    refine zE_weak h [true, true, true, true, true, false] rfl ?_
    exact hc14 x15 x23 x17 x24 s20
set_option maxRecDepth 20000 in
theorem e_X7_sourceOf_49 {l : Launch} {G : zGT} {T : Option Value × zMem} (h : zOk G l cX7_sourceOf RX7 6 1 0 0 false) (hR : zR G cX7_sourceOf (some .int) T zFull 0 0)  (c14 : Int32 → Int32 → Int32 → Int32 → zMem → Option (Int32 × zMem)) (hc14 : ∀ (y1 : Int32) (y2 : Int32) (y3 : Int32) (y4 : Int32) (s9 : zMem), zE G T (fun r : Int32 => some (.int r)) zFull 0 0 14 [some (.ref 47), some (.int y1), some (.int y2), some (.int y3), some (.int y4), none] [] s9 (c14 y1 y2 y3 y4 s9)) : ∀ (x10 : Int32) (x11 : Int32) (x12 : Int32) (x13 : Int32) (s14 : zMem), zE G T (fun r : Int32 => some (.int r)) zFull 0 0 49 [some (.ref 47), some (.int x10), some (.int x11), some (.int x12), some (.int x13), none] [] s14 (f_X7_sourceOf_49 c14  x10 x11 x12 x13 s14) := by
  intro x10 x11 x12 x13 s14
  unfold f_X7_sourceOf_49
  refine ze_iconst h 1 dX7_sourceOf_49 zk_i_1 ?_
  refine ze_goto h 54 dX7_sourceOf_50 (by decide) ?_
  refine e_X7_sourceOf_54 h hR _ ?_ x10 x11 x12 x13 1 s14
  · intro x25 x26 x27 x28 s29
    exact hc14 x25 x26 x27 x28 s29
set_option maxRecDepth 20000 in
theorem e_X7_sourceOf_14 {l : Launch} {G : zGT} {T : Option Value × zMem} (h : zOk G l cX7_sourceOf RX7 6 1 0 0 false) (hR : zR G cX7_sourceOf (some .int) T zFull 0 0)  (c83 : Int32 → Int32 → Int32 → zMem → Option (Int32 × zMem)) (hc83 : ∀ (y1 : Int32) (y2 : Int32) (y3 : Int32) (s9 : zMem), zE G T (fun r : Int32 => some (.int r)) zFull 0 0 83 [some (.ref 47), some (.int y1), some (.int y2), some (.int y3), none, none] [] s9 (c83 y1 y2 y3 s9)) : ∀ (n : Nat) (x5 : Int32) (x6 : Int32) (x7 : Int32) (x8 : Int32) (s9 : zMem), zE G T (fun r : Int32 => some (.int r)) zFull 0 0 14 [some (.ref 47), some (.int x5), some (.int x6), some (.int x7), some (.int x8), none] [] s9 (f_X7_sourceOf_14 c83 n x5 x6 x7 x8 s9) := by
  intro n
  induction n with
  | zero => intro _ _ _ _ _; exact ze_none
  | succ n ih =>
    intro x5 x6 x7 x8 s9
    rw [f_X7_sourceOf_14]
    refine ze_iload h dX7_sourceOf_14 rfl ?_
    refine ze_aload_n h dX7_sourceOf_16 rfl ?_
    refine ze_getI h zl_47 rfl zf_X7_91 dX7_sourceOf_17 ?_
    refine ze_icmp_ge h 83 dX7_sourceOf_20 (by decide) ?_ ?_
    · refine zE_weak h [true, true, true, true, false, false] rfl ?_
      exact hc83 x5 x6 x7 s9
    · refine ze_aload_n h dX7_sourceOf_23 rfl ?_
      refine ze_getR h zl_47 rfl zf_X7_22 dX7_sourceOf_24 ?_
      refine ze_iload h dX7_sourceOf_27 rfl ?_
      refine ze_ialdG h zl_52 dX7_sourceOf_29 ?_
      refine ze_iload_n h dX7_sourceOf_30 rfl ?_
      refine ze_icmp_eq h 49 dX7_sourceOf_31 (by decide) ?_ ?_
      · refine e_X7_sourceOf_49 h hR _ ?_ x5 x6 x7 x8 s9
        · intro x30 x31 x32 x33 s34
          exact ih x30 x31 x32 x33 s34
      · refine ze_iload_n h dX7_sourceOf_34 rfl ?_
        refine ze_aload_n h dX7_sourceOf_35 rfl ?_
        refine ze_getR h zl_47 rfl zf_X7_22 dX7_sourceOf_36 ?_
        refine ze_iload h dX7_sourceOf_39 rfl ?_
        refine ze_ialdG h zl_52 dX7_sourceOf_41 ?_
        refine ze_ishr h dX7_sourceOf_42 ?_
        refine ze_iconst h 1 dX7_sourceOf_43 zk_i_1 ?_
        refine ze_iand h dX7_sourceOf_44 ?_
        refine ze_iconst h 1 dX7_sourceOf_45 zk_i_1 ?_
        refine ze_icmp_ne h 53 dX7_sourceOf_46 (by decide) ?_ ?_
        · refine ze_iconst h 0 dX7_sourceOf_53 zk_i_0 ?_
          refine e_X7_sourceOf_54 h hR _ ?_ x5 x6 x7 x8 0 s9
          · intro x35 x36 x37 x38 s39
            exact ih x35 x36 x37 x38 s39
        · refine e_X7_sourceOf_49 h hR _ ?_ x5 x6 x7 x8 s9
          · intro x40 x41 x42 x43 s44
            exact ih x40 x41 x42 x43 s44
set_option maxRecDepth 20000 in
theorem e_X7_sourceOf_4 {l : Launch} {G : zGT} {T : Option Value × zMem} (h : zOk G l cX7_sourceOf RX7 6 1 0 0 false) (hR : zR G cX7_sourceOf (some .int) T zFull 0 0)   : ∀ (n : Nat) (x1 : Int32) (x2 : Int32) (x3 : Int32) (s4 : zMem), zE G T (fun r : Int32 => some (.int r)) zFull 0 0 4 [some (.ref 47), some (.int x1), some (.int x2), some (.int x3), none, none] [] s4 (f_X7_sourceOf_4 n x1 x2 x3 s4) := by
  intro n
  induction n with
  | zero => intro _ _ _ _; exact ze_none
  | succ n ih =>
    intro x1 x2 x3 s4
    rw [f_X7_sourceOf_4]
    refine ze_iload_n h dX7_sourceOf_4 rfl ?_
    refine ze_iload_n h dX7_sourceOf_5 rfl ?_
    refine ze_icmp_eq h 86 dX7_sourceOf_6 (by decide) ?_ ?_
    · refine ze_iload_n h dX7_sourceOf_86 rfl ?_
      exact ze_iret hR dX7_sourceOf_87
    · refine ze_iload_n h dX7_sourceOf_9 rfl ?_
      refine ze_istore_n h [some (.ref 47), some (.int x1), some (.int x2), some (.int x2), none, none] dX7_sourceOf_10 rfl (by decide) rfl ?_
      refine ze_iconst h 0 dX7_sourceOf_11 zk_i_0 ?_
      refine ze_istore h [some (.ref 47), some (.int x1), some (.int x2), some (.int x2), some (.int 0), none] dX7_sourceOf_12 rfl (by decide) rfl ?_
      refine e_X7_sourceOf_14 h hR _ ?_ zN x1 x2 x2 0 s4
      · intro x45 x46 x47 s48
        refine ze_goto h 4 dX7_sourceOf_83 (by decide) ?_
        exact ih x45 x46 x47 s48
set_option maxRecDepth 20000 in
theorem c_X7_sourceOf (l : Launch)  (p1 : Int32) (s0 : zMem) : zC l yX7_sourceOf (.code yX7_sourceOf cX7_sourceOf 6 (some .int)) 1 [.ref 47, .int p1] zFull s0 (fun r : Int32 => some (.int r)) (f_X7_sourceOf p1 s0) := by
  refine zC_of (own := RX7) rfl rfl (Nat.le_of_ble_eq_true rfl) [some (.ref 47), some (.int p1), none, none, none, none] rfl (fun G T h hR => ?_)
  unfold f_X7_sourceOf
  refine ze_iconst h 0 dX7_sourceOf_0 zk_i_0 ?_
  refine ze_istore_n h [some (.ref 47), some (.int p1), some (.int 0), none, none, none] dX7_sourceOf_1 rfl (by decide) rfl ?_
  refine ze_iconst h (-1) dX7_sourceOf_2 zk_i_m1 ?_
  refine ze_istore_n h [some (.ref 47), some (.int p1), some (.int 0), some (.int (-1)), none, none] dX7_sourceOf_3 rfl (by decide) rfl ?_
  exact e_X7_sourceOf_4 h hR  zN p1 0 (-1) s0
set_option maxRecDepth 20000 in
theorem c_X7_source (l : Launch)  (p1 : Int32) (s0 : zMem) : zC l yX7_source (.code yX7_source cX7_source 2 (some .int)) 3 [.ref 47, .int p1] zFull s0 (fun r : Int32 => some (.int r)) (f_X7_source p1 s0) := by
  refine zC_of (own := RX7) rfl rfl (Nat.le_of_ble_eq_true rfl) [some (.ref 47), some (.int p1)] rfl (fun G T h hR => ?_)
  unfold f_X7_source
  refine ze_aload_n h dX7_source_0 rfl ?_
  refine ze_iload_n h dX7_source_1 rfl ?_
  refine ze_callVi h (st := []) zce_X7_isHut zi_X7_isHut zs_X7_isHut zm_X7_179 zl_47 rfl rfl (Nat.le_of_ble_eq_true rfl) zkn (c_X7_isHut l  p1 s0) rfl (Nat.le_of_ble_eq_true rfl) rfl dX7_source_2 (fun r1 s2 => ?_)
  refine ze_if_eq h 16 dX7_source_5 (by decide) ?_ ?_
  · refine ze_bipush h (-5) dX7_source_16 zk_b_m5 ?_
    exact ze_iret hR dX7_source_18
  · refine ze_aload_n h dX7_source_8 rfl ?_
    refine ze_iload_n h dX7_source_9 rfl ?_
    refine ze_callVi h (st := []) zce_X7_sourceOf zi_X7_sourceOf zs_X7_sourceOf zm_X7_237 zl_47 rfl rfl (Nat.le_of_ble_eq_true rfl) zkn (c_X7_sourceOf l  p1 s2) rfl (Nat.le_of_ble_eq_true rfl) rfl dX7_source_10 (fun r3 s4 => ?_)
    refine ze_goto h 18 dX7_source_13 (by decide) ?_
    exact ze_iret hR dX7_source_18
set_option maxRecDepth 20000 in
theorem e_X7_rings_16 {l : Launch} {G : zGT} {T : Option Value × zMem} (h : zOk G l cX7_rings RX7 6 2 0 0 false) (hR : zR G cX7_rings (some .int) T zFull 0 0)   : ∀ (n : Nat) (x3 : Int32) (x4 : Int32) (x5 : Int32) (s6 : zMem), zE G T (fun r : Int32 => some (.int r)) zFull 0 0 16 [some (.ref 47), some (.int x3), some (.int x4), some (.int x5), none, none] [] s6 (f_X7_rings_16 n x3 x4 x5 s6) := by
  intro n
  induction n with
  | zero => intro _ _ _ _; exact ze_none
  | succ n ih =>
    intro x3 x4 x5 s6
    rw [f_X7_rings_16]
    refine ze_iload_n h dX7_rings_16 rfl ?_
    refine ze_aload_n h dX7_rings_17 rfl ?_
    refine ze_getI h zl_47 rfl zf_X7_84 dX7_rings_18 ?_
    refine ze_icmp_ge h 94 dX7_rings_21 (by decide) ?_ ?_
    · refine ze_iload_n h dX7_rings_94 rfl ?_
      exact ze_iret hR dX7_rings_95
    · refine ze_aload_n h dX7_rings_24 rfl ?_
      refine ze_iload_n h dX7_rings_25 rfl ?_
      refine ze_callVi h (st := []) zce_X7_sourceOf zi_X7_sourceOf zs_X7_sourceOf zm_X7_237 zl_47 rfl rfl (Nat.le_of_ble_eq_true rfl) zkn (c_X7_sourceOf l  x5 s6) rfl (Nat.le_of_ble_eq_true rfl) rfl dX7_rings_26 (fun r7 s8 => ?_)
      refine ze_istore h [some (.ref 47), some (.int x3), some (.int x4), some (.int x5), some (.int r7), none] dX7_rings_29 rfl (by decide) rfl ?_
      refine ze_iload_n h dX7_rings_31 rfl ?_
      refine ze_if_ne h 53 dX7_rings_32 (by decide) ?_ ?_
      · refine ze_iload h dX7_rings_53 rfl ?_
        refine ze_if_ne h 70 dX7_rings_55 (by decide) ?_ ?_
        · refine ze_iconst h 0 dX7_rings_70 zk_i_0 ?_
          refine ze_istore h [some (.ref 47), some (.int x3), some (.int x4), some (.int x5), some (.int r7), some (.int 0)] dX7_rings_71 rfl (by decide) rfl ?_
          refine ze_iload_n h dX7_rings_73 rfl ?_
          refine ze_iload h dX7_rings_74 rfl ?_
          refine ze_if_eqT h 85 dX7_rings_76 (by decide) (by decide) ?_
          refine ze_iconst h 0 dX7_rings_85 zk_i_0 ?_
          refine ze_ior h dX7_rings_86 ?_
          refine ze_nmI (fun x9 => ?_)
          refine ze_istore_n h [some (.ref 47), some (.int x3), some (.int x9), some (.int x5), some (.int r7), some (.int 0)] dX7_rings_87 rfl (by decide) rfl ?_
          refine ze_iincN h (fun y9 => [some (.ref 47), some (.int x3), some (.int x9), some (.int y9), some (.int r7), some (.int 0)]) 1 dX7_rings_88 rfl zk_i_1 rfl (by decide) (fun _ => rfl) (fun x10 => ?_)
          refine ze_goto h 16 dX7_rings_91 (by decide) ?_
          refine zE_weak h [true, true, true, true, false, false] rfl ?_
          exact ih x3 x9 x10 s8
        · refine ze_aload_n h dX7_rings_58 rfl ?_
          refine ze_iload_n h dX7_rings_59 rfl ?_
          refine ze_callVi h (st := []) zce_X7_lentBy zi_X7_lentBy zs_X7_lentBy zm_X7_189 zl_47 rfl rfl (Nat.le_of_ble_eq_true rfl) zkn (c_X7_lentBy l  x5 s8) rfl (Nat.le_of_ble_eq_true rfl) rfl dX7_rings_60 (fun r11 s12 => ?_)
          refine ze_if_le h 70 dX7_rings_63 (by decide) ?_ ?_
          · refine ze_iconst h 0 dX7_rings_70 zk_i_0 ?_
            refine ze_istore h [some (.ref 47), some (.int x3), some (.int x4), some (.int x5), some (.int r7), some (.int 0)] dX7_rings_71 rfl (by decide) rfl ?_
            refine ze_iload_n h dX7_rings_73 rfl ?_
            refine ze_iload h dX7_rings_74 rfl ?_
            refine ze_if_eqT h 85 dX7_rings_76 (by decide) (by decide) ?_
            refine ze_iconst h 0 dX7_rings_85 zk_i_0 ?_
            refine ze_ior h dX7_rings_86 ?_
            refine ze_nmI (fun x13 => ?_)
            refine ze_istore_n h [some (.ref 47), some (.int x3), some (.int x13), some (.int x5), some (.int r7), some (.int 0)] dX7_rings_87 rfl (by decide) rfl ?_
            refine ze_iincN h (fun y9 => [some (.ref 47), some (.int x3), some (.int x13), some (.int y9), some (.int r7), some (.int 0)]) 1 dX7_rings_88 rfl zk_i_1 rfl (by decide) (fun _ => rfl) (fun x14 => ?_)
            refine ze_goto h 16 dX7_rings_91 (by decide) ?_
            refine zE_weak h [true, true, true, true, false, false] rfl ?_
            exact ih x3 x13 x14 s12
          · refine ze_iconst h 1 dX7_rings_66 zk_i_1 ?_
            refine ze_goto h 71 dX7_rings_67 (by decide) ?_
            refine ze_istore h [some (.ref 47), some (.int x3), some (.int x4), some (.int x5), some (.int r7), some (.int 1)] dX7_rings_71 rfl (by decide) rfl ?_
            refine ze_iload_n h dX7_rings_73 rfl ?_
            refine ze_iload h dX7_rings_74 rfl ?_
            refine ze_if_eqF h 85 dX7_rings_76 (by decide) (by decide) ?_
            refine ze_iconst h 1 dX7_rings_79 zk_i_1 ?_
            refine ze_iload_n h dX7_rings_80 rfl ?_
            refine ze_ishl h dX7_rings_81 ?_
            refine ze_goto h 86 dX7_rings_82 (by decide) ?_
            refine ze_ior h dX7_rings_86 ?_
            refine ze_nmI (fun x15 => ?_)
            refine ze_istore_n h [some (.ref 47), some (.int x3), some (.int x15), some (.int x5), some (.int r7), some (.int 1)] dX7_rings_87 rfl (by decide) rfl ?_
            refine ze_iincN h (fun y9 => [some (.ref 47), some (.int x3), some (.int x15), some (.int y9), some (.int r7), some (.int 1)]) 1 dX7_rings_88 rfl zk_i_1 rfl (by decide) (fun _ => rfl) (fun x16 => ?_)
            refine ze_pc 91 rfl ?_
            refine ze_goto h 16 dX7_rings_91 (by decide) ?_
            refine zE_weak h [true, true, true, true, false, false] rfl ?_
            exact ih x3 x15 x16 s12
      · refine ze_iload h dX7_rings_35 rfl ?_
        refine ze_iload_n h dX7_rings_37 rfl ?_
        refine ze_ishr h dX7_rings_38 ?_
        refine ze_iconst h 1 dX7_rings_39 zk_i_1 ?_
        refine ze_iand h dX7_rings_40 ?_
        refine ze_iconst h 1 dX7_rings_41 zk_i_1 ?_
        refine ze_icmp_ne h 49 dX7_rings_42 (by decide) ?_ ?_
        · refine ze_iconst h 0 dX7_rings_49 zk_i_0 ?_
          refine ze_goto h 71 dX7_rings_50 (by decide) ?_
          refine ze_istore h [some (.ref 47), some (.int x3), some (.int x4), some (.int x5), some (.int r7), some (.int 0)] dX7_rings_71 rfl (by decide) rfl ?_
          refine ze_iload_n h dX7_rings_73 rfl ?_
          refine ze_iload h dX7_rings_74 rfl ?_
          refine ze_if_eqT h 85 dX7_rings_76 (by decide) (by decide) ?_
          refine ze_iconst h 0 dX7_rings_85 zk_i_0 ?_
          refine ze_ior h dX7_rings_86 ?_
          refine ze_nmI (fun x17 => ?_)
          refine ze_istore_n h [some (.ref 47), some (.int x3), some (.int x17), some (.int x5), some (.int r7), some (.int 0)] dX7_rings_87 rfl (by decide) rfl ?_
          refine ze_iincN h (fun y9 => [some (.ref 47), some (.int x3), some (.int x17), some (.int y9), some (.int r7), some (.int 0)]) 1 dX7_rings_88 rfl zk_i_1 rfl (by decide) (fun _ => rfl) (fun x18 => ?_)
          refine ze_goto h 16 dX7_rings_91 (by decide) ?_
          refine zE_weak h [true, true, true, true, false, false] rfl ?_
          exact ih x3 x17 x18 s8
        · refine ze_iconst h 1 dX7_rings_45 zk_i_1 ?_
          refine ze_goto h 71 dX7_rings_46 (by decide) ?_
          refine ze_istore h [some (.ref 47), some (.int x3), some (.int x4), some (.int x5), some (.int r7), some (.int 1)] dX7_rings_71 rfl (by decide) rfl ?_
          refine ze_iload_n h dX7_rings_73 rfl ?_
          refine ze_iload h dX7_rings_74 rfl ?_
          refine ze_if_eqF h 85 dX7_rings_76 (by decide) (by decide) ?_
          refine ze_iconst h 1 dX7_rings_79 zk_i_1 ?_
          refine ze_iload_n h dX7_rings_80 rfl ?_
          refine ze_ishl h dX7_rings_81 ?_
          refine ze_goto h 86 dX7_rings_82 (by decide) ?_
          refine ze_ior h dX7_rings_86 ?_
          refine ze_nmI (fun x19 => ?_)
          refine ze_istore_n h [some (.ref 47), some (.int x3), some (.int x19), some (.int x5), some (.int r7), some (.int 1)] dX7_rings_87 rfl (by decide) rfl ?_
          refine ze_iincN h (fun y9 => [some (.ref 47), some (.int x3), some (.int x19), some (.int y9), some (.int r7), some (.int 1)]) 1 dX7_rings_88 rfl zk_i_1 rfl (by decide) (fun _ => rfl) (fun x20 => ?_)
          refine ze_pc 91 rfl ?_
          refine ze_goto h 16 dX7_rings_91 (by decide) ?_
          refine zE_weak h [true, true, true, true, false, false] rfl ?_
          exact ih x3 x19 x20 s8
set_option maxRecDepth 20000 in
theorem c_X7_rings (l : Launch)  (p1 : Int32) (s0 : zMem) : zC l yX7_rings (.code yX7_rings cX7_rings 6 (some .int)) 2 [.ref 47, .int p1] zFull s0 (fun r : Int32 => some (.int r)) (f_X7_rings p1 s0) := by
  refine zC_of (own := RX7) rfl rfl (Nat.le_of_ble_eq_true rfl) [some (.ref 47), some (.int p1), none, none, none, none] rfl (fun G T h hR => ?_)
  unfold f_X7_rings
  refine ze_iload_n h dX7_rings_0 rfl ?_
  refine ze_iconst h 0 dX7_rings_1 zk_i_0 ?_
  refine ze_iconst h 1 dX7_rings_2 zk_i_1 ?_
  refine ze_callSi h (st := []) zce_X7_in zt_X7_in zm_X7_87 (Nat.le_of_ble_eq_true rfl) zkn (c_X7_in l zFull p1 0 1 s0) rfl (Nat.le_of_ble_eq_true rfl) rfl dX7_rings_3 (fun r1 s2 => ?_)
  refine ze_if_ne h 12 dX7_rings_6 (by decide) ?_ ?_
  · refine ze_iconst h 0 dX7_rings_12 zk_i_0 ?_
    refine ze_istore_n h [some (.ref 47), some (.int p1), some (.int 0), none, none, none] dX7_rings_13 rfl (by decide) rfl ?_
    refine ze_iconst h 0 dX7_rings_14 zk_i_0 ?_
    refine ze_istore_n h [some (.ref 47), some (.int p1), some (.int 0), some (.int 0), none, none] dX7_rings_15 rfl (by decide) rfl ?_
    exact e_X7_rings_16 h hR  zN p1 0 0 s2
  · refine ze_bipush h (-2) dX7_rings_9 zk_b_m2 ?_
    exact ze_iret hR dX7_rings_11
set_option maxRecDepth 20000 in
theorem e_X7_ask_48 {l : Launch} {G : zGT} {T : Option Value × zMem} (h : zOk G l cX7_ask RX7 8 8 0 0 false) (hR : zR G cX7_ask (some .int) T zFull 0 0)  (c156 : Int32 → Int32 → Int32 → zMem → Option (Int32 × zMem)) (hc156 : ∀ (y1 : Int32) (y2 : Int32) (y3 : Int32) (s9 : zMem), zE G T (fun r : Int32 => some (.int r)) zFull 0 0 156 [none, none, none, some (.int y1), some (.int y2), some (.int y3), none, none] [] s9 (c156 y1 y2 y3 s9)) : ∀ (n : Nat) (x7 : Int32) (x8 : Int32) (x9 : Int32) (x10 : Int32) (x11 : Int32) (x12 : Int32) (s13 : zMem), zE G T (fun r : Int32 => some (.int r)) zFull 0 0 48 [some (.ref 47), some (.int x7), some (.int x8), some (.int x9), some (.int x10), some (.int x11), some (.int x12), none] [] s13 (f_X7_ask_48 c156 n x7 x8 x9 x10 x11 x12 s13) := by
  intro n
  induction n with
  | zero => intro _ _ _ _ _ _ _; exact ze_none
  | succ n ih =>
    intro x7 x8 x9 x10 x11 x12 s13
    rw [f_X7_ask_48]
    refine ze_iload h dX7_ask_48 rfl ?_
    refine ze_aload_n h dX7_ask_50 rfl ?_
    refine ze_getI h zl_47 rfl zf_X7_84 dX7_ask_51 ?_
    refine ze_icmp_ge h 156 dX7_ask_54 (by decide) ?_ ?_
    · refine zE_weak h [false, false, false, true, true, true, false, false] rfl ?_
      exact hc156 x9 x10 x11 s13
    · refine ze_iload h dX7_ask_57 rfl ?_
      refine ze_iload_n h dX7_ask_59 rfl ?_
      refine ze_icmp_eq h 150 dX7_ask_60 (by decide) ?_ ?_
      · refine ze_iincN h (fun y9 => [some (.ref 47), some (.int x7), some (.int x8), some (.int x9), some (.int x10), some (.int x11), some (.int y9), none]) 1 dX7_ask_150 rfl zk_i_1 rfl (by decide) (fun _ => rfl) (fun x14 => ?_)
        refine ze_goto h 48 dX7_ask_153 (by decide) ?_
        exact ih x7 x8 x9 x10 x11 x14 s13
      · refine ze_aload_n h dX7_ask_63 rfl ?_
        refine ze_getI h zl_47 rfl zf_X7_91 dX7_ask_64 ?_
        refine ze_bipush h 10 dX7_ask_67 zk_b_10 ?_
        refine ze_icmp_ge h 150 dX7_ask_69 (by decide) ?_ ?_
        · refine ze_iincN h (fun y9 => [some (.ref 47), some (.int x7), some (.int x8), some (.int x9), some (.int x10), some (.int x11), some (.int y9), none]) 1 dX7_ask_150 rfl zk_i_1 rfl (by decide) (fun _ => rfl) (fun x15 => ?_)
          refine ze_goto h 48 dX7_ask_153 (by decide) ?_
          exact ih x7 x8 x9 x10 x11 x15 s13
        · refine ze_aload_n h dX7_ask_72 rfl ?_
          refine ze_iload h dX7_ask_73 rfl ?_
          refine ze_iload_n h dX7_ask_75 rfl ?_
          refine ze_bipush h 100 dX7_ask_76 zk_b_100 ?_
          refine ze_idiv h dX7_ask_78 (by decide) ?_
          refine ze_callVi h (st := []) zce_X7_mayLend zi_X7_mayLend zs_X7_mayLend zm_X7_199 zl_47 rfl rfl (Nat.le_of_ble_eq_true rfl) zkn (c_X7_mayLend l  x12 (x8 / 100) s13) rfl (Nat.le_of_ble_eq_true rfl) rfl dX7_ask_79 (fun r16 s17 => ?_)
          refine ze_if_eq h 150 dX7_ask_82 (by decide) ?_ ?_
          · refine ze_iincN h (fun y9 => [some (.ref 47), some (.int x7), some (.int x8), some (.int x9), some (.int x10), some (.int x11), some (.int y9), none]) 1 dX7_ask_150 rfl zk_i_1 rfl (by decide) (fun _ => rfl) (fun x18 => ?_)
            refine ze_goto h 48 dX7_ask_153 (by decide) ?_
            exact ih x7 x8 x9 x10 x11 x18 s17
          · refine ze_aload_n h dX7_ask_85 rfl ?_
            refine ze_callVv h (st := []) zce_X7_keeps zi_X7_keeps zs_X7_keeps zm_X7_227 zl_47 rfl rfl (Nat.le_of_ble_eq_true rfl) zkn (c_X7_keeps l  s17) rfl (Nat.le_of_ble_eq_true rfl) rfl dX7_ask_86 (fun _ s20 => ?_)
            refine ze_aload_n h dX7_ask_89 rfl ?_
            refine ze_iload h dX7_ask_90 rfl ?_
            refine ze_iload_n h dX7_ask_92 rfl ?_
            refine ze_iload_n h dX7_ask_93 rfl ?_
            refine ze_callVv h (st := []) zce_X7_lends zi_X7_lends zs_X7_lends zm_X7_203 zl_47 rfl rfl (Nat.le_of_ble_eq_true rfl) zkn (c_X7_lends l  x12 x7 x8 s20) rfl (Nat.le_of_ble_eq_true rfl) rfl dX7_ask_94 (fun _ s22 => ?_)
            refine ze_aload_n h dX7_ask_97 rfl ?_
            refine ze_iload_n h dX7_ask_98 rfl ?_
            refine ze_bipush h 100 dX7_ask_99 zk_b_100 ?_
            refine ze_irem h dX7_ask_101 (by decide) ?_
            refine ze_iconst h 1 dX7_ask_102 zk_i_1 ?_
            refine ze_iadd h dX7_ask_103 ?_
            refine ze_pc 104 rfl ?_
            refine ze_callVi h (st := []) zce_X7_goes zi_X7_goes zs_X7_goes zm_X7_230 zl_47 rfl rfl (Nat.le_of_ble_eq_true rfl) zkn (c_X7_goes l  ((zrem x8 100) + 1) s22) rfl (Nat.le_of_ble_eq_true rfl) rfl dX7_ask_104 (fun r23 s24 => ?_)
            refine ze_pop h dX7_ask_107 rfl ?_
            refine ze_aload_n h dX7_ask_108 rfl ?_
            refine ze_callVi h (st := []) zce_X7_heatAll zi_X7_heatAll zs_X7_heatAll zm_X7_97 zl_47 rfl rfl (Nat.le_of_ble_eq_true rfl) zkn (c_X7_heatAll l  s24) rfl (Nat.le_of_ble_eq_true rfl) rfl dX7_ask_109 (fun r25 s26 => ?_)
            refine ze_istore h [some (.ref 47), some (.int x7), some (.int x8), some (.int x9), some (.int x10), some (.int x11), some (.int x12), some (.int r25)] dX7_ask_112 rfl (by decide) rfl ?_
            refine ze_aload_n h dX7_ask_114 rfl ?_
            refine ze_callVv h (st := []) zce_X7_lays zi_X7_lays zs_X7_lays zm_X7_233 zl_47 rfl rfl (Nat.le_of_ble_eq_true rfl) zkn (c_X7_lays l  s26) rfl (Nat.le_of_ble_eq_true rfl) rfl dX7_ask_115 (fun _ s28 => ?_)
            refine ze_iload h dX7_ask_118 rfl ?_
            refine ze_iload h dX7_ask_120 rfl ?_
            refine ze_icmp_le h 130 dX7_ask_122 (by decide) ?_ ?_
            · refine ze_iload h dX7_ask_130 rfl ?_
              refine ze_istore h [some (.ref 47), some (.int x7), some (.int x8), some (.int x9), some (.int x10), some (.int x11), some (.int x12), some (.int r25)] dX7_ask_132 rfl (by decide) rfl ?_
              refine ze_iload h dX7_ask_134 rfl ?_
              refine ze_iload h dX7_ask_136 rfl ?_
              refine ze_icmp_le h 146 dX7_ask_138 (by decide) ?_ ?_
              · refine ze_iload h dX7_ask_146 rfl ?_
                refine ze_istore h [some (.ref 47), some (.int x7), some (.int x8), some (.int x9), some (.int x10), some (.int x11), some (.int x12), some (.int r25)] dX7_ask_148 rfl (by decide) rfl ?_
                refine ze_iincN h (fun y9 => [some (.ref 47), some (.int x7), some (.int x8), some (.int x9), some (.int x10), some (.int x11), some (.int y9), some (.int r25)]) 1 dX7_ask_150 rfl zk_i_1 rfl (by decide) (fun _ => rfl) (fun x29 => ?_)
                refine ze_goto h 48 dX7_ask_153 (by decide) ?_
                refine zE_weak h [true, true, true, true, true, true, true, false] rfl ?_
                exact ih x7 x8 x9 x10 x11 x29 s28
              · refine ze_iload h dX7_ask_141 rfl ?_
                refine ze_goto h 148 dX7_ask_143 (by decide) ?_
                refine ze_istore h [some (.ref 47), some (.int x7), some (.int x8), some (.int x9), some (.int x10), some (.int r25), some (.int x12), some (.int r25)] dX7_ask_148 rfl (by decide) rfl ?_
                refine ze_iincN h (fun y9 => [some (.ref 47), some (.int x7), some (.int x8), some (.int x9), some (.int x10), some (.int r25), some (.int y9), some (.int r25)]) 1 dX7_ask_150 rfl zk_i_1 rfl (by decide) (fun _ => rfl) (fun x30 => ?_)
                refine ze_goto h 48 dX7_ask_153 (by decide) ?_
                refine zE_weak h [true, true, true, true, true, true, true, false] rfl ?_
                exact ih x7 x8 x9 x10 r25 x30 s28
            · refine ze_iload h dX7_ask_125 rfl ?_
              refine ze_goto h 132 dX7_ask_127 (by decide) ?_
              refine ze_istore h [some (.ref 47), some (.int x7), some (.int x8), some (.int x9), some (.int x12), some (.int x11), some (.int x12), some (.int r25)] dX7_ask_132 rfl (by decide) rfl ?_
              refine ze_iload h dX7_ask_134 rfl ?_
              refine ze_iload h dX7_ask_136 rfl ?_
              refine ze_icmp_le h 146 dX7_ask_138 (by decide) ?_ ?_
              · refine ze_iload h dX7_ask_146 rfl ?_
                refine ze_istore h [some (.ref 47), some (.int x7), some (.int x8), some (.int x9), some (.int x12), some (.int x11), some (.int x12), some (.int r25)] dX7_ask_148 rfl (by decide) rfl ?_
                refine ze_iincN h (fun y9 => [some (.ref 47), some (.int x7), some (.int x8), some (.int x9), some (.int x12), some (.int x11), some (.int y9), some (.int r25)]) 1 dX7_ask_150 rfl zk_i_1 rfl (by decide) (fun _ => rfl) (fun x31 => ?_)
                refine ze_goto h 48 dX7_ask_153 (by decide) ?_
                refine zE_weak h [true, true, true, true, true, true, true, false] rfl ?_
                exact ih x7 x8 x9 x12 x11 x31 s28
              · refine ze_iload h dX7_ask_141 rfl ?_
                refine ze_goto h 148 dX7_ask_143 (by decide) ?_
                refine ze_istore h [some (.ref 47), some (.int x7), some (.int x8), some (.int x9), some (.int x12), some (.int r25), some (.int x12), some (.int r25)] dX7_ask_148 rfl (by decide) rfl ?_
                refine ze_iincN h (fun y9 => [some (.ref 47), some (.int x7), some (.int x8), some (.int x9), some (.int x12), some (.int r25), some (.int y9), some (.int r25)]) 1 dX7_ask_150 rfl zk_i_1 rfl (by decide) (fun _ => rfl) (fun x32 => ?_)
                refine ze_goto h 48 dX7_ask_153 (by decide) ?_
                refine zE_weak h [true, true, true, true, true, true, true, false] rfl ?_
                exact ih x7 x8 x9 x12 r25 x32 s28
set_option maxRecDepth 20000 in
theorem c_X7_ask (l : Launch)  (p1 : Int32) (p2 : Int32) (p3 : Int32) (s0 : zMem) : zC l yX7_ask (.code yX7_ask cX7_ask 8 (some .int)) 8 [.ref 47, .int p1, .int p2, .int p3] zFull s0 (fun r : Int32 => some (.int r)) (f_X7_ask p1 p2 p3 s0) := by
  refine zC_of (own := RX7) rfl rfl (Nat.le_of_ble_eq_true rfl) [some (.ref 47), some (.int p1), some (.int p2), some (.int p3), none, none, none, none] rfl (fun G T h hR => ?_)
  unfold f_X7_ask
  refine ze_aload_n h dX7_ask_0 rfl ?_
  refine ze_iload_n h dX7_ask_1 rfl ?_
  refine ze_callVi h (st := []) zce_X7_isHut zi_X7_isHut zs_X7_isHut zm_X7_179 zl_47 rfl rfl (Nat.le_of_ble_eq_true rfl) zkn (c_X7_isHut l  p1 s0) rfl (Nat.le_of_ble_eq_true rfl) rfl dX7_ask_2 (fun r1 s2 => ?_)
  refine ze_if_ne h 11 dX7_ask_5 (by decide) ?_ ?_
  · refine ze_iload_n h dX7_ask_11 rfl ?_
    refine ze_callSi h (st := []) zce_X7_areCoalNights zt_X7_areCoalNights zm_X7_196 (Nat.le_of_ble_eq_true rfl) zkn (c_X7_areCoalNights l zFull p2 s2) rfl (Nat.le_of_ble_eq_true rfl) rfl dX7_ask_12 (fun r3 s4 => ?_)
    refine ze_if_eq h 36 dX7_ask_15 (by decide) ?_ ?_
    · refine ze_bipush h (-7) dX7_ask_36 zk_b_m7 ?_
      exact ze_iret hR dX7_ask_38
    · refine ze_iload_n h dX7_ask_18 rfl ?_
      refine ze_bipush h 100 dX7_ask_19 zk_b_100 ?_
      refine ze_irem h dX7_ask_21 (by decide) ?_
      refine ze_bipush h 39 dX7_ask_22 zk_b_39 ?_
      refine ze_icmp_gt h 36 dX7_ask_24 (by decide) ?_ ?_
      · refine ze_bipush h (-7) dX7_ask_36 zk_b_m7 ?_
        exact ze_iret hR dX7_ask_38
      · refine ze_iload_n h dX7_ask_27 rfl ?_
        refine ze_iconst h 0 dX7_ask_28 zk_i_0 ?_
        refine ze_iconst h 1 dX7_ask_29 zk_i_1 ?_
        refine ze_callSi h (st := []) zce_X7_in zt_X7_in zm_X7_87 (Nat.le_of_ble_eq_true rfl) zkn (c_X7_in l zFull p3 0 1 s4) rfl (Nat.le_of_ble_eq_true rfl) rfl dX7_ask_30 (fun r5 s6 => ?_)
        refine ze_if_ne h 39 dX7_ask_33 (by decide) ?_ ?_
        · refine ze_iconst h (-1) dX7_ask_39 zk_i_m1 ?_
          refine ze_istore h [some (.ref 47), some (.int p1), some (.int p2), some (.int p3), some (.int (-1)), none, none, none] dX7_ask_40 rfl (by decide) rfl ?_
          refine ze_iconst h (-1) dX7_ask_42 zk_i_m1 ?_
          refine ze_istore h [some (.ref 47), some (.int p1), some (.int p2), some (.int p3), some (.int (-1)), some (.int (-1)), none, none] dX7_ask_43 rfl (by decide) rfl ?_
          refine ze_iconst h 0 dX7_ask_45 zk_i_0 ?_
          refine ze_istore h [some (.ref 47), some (.int p1), some (.int p2), some (.int p3), some (.int (-1)), some (.int (-1)), some (.int 0), none] dX7_ask_46 rfl (by decide) rfl ?_
          refine e_X7_ask_48 h hR _ ?_ zN p1 p2 p3 (-1) (-1) 0 s6
          · intro x33 x34 x35 s36
            refine ze_iload_n h dX7_ask_156 rfl ?_
            refine ze_if_ne h 165 dX7_ask_157 (by decide) ?_ ?_
            · refine ze_iload h dX7_ask_165 rfl ?_
              exact ze_iret hR dX7_ask_167
            · refine ze_iload h dX7_ask_160 rfl ?_
              refine ze_goto h 167 dX7_ask_162 (by decide) ?_
              exact ze_iret hR dX7_ask_167
        · refine ze_bipush h (-7) dX7_ask_36 zk_b_m7 ?_
          exact ze_iret hR dX7_ask_38
  · refine ze_bipush h (-5) dX7_ask_8 zk_b_m5 ?_
    exact ze_iret hR dX7_ask_10
set_option maxRecDepth 20000 in
theorem e_X7_needs_26 {l : Launch} {G : zGT} {T : Option Value × zMem} (h : zOk G l cX7_needs RX7 5 8 0 0 false) (hR : zR G cX7_needs (some .int) T zFull 0 0)   : ∀ (n : Nat) (x5 : Int32) (x6 : Int32) (x7 : Int32) (s8 : zMem), zE G T (fun r : Int32 => some (.int r)) zFull 0 0 26 [some (.ref 47), some (.int x5), some (.int x6), some (.int x7), none] [] s8 (f_X7_needs_26 n x5 x6 x7 s8) := by
  intro n
  induction n with
  | zero => intro _ _ _ _; exact ze_none
  | succ n ih =>
    intro x5 x6 x7 s8
    rw [f_X7_needs_26]
    refine ze_iload_n h dX7_needs_26 rfl ?_
    refine ze_bipush h 99 dX7_needs_27 zk_b_99 ?_
    refine ze_icmp_gt h 75 dX7_needs_29 (by decide) ?_ ?_
    · refine ze_iconst h (-1) dX7_needs_75 zk_i_m1 ?_
      exact ze_iret hR dX7_needs_76
    · refine ze_aload_n h dX7_needs_32 rfl ?_
      refine ze_callVv h (st := []) zce_X7_keeps zi_X7_keeps zs_X7_keeps zm_X7_227 zl_47 rfl rfl (Nat.le_of_ble_eq_true rfl) zkn (c_X7_keeps l  s8) rfl (Nat.le_of_ble_eq_true rfl) rfl dX7_needs_33 (fun _ s10 => ?_)
      refine ze_aload_n h dX7_needs_36 rfl ?_
      refine ze_getR h zl_47 rfl zf_X7_16 dX7_needs_37 ?_
      refine ze_iconst h 3 dX7_needs_40 zk_i_3 ?_
      refine ze_iload_n h dX7_needs_41 rfl ?_
      refine ze_imul h dX7_needs_42 ?_
      refine ze_iconst h 1 dX7_needs_43 zk_i_1 ?_
      refine ze_iadd h dX7_needs_44 ?_
      refine ze_iload_n h dX7_needs_45 rfl ?_
      refine ze_iastG h zl_50 dX7_needs_46 ?_
      refine ze_nmS (fun s11 => ?_)
      refine ze_aload_n h dX7_needs_47 rfl ?_
      refine ze_iload_n h dX7_needs_48 rfl ?_
      refine ze_pc 49 rfl ?_
      refine ze_callVi h (st := []) zce_X7_goes zi_X7_goes zs_X7_goes zm_X7_230 zl_47 rfl rfl (Nat.le_of_ble_eq_true rfl) zkn (c_X7_goes l  x6 s11) rfl (Nat.le_of_ble_eq_true rfl) rfl dX7_needs_49 (fun r12 s13 => ?_)
      refine ze_istore h [some (.ref 47), some (.int x5), some (.int x6), some (.int x7), some (.int r12)] dX7_needs_52 rfl (by decide) rfl ?_
      refine ze_aload_n h dX7_needs_54 rfl ?_
      refine ze_callVv h (st := []) zce_X7_lays zi_X7_lays zs_X7_lays zm_X7_233 zl_47 rfl rfl (Nat.le_of_ble_eq_true rfl) zkn (c_X7_lays l  s13) rfl (Nat.le_of_ble_eq_true rfl) rfl dX7_needs_55 (fun _ s15 => ?_)
      refine ze_iload h dX7_needs_58 rfl ?_
      refine ze_iload_n h dX7_needs_60 rfl ?_
      refine ze_ishr h dX7_needs_61 ?_
      refine ze_iconst h 1 dX7_needs_62 zk_i_1 ?_
      refine ze_iand h dX7_needs_63 ?_
      refine ze_if_ne h 69 dX7_needs_64 (by decide) ?_ ?_
      · refine ze_iincN h (fun y9 => [some (.ref 47), some (.int x5), some (.int x6), some (.int y9), some (.int r12)]) 1 dX7_needs_69 rfl zk_i_1 rfl (by decide) (fun _ => rfl) (fun x16 => ?_)
        refine ze_goto h 26 dX7_needs_72 (by decide) ?_
        refine zE_weak h [true, true, true, true, false] rfl ?_
        exact ih x5 x6 x16 s15
      · refine ze_iload_n h dX7_needs_67 rfl ?_
        exact ze_iret hR dX7_needs_68
set_option maxRecDepth 20000 in
theorem c_X7_needs (l : Launch)  (p1 : Int32) (p2 : Int32) (s0 : zMem) : zC l yX7_needs (.code yX7_needs cX7_needs 5 (some .int)) 8 [.ref 47, .int p1, .int p2] zFull s0 (fun r : Int32 => some (.int r)) (f_X7_needs p1 p2 s0) := by
  refine zC_of (own := RX7) rfl rfl (Nat.le_of_ble_eq_true rfl) [some (.ref 47), some (.int p1), some (.int p2), none, none] rfl (fun G T h hR => ?_)
  unfold f_X7_needs
  refine ze_aload_n h dX7_needs_0 rfl ?_
  refine ze_iload_n h dX7_needs_1 rfl ?_
  refine ze_callVi h (st := []) zce_X7_isHut zi_X7_isHut zs_X7_isHut zm_X7_179 zl_47 rfl rfl (Nat.le_of_ble_eq_true rfl) zkn (c_X7_isHut l  p1 s0) rfl (Nat.le_of_ble_eq_true rfl) rfl dX7_needs_2 (fun r1 s2 => ?_)
  refine ze_if_ne h 11 dX7_needs_5 (by decide) ?_ ?_
  · refine ze_iload_n h dX7_needs_11 rfl ?_
    refine ze_iconst h 0 dX7_needs_12 zk_i_0 ?_
    refine ze_bipush h 40 dX7_needs_13 zk_b_40 ?_
    refine ze_callSi h (st := []) zce_X7_in zt_X7_in zm_X7_87 (Nat.le_of_ble_eq_true rfl) zkn (c_X7_in l zFull p2 0 40 s2) rfl (Nat.le_of_ble_eq_true rfl) rfl dX7_needs_15 (fun r3 s4 => ?_)
    refine ze_if_ne h 24 dX7_needs_18 (by decide) ?_ ?_
    · refine ze_iconst h 0 dX7_needs_24 zk_i_0 ?_
      refine ze_istore_n h [some (.ref 47), some (.int p1), some (.int p2), some (.int 0), none] dX7_needs_25 rfl (by decide) rfl ?_
      exact e_X7_needs_26 h hR  zN p1 p2 0 s4
    · refine ze_bipush h (-7) dX7_needs_21 zk_b_m7 ?_
      exact ze_iret hR dX7_needs_23
  · refine ze_bipush h (-5) dX7_needs_8 zk_b_m5 ?_
    exact ze_iret hR dX7_needs_10
set_option maxRecDepth 20000 in
theorem c_X7_failsBut (l : Launch)  (p1 : Int32) (p2 : Int32) (s0 : zMem) : zC l yX7_failsBut (.code yX7_failsBut cX7_failsBut 4 (some .int)) 8 [.ref 47, .int p1, .int p2] zFull s0 (fun r : Int32 => some (.int r)) (f_X7_failsBut p1 p2 s0) := by
  refine zC_of (own := RX7) rfl rfl (Nat.le_of_ble_eq_true rfl) [some (.ref 47), some (.int p1), some (.int p2), none] rfl (fun G T h hR => ?_)
  unfold f_X7_failsBut
  refine ze_aload_n h dX7_failsBut_0 rfl ?_
  refine ze_callVv h (st := []) zce_X7_keeps zi_X7_keeps zs_X7_keeps zm_X7_227 zl_47 rfl rfl (Nat.le_of_ble_eq_true rfl) zkn (c_X7_keeps l  s0) rfl (Nat.le_of_ble_eq_true rfl) rfl dX7_failsBut_1 (fun _ s2 => ?_)
  refine ze_iload_n h dX7_failsBut_4 rfl ?_
  refine ze_iconst h (-1) dX7_failsBut_5 zk_i_m1 ?_
  refine ze_icmp_eq h 14 dX7_failsBut_6 (by decide) ?_ ?_
  · refine ze_aload_n h dX7_failsBut_14 rfl ?_
    refine ze_iload_n h dX7_failsBut_15 rfl ?_
    refine ze_callVi h (st := []) zce_X7_goes zi_X7_goes zs_X7_goes zm_X7_230 zl_47 rfl rfl (Nat.le_of_ble_eq_true rfl) zkn (c_X7_goes l  p2 s2) rfl (Nat.le_of_ble_eq_true rfl) rfl dX7_failsBut_16 (fun r3 s4 => ?_)
    refine ze_callSi h (st := []) zce_X7_ones zt_X7_ones zm_X7_240 (Nat.le_of_ble_eq_true rfl) zkn (c_X7_ones l zFull r3 s4) rfl (Nat.le_of_ble_eq_true rfl) rfl dX7_failsBut_19 (fun r5 s6 => ?_)
    refine ze_istore_n h [some (.ref 47), some (.int p1), some (.int p2), some (.int r5)] dX7_failsBut_22 rfl (by decide) rfl ?_
    refine ze_aload_n h dX7_failsBut_23 rfl ?_
    refine ze_callVv h (st := []) zce_X7_lays zi_X7_lays zs_X7_lays zm_X7_233 zl_47 rfl rfl (Nat.le_of_ble_eq_true rfl) zkn (c_X7_lays l  s6) rfl (Nat.le_of_ble_eq_true rfl) rfl dX7_failsBut_24 (fun _ s8 => ?_)
    refine ze_iload_n h dX7_failsBut_27 rfl ?_
    exact ze_iret hR dX7_failsBut_28
  · refine ze_aload_n h dX7_failsBut_9 rfl ?_
    refine ze_iload_n h dX7_failsBut_10 rfl ?_
    refine ze_callVv h (st := []) zce_X7_drops zi_X7_drops zs_X7_drops zm_X7_209 zl_47 rfl rfl (Nat.le_of_ble_eq_true rfl) zkn (c_X7_drops l  p1 s2) rfl (Nat.le_of_ble_eq_true rfl) rfl dX7_failsBut_11 (fun _ s10 => ?_)
    refine ze_aload_n h dX7_failsBut_14 rfl ?_
    refine ze_iload_n h dX7_failsBut_15 rfl ?_
    refine ze_callVi h (st := []) zce_X7_goes zi_X7_goes zs_X7_goes zm_X7_230 zl_47 rfl rfl (Nat.le_of_ble_eq_true rfl) zkn (c_X7_goes l  p2 s10) rfl (Nat.le_of_ble_eq_true rfl) rfl dX7_failsBut_16 (fun r11 s12 => ?_)
    refine ze_callSi h (st := []) zce_X7_ones zt_X7_ones zm_X7_240 (Nat.le_of_ble_eq_true rfl) zkn (c_X7_ones l zFull r11 s12) rfl (Nat.le_of_ble_eq_true rfl) rfl dX7_failsBut_19 (fun r13 s14 => ?_)
    refine ze_istore_n h [some (.ref 47), some (.int p1), some (.int p2), some (.int r13)] dX7_failsBut_22 rfl (by decide) rfl ?_
    refine ze_aload_n h dX7_failsBut_23 rfl ?_
    refine ze_callVv h (st := []) zce_X7_lays zi_X7_lays zs_X7_lays zm_X7_233 zl_47 rfl rfl (Nat.le_of_ble_eq_true rfl) zkn (c_X7_lays l  s14) rfl (Nat.le_of_ble_eq_true rfl) rfl dX7_failsBut_24 (fun _ s16 => ?_)
    refine ze_iload_n h dX7_failsBut_27 rfl ?_
    exact ze_iret hR dX7_failsBut_28
set_option maxRecDepth 20000 in
theorem e_X7_mercy_35 {l : Launch} {G : zGT} {T : Option Value × zMem} (h : zOk G l cX7_mercy RX7 7 9 0 0 false) (hR : zR G cX7_mercy (some .int) T zFull 0 0)  (c89 : Int32 → Int32 → Int32 → zMem → Option (Int32 × zMem)) (hc89 : ∀ (y1 : Int32) (y2 : Int32) (y3 : Int32) (s9 : zMem), zE G T (fun r : Int32 => some (.int r)) zFull 0 0 89 [none, none, some (.int y1), some (.int y2), some (.int y3), none, none] [] s9 (c89 y1 y2 y3 s9)) : ∀ (n : Nat) (x7 : Int32) (x8 : Int32) (x9 : Int32) (x10 : Int32) (x11 : Int32) (s12 : zMem), zE G T (fun r : Int32 => some (.int r)) zFull 0 0 35 [some (.ref 47), some (.int x7), some (.int x8), some (.int x9), some (.int x10), some (.int x11), none] [] s12 (f_X7_mercy_35 c89 n x7 x8 x9 x10 x11 s12) := by
  intro n
  induction n with
  | zero => intro _ _ _ _ _ _; exact ze_none
  | succ n ih =>
    intro x7 x8 x9 x10 x11 s12
    rw [f_X7_mercy_35]
    refine ze_iload h dX7_mercy_35 rfl ?_
    refine ze_aload_n h dX7_mercy_37 rfl ?_
    refine ze_getI h zl_47 rfl zf_X7_91 dX7_mercy_38 ?_
    refine ze_icmp_ge h 89 dX7_mercy_41 (by decide) ?_ ?_
    · refine zE_weak h [false, false, true, true, true, false, false] rfl ?_
      exact hc89 x8 x9 x10 s12
    · refine ze_aload_n h dX7_mercy_44 rfl ?_
      refine ze_iload h dX7_mercy_45 rfl ?_
      refine ze_iload_n h dX7_mercy_47 rfl ?_
      refine ze_callVi h (st := []) zce_X7_failsBut zi_X7_failsBut zs_X7_failsBut zm_X7_243 zl_47 rfl rfl (Nat.le_of_ble_eq_true rfl) zkn (c_X7_failsBut l  x11 x7 s12) rfl (Nat.le_of_ble_eq_true rfl) rfl dX7_mercy_48 (fun r13 s14 => ?_)
      refine ze_istore h [some (.ref 47), some (.int x7), some (.int x8), some (.int x9), some (.int x10), some (.int x11), some (.int r13)] dX7_mercy_51 rfl (by decide) rfl ?_
      refine ze_iload h dX7_mercy_53 rfl ?_
      refine ze_iload h dX7_mercy_55 rfl ?_
      refine ze_icmp_ge h 65 dX7_mercy_57 (by decide) ?_ ?_
      · refine ze_iload_n h dX7_mercy_65 rfl ?_
        refine ze_istore_n h [some (.ref 47), some (.int x7), some (.int x8), some (.int x9), some (.int x10), some (.int x11), some (.int r13)] dX7_mercy_66 rfl (by decide) rfl ?_
        refine ze_iload h dX7_mercy_67 rfl ?_
        refine ze_iload h dX7_mercy_69 rfl ?_
        refine ze_icmp_ge h 79 dX7_mercy_71 (by decide) ?_ ?_
        · refine ze_iload h dX7_mercy_79 rfl ?_
          refine ze_istore h [some (.ref 47), some (.int x7), some (.int x8), some (.int x9), some (.int x10), some (.int x11), some (.int r13)] dX7_mercy_81 rfl (by decide) rfl ?_
          refine ze_iincN h (fun y9 => [some (.ref 47), some (.int x7), some (.int x8), some (.int x9), some (.int x10), some (.int y9), some (.int r13)]) 1 dX7_mercy_83 rfl zk_i_1 rfl (by decide) (fun _ => rfl) (fun x15 => ?_)
          refine ze_goto h 35 dX7_mercy_86 (by decide) ?_
          refine zE_weak h [true, true, true, true, true, true, false] rfl ?_
          exact ih x7 x8 x9 x10 x15 s14
        · refine ze_iload h dX7_mercy_74 rfl ?_
          refine ze_goto h 81 dX7_mercy_76 (by decide) ?_
          refine ze_istore h [some (.ref 47), some (.int x7), some (.int x8), some (.int x9), some (.int r13), some (.int x11), some (.int r13)] dX7_mercy_81 rfl (by decide) rfl ?_
          refine ze_iincN h (fun y9 => [some (.ref 47), some (.int x7), some (.int x8), some (.int x9), some (.int r13), some (.int y9), some (.int r13)]) 1 dX7_mercy_83 rfl zk_i_1 rfl (by decide) (fun _ => rfl) (fun x16 => ?_)
          refine ze_goto h 35 dX7_mercy_86 (by decide) ?_
          refine zE_weak h [true, true, true, true, true, true, false] rfl ?_
          exact ih x7 x8 x9 r13 x16 s14
      · refine ze_iload h dX7_mercy_60 rfl ?_
        refine ze_goto h 66 dX7_mercy_62 (by decide) ?_
        refine ze_istore_n h [some (.ref 47), some (.int x7), some (.int x8), some (.int x11), some (.int x10), some (.int x11), some (.int r13)] dX7_mercy_66 rfl (by decide) rfl ?_
        refine ze_iload h dX7_mercy_67 rfl ?_
        refine ze_iload h dX7_mercy_69 rfl ?_
        refine ze_icmp_ge h 79 dX7_mercy_71 (by decide) ?_ ?_
        · refine ze_iload h dX7_mercy_79 rfl ?_
          refine ze_istore h [some (.ref 47), some (.int x7), some (.int x8), some (.int x11), some (.int x10), some (.int x11), some (.int r13)] dX7_mercy_81 rfl (by decide) rfl ?_
          refine ze_iincN h (fun y9 => [some (.ref 47), some (.int x7), some (.int x8), some (.int x11), some (.int x10), some (.int y9), some (.int r13)]) 1 dX7_mercy_83 rfl zk_i_1 rfl (by decide) (fun _ => rfl) (fun x17 => ?_)
          refine ze_goto h 35 dX7_mercy_86 (by decide) ?_
          refine zE_weak h [true, true, true, true, true, true, false] rfl ?_
          exact ih x7 x8 x11 x10 x17 s14
        · refine ze_iload h dX7_mercy_74 rfl ?_
          refine ze_goto h 81 dX7_mercy_76 (by decide) ?_
          refine ze_istore h [some (.ref 47), some (.int x7), some (.int x8), some (.int x11), some (.int r13), some (.int x11), some (.int r13)] dX7_mercy_81 rfl (by decide) rfl ?_
          refine ze_iincN h (fun y9 => [some (.ref 47), some (.int x7), some (.int x8), some (.int x11), some (.int r13), some (.int y9), some (.int r13)]) 1 dX7_mercy_83 rfl zk_i_1 rfl (by decide) (fun _ => rfl) (fun x18 => ?_)
          refine ze_goto h 35 dX7_mercy_86 (by decide) ?_
          refine zE_weak h [true, true, true, true, true, true, false] rfl ?_
          exact ih x7 x8 x11 r13 x18 s14
set_option maxRecDepth 20000 in
theorem c_X7_mercy (l : Launch)  (p1 : Int32) (p2 : Int32) (s0 : zMem) : zC l yX7_mercy (.code yX7_mercy cX7_mercy 7 (some .int)) 9 [.ref 47, .int p1, .int p2] zFull s0 (fun r : Int32 => some (.int r)) (f_X7_mercy p1 p2 s0) := by
  refine zC_of (own := RX7) rfl rfl (Nat.le_of_ble_eq_true rfl) [some (.ref 47), some (.int p1), some (.int p2), none, none, none, none] rfl (fun G T h hR => ?_)
  unfold f_X7_mercy
  refine ze_iload_n h dX7_mercy_0 rfl ?_
  refine ze_iconst h 0 dX7_mercy_1 zk_i_0 ?_
  refine ze_bipush h 40 dX7_mercy_2 zk_b_40 ?_
  refine ze_callSi h (st := []) zce_X7_in zt_X7_in zm_X7_87 (Nat.le_of_ble_eq_true rfl) zkn (c_X7_in l zFull p1 0 40 s0) rfl (Nat.le_of_ble_eq_true rfl) rfl dX7_mercy_4 (fun r1 s2 => ?_)
  refine ze_if_eq h 19 dX7_mercy_7 (by decide) ?_ ?_
  · refine ze_bipush h (-2) dX7_mercy_19 zk_b_m2 ?_
    exact ze_iret hR dX7_mercy_21
  · refine ze_iload_n h dX7_mercy_10 rfl ?_
    refine ze_iconst h 0 dX7_mercy_11 zk_i_0 ?_
    refine ze_iconst h 1 dX7_mercy_12 zk_i_1 ?_
    refine ze_callSi h (st := []) zce_X7_in zt_X7_in zm_X7_87 (Nat.le_of_ble_eq_true rfl) zkn (c_X7_in l zFull p2 0 1 s2) rfl (Nat.le_of_ble_eq_true rfl) rfl dX7_mercy_13 (fun r3 s4 => ?_)
    refine ze_if_ne h 22 dX7_mercy_16 (by decide) ?_ ?_
    · refine ze_iconst h (-1) dX7_mercy_22 zk_i_m1 ?_
      refine ze_istore_n h [some (.ref 47), some (.int p1), some (.int p2), some (.int (-1)), none, none, none] dX7_mercy_23 rfl (by decide) rfl ?_
      refine ze_aload_n h dX7_mercy_24 rfl ?_
      refine ze_iconst h (-1) dX7_mercy_25 zk_i_m1 ?_
      refine ze_iload_n h dX7_mercy_26 rfl ?_
      refine ze_callVi h (st := []) zce_X7_failsBut zi_X7_failsBut zs_X7_failsBut zm_X7_243 zl_47 rfl rfl (Nat.le_of_ble_eq_true rfl) zkn (c_X7_failsBut l  (-1) p1 s4) rfl (Nat.le_of_ble_eq_true rfl) rfl dX7_mercy_27 (fun r5 s6 => ?_)
      refine ze_istore h [some (.ref 47), some (.int p1), some (.int p2), some (.int (-1)), some (.int r5), none, none] dX7_mercy_30 rfl (by decide) rfl ?_
      refine ze_iconst h 0 dX7_mercy_32 zk_i_0 ?_
      refine ze_istore h [some (.ref 47), some (.int p1), some (.int p2), some (.int (-1)), some (.int r5), some (.int 0), none] dX7_mercy_33 rfl (by decide) rfl ?_
      refine e_X7_mercy_35 h hR _ ?_ zN p1 p2 (-1) r5 0 s6
      · intro x19 x20 x21 s22
        refine ze_iload_n h dX7_mercy_89 rfl ?_
        refine ze_if_ne h 97 dX7_mercy_90 (by decide) ?_ ?_
        · refine ze_iload h dX7_mercy_97 rfl ?_
          exact ze_iret hR dX7_mercy_99
        · refine ze_iload_n h dX7_mercy_93 rfl ?_
          refine ze_goto h 99 dX7_mercy_94 (by decide) ?_
          exact ze_iret hR dX7_mercy_99
    · refine ze_bipush h (-2) dX7_mercy_19 zk_b_m2 ?_
      exact ze_iret hR dX7_mercy_21
set_option maxRecDepth 20000 in
theorem e_X7_worst_108 {l : Launch} {G : zGT} {T : Option Value × zMem} (h : zOk G l cX7_worst RX7 8 8 0 0 false) (hR : zR G cX7_worst (some .int) T zFull 0 0)  (c30 : Int32 → Int32 → Int32 → Int32 → Int32 → zMem → Option (Int32 × zMem)) (hc30 : ∀ (y1 : Int32) (y2 : Int32) (y3 : Int32) (y4 : Int32) (y5 : Int32) (s9 : zMem), zE G T (fun r : Int32 => some (.int r)) zFull 0 0 30 [some (.ref 47), some (.int y1), some (.int y2), some (.int y3), some (.int y4), some (.int y5), none, none] [] s9 (c30 y1 y2 y3 y4 y5 s9)) : ∀ (x29 : Int32) (x30 : Int32) (x31 : Int32) (x32 : Int32) (x33 : Int32) (x34 : Int32) (t35 : Int32) (s36 : zMem), zE G T (fun r : Int32 => some (.int r)) zFull 0 0 108 [some (.ref 47), some (.int x29), some (.int x30), some (.int x31), some (.int x32), some (.int x33), some (.int x34), none] [.int t35] s36 (f_X7_worst_108 c30  x29 x30 x31 x32 x33 x34 t35 s36) := by
  intro x29 x30 x31 x32 x33 x34 t35 s36
  unfold f_X7_worst_108
  refine ze_istore h [some (.ref 47), some (.int x29), some (.int x30), some (.int x31), some (.int x32), some (.int x33), some (.int x34), some (.int t35)] dX7_worst_108 rfl (by decide) rfl ?_
  refine ze_iload h dX7_worst_110 rfl ?_
  refine ze_if_eq h 120 dX7_worst_112 (by decide) ?_ ?_
  · refine ze_iload_n h dX7_worst_120 rfl ?_
    refine ze_istore_n h [some (.ref 47), some (.int x29), some (.int x30), some (.int x31), some (.int x32), some (.int x33), some (.int x34), some (.int t35)] dX7_worst_121 rfl (by decide) rfl ?_
    refine ze_iload h dX7_worst_122 rfl ?_
    refine ze_if_eq h 132 dX7_worst_124 (by decide) ?_ ?_
    · refine ze_iload h dX7_worst_132 rfl ?_
      refine ze_istore h [some (.ref 47), some (.int x29), some (.int x30), some (.int x31), some (.int x32), some (.int x33), some (.int x34), some (.int t35)] dX7_worst_134 rfl (by decide) rfl ?_
      refine ze_iincN h (fun y9 => [some (.ref 47), some (.int x29), some (.int x30), some (.int x31), some (.int x32), some (.int y9), some (.int x34), some (.int t35)]) 1 dX7_worst_136 rfl zk_i_1 rfl (by decide) (fun _ => rfl) (fun x37 => ?_)
      refine ze_goto h 30 dX7_worst_139 (by decide) ?_
      refine zE_weak h [true, true, true, true, true, true, false, false] rfl ?_
      exact hc30 x29 x30 x31 x32 x37 s36
    · refine ze_iload h dX7_worst_127 rfl ?_
      refine ze_goto h 134 dX7_worst_129 (by decide) ?_
      refine ze_istore h [some (.ref 47), some (.int x29), some (.int x30), some (.int x31), some (.int x34), some (.int x33), some (.int x34), some (.int t35)] dX7_worst_134 rfl (by decide) rfl ?_
      refine ze_iincN h (fun y9 => [some (.ref 47), some (.int x29), some (.int x30), some (.int x31), some (.int x34), some (.int y9), some (.int x34), some (.int t35)]) 1 dX7_worst_136 rfl zk_i_1 rfl (by decide) (fun _ => rfl) (fun x38 => ?_)
      refine ze_goto h 30 dX7_worst_139 (by decide) ?_
      refine zE_weak h [true, true, true, true, true, true, false, false] rfl ?_
      exact hc30 x29 x30 x31 x34 x38 s36
  · refine ze_iload h dX7_worst_115 rfl ?_
    refine ze_goto h 121 dX7_worst_117 (by decide) ?_
    refine ze_istore_n h [some (.ref 47), some (.int x29), some (.int x30), some (.int x33), some (.int x32), some (.int x33), some (.int x34), some (.int t35)] dX7_worst_121 rfl (by decide) rfl ?_
    refine ze_iload h dX7_worst_122 rfl ?_
    refine ze_if_eq h 132 dX7_worst_124 (by decide) ?_ ?_
    · refine ze_iload h dX7_worst_132 rfl ?_
      refine ze_istore h [some (.ref 47), some (.int x29), some (.int x30), some (.int x33), some (.int x32), some (.int x33), some (.int x34), some (.int t35)] dX7_worst_134 rfl (by decide) rfl ?_
      refine ze_iincN h (fun y9 => [some (.ref 47), some (.int x29), some (.int x30), some (.int x33), some (.int x32), some (.int y9), some (.int x34), some (.int t35)]) 1 dX7_worst_136 rfl zk_i_1 rfl (by decide) (fun _ => rfl) (fun x39 => ?_)
      refine ze_goto h 30 dX7_worst_139 (by decide) ?_
      refine zE_weak h [true, true, true, true, true, true, false, false] rfl ?_
      exact hc30 x29 x30 x33 x32 x39 s36
    · refine ze_iload h dX7_worst_127 rfl ?_
      refine ze_goto h 134 dX7_worst_129 (by decide) ?_
      refine ze_istore h [some (.ref 47), some (.int x29), some (.int x30), some (.int x33), some (.int x34), some (.int x33), some (.int x34), some (.int t35)] dX7_worst_134 rfl (by decide) rfl ?_
      refine ze_iincN h (fun y9 => [some (.ref 47), some (.int x29), some (.int x30), some (.int x33), some (.int x34), some (.int y9), some (.int x34), some (.int t35)]) 1 dX7_worst_136 rfl zk_i_1 rfl (by decide) (fun _ => rfl) (fun x40 => ?_)
      refine ze_goto h 30 dX7_worst_139 (by decide) ?_
      refine zE_weak h [true, true, true, true, true, true, false, false] rfl ?_
      exact hc30 x29 x30 x33 x34 x40 s36
set_option maxRecDepth 20000 in
theorem e_X7_worst_103 {l : Launch} {G : zGT} {T : Option Value × zMem} (h : zOk G l cX7_worst RX7 8 8 0 0 false) (hR : zR G cX7_worst (some .int) T zFull 0 0)  (c30 : Int32 → Int32 → Int32 → Int32 → Int32 → zMem → Option (Int32 × zMem)) (hc30 : ∀ (y1 : Int32) (y2 : Int32) (y3 : Int32) (y4 : Int32) (y5 : Int32) (s9 : zMem), zE G T (fun r : Int32 => some (.int r)) zFull 0 0 30 [some (.ref 47), some (.int y1), some (.int y2), some (.int y3), some (.int y4), some (.int y5), none, none] [] s9 (c30 y1 y2 y3 y4 y5 s9)) : ∀ (x22 : Int32) (x23 : Int32) (x24 : Int32) (x25 : Int32) (x26 : Int32) (x27 : Int32) (s28 : zMem), zE G T (fun r : Int32 => some (.int r)) zFull 0 0 103 [some (.ref 47), some (.int x22), some (.int x23), some (.int x24), some (.int x25), some (.int x26), some (.int x27), none] [] s28 (f_X7_worst_103 c30  x22 x23 x24 x25 x26 x27 s28) := by
  intro x22 x23 x24 x25 x26 x27 s28
  unfold f_X7_worst_103
  refine ze_iconst h 1 dX7_worst_103 zk_i_1 ?_
  refine ze_goto h 108 dX7_worst_104 (by decide) ?_
  refine e_X7_worst_108 h hR _ ?_ x22 x23 x24 x25 x26 x27 1 s28
  · intro x41 x42 x43 x44 x45 s46
    exact hc30 x41 x42 x43 x44 x45 s46
set_option maxRecDepth 20000 in
theorem e_X7_worst_30 {l : Launch} {G : zGT} {T : Option Value × zMem} (h : zOk G l cX7_worst RX7 8 8 0 0 false) (hR : zR G cX7_worst (some .int) T zFull 0 0)  (c142 : Int32 → Int32 → Int32 → zMem → Option (Int32 × zMem)) (hc142 : ∀ (y1 : Int32) (y2 : Int32) (y3 : Int32) (s9 : zMem), zE G T (fun r : Int32 => some (.int r)) zFull 0 0 142 [none, none, some (.int y1), some (.int y2), some (.int y3), none, none, none] [] s9 (c142 y1 y2 y3 s9)) : ∀ (n : Nat) (x5 : Int32) (x6 : Int32) (x7 : Int32) (x8 : Int32) (x9 : Int32) (s10 : zMem), zE G T (fun r : Int32 => some (.int r)) zFull 0 0 30 [some (.ref 47), some (.int x5), some (.int x6), some (.int x7), some (.int x8), some (.int x9), none, none] [] s10 (f_X7_worst_30 c142 n x5 x6 x7 x8 x9 s10) := by
  intro n
  induction n with
  | zero => intro _ _ _ _ _ _; exact ze_none
  | succ n ih =>
    intro x5 x6 x7 x8 x9 s10
    rw [f_X7_worst_30]
    refine ze_iload h dX7_worst_30 rfl ?_
    refine ze_aload_n h dX7_worst_32 rfl ?_
    refine ze_getI h zl_47 rfl zf_X7_84 dX7_worst_33 ?_
    refine ze_icmp_ge h 142 dX7_worst_36 (by decide) ?_ ?_
    · refine zE_weak h [false, false, true, true, true, false, false, false] rfl ?_
      exact hc142 x6 x7 x8 s10
    · refine ze_aload_n h dX7_worst_39 rfl ?_
      refine ze_callVv h (st := []) zce_X7_keeps zi_X7_keeps zs_X7_keeps zm_X7_227 zl_47 rfl rfl (Nat.le_of_ble_eq_true rfl) zkn (c_X7_keeps l  s10) rfl (Nat.le_of_ble_eq_true rfl) rfl dX7_worst_40 (fun _ s12 => ?_)
      refine ze_aload_n h dX7_worst_43 rfl ?_
      refine ze_getR h zl_47 rfl zf_X7_16 dX7_worst_44 ?_
      refine ze_iconst h 3 dX7_worst_47 zk_i_3 ?_
      refine ze_iload h dX7_worst_48 rfl ?_
      refine ze_imul h dX7_worst_50 ?_
      refine ze_iconst h 0 dX7_worst_51 zk_i_0 ?_
      refine ze_iastG h zl_50 dX7_worst_52 ?_
      refine ze_nmS (fun s13 => ?_)
      refine ze_aload_n h dX7_worst_53 rfl ?_
      refine ze_getR h zl_47 rfl zf_X7_16 dX7_worst_54 ?_
      refine ze_iconst h 3 dX7_worst_57 zk_i_3 ?_
      refine ze_iload h dX7_worst_58 rfl ?_
      refine ze_pc 60 rfl ?_
      refine ze_imul h dX7_worst_60 ?_
      refine ze_iconst h 1 dX7_worst_61 zk_i_1 ?_
      refine ze_iadd h dX7_worst_62 ?_
      refine ze_iconst h 0 dX7_worst_63 zk_i_0 ?_
      refine ze_iastG h zl_50 dX7_worst_64 ?_
      refine ze_nmS (fun s14 => ?_)
      refine ze_aload_n h dX7_worst_65 rfl ?_
      refine ze_iload_n h dX7_worst_66 rfl ?_
      refine ze_callVi h (st := []) zce_X7_goes zi_X7_goes zs_X7_goes zm_X7_230 zl_47 rfl rfl (Nat.le_of_ble_eq_true rfl) zkn (c_X7_goes l  x5 s14) rfl (Nat.le_of_ble_eq_true rfl) rfl dX7_worst_67 (fun r15 s16 => ?_)
      refine ze_pop h dX7_worst_70 rfl ?_
      refine ze_aload_n h dX7_worst_71 rfl ?_
      refine ze_callVi h (st := []) zce_X7_heatAll zi_X7_heatAll zs_X7_heatAll zm_X7_97 zl_47 rfl rfl (Nat.le_of_ble_eq_true rfl) zkn (c_X7_heatAll l  s16) rfl (Nat.le_of_ble_eq_true rfl) rfl dX7_worst_72 (fun r17 s18 => ?_)
      refine ze_aload_n h dX7_worst_75 rfl ?_
      refine ze_getR h zl_47 rfl zf_X7_16 dX7_worst_76 ?_
      refine ze_iconst h 3 dX7_worst_79 zk_i_3 ?_
      refine ze_pc 80 rfl ?_
      refine ze_iload h dX7_worst_80 rfl ?_
      refine ze_imul h dX7_worst_82 ?_
      refine ze_ialdG h zl_50 dX7_worst_83 ?_
      refine ze_isub h dX7_worst_84 ?_
      refine ze_nmI (fun x19 => ?_)
      refine ze_istore h [some (.ref 47), some (.int x5), some (.int x6), some (.int x7), some (.int x8), some (.int x9), some (.int x19), none] dX7_worst_85 rfl (by decide) rfl ?_
      refine ze_aload_n h dX7_worst_87 rfl ?_
      refine ze_callVv h (st := []) zce_X7_lays zi_X7_lays zs_X7_lays zm_X7_233 zl_47 rfl rfl (Nat.le_of_ble_eq_true rfl) zkn (c_X7_lays l  s18) rfl (Nat.le_of_ble_eq_true rfl) rfl dX7_worst_88 (fun _ s21 => ?_)
      refine ze_iload_n h dX7_worst_91 rfl ?_
      refine ze_iconst h (-1) dX7_worst_92 zk_i_m1 ?_
      refine ze_icmp_eq h 103 dX7_worst_93 (by decide) ?_ ?_
      · refine e_X7_worst_103 h hR _ ?_ x5 x6 x7 x8 x9 x19 s21
        · intro x47 x48 x49 x50 x51 s52
          exact ih x47 x48 x49 x50 x51 s52
      · refine ze_iload h dX7_worst_96 rfl ?_
        refine ze_iload h dX7_worst_98 rfl ?_
        refine ze_icmp_ge h 107 dX7_worst_100 (by decide) ?_ ?_
        · refine ze_iconst h 0 dX7_worst_107 zk_i_0 ?_
          refine e_X7_worst_108 h hR _ ?_ x5 x6 x7 x8 x9 x19 0 s21
          · intro x53 x54 x55 x56 x57 s58
            exact ih x53 x54 x55 x56 x57 s58
        · refine e_X7_worst_103 h hR _ ?_ x5 x6 x7 x8 x9 x19 s21
          · intro x59 x60 x61 x62 x63 s64
            exact ih x59 x60 x61 x62 x63 s64
set_option maxRecDepth 20000 in
theorem c_X7_worst (l : Launch)  (p1 : Int32) (p2 : Int32) (s0 : zMem) : zC l yX7_worst (.code yX7_worst cX7_worst 8 (some .int)) 8 [.ref 47, .int p1, .int p2] zFull s0 (fun r : Int32 => some (.int r)) (f_X7_worst p1 p2 s0) := by
  refine zC_of (own := RX7) rfl rfl (Nat.le_of_ble_eq_true rfl) [some (.ref 47), some (.int p1), some (.int p2), none, none, none, none, none] rfl (fun G T h hR => ?_)
  unfold f_X7_worst
  refine ze_iload_n h dX7_worst_0 rfl ?_
  refine ze_iconst h 0 dX7_worst_1 zk_i_0 ?_
  refine ze_bipush h 40 dX7_worst_2 zk_b_40 ?_
  refine ze_callSi h (st := []) zce_X7_in zt_X7_in zm_X7_87 (Nat.le_of_ble_eq_true rfl) zkn (c_X7_in l zFull p1 0 40 s0) rfl (Nat.le_of_ble_eq_true rfl) rfl dX7_worst_4 (fun r1 s2 => ?_)
  refine ze_if_eq h 19 dX7_worst_7 (by decide) ?_ ?_
  · refine ze_bipush h (-2) dX7_worst_19 zk_b_m2 ?_
    exact ze_iret hR dX7_worst_21
  · refine ze_iload_n h dX7_worst_10 rfl ?_
    refine ze_iconst h 0 dX7_worst_11 zk_i_0 ?_
    refine ze_iconst h 1 dX7_worst_12 zk_i_1 ?_
    refine ze_callSi h (st := []) zce_X7_in zt_X7_in zm_X7_87 (Nat.le_of_ble_eq_true rfl) zkn (c_X7_in l zFull p2 0 1 s2) rfl (Nat.le_of_ble_eq_true rfl) rfl dX7_worst_13 (fun r3 s4 => ?_)
    refine ze_if_ne h 22 dX7_worst_16 (by decide) ?_ ?_
    · refine ze_iconst h (-1) dX7_worst_22 zk_i_m1 ?_
      refine ze_istore_n h [some (.ref 47), some (.int p1), some (.int p2), some (.int (-1)), none, none, none, none] dX7_worst_23 rfl (by decide) rfl ?_
      refine ze_iconst h (-1) dX7_worst_24 zk_i_m1 ?_
      refine ze_istore h [some (.ref 47), some (.int p1), some (.int p2), some (.int (-1)), some (.int (-1)), none, none, none] dX7_worst_25 rfl (by decide) rfl ?_
      refine ze_iconst h 0 dX7_worst_27 zk_i_0 ?_
      refine ze_istore h [some (.ref 47), some (.int p1), some (.int p2), some (.int (-1)), some (.int (-1)), some (.int 0), none, none] dX7_worst_28 rfl (by decide) rfl ?_
      refine e_X7_worst_30 h hR _ ?_ zN p1 p2 (-1) (-1) 0 s4
      · intro x65 x66 x67 s68
        refine ze_iload_n h dX7_worst_142 rfl ?_
        refine ze_if_ne h 150 dX7_worst_143 (by decide) ?_ ?_
        · refine ze_iload h dX7_worst_150 rfl ?_
          exact ze_iret hR dX7_worst_152
        · refine ze_iload_n h dX7_worst_146 rfl ?_
          refine ze_goto h 152 dX7_worst_147 (by decide) ?_
          exact ze_iret hR dX7_worst_152
    · refine ze_bipush h (-2) dX7_worst_19 zk_b_m2 ?_
      exact ze_iret hR dX7_worst_21
set_option maxRecDepth 20000 in
theorem c_X7_sheetWrong (l : Launch)  (p1 : Int32) (s0 : zMem) : zC l yX7_sheetWrong (.code yX7_sheetWrong cX7_sheetWrong 2 (some .int)) 2 [.ref 47, .int p1] zFull s0 (fun r : Int32 => some (.int r)) (f_X7_sheetWrong p1 s0) := by
  refine zC_of (own := RX7) rfl rfl (Nat.le_of_ble_eq_true rfl) [some (.ref 47), some (.int p1)] rfl (fun G T h hR => ?_)
  unfold f_X7_sheetWrong
  refine ze_iload_n h dX7_sheetWrong_0 rfl ?_
  refine ze_iconst h 0 dX7_sheetWrong_1 zk_i_0 ?_
  refine ze_iconst h 3 dX7_sheetWrong_2 zk_i_3 ?_
  refine ze_callSi h (st := []) zce_X7_in zt_X7_in zm_X7_87 (Nat.le_of_ble_eq_true rfl) zkn (c_X7_in l zFull p1 0 3 s0) rfl (Nat.le_of_ble_eq_true rfl) rfl dX7_sheetWrong_3 (fun r1 s2 => ?_)
  refine ze_if_ne h 12 dX7_sheetWrong_6 (by decide) ?_ ?_
  · refine ze_aload_n h dX7_sheetWrong_12 rfl ?_
    refine ze_getR h zl_47 rfl zf_X7_46 dX7_sheetWrong_13 ?_
    refine ze_iload_n h dX7_sheetWrong_16 rfl ?_
    refine ze_ialdG h zl_60 dX7_sheetWrong_17 ?_
    refine ze_iconst h (-1) dX7_sheetWrong_18 zk_i_m1 ?_
    refine ze_icmp_ne h 25 dX7_sheetWrong_19 (by decide) ?_ ?_
    · refine ze_aload_n h dX7_sheetWrong_25 rfl ?_
      refine ze_getR h zl_47 rfl zf_X7_49 dX7_sheetWrong_26 ?_
      refine ze_iload_n h dX7_sheetWrong_29 rfl ?_
      refine ze_ialdG h zl_61 dX7_sheetWrong_30 ?_
      refine ze_bipush h 20 dX7_sheetWrong_31 zk_b_20 ?_
      refine ze_icmp_le h 41 dX7_sheetWrong_33 (by decide) ?_ ?_
      · refine ze_iconst h 0 dX7_sheetWrong_41 zk_i_0 ?_
        exact ze_iret hR dX7_sheetWrong_42
      · refine ze_bipush h (-2) dX7_sheetWrong_36 zk_b_m2 ?_
        refine ze_goto h 42 dX7_sheetWrong_38 (by decide) ?_
        exact ze_iret hR dX7_sheetWrong_42
    · refine ze_bipush h (-11) dX7_sheetWrong_22 zk_b_m11 ?_
      exact ze_iret hR dX7_sheetWrong_24
  · refine ze_bipush h (-2) dX7_sheetWrong_9 zk_b_m2 ?_
    exact ze_iret hR dX7_sheetWrong_11
set_option maxRecDepth 20000 in
theorem c_X7_toldWrong (l : Launch)  (p1 : Int32) (p2 : Int32) (s0 : zMem) : zC l yX7_toldWrong (.code yX7_toldWrong cX7_toldWrong 4 (some .int)) 3 [.ref 47, .int p1, .int p2] zFull s0 (fun r : Int32 => some (.int r)) (f_X7_toldWrong p1 p2 s0) := by
  refine zC_of (own := RX7) rfl rfl (Nat.le_of_ble_eq_true rfl) [some (.ref 47), some (.int p1), some (.int p2), none] rfl (fun G T h hR => ?_)
  unfold f_X7_toldWrong
  refine ze_aload_n h dX7_toldWrong_0 rfl ?_
  refine ze_iload_n h dX7_toldWrong_1 rfl ?_
  refine ze_callVi h (st := []) zce_X7_sheetWrong zi_X7_sheetWrong zs_X7_sheetWrong zm_X7_246 zl_47 rfl rfl (Nat.le_of_ble_eq_true rfl) zkn (c_X7_sheetWrong l  p1 s0) rfl (Nat.le_of_ble_eq_true rfl) rfl dX7_toldWrong_2 (fun r1 s2 => ?_)
  refine ze_istore_n h [some (.ref 47), some (.int p1), some (.int p2), some (.int r1)] dX7_toldWrong_5 rfl (by decide) rfl ?_
  refine ze_iload_n h dX7_toldWrong_6 rfl ?_
  refine ze_if_eq h 14 dX7_toldWrong_7 (by decide) ?_ ?_
  · refine ze_aload_n h dX7_toldWrong_14 rfl ?_
    refine ze_iload_n h dX7_toldWrong_15 rfl ?_
    refine ze_callVi h (st := []) zce_X7_isHut zi_X7_isHut zs_X7_isHut zm_X7_179 zl_47 rfl rfl (Nat.le_of_ble_eq_true rfl) zkn (c_X7_isHut l  p2 s2) rfl (Nat.le_of_ble_eq_true rfl) rfl dX7_toldWrong_16 (fun r3 s4 => ?_)
    refine ze_if_eq h 26 dX7_toldWrong_19 (by decide) ?_ ?_
    · refine ze_bipush h (-5) dX7_toldWrong_26 zk_b_m5 ?_
      exact ze_iret hR dX7_toldWrong_28
    · refine ze_iconst h 0 dX7_toldWrong_22 zk_i_0 ?_
      refine ze_goto h 28 dX7_toldWrong_23 (by decide) ?_
      exact ze_iret hR dX7_toldWrong_28
  · refine ze_iload_n h dX7_toldWrong_10 rfl ?_
    refine ze_goto h 28 dX7_toldWrong_11 (by decide) ?_
    exact ze_iret hR dX7_toldWrong_28
set_option maxRecDepth 20000 in
theorem e_X7_unlike_9 {l : Launch} {G : zGT} {T : Option Value × zMem} (h : zOk G l cX7_unlike RX7 5 7 0 0 false) (hR : zR G cX7_unlike (some .int) T zFull 0 0)  (c66 : Int32 → zMem → Option (Int32 × zMem)) (hc66 : ∀ (y1 : Int32) (s9 : zMem), zE G T (fun r : Int32 => some (.int r)) zFull 0 0 66 [some (.ref 47), none, none, some (.int y1), none] [] s9 (c66 y1 s9)) : ∀ (n : Nat) (x3 : Int32) (x4 : Int32) (x5 : Int32) (x6 : Int32) (s7 : zMem), zE G T (fun r : Int32 => some (.int r)) zFull 0 0 9 [some (.ref 47), some (.int x3), some (.int x4), some (.int x5), some (.int x6)] [] s7 (f_X7_unlike_9 c66 n x3 x4 x5 x6 s7) := by
  intro n
  induction n with
  | zero => intro _ _ _ _ _; exact ze_none
  | succ n ih =>
    intro x3 x4 x5 x6 s7
    rw [f_X7_unlike_9]
    refine ze_iload h dX7_unlike_9 rfl ?_
    refine ze_aload_n h dX7_unlike_11 rfl ?_
    refine ze_getR h zl_47 rfl zf_X7_49 dX7_unlike_12 ?_
    refine ze_iload_n h dX7_unlike_15 rfl ?_
    refine ze_ialdG h zl_61 dX7_unlike_16 ?_
    refine ze_icmp_ge h 66 dX7_unlike_17 (by decide) ?_ ?_
    · refine zE_weak h [true, false, false, true, false] rfl ?_
      exact hc66 x5 s7
    · refine ze_iload_n h dX7_unlike_20 rfl ?_
      refine ze_iconst h (-1) dX7_unlike_21 zk_i_m1 ?_
      refine ze_icmp_ne h 66 dX7_unlike_22 (by decide) ?_ ?_
      · refine zE_weak h [true, false, false, true, false] rfl ?_
        exact hc66 x5 s7
      · refine ze_aload_n h dX7_unlike_25 rfl ?_
        refine ze_callVi h (st := []) zce_X7_nightOf zi_X7_nightOf zs_X7_nightOf zm_X7_224 zl_47 rfl rfl (Nat.le_of_ble_eq_true rfl) zkn (c_X7_nightOf l  s7) rfl (Nat.le_of_ble_eq_true rfl) rfl dX7_unlike_26 (fun r8 s9 => ?_)
        refine ze_pop h dX7_unlike_29 rfl ?_
        refine ze_aload_n h dX7_unlike_30 rfl ?_
        refine ze_getR h zl_47 rfl zf_X7_52 dX7_unlike_31 ?_
        refine ze_bipush h 40 dX7_unlike_34 zk_b_40 ?_
        refine ze_iload_n h dX7_unlike_36 rfl ?_
        refine ze_imul h dX7_unlike_37 ?_
        refine ze_iload h dX7_unlike_38 rfl ?_
        refine ze_iadd h dX7_unlike_40 ?_
        refine ze_ialdG h zl_62 dX7_unlike_41 ?_
        refine ze_aload_n h dX7_unlike_42 rfl ?_
        refine ze_getR h zl_47 rfl zf_X7_16 dX7_unlike_43 ?_
        refine ze_pc 46 rfl ?_
        refine ze_iconst h 3 dX7_unlike_46 zk_i_3 ?_
        refine ze_iload_n h dX7_unlike_47 rfl ?_
        refine ze_imul h dX7_unlike_48 ?_
        refine ze_ialdG h zl_50 dX7_unlike_49 ?_
        refine ze_icmp_ne h 57 dX7_unlike_50 (by decide) ?_ ?_
        · refine ze_iload h dX7_unlike_57 rfl ?_
          refine ze_istore_n h [some (.ref 47), some (.int x3), some (.int x4), some (.int x6), some (.int x6)] dX7_unlike_59 rfl (by decide) rfl ?_
          refine ze_iincN h (fun y9 => [some (.ref 47), some (.int x3), some (.int x4), some (.int x6), some (.int y9)]) 1 dX7_unlike_60 rfl zk_i_1 rfl (by decide) (fun _ => rfl) (fun x10 => ?_)
          refine ze_goto h 9 dX7_unlike_63 (by decide) ?_
          exact ih x3 x4 x6 x10 s9
        · refine ze_iconst h (-1) dX7_unlike_53 zk_i_m1 ?_
          refine ze_goto h 59 dX7_unlike_54 (by decide) ?_
          refine ze_istore_n h [some (.ref 47), some (.int x3), some (.int x4), some (.int (-1)), some (.int x6)] dX7_unlike_59 rfl (by decide) rfl ?_
          refine ze_iincN h (fun y9 => [some (.ref 47), some (.int x3), some (.int x4), some (.int (-1)), some (.int y9)]) 1 dX7_unlike_60 rfl zk_i_1 rfl (by decide) (fun _ => rfl) (fun x11 => ?_)
          refine ze_goto h 9 dX7_unlike_63 (by decide) ?_
          exact ih x3 x4 (-1) x11 s9
set_option maxRecDepth 20000 in
theorem c_X7_unlike (l : Launch)  (p1 : Int32) (p2 : Int32) (s0 : zMem) : zC l yX7_unlike (.code yX7_unlike cX7_unlike 5 (some .int)) 7 [.ref 47, .int p1, .int p2] zFull s0 (fun r : Int32 => some (.int r)) (f_X7_unlike p1 p2 s0) := by
  refine zC_of (own := RX7) rfl rfl (Nat.le_of_ble_eq_true rfl) [some (.ref 47), some (.int p1), some (.int p2), none, none] rfl (fun G T h hR => ?_)
  unfold f_X7_unlike
  refine ze_iconst h (-1) dX7_unlike_0 zk_i_m1 ?_
  refine ze_istore_n h [some (.ref 47), some (.int p1), some (.int p2), some (.int (-1)), none] dX7_unlike_1 rfl (by decide) rfl ?_
  refine ze_aload_n h dX7_unlike_2 rfl ?_
  refine ze_callVv h (st := []) zce_X7_keeps zi_X7_keeps zs_X7_keeps zm_X7_227 zl_47 rfl rfl (Nat.le_of_ble_eq_true rfl) zkn (c_X7_keeps l  s0) rfl (Nat.le_of_ble_eq_true rfl) rfl dX7_unlike_3 (fun _ s2 => ?_)
  refine ze_iconst h 0 dX7_unlike_6 zk_i_0 ?_
  refine ze_istore h [some (.ref 47), some (.int p1), some (.int p2), some (.int (-1)), some (.int 0)] dX7_unlike_7 rfl (by decide) rfl ?_
  refine e_X7_unlike_9 h hR _ ?_ zN p1 p2 (-1) 0 s2
  · intro x12 s13
    refine ze_aload_n h dX7_unlike_66 rfl ?_
    refine ze_callVv h (st := []) zce_X7_lays zi_X7_lays zs_X7_lays zm_X7_233 zl_47 rfl rfl (Nat.le_of_ble_eq_true rfl) zkn (c_X7_lays l  s13) rfl (Nat.le_of_ble_eq_true rfl) rfl dX7_unlike_67 (fun _ s15 => ?_)
    refine ze_iload_n h dX7_unlike_70 rfl ?_
    exact ze_iret hR dX7_unlike_71
set_option maxRecDepth 20000 in
theorem c_X7_judge (l : Launch)  (p1 : Int32) (p2 : Int32) (s0 : zMem) : zC l yX7_judge (.code yX7_judge cX7_judge 4 (some .int)) 8 [.ref 47, .int p1, .int p2] zFull s0 (fun r : Int32 => some (.int r)) (f_X7_judge p1 p2 s0) := by
  refine zC_of (own := RX7) rfl rfl (Nat.le_of_ble_eq_true rfl) [some (.ref 47), some (.int p1), some (.int p2), none] rfl (fun G T h hR => ?_)
  unfold f_X7_judge
  refine ze_aload_n h dX7_judge_0 rfl ?_
  refine ze_iload_n h dX7_judge_1 rfl ?_
  refine ze_iload_n h dX7_judge_2 rfl ?_
  refine ze_callVi h (st := []) zce_X7_toldWrong zi_X7_toldWrong zs_X7_toldWrong zm_X7_249 zl_47 rfl rfl (Nat.le_of_ble_eq_true rfl) zkn (c_X7_toldWrong l  p1 p2 s0) rfl (Nat.le_of_ble_eq_true rfl) rfl dX7_judge_3 (fun r1 s2 => ?_)
  refine ze_istore_n h [some (.ref 47), some (.int p1), some (.int p2), some (.int r1)] dX7_judge_6 rfl (by decide) rfl ?_
  refine ze_iload_n h dX7_judge_7 rfl ?_
  refine ze_if_ne h 20 dX7_judge_8 (by decide) ?_ ?_
  · refine ze_iload_n h dX7_judge_20 rfl ?_
    exact ze_iret hR dX7_judge_21
  · refine ze_aload_n h dX7_judge_11 rfl ?_
    refine ze_iload_n h dX7_judge_12 rfl ?_
    refine ze_iload_n h dX7_judge_13 rfl ?_
    refine ze_callVi h (st := []) zce_X7_unlike zi_X7_unlike zs_X7_unlike zm_X7_252 zl_47 rfl rfl (Nat.le_of_ble_eq_true rfl) zkn (c_X7_unlike l  p1 p2 s2) rfl (Nat.le_of_ble_eq_true rfl) rfl dX7_judge_14 (fun r3 s4 => ?_)
    refine ze_goto h 21 dX7_judge_17 (by decide) ?_
    exact ze_iret hR dX7_judge_21
set_option maxRecDepth 20000 in
theorem e_X7_kinds_100 {l : Launch} {G : zGT} {T : Option Value × zMem} (h : zOk G l cX7_kinds RX7 9 8 0 0 false) (hR : zR G cX7_kinds (some .int) T zFull 0 0)  (c50 : Int32 → Int32 → Int32 → Int32 → Int32 → Int32 → Int32 → zMem → Option (Int32 × zMem)) (hc50 : ∀ (y1 : Int32) (y2 : Int32) (y3 : Int32) (y4 : Int32) (y5 : Int32) (y6 : Int32) (y7 : Int32) (s9 : zMem), zE G T (fun r : Int32 => some (.int r)) zFull 0 0 50 [some (.ref 47), some (.int y1), some (.int y2), some (.int y3), none, some (.int y4), some (.int y5), some (.int y6), some (.int y7)] [] s9 (c50 y1 y2 y3 y4 y5 y6 y7 s9)) : ∀ (x36 : Int32) (x37 : Int32) (x38 : Int32) (x39 : Int32) (x40 : Int32) (x41 : Int32) (x42 : Int32) (t43 : Int32) (t44 : Int32) (s45 : zMem), zE G T (fun r : Int32 => some (.int r)) zFull 0 0 100 [some (.ref 47), some (.int x36), some (.int x37), some (.int x38), none, some (.int x39), some (.int x40), some (.int x41), some (.int x42)] [.int t43, .int t44, .ref 49] s45 (f_X7_kinds_100 c50  x36 x37 x38 x39 x40 x41 x42 t43 t44 s45) := by
  intro x36 x37 x38 x39 x40 x41 x42 t43 t44 s45
  unfold f_X7_kinds_100
  refine ze_iastG h zl_49 dX7_kinds_100 ?_
  refine ze_nmS (fun s46 => ?_)
  refine ze_iload h dX7_kinds_101 rfl ?_
  refine ze_aload_n h dX7_kinds_103 rfl ?_
  refine ze_iload_n h dX7_kinds_104 rfl ?_
  refine ze_iload_n h dX7_kinds_105 rfl ?_
  refine ze_callVi h (st := [.int x41]) zce_X7_unlike zi_X7_unlike zs_X7_unlike zm_X7_252 zl_47 rfl rfl (Nat.le_of_ble_eq_true rfl) zkn (c_X7_unlike l  x36 x37 s46) rfl (Nat.le_of_ble_eq_true rfl) rfl dX7_kinds_106 (fun r47 s48 => ?_)
  refine ze_iconst h (-1) dX7_kinds_109 zk_i_m1 ?_
  refine ze_icmp_ne h 120 dX7_kinds_110 (by decide) ?_ ?_
  · refine ze_iconst h 0 dX7_kinds_120 zk_i_0 ?_
    refine ze_ior h dX7_kinds_121 ?_
    refine ze_nmI (fun x49 => ?_)
    refine ze_istore h [some (.ref 47), some (.int x36), some (.int x37), some (.int x38), none, some (.int x39), some (.int x40), some (.int x49), some (.int x42)] dX7_kinds_122 rfl (by decide) rfl ?_
    refine ze_iincN h (fun y9 => [some (.ref 47), some (.int x36), some (.int x37), some (.int x38), none, some (.int x39), some (.int x40), some (.int x49), some (.int y9)]) 1 dX7_kinds_124 rfl zk_i_1 rfl (by decide) (fun _ => rfl) (fun x50 => ?_)
    refine ze_goto h 50 dX7_kinds_127 (by decide) ?_
    exact hc50 x36 x37 x38 x39 x40 x49 x50 s48
  · refine ze_iconst h 1 dX7_kinds_113 zk_i_1 ?_
    refine ze_iload h dX7_kinds_114 rfl ?_
    refine ze_ishl h dX7_kinds_116 ?_
    refine ze_goto h 121 dX7_kinds_117 (by decide) ?_
    refine ze_ior h dX7_kinds_121 ?_
    refine ze_nmI (fun x51 => ?_)
    refine ze_istore h [some (.ref 47), some (.int x36), some (.int x37), some (.int x38), none, some (.int x39), some (.int x40), some (.int x51), some (.int x42)] dX7_kinds_122 rfl (by decide) rfl ?_
    refine ze_iincN h (fun y9 => [some (.ref 47), some (.int x36), some (.int x37), some (.int x38), none, some (.int x39), some (.int x40), some (.int x51), some (.int y9)]) 1 dX7_kinds_124 rfl zk_i_1 rfl (by decide) (fun _ => rfl) (fun x52 => ?_)
    refine ze_goto h 50 dX7_kinds_127 (by decide) ?_
    exact hc50 x36 x37 x38 x39 x40 x51 x52 s48
set_option maxRecDepth 20000 in
theorem e_X7_kinds_82 {l : Launch} {G : zGT} {T : Option Value × zMem} (h : zOk G l cX7_kinds RX7 9 8 0 0 false) (hR : zR G cX7_kinds (some .int) T zFull 0 0)  (c50 : Int32 → Int32 → Int32 → Int32 → Int32 → Int32 → Int32 → zMem → Option (Int32 × zMem)) (hc50 : ∀ (y1 : Int32) (y2 : Int32) (y3 : Int32) (y4 : Int32) (y5 : Int32) (y6 : Int32) (y7 : Int32) (s9 : zMem), zE G T (fun r : Int32 => some (.int r)) zFull 0 0 50 [some (.ref 47), some (.int y1), some (.int y2), some (.int y3), none, some (.int y4), some (.int y5), some (.int y6), some (.int y7)] [] s9 (c50 y1 y2 y3 y4 y5 y6 y7 s9)) : ∀ (x25 : Int32) (x26 : Int32) (x27 : Int32) (x28 : Int32) (x29 : Int32) (x30 : Int32) (x31 : Int32) (t32 : Int32) (t33 : Int32) (s34 : zMem), zE G T (fun r : Int32 => some (.int r)) zFull 0 0 82 [some (.ref 47), some (.int x25), some (.int x26), some (.int x27), none, some (.int x28), some (.int x29), some (.int x30), some (.int x31)] [.int t32, .int t33, .ref 48] s34 (f_X7_kinds_82 c50  x25 x26 x27 x28 x29 x30 x31 t32 t33 s34) := by
  intro x25 x26 x27 x28 x29 x30 x31 t32 t33 s34
  unfold f_X7_kinds_82
  refine ze_iastG h zl_48 dX7_kinds_82 ?_
  refine ze_nmS (fun s35 => ?_)
  refine ze_aload_n h dX7_kinds_83 rfl ?_
  refine ze_getR h zl_47 rfl zf_X7_13 dX7_kinds_84 ?_
  refine ze_iload_n h dX7_kinds_87 rfl ?_
  refine ze_iload_n h dX7_kinds_88 rfl ?_
  refine ze_iconst h 1 dX7_kinds_89 zk_i_1 ?_
  refine ze_icmp_ne h 98 dX7_kinds_90 (by decide) ?_ ?_
  · refine ze_iload h dX7_kinds_98 rfl ?_
    refine e_X7_kinds_100 h hR _ ?_ x25 x26 x27 x28 x29 x30 x31 x29 x26 s35
    · intro x53 x54 x55 x56 x57 x58 x59 s60
      exact hc50 x53 x54 x55 x56 x57 x58 x59 s60
  · refine ze_iload h dX7_kinds_93 rfl ?_
    refine ze_goto h 100 dX7_kinds_95 (by decide) ?_
    refine e_X7_kinds_100 h hR _ ?_ x25 x26 x27 x28 x29 x30 x31 x31 x26 s35
    · intro x61 x62 x63 x64 x65 x66 x67 s68
      exact hc50 x61 x62 x63 x64 x65 x66 x67 s68
set_option maxRecDepth 20000 in
theorem e_X7_kinds_63 {l : Launch} {G : zGT} {T : Option Value × zMem} (h : zOk G l cX7_kinds RX7 9 8 0 0 false) (hR : zR G cX7_kinds (some .int) T zFull 0 0)  (c130 : Int32 → Int32 → Int32 → Int32 → zMem → Option (Int32 × zMem)) (hc130 : ∀ (y1 : Int32) (y2 : Int32) (y3 : Int32) (y4 : Int32) (s9 : zMem), zE G T (fun r : Int32 => some (.int r)) zFull 0 0 130 [some (.ref 47), none, some (.int y1), none, none, some (.int y2), some (.int y3), some (.int y4), none] [] s9 (c130 y1 y2 y3 y4 s9)) (c50 : Int32 → Int32 → Int32 → Int32 → Int32 → Int32 → Int32 → zMem → Option (Int32 × zMem)) (hc50 : ∀ (y1 : Int32) (y2 : Int32) (y3 : Int32) (y4 : Int32) (y5 : Int32) (y6 : Int32) (y7 : Int32) (s9 : zMem), zE G T (fun r : Int32 => some (.int r)) zFull 0 0 50 [some (.ref 47), some (.int y1), some (.int y2), some (.int y3), none, some (.int y4), some (.int y5), some (.int y6), some (.int y7)] [] s9 (c50 y1 y2 y3 y4 y5 y6 y7 s9)) : ∀ (x15 : Int32) (x16 : Int32) (x17 : Int32) (x18 : Int32) (x19 : Int32) (x20 : Int32) (x21 : Int32) (t22 : Int32) (t23 : Int32) (s24 : zMem), zE G T (fun r : Int32 => some (.int r)) zFull 0 0 63 [some (.ref 47), some (.int x15), some (.int x16), some (.int x17), none, some (.int x18), some (.int x19), some (.int x20), some (.int x21)] [.int t22, .int t23] s24 (f_X7_kinds_63 c130 c50  x15 x16 x17 x18 x19 x20 x21 t22 t23 s24) := by
  intro x15 x16 x17 x18 x19 x20 x21 t22 t23 s24
  unfold f_X7_kinds_63
  refine ze_icmp_ge h 130 dX7_kinds_63 (by decide) ?_ ?_
  · refine zE_weak h [true, false, true, false, false, true, true, true, false] rfl ?_
    exact hc130 x16 x18 x19 x20 s24
  · refine ze_aload_n h dX7_kinds_66 rfl ?_
    refine ze_getR h zl_47 rfl zf_X7_7 dX7_kinds_67 ?_
    refine ze_iload_n h dX7_kinds_70 rfl ?_
    refine ze_iload_n h dX7_kinds_71 rfl ?_
    refine ze_if_ne h 80 dX7_kinds_72 (by decide) ?_ ?_
    · refine ze_iload h dX7_kinds_80 rfl ?_
      refine e_X7_kinds_82 h hR _ ?_ x15 x16 x17 x18 x19 x20 x21 x18 x16 s24
      · intro x69 x70 x71 x72 x73 x74 x75 s76
        exact hc50 x69 x70 x71 x72 x73 x74 x75 s76
    · refine ze_iload h dX7_kinds_75 rfl ?_
      refine ze_goto h 82 dX7_kinds_77 (by decide) ?_
      refine e_X7_kinds_82 h hR _ ?_ x15 x16 x17 x18 x19 x20 x21 x21 x16 s24
      · intro x77 x78 x79 x80 x81 x82 x83 s84
        exact hc50 x77 x78 x79 x80 x81 x82 x83 s84
set_option maxRecDepth 20000 in
theorem e_X7_kinds_50 {l : Launch} {G : zGT} {T : Option Value × zMem} (h : zOk G l cX7_kinds RX7 9 8 0 0 false) (hR : zR G cX7_kinds (some .int) T zFull 0 0)  (c130 : Int32 → Int32 → Int32 → Int32 → zMem → Option (Int32 × zMem)) (hc130 : ∀ (y1 : Int32) (y2 : Int32) (y3 : Int32) (y4 : Int32) (s9 : zMem), zE G T (fun r : Int32 => some (.int r)) zFull 0 0 130 [some (.ref 47), none, some (.int y1), none, none, some (.int y2), some (.int y3), some (.int y4), none] [] s9 (c130 y1 y2 y3 y4 s9)) : ∀ (n : Nat) (x7 : Int32) (x8 : Int32) (x9 : Int32) (x10 : Int32) (x11 : Int32) (x12 : Int32) (x13 : Int32) (s14 : zMem), zE G T (fun r : Int32 => some (.int r)) zFull 0 0 50 [some (.ref 47), some (.int x7), some (.int x8), some (.int x9), none, some (.int x10), some (.int x11), some (.int x12), some (.int x13)] [] s14 (f_X7_kinds_50 c130 n x7 x8 x9 x10 x11 x12 x13 s14) := by
  intro n
  induction n with
  | zero => intro _ _ _ _ _ _ _ _; exact ze_none
  | succ n ih =>
    intro x7 x8 x9 x10 x11 x12 x13 s14
    rw [f_X7_kinds_50]
    refine ze_iload h dX7_kinds_50 rfl ?_
    refine ze_iload_n h dX7_kinds_52 rfl ?_
    refine ze_if_ne h 61 dX7_kinds_53 (by decide) ?_ ?_
    · refine ze_bipush h 10 dX7_kinds_61 zk_b_10 ?_
      refine e_X7_kinds_63 h hR _ ?_ _ ?_ x7 x8 x9 x10 x11 x12 x13 10 x13 s14
      · intro x85 x86 x87 x88 s89
        exact hc130 x85 x86 x87 x88 s89
      · intro x90 x91 x92 x93 x94 x95 x96 s97
        exact ih x90 x91 x92 x93 x94 x95 x96 s97
    · refine ze_bipush h 6 dX7_kinds_56 zk_b_6 ?_
      refine ze_goto h 63 dX7_kinds_58 (by decide) ?_
      refine e_X7_kinds_63 h hR _ ?_ _ ?_ x7 x8 x9 x10 x11 x12 x13 6 x13 s14
      · intro x98 x99 x100 x101 s102
        exact hc130 x98 x99 x100 x101 s102
      · intro x103 x104 x105 x106 x107 x108 x109 s110
        exact ih x103 x104 x105 x106 x107 x108 x109 s110
set_option maxRecDepth 20000 in
theorem c_X7_kinds (l : Launch)  (p1 : Int32) (p2 : Int32) (p3 : Int32) (s0 : zMem) : zC l yX7_kinds (.code yX7_kinds cX7_kinds 9 (some .int)) 8 [.ref 47, .int p1, .int p2, .int p3] zFull s0 (fun r : Int32 => some (.int r)) (f_X7_kinds p1 p2 p3 s0) := by
  refine zC_of (own := RX7) rfl rfl (Nat.le_of_ble_eq_true rfl) [some (.ref 47), some (.int p1), some (.int p2), some (.int p3), none, none, none, none, none] rfl (fun G T h hR => ?_)
  unfold f_X7_kinds
  refine ze_aload_n h dX7_kinds_0 rfl ?_
  refine ze_iload_n h dX7_kinds_1 rfl ?_
  refine ze_iload_n h dX7_kinds_2 rfl ?_
  refine ze_callVi h (st := []) zce_X7_toldWrong zi_X7_toldWrong zs_X7_toldWrong zm_X7_249 zl_47 rfl rfl (Nat.le_of_ble_eq_true rfl) zkn (c_X7_toldWrong l  p1 p2 s0) rfl (Nat.le_of_ble_eq_true rfl) rfl dX7_kinds_3 (fun r1 s2 => ?_)
  refine ze_istore h [some (.ref 47), some (.int p1), some (.int p2), some (.int p3), some (.int r1), none, none, none, none] dX7_kinds_6 rfl (by decide) rfl ?_
  refine ze_iload h dX7_kinds_8 rfl ?_
  refine ze_if_eq h 16 dX7_kinds_10 (by decide) ?_ ?_
  · refine ze_iload_n h dX7_kinds_16 rfl ?_
    refine ze_iconst h 0 dX7_kinds_17 zk_i_0 ?_
    refine ze_iconst h 1 dX7_kinds_18 zk_i_1 ?_
    refine ze_callSi h (st := []) zce_X7_in zt_X7_in zm_X7_87 (Nat.le_of_ble_eq_true rfl) zkn (c_X7_in l zFull p3 0 1 s2) rfl (Nat.le_of_ble_eq_true rfl) rfl dX7_kinds_19 (fun r3 s4 => ?_)
    refine ze_if_ne h 28 dX7_kinds_22 (by decide) ?_ ?_
    · refine ze_aload_n h dX7_kinds_28 rfl ?_
      refine ze_getR h zl_47 rfl zf_X7_7 dX7_kinds_29 ?_
      refine ze_iload_n h dX7_kinds_32 rfl ?_
      refine ze_ialdG h zl_48 dX7_kinds_33 ?_
      refine ze_nmI (fun x5 => ?_)
      refine ze_istore h [some (.ref 47), some (.int p1), some (.int p2), some (.int p3), some (.int r1), some (.int x5), none, none, none] dX7_kinds_34 rfl (by decide) rfl ?_
      refine ze_aload_n h dX7_kinds_36 rfl ?_
      refine ze_getR h zl_47 rfl zf_X7_13 dX7_kinds_37 ?_
      refine ze_iload_n h dX7_kinds_40 rfl ?_
      refine ze_ialdG h zl_49 dX7_kinds_41 ?_
      refine ze_nmI (fun x6 => ?_)
      refine ze_istore h [some (.ref 47), some (.int p1), some (.int p2), some (.int p3), some (.int r1), some (.int x5), some (.int x6), none, none] dX7_kinds_42 rfl (by decide) rfl ?_
      refine ze_iconst h 0 dX7_kinds_44 zk_i_0 ?_
      refine ze_istore h [some (.ref 47), some (.int p1), some (.int p2), some (.int p3), some (.int r1), some (.int x5), some (.int x6), some (.int 0), none] dX7_kinds_45 rfl (by decide) rfl ?_
      refine ze_iconst h 0 dX7_kinds_47 zk_i_0 ?_
      refine ze_pc 48 rfl ?_
      refine ze_istore h [some (.ref 47), some (.int p1), some (.int p2), some (.int p3), some (.int r1), some (.int x5), some (.int x6), some (.int 0), some (.int 0)] dX7_kinds_48 rfl (by decide) rfl ?_
      refine zE_weak h [true, true, true, true, false, true, true, true, true] rfl ?_
      refine e_X7_kinds_50 h hR _ ?_ zN p1 p2 p3 x5 x6 0 0 s4
      · intro x111 x112 x113 x114 s115
        refine ze_aload_n h dX7_kinds_130 rfl ?_
        refine ze_getR h zl_47 rfl zf_X7_7 dX7_kinds_131 ?_
        refine ze_iload_n h dX7_kinds_134 rfl ?_
        refine ze_iload h dX7_kinds_135 rfl ?_
        refine ze_iastG h zl_48 dX7_kinds_137 ?_
        refine ze_nmS (fun s116 => ?_)
        refine ze_aload_n h dX7_kinds_138 rfl ?_
        refine ze_getR h zl_47 rfl zf_X7_13 dX7_kinds_139 ?_
        refine ze_iload_n h dX7_kinds_142 rfl ?_
        refine ze_iload h dX7_kinds_143 rfl ?_
        refine ze_iastG h zl_49 dX7_kinds_145 ?_
        refine ze_nmS (fun s117 => ?_)
        refine ze_iload h dX7_kinds_146 rfl ?_
        exact ze_iret hR dX7_kinds_148
    · refine ze_bipush h (-7) dX7_kinds_25 zk_b_m7 ?_
      exact ze_iret hR dX7_kinds_27
  · refine ze_iload h dX7_kinds_13 rfl ?_
    exact ze_iret hR dX7_kinds_15
set_option maxRecDepth 20000 in
theorem e_X7_states_103 {l : Launch} {G : zGT} {T : Option Value × zMem} (h : zOk G l cX7_states RX7 11 8 0 0 false) (hR : zR G cX7_states (some .int) T zFull 0 0)  (c59 : Int32 → Int32 → Int32 → Int32 → Int32 → Int32 → Int32 → Int32 → zMem → Option (Int32 × zMem)) (hc59 : ∀ (y1 : Int32) (y2 : Int32) (y3 : Int32) (y4 : Int32) (y5 : Int32) (y6 : Int32) (y7 : Int32) (y8 : Int32) (s9 : zMem), zE G T (fun r : Int32 => some (.int r)) zFull 0 0 59 [some (.ref 47), some (.int y1), some (.int y2), some (.int y3), some (.int y4), none, some (.int y5), some (.int y6), some (.int y7), some (.int y8), none] [] s9 (c59 y1 y2 y3 y4 y5 y6 y7 y8 s9)) : ∀ (x31 : Int32) (x32 : Int32) (x33 : Int32) (x34 : Int32) (x35 : Int32) (x36 : Int32) (x37 : Int32) (x38 : Int32) (t39 : Int32) (s40 : zMem), zE G T (fun r : Int32 => some (.int r)) zFull 0 0 103 [some (.ref 47), some (.int x31), some (.int x32), some (.int x33), some (.int x34), none, some (.int x35), some (.int x36), some (.int x37), some (.int x38), none] [.int t39] s40 (f_X7_states_103 c59  x31 x32 x33 x34 x35 x36 x37 x38 t39 s40) := by
  intro x31 x32 x33 x34 x35 x36 x37 x38 t39 s40
  unfold f_X7_states_103
  refine ze_istore h [some (.ref 47), some (.int x31), some (.int x32), some (.int x33), some (.int x34), none, some (.int x35), some (.int x36), some (.int x37), some (.int x38), some (.int t39)] dX7_states_103 rfl (by decide) rfl ?_
  refine ze_iload h dX7_states_105 rfl ?_
  refine ze_iload h dX7_states_107 rfl ?_
  refine ze_if_eq h 116 dX7_states_109 (by decide) ?_ ?_
  · refine ze_iconst h 0 dX7_states_116 zk_i_0 ?_
    refine ze_iadd h dX7_states_117 ?_
    refine ze_nmI (fun x41 => ?_)
    refine ze_istore h [some (.ref 47), some (.int x31), some (.int x32), some (.int x33), some (.int x34), none, some (.int x35), some (.int x41), some (.int x37), some (.int x38), some (.int t39)] dX7_states_118 rfl (by decide) rfl ?_
    refine ze_iload h dX7_states_120 rfl ?_
    refine ze_if_eq h 136 dX7_states_122 (by decide) ?_ ?_
    · refine ze_iload h dX7_states_136 rfl ?_
      refine ze_istore h [some (.ref 47), some (.int x31), some (.int x32), some (.int x33), some (.int x34), none, some (.int x35), some (.int x41), some (.int x37), some (.int x38), some (.int t39)] dX7_states_138 rfl (by decide) rfl ?_
      refine ze_iincN h (fun y9 => [some (.ref 47), some (.int x31), some (.int x32), some (.int x33), some (.int x34), none, some (.int x35), some (.int x41), some (.int x37), some (.int y9), some (.int t39)]) 1 dX7_states_140 rfl zk_i_1 rfl (by decide) (fun _ => rfl) (fun x42 => ?_)
      refine ze_goto h 59 dX7_states_143 (by decide) ?_
      refine zE_weak h [true, true, true, true, true, false, true, true, true, true, false] rfl ?_
      exact hc59 x31 x32 x33 x34 x35 x41 x37 x42 s40
    · refine ze_iload h dX7_states_125 rfl ?_
      refine ze_iconst h (-1) dX7_states_127 zk_i_m1 ?_
      refine ze_icmp_ne h 136 dX7_states_128 (by decide) ?_ ?_
      · refine ze_iload h dX7_states_136 rfl ?_
        refine ze_istore h [some (.ref 47), some (.int x31), some (.int x32), some (.int x33), some (.int x34), none, some (.int x35), some (.int x41), some (.int x37), some (.int x38), some (.int t39)] dX7_states_138 rfl (by decide) rfl ?_
        refine ze_iincN h (fun y9 => [some (.ref 47), some (.int x31), some (.int x32), some (.int x33), some (.int x34), none, some (.int x35), some (.int x41), some (.int x37), some (.int y9), some (.int t39)]) 1 dX7_states_140 rfl zk_i_1 rfl (by decide) (fun _ => rfl) (fun x43 => ?_)
        refine ze_goto h 59 dX7_states_143 (by decide) ?_
        refine zE_weak h [true, true, true, true, true, false, true, true, true, true, false] rfl ?_
        exact hc59 x31 x32 x33 x34 x35 x41 x37 x43 s40
      · refine ze_iload h dX7_states_131 rfl ?_
        refine ze_goto h 138 dX7_states_133 (by decide) ?_
        refine ze_istore h [some (.ref 47), some (.int x31), some (.int x32), some (.int x33), some (.int x34), none, some (.int x35), some (.int x41), some (.int x38), some (.int x38), some (.int t39)] dX7_states_138 rfl (by decide) rfl ?_
        refine ze_iincN h (fun y9 => [some (.ref 47), some (.int x31), some (.int x32), some (.int x33), some (.int x34), none, some (.int x35), some (.int x41), some (.int x38), some (.int y9), some (.int t39)]) 1 dX7_states_140 rfl zk_i_1 rfl (by decide) (fun _ => rfl) (fun x44 => ?_)
        refine ze_goto h 59 dX7_states_143 (by decide) ?_
        refine zE_weak h [true, true, true, true, true, false, true, true, true, true, false] rfl ?_
        exact hc59 x31 x32 x33 x34 x35 x41 x38 x44 s40
  · refine ze_iconst h 1 dX7_states_112 zk_i_1 ?_
    refine ze_goto h 117 dX7_states_113 (by decide) ?_
    refine ze_iadd h dX7_states_117 ?_
    refine ze_nmI (fun x45 => ?_)
    refine ze_istore h [some (.ref 47), some (.int x31), some (.int x32), some (.int x33), some (.int x34), none, some (.int x35), some (.int x45), some (.int x37), some (.int x38), some (.int t39)] dX7_states_118 rfl (by decide) rfl ?_
    refine ze_iload h dX7_states_120 rfl ?_
    refine ze_if_eq h 136 dX7_states_122 (by decide) ?_ ?_
    · refine ze_iload h dX7_states_136 rfl ?_
      refine ze_istore h [some (.ref 47), some (.int x31), some (.int x32), some (.int x33), some (.int x34), none, some (.int x35), some (.int x45), some (.int x37), some (.int x38), some (.int t39)] dX7_states_138 rfl (by decide) rfl ?_
      refine ze_iincN h (fun y9 => [some (.ref 47), some (.int x31), some (.int x32), some (.int x33), some (.int x34), none, some (.int x35), some (.int x45), some (.int x37), some (.int y9), some (.int t39)]) 1 dX7_states_140 rfl zk_i_1 rfl (by decide) (fun _ => rfl) (fun x46 => ?_)
      refine ze_goto h 59 dX7_states_143 (by decide) ?_
      refine zE_weak h [true, true, true, true, true, false, true, true, true, true, false] rfl ?_
      exact hc59 x31 x32 x33 x34 x35 x45 x37 x46 s40
    · refine ze_iload h dX7_states_125 rfl ?_
      refine ze_iconst h (-1) dX7_states_127 zk_i_m1 ?_
      refine ze_icmp_ne h 136 dX7_states_128 (by decide) ?_ ?_
      · refine ze_iload h dX7_states_136 rfl ?_
        refine ze_istore h [some (.ref 47), some (.int x31), some (.int x32), some (.int x33), some (.int x34), none, some (.int x35), some (.int x45), some (.int x37), some (.int x38), some (.int t39)] dX7_states_138 rfl (by decide) rfl ?_
        refine ze_iincN h (fun y9 => [some (.ref 47), some (.int x31), some (.int x32), some (.int x33), some (.int x34), none, some (.int x35), some (.int x45), some (.int x37), some (.int y9), some (.int t39)]) 1 dX7_states_140 rfl zk_i_1 rfl (by decide) (fun _ => rfl) (fun x47 => ?_)
        refine ze_goto h 59 dX7_states_143 (by decide) ?_
        refine zE_weak h [true, true, true, true, true, false, true, true, true, true, false] rfl ?_
        exact hc59 x31 x32 x33 x34 x35 x45 x37 x47 s40
      · refine ze_iload h dX7_states_131 rfl ?_
        refine ze_goto h 138 dX7_states_133 (by decide) ?_
        refine ze_istore h [some (.ref 47), some (.int x31), some (.int x32), some (.int x33), some (.int x34), none, some (.int x35), some (.int x45), some (.int x38), some (.int x38), some (.int t39)] dX7_states_138 rfl (by decide) rfl ?_
        refine ze_iincN h (fun y9 => [some (.ref 47), some (.int x31), some (.int x32), some (.int x33), some (.int x34), none, some (.int x35), some (.int x45), some (.int x38), some (.int y9), some (.int t39)]) 1 dX7_states_140 rfl zk_i_1 rfl (by decide) (fun _ => rfl) (fun x48 => ?_)
        refine ze_goto h 59 dX7_states_143 (by decide) ?_
        refine zE_weak h [true, true, true, true, true, false, true, true, true, true, false] rfl ?_
        exact hc59 x31 x32 x33 x34 x35 x45 x38 x48 s40
set_option maxRecDepth 20000 in
theorem e_X7_states_73 {l : Launch} {G : zGT} {T : Option Value × zMem} (h : zOk G l cX7_states RX7 11 8 0 0 false) (hR : zR G cX7_states (some .int) T zFull 0 0)  (c146 : Int32 → Int32 → Int32 → Int32 → Int32 → Int32 → zMem → Option (Int32 × zMem)) (hc146 : ∀ (y1 : Int32) (y2 : Int32) (y3 : Int32) (y4 : Int32) (y5 : Int32) (y6 : Int32) (s9 : zMem), zE G T (fun r : Int32 => some (.int r)) zFull 0 0 146 [some (.ref 47), none, some (.int y1), some (.int y2), some (.int y3), none, some (.int y4), some (.int y5), some (.int y6), none, none] [] s9 (c146 y1 y2 y3 y4 y5 y6 s9)) (c59 : Int32 → Int32 → Int32 → Int32 → Int32 → Int32 → Int32 → Int32 → zMem → Option (Int32 × zMem)) (hc59 : ∀ (y1 : Int32) (y2 : Int32) (y3 : Int32) (y4 : Int32) (y5 : Int32) (y6 : Int32) (y7 : Int32) (y8 : Int32) (s9 : zMem), zE G T (fun r : Int32 => some (.int r)) zFull 0 0 59 [some (.ref 47), some (.int y1), some (.int y2), some (.int y3), some (.int y4), none, some (.int y5), some (.int y6), some (.int y7), some (.int y8), none] [] s9 (c59 y1 y2 y3 y4 y5 y6 y7 y8 s9)) : ∀ (x17 : Int32) (x18 : Int32) (x19 : Int32) (x20 : Int32) (x21 : Int32) (x22 : Int32) (x23 : Int32) (x24 : Int32) (t25 : Int32) (t26 : Int32) (s27 : zMem), zE G T (fun r : Int32 => some (.int r)) zFull 0 0 73 [some (.ref 47), some (.int x17), some (.int x18), some (.int x19), some (.int x20), none, some (.int x21), some (.int x22), some (.int x23), some (.int x24), none] [.int t25, .int t26] s27 (f_X7_states_73 c146 c59  x17 x18 x19 x20 x21 x22 x23 x24 t25 t26 s27) := by
  intro x17 x18 x19 x20 x21 x22 x23 x24 t25 t26 s27
  unfold f_X7_states_73
  refine ze_icmp_gt h 146 dX7_states_73 (by decide) ?_ ?_
  · refine zE_weak h [true, false, true, true, true, false, true, true, true, false, false] rfl ?_
    exact hc146 x18 x19 x20 x21 x22 x23 s27
  · refine ze_aload_n h dX7_states_76 rfl ?_
    refine ze_getR h zl_47 rfl zf_X7_16 dX7_states_77 ?_
    refine ze_iconst h 3 dX7_states_80 zk_i_3 ?_
    refine ze_iload_n h dX7_states_81 rfl ?_
    refine ze_imul h dX7_states_82 ?_
    refine ze_iload_n h dX7_states_83 rfl ?_
    refine ze_iadd h dX7_states_84 ?_
    refine ze_iload h dX7_states_85 rfl ?_
    refine ze_iastG h zl_50 dX7_states_87 ?_
    refine ze_nmS (fun s28 => ?_)
    refine ze_aload_n h dX7_states_88 rfl ?_
    refine ze_iload_n h dX7_states_89 rfl ?_
    refine ze_iload_n h dX7_states_90 rfl ?_
    refine ze_callVi h (st := []) zce_X7_unlike zi_X7_unlike zs_X7_unlike zm_X7_252 zl_47 rfl rfl (Nat.le_of_ble_eq_true rfl) zkn (c_X7_unlike l  x17 x18 s28) rfl (Nat.le_of_ble_eq_true rfl) rfl dX7_states_91 (fun r29 s30 => ?_)
    refine ze_pc 94 rfl ?_
    refine ze_iconst h (-1) dX7_states_94 zk_i_m1 ?_
    refine ze_icmp_ne h 102 dX7_states_95 (by decide) ?_ ?_
    · refine ze_iconst h 0 dX7_states_102 zk_i_0 ?_
      refine e_X7_states_103 h hR _ ?_ x17 x18 x19 x20 x21 x22 x23 x24 0 s30
      · intro x49 x50 x51 x52 x53 x54 x55 x56 s57
        exact hc59 x49 x50 x51 x52 x53 x54 x55 x56 s57
    · refine ze_iconst h 1 dX7_states_98 zk_i_1 ?_
      refine ze_goto h 103 dX7_states_99 (by decide) ?_
      refine e_X7_states_103 h hR _ ?_ x17 x18 x19 x20 x21 x22 x23 x24 1 s30
      · intro x58 x59 x60 x61 x62 x63 x64 x65 s66
        exact hc59 x58 x59 x60 x61 x62 x63 x64 x65 s66
set_option maxRecDepth 20000 in
theorem e_X7_states_59 {l : Launch} {G : zGT} {T : Option Value × zMem} (h : zOk G l cX7_states RX7 11 8 0 0 false) (hR : zR G cX7_states (some .int) T zFull 0 0)  (c146 : Int32 → Int32 → Int32 → Int32 → Int32 → Int32 → zMem → Option (Int32 × zMem)) (hc146 : ∀ (y1 : Int32) (y2 : Int32) (y3 : Int32) (y4 : Int32) (y5 : Int32) (y6 : Int32) (s9 : zMem), zE G T (fun r : Int32 => some (.int r)) zFull 0 0 146 [some (.ref 47), none, some (.int y1), some (.int y2), some (.int y3), none, some (.int y4), some (.int y5), some (.int y6), none, none] [] s9 (c146 y1 y2 y3 y4 y5 y6 s9)) : ∀ (n : Nat) (x8 : Int32) (x9 : Int32) (x10 : Int32) (x11 : Int32) (x12 : Int32) (x13 : Int32) (x14 : Int32) (x15 : Int32) (s16 : zMem), zE G T (fun r : Int32 => some (.int r)) zFull 0 0 59 [some (.ref 47), some (.int x8), some (.int x9), some (.int x10), some (.int x11), none, some (.int x12), some (.int x13), some (.int x14), some (.int x15), none] [] s16 (f_X7_states_59 c146 n x8 x9 x10 x11 x12 x13 x14 x15 s16) := by
  intro n
  induction n with
  | zero => intro _ _ _ _ _ _ _ _ _; exact ze_none
  | succ n ih =>
    intro x8 x9 x10 x11 x12 x13 x14 x15 s16
    rw [f_X7_states_59]
    refine ze_iload h dX7_states_59 rfl ?_
    refine ze_iload_n h dX7_states_61 rfl ?_
    refine ze_if_ne h 71 dX7_states_62 (by decide) ?_ ?_
    · refine ze_bipush h 99 dX7_states_71 zk_b_99 ?_
      refine e_X7_states_73 h hR _ ?_ _ ?_ x8 x9 x10 x11 x12 x13 x14 x15 99 x15 s16
      · intro x67 x68 x69 x70 x71 x72 s73
        exact hc146 x67 x68 x69 x70 x71 x72 s73
      · intro x74 x75 x76 x77 x78 x79 x80 x81 s82
        exact ih x74 x75 x76 x77 x78 x79 x80 x81 s82
    · refine ze_sipush h 299 dX7_states_65 zk_s_299 ?_
      refine ze_goto h 73 dX7_states_68 (by decide) ?_
      refine e_X7_states_73 h hR _ ?_ _ ?_ x8 x9 x10 x11 x12 x13 x14 x15 299 x15 s16
      · intro x83 x84 x85 x86 x87 x88 s89
        exact hc146 x83 x84 x85 x86 x87 x88 s89
      · intro x90 x91 x92 x93 x94 x95 x96 x97 s98
        exact ih x90 x91 x92 x93 x94 x95 x96 x97 s98
set_option maxRecDepth 20000 in
theorem c_X7_states (l : Launch)  (p1 : Int32) (p2 : Int32) (p3 : Int32) (p4 : Int32) (s0 : zMem) : zC l yX7_states (.code yX7_states cX7_states 11 (some .int)) 8 [.ref 47, .int p1, .int p2, .int p3, .int p4] zFull s0 (fun r : Int32 => some (.int r)) (f_X7_states p1 p2 p3 p4 s0) := by
  refine zC_of (own := RX7) rfl rfl (Nat.le_of_ble_eq_true rfl) [some (.ref 47), some (.int p1), some (.int p2), some (.int p3), some (.int p4), none, none, none, none, none, none] rfl (fun G T h hR => ?_)
  unfold f_X7_states
  refine ze_aload_n h dX7_states_0 rfl ?_
  refine ze_iload_n h dX7_states_1 rfl ?_
  refine ze_iload_n h dX7_states_2 rfl ?_
  refine ze_callVi h (st := []) zce_X7_toldWrong zi_X7_toldWrong zs_X7_toldWrong zm_X7_249 zl_47 rfl rfl (Nat.le_of_ble_eq_true rfl) zkn (c_X7_toldWrong l  p1 p2 s0) rfl (Nat.le_of_ble_eq_true rfl) rfl dX7_states_3 (fun r1 s2 => ?_)
  refine ze_istore h [some (.ref 47), some (.int p1), some (.int p2), some (.int p3), some (.int p4), some (.int r1), none, none, none, none, none] dX7_states_6 rfl (by decide) rfl ?_
  refine ze_iload h dX7_states_8 rfl ?_
  refine ze_if_eq h 16 dX7_states_10 (by decide) ?_ ?_
  · refine ze_iload_n h dX7_states_16 rfl ?_
    refine ze_iconst h 0 dX7_states_17 zk_i_0 ?_
    refine ze_iconst h 2 dX7_states_18 zk_i_2 ?_
    refine ze_callSi h (st := []) zce_X7_in zt_X7_in zm_X7_87 (Nat.le_of_ble_eq_true rfl) zkn (c_X7_in l zFull p3 0 2 s2) rfl (Nat.le_of_ble_eq_true rfl) rfl dX7_states_19 (fun r3 s4 => ?_)
    refine ze_if_eq h 35 dX7_states_22 (by decide) ?_ ?_
    · refine ze_bipush h (-7) dX7_states_35 zk_b_m7 ?_
      exact ze_iret hR dX7_states_37
    · refine ze_iload h dX7_states_25 rfl ?_
      refine ze_iconst h 0 dX7_states_27 zk_i_0 ?_
      refine ze_iconst h 1 dX7_states_28 zk_i_1 ?_
      refine ze_callSi h (st := []) zce_X7_in zt_X7_in zm_X7_87 (Nat.le_of_ble_eq_true rfl) zkn (c_X7_in l zFull p4 0 1 s4) rfl (Nat.le_of_ble_eq_true rfl) rfl dX7_states_29 (fun r5 s6 => ?_)
      refine ze_if_ne h 38 dX7_states_32 (by decide) ?_ ?_
      · refine ze_aload_n h dX7_states_38 rfl ?_
        refine ze_getR h zl_47 rfl zf_X7_16 dX7_states_39 ?_
        refine ze_iconst h 3 dX7_states_42 zk_i_3 ?_
        refine ze_iload_n h dX7_states_43 rfl ?_
        refine ze_imul h dX7_states_44 ?_
        refine ze_iload_n h dX7_states_45 rfl ?_
        refine ze_iadd h dX7_states_46 ?_
        refine ze_ialdG h zl_50 dX7_states_47 ?_
        refine ze_nmI (fun x7 => ?_)
        refine ze_istore h [some (.ref 47), some (.int p1), some (.int p2), some (.int p3), some (.int p4), some (.int r1), some (.int x7), none, none, none, none] dX7_states_48 rfl (by decide) rfl ?_
        refine ze_iconst h 0 dX7_states_50 zk_i_0 ?_
        refine ze_istore h [some (.ref 47), some (.int p1), some (.int p2), some (.int p3), some (.int p4), some (.int r1), some (.int x7), some (.int 0), none, none, none] dX7_states_51 rfl (by decide) rfl ?_
        refine ze_iconst h (-1) dX7_states_53 zk_i_m1 ?_
        refine ze_istore h [some (.ref 47), some (.int p1), some (.int p2), some (.int p3), some (.int p4), some (.int r1), some (.int x7), some (.int 0), some (.int (-1)), none, none] dX7_states_54 rfl (by decide) rfl ?_
        refine ze_pc 56 rfl ?_
        refine ze_iconst h 0 dX7_states_56 zk_i_0 ?_
        refine ze_istore h [some (.ref 47), some (.int p1), some (.int p2), some (.int p3), some (.int p4), some (.int r1), some (.int x7), some (.int 0), some (.int (-1)), some (.int 0), none] dX7_states_57 rfl (by decide) rfl ?_
        refine zE_weak h [true, true, true, true, true, false, true, true, true, true, false] rfl ?_
        refine e_X7_states_59 h hR _ ?_ zN p1 p2 p3 p4 x7 0 (-1) 0 s6
        · intro x99 x100 x101 x102 x103 x104 s105
          refine ze_aload_n h dX7_states_146 rfl ?_
          refine ze_getR h zl_47 rfl zf_X7_16 dX7_states_147 ?_
          refine ze_iconst h 3 dX7_states_150 zk_i_3 ?_
          refine ze_iload_n h dX7_states_151 rfl ?_
          refine ze_imul h dX7_states_152 ?_
          refine ze_iload_n h dX7_states_153 rfl ?_
          refine ze_iadd h dX7_states_154 ?_
          refine ze_iload h dX7_states_155 rfl ?_
          refine ze_iastG h zl_50 dX7_states_157 ?_
          refine ze_nmS (fun s106 => ?_)
          refine ze_iload h dX7_states_158 rfl ?_
          refine ze_if_ne h 168 dX7_states_160 (by decide) ?_ ?_
          · refine ze_iload h dX7_states_168 rfl ?_
            exact ze_iret hR dX7_states_170
          · refine ze_iload h dX7_states_163 rfl ?_
            refine ze_goto h 170 dX7_states_165 (by decide) ?_
            exact ze_iret hR dX7_states_170
      · refine ze_bipush h (-7) dX7_states_35 zk_b_m7 ?_
        exact ze_iret hR dX7_states_37
  · refine ze_iload h dX7_states_13 rfl ?_
    exact ze_iret hR dX7_states_15
set_option maxRecDepth 20000 in
theorem e_X7_whose_17 {l : Launch} {G : zGT} {T : Option Value × zMem} (h : zOk G l cX7_whose RX7 5 8 0 0 false) (hR : zR G cX7_whose (some .int) T zFull 0 0)   : ∀ (n : Nat) (x3 : Int32) (x4 : Int32) (x5 : Int32) (s6 : zMem), zE G T (fun r : Int32 => some (.int r)) zFull 0 0 17 [some (.ref 47), some (.int x3), none, some (.int x4), some (.int x5)] [] s6 (f_X7_whose_17 n x3 x4 x5 s6) := by
  intro n
  induction n with
  | zero => intro _ _ _ _; exact ze_none
  | succ n ih =>
    intro x3 x4 x5 s6
    rw [f_X7_whose_17]
    refine ze_iload h dX7_whose_17 rfl ?_
    refine ze_aload_n h dX7_whose_19 rfl ?_
    refine ze_getI h zl_47 rfl zf_X7_84 dX7_whose_20 ?_
    refine ze_icmp_ge h 54 dX7_whose_23 (by decide) ?_ ?_
    · refine ze_iload_n h dX7_whose_54 rfl ?_
      exact ze_iret hR dX7_whose_55
    · refine ze_iload_n h dX7_whose_26 rfl ?_
      refine ze_aload_n h dX7_whose_27 rfl ?_
      refine ze_iload_n h dX7_whose_28 rfl ?_
      refine ze_iload h dX7_whose_29 rfl ?_
      refine ze_callVi h (st := [.int x4]) zce_X7_unlike zi_X7_unlike zs_X7_unlike zm_X7_252 zl_47 rfl rfl (Nat.le_of_ble_eq_true rfl) zkn (c_X7_unlike l  x3 x5 s6) rfl (Nat.le_of_ble_eq_true rfl) rfl dX7_whose_31 (fun r7 s8 => ?_)
      refine ze_iconst h (-1) dX7_whose_34 zk_i_m1 ?_
      refine ze_icmp_ne h 45 dX7_whose_35 (by decide) ?_ ?_
      · refine ze_iconst h 0 dX7_whose_45 zk_i_0 ?_
        refine ze_ior h dX7_whose_46 ?_
        refine ze_nmI (fun x9 => ?_)
        refine ze_istore_n h [some (.ref 47), some (.int x3), none, some (.int x9), some (.int x5)] dX7_whose_47 rfl (by decide) rfl ?_
        refine ze_iincN h (fun y9 => [some (.ref 47), some (.int x3), none, some (.int x9), some (.int y9)]) 1 dX7_whose_48 rfl zk_i_1 rfl (by decide) (fun _ => rfl) (fun x10 => ?_)
        refine ze_goto h 17 dX7_whose_51 (by decide) ?_
        exact ih x3 x9 x10 s8
      · refine ze_iconst h 1 dX7_whose_38 zk_i_1 ?_
        refine ze_iload h dX7_whose_39 rfl ?_
        refine ze_ishl h dX7_whose_41 ?_
        refine ze_goto h 46 dX7_whose_42 (by decide) ?_
        refine ze_ior h dX7_whose_46 ?_
        refine ze_nmI (fun x11 => ?_)
        refine ze_istore_n h [some (.ref 47), some (.int x3), none, some (.int x11), some (.int x5)] dX7_whose_47 rfl (by decide) rfl ?_
        refine ze_iincN h (fun y9 => [some (.ref 47), some (.int x3), none, some (.int x11), some (.int y9)]) 1 dX7_whose_48 rfl zk_i_1 rfl (by decide) (fun _ => rfl) (fun x12 => ?_)
        refine ze_goto h 17 dX7_whose_51 (by decide) ?_
        exact ih x3 x11 x12 s8
set_option maxRecDepth 20000 in
theorem c_X7_whose (l : Launch)  (p1 : Int32) (s0 : zMem) : zC l yX7_whose (.code yX7_whose cX7_whose 5 (some .int)) 8 [.ref 47, .int p1] zFull s0 (fun r : Int32 => some (.int r)) (f_X7_whose p1 s0) := by
  refine zC_of (own := RX7) rfl rfl (Nat.le_of_ble_eq_true rfl) [some (.ref 47), some (.int p1), none, none, none] rfl (fun G T h hR => ?_)
  unfold f_X7_whose
  refine ze_aload_n h dX7_whose_0 rfl ?_
  refine ze_iload_n h dX7_whose_1 rfl ?_
  refine ze_callVi h (st := []) zce_X7_sheetWrong zi_X7_sheetWrong zs_X7_sheetWrong zm_X7_246 zl_47 rfl rfl (Nat.le_of_ble_eq_true rfl) zkn (c_X7_sheetWrong l  p1 s0) rfl (Nat.le_of_ble_eq_true rfl) rfl dX7_whose_2 (fun r1 s2 => ?_)
  refine ze_istore_n h [some (.ref 47), some (.int p1), some (.int r1), none, none] dX7_whose_5 rfl (by decide) rfl ?_
  refine ze_iload_n h dX7_whose_6 rfl ?_
  refine ze_if_eq h 12 dX7_whose_7 (by decide) ?_ ?_
  · refine ze_iconst h 0 dX7_whose_12 zk_i_0 ?_
    refine ze_istore_n h [some (.ref 47), some (.int p1), some (.int r1), some (.int 0), none] dX7_whose_13 rfl (by decide) rfl ?_
    refine ze_iconst h 0 dX7_whose_14 zk_i_0 ?_
    refine ze_istore h [some (.ref 47), some (.int p1), some (.int r1), some (.int 0), some (.int 0)] dX7_whose_15 rfl (by decide) rfl ?_
    refine zE_weak h [true, true, false, true, true] rfl ?_
    exact e_X7_whose_17 h hR  zN p1 0 0 s2
  · refine ze_iload_n h dX7_whose_10 rfl ?_
    exact ze_iret hR dX7_whose_11
set_option maxRecDepth 20000 in
theorem e_X7_laws_25 {l : Launch} {G : zGT} {T : Option Value × zMem} (h : zOk G l cX7_laws RX7 7 8 0 0 false) (hR : zR G cX7_laws (some .int) T zFull 0 0)  (c69 : Int32 → Int32 → zMem → Option (Int32 × zMem)) (hc69 : ∀ (y1 : Int32) (y2 : Int32) (s9 : zMem), zE G T (fun r : Int32 => some (.int r)) zFull 0 0 69 [some (.ref 47), none, none, none, some (.int y1), some (.int y2), none] [] s9 (c69 y1 y2 s9)) : ∀ (n : Nat) (x4 : Int32) (x5 : Int32) (x6 : Int32) (x7 : Int32) (x8 : Int32) (s9 : zMem), zE G T (fun r : Int32 => some (.int r)) zFull 0 0 25 [some (.ref 47), some (.int x4), some (.int x5), none, some (.int x6), some (.int x7), some (.int x8)] [] s9 (f_X7_laws_25 c69 n x4 x5 x6 x7 x8 s9) := by
  intro n
  induction n with
  | zero => intro _ _ _ _ _ _; exact ze_none
  | succ n ih =>
    intro x4 x5 x6 x7 x8 s9
    rw [f_X7_laws_25]
    refine ze_iload h dX7_laws_25 rfl ?_
    refine ze_aload_n h dX7_laws_27 rfl ?_
    refine ze_getI h zl_47 rfl zf_X7_100 dX7_laws_28 ?_
    refine ze_icmp_ge h 69 dX7_laws_31 (by decide) ?_ ?_
    · refine zE_weak h [true, false, false, false, true, true, false] rfl ?_
      exact hc69 x6 x7 s9
    · refine ze_aload_n h dX7_laws_34 rfl ?_
      refine ze_iload h dX7_laws_35 rfl ?_
      refine ze_putI h zl_47 rfl zf_X7_103 rfl rfl dX7_laws_37 ?_
      refine ze_nmS (fun s10 => ?_)
      refine ze_iload h dX7_laws_40 rfl ?_
      refine ze_aload_n h dX7_laws_42 rfl ?_
      refine ze_iload_n h dX7_laws_43 rfl ?_
      refine ze_iload_n h dX7_laws_44 rfl ?_
      refine ze_callVi h (st := [.int x7]) zce_X7_unlike zi_X7_unlike zs_X7_unlike zm_X7_252 zl_47 rfl rfl (Nat.le_of_ble_eq_true rfl) zkn (c_X7_unlike l  x4 x5 s10) rfl (Nat.le_of_ble_eq_true rfl) rfl dX7_laws_45 (fun r11 s12 => ?_)
      refine ze_iconst h (-1) dX7_laws_48 zk_i_m1 ?_
      refine ze_icmp_ne h 59 dX7_laws_49 (by decide) ?_ ?_
      · refine ze_iconst h 0 dX7_laws_59 zk_i_0 ?_
        refine ze_ior h dX7_laws_60 ?_
        refine ze_nmI (fun x13 => ?_)
        refine ze_istore h [some (.ref 47), some (.int x4), some (.int x5), none, some (.int x6), some (.int x13), some (.int x8)] dX7_laws_61 rfl (by decide) rfl ?_
        refine ze_iincN h (fun y9 => [some (.ref 47), some (.int x4), some (.int x5), none, some (.int x6), some (.int x13), some (.int y9)]) 1 dX7_laws_63 rfl zk_i_1 rfl (by decide) (fun _ => rfl) (fun x14 => ?_)
        refine ze_goto h 25 dX7_laws_66 (by decide) ?_
        exact ih x4 x5 x6 x13 x14 s12
      · refine ze_iconst h 1 dX7_laws_52 zk_i_1 ?_
        refine ze_iload h dX7_laws_53 rfl ?_
        refine ze_ishl h dX7_laws_55 ?_
        refine ze_goto h 60 dX7_laws_56 (by decide) ?_
        refine ze_ior h dX7_laws_60 ?_
        refine ze_nmI (fun x15 => ?_)
        refine ze_istore h [some (.ref 47), some (.int x4), some (.int x5), none, some (.int x6), some (.int x15), some (.int x8)] dX7_laws_61 rfl (by decide) rfl ?_
        refine ze_iincN h (fun y9 => [some (.ref 47), some (.int x4), some (.int x5), none, some (.int x6), some (.int x15), some (.int y9)]) 1 dX7_laws_63 rfl zk_i_1 rfl (by decide) (fun _ => rfl) (fun x16 => ?_)
        refine ze_goto h 25 dX7_laws_66 (by decide) ?_
        exact ih x4 x5 x6 x15 x16 s12
set_option maxRecDepth 20000 in
theorem c_X7_laws (l : Launch)  (p1 : Int32) (p2 : Int32) (s0 : zMem) : zC l yX7_laws (.code yX7_laws cX7_laws 7 (some .int)) 8 [.ref 47, .int p1, .int p2] zFull s0 (fun r : Int32 => some (.int r)) (f_X7_laws p1 p2 s0) := by
  refine zC_of (own := RX7) rfl rfl (Nat.le_of_ble_eq_true rfl) [some (.ref 47), some (.int p1), some (.int p2), none, none, none, none] rfl (fun G T h hR => ?_)
  unfold f_X7_laws
  refine ze_aload_n h dX7_laws_0 rfl ?_
  refine ze_iload_n h dX7_laws_1 rfl ?_
  refine ze_iload_n h dX7_laws_2 rfl ?_
  refine ze_callVi h (st := []) zce_X7_toldWrong zi_X7_toldWrong zs_X7_toldWrong zm_X7_249 zl_47 rfl rfl (Nat.le_of_ble_eq_true rfl) zkn (c_X7_toldWrong l  p1 p2 s0) rfl (Nat.le_of_ble_eq_true rfl) rfl dX7_laws_3 (fun r1 s2 => ?_)
  refine ze_istore_n h [some (.ref 47), some (.int p1), some (.int p2), some (.int r1), none, none, none] dX7_laws_6 rfl (by decide) rfl ?_
  refine ze_iload_n h dX7_laws_7 rfl ?_
  refine ze_if_eq h 13 dX7_laws_8 (by decide) ?_ ?_
  · refine ze_aload_n h dX7_laws_13 rfl ?_
    refine ze_getI h zl_47 rfl zf_X7_103 dX7_laws_14 ?_
    refine ze_nmI (fun x3 => ?_)
    refine ze_istore h [some (.ref 47), some (.int p1), some (.int p2), some (.int r1), some (.int x3), none, none] dX7_laws_17 rfl (by decide) rfl ?_
    refine ze_iconst h 0 dX7_laws_19 zk_i_0 ?_
    refine ze_istore h [some (.ref 47), some (.int p1), some (.int p2), some (.int r1), some (.int x3), some (.int 0), none] dX7_laws_20 rfl (by decide) rfl ?_
    refine ze_iconst h 0 dX7_laws_22 zk_i_0 ?_
    refine ze_istore h [some (.ref 47), some (.int p1), some (.int p2), some (.int r1), some (.int x3), some (.int 0), some (.int 0)] dX7_laws_23 rfl (by decide) rfl ?_
    refine zE_weak h [true, true, true, false, true, true, true] rfl ?_
    refine e_X7_laws_25 h hR _ ?_ zN p1 p2 x3 0 0 s2
    · intro x17 x18 s19
      refine ze_aload_n h dX7_laws_69 rfl ?_
      refine ze_iload h dX7_laws_70 rfl ?_
      refine ze_putI h zl_47 rfl zf_X7_103 rfl rfl dX7_laws_72 ?_
      refine ze_nmS (fun s20 => ?_)
      refine ze_iload h dX7_laws_75 rfl ?_
      exact ze_iret hR dX7_laws_77
  · refine ze_iload_n h dX7_laws_11 rfl ?_
    exact ze_iret hR dX7_laws_12
set_option maxRecDepth 20000 in
theorem e_X7_film_57 {l : Launch} {G : zGT} {T : Option Value × zMem} (h : zOk G l cX7_film RX7 5 7 0 0 false) (hR : zR G cX7_film (some .int) T zFull 0 0)  (c114 : Int32 → zMem → Option (Int32 × zMem)) (hc114 : ∀ (y1 : Int32) (s9 : zMem), zE G T (fun r : Int32 => some (.int r)) zFull 0 0 114 [some (.ref 47), none, none, some (.int y1), none] [] s9 (c114 y1 s9)) : ∀ (n : Nat) (x11 : Int32) (x12 : Int32) (x13 : Int32) (x14 : Int32) (s15 : zMem), zE G T (fun r : Int32 => some (.int r)) zFull 0 0 57 [some (.ref 47), some (.int x11), some (.int x12), some (.int x13), some (.int x14)] [] s15 (f_X7_film_57 c114 n x11 x12 x13 x14 s15) := by
  intro n
  induction n with
  | zero => intro _ _ _ _ _; exact ze_none
  | succ n ih =>
    intro x11 x12 x13 x14 s15
    rw [f_X7_film_57]
    refine ze_iload h dX7_film_57 rfl ?_
    refine ze_bipush h 40 dX7_film_59 zk_b_40 ?_
    refine ze_icmp_ge h 114 dX7_film_61 (by decide) ?_ ?_
    · refine zE_weak h [true, false, false, true, false] rfl ?_
      exact hc114 x13 s15
    · refine ze_aload_n h dX7_film_64 rfl ?_
      refine ze_getR h zl_47 rfl zf_X7_52 dX7_film_65 ?_
      refine ze_bipush h 40 dX7_film_68 zk_b_40 ?_
      refine ze_iload_n h dX7_film_70 rfl ?_
      refine ze_imul h dX7_film_71 ?_
      refine ze_iload h dX7_film_72 rfl ?_
      refine ze_iadd h dX7_film_74 ?_
      refine ze_iconst h 0 dX7_film_75 zk_i_0 ?_
      refine ze_iastG h zl_62 dX7_film_76 ?_
      refine ze_nmS (fun s16 => ?_)
      refine ze_iload h dX7_film_77 rfl ?_
      refine ze_iload_n h dX7_film_79 rfl ?_
      refine ze_icmp_ge h 108 dX7_film_80 (by decide) ?_ ?_
      · refine ze_iincN h (fun y9 => [some (.ref 47), some (.int x11), some (.int x12), some (.int x13), some (.int y9)]) 1 dX7_film_108 rfl zk_i_1 rfl (by decide) (fun _ => rfl) (fun x17 => ?_)
        refine ze_goto h 57 dX7_film_111 (by decide) ?_
        exact ih x11 x12 x13 x17 s16
      · refine ze_aload_n h dX7_film_83 rfl ?_
        refine ze_callVi h (st := []) zce_X7_nightOf zi_X7_nightOf zs_X7_nightOf zm_X7_224 zl_47 rfl rfl (Nat.le_of_ble_eq_true rfl) zkn (c_X7_nightOf l  s16) rfl (Nat.le_of_ble_eq_true rfl) rfl dX7_film_84 (fun r18 s19 => ?_)
        refine ze_pop h dX7_film_87 rfl ?_
        refine ze_aload_n h dX7_film_88 rfl ?_
        refine ze_getR h zl_47 rfl zf_X7_52 dX7_film_89 ?_
        refine ze_bipush h 40 dX7_film_92 zk_b_40 ?_
        refine ze_iload_n h dX7_film_94 rfl ?_
        refine ze_imul h dX7_film_95 ?_
        refine ze_iload h dX7_film_96 rfl ?_
        refine ze_iadd h dX7_film_98 ?_
        refine ze_aload_n h dX7_film_99 rfl ?_
        refine ze_getR h zl_47 rfl zf_X7_16 dX7_film_100 ?_
        refine ze_iconst h 3 dX7_film_103 zk_i_3 ?_
        refine ze_pc 104 rfl ?_
        refine ze_iload_n h dX7_film_104 rfl ?_
        refine ze_imul h dX7_film_105 ?_
        refine ze_ialdG h zl_50 dX7_film_106 ?_
        refine ze_iastG h zl_62 dX7_film_107 ?_
        refine ze_nmS (fun s20 => ?_)
        refine ze_iincN h (fun y9 => [some (.ref 47), some (.int x11), some (.int x12), some (.int x13), some (.int y9)]) 1 dX7_film_108 rfl zk_i_1 rfl (by decide) (fun _ => rfl) (fun x21 => ?_)
        refine ze_goto h 57 dX7_film_111 (by decide) ?_
        exact ih x11 x12 x13 x21 s20
set_option maxRecDepth 20000 in
theorem c_X7_film (l : Launch)  (p1 : Int32) (p2 : Int32) (p3 : Int32) (s0 : zMem) : zC l yX7_film (.code yX7_film cX7_film 5 (some .int)) 7 [.ref 47, .int p1, .int p2, .int p3] zFull s0 (fun r : Int32 => some (.int r)) (f_X7_film p1 p2 p3 s0) := by
  refine zC_of (own := RX7) rfl rfl (Nat.le_of_ble_eq_true rfl) [some (.ref 47), some (.int p1), some (.int p2), some (.int p3), none] rfl (fun G T h hR => ?_)
  unfold f_X7_film
  refine ze_iload_n h dX7_film_0 rfl ?_
  refine ze_iconst h 0 dX7_film_1 zk_i_0 ?_
  refine ze_iconst h 3 dX7_film_2 zk_i_3 ?_
  refine ze_callSi h (st := []) zce_X7_in zt_X7_in zm_X7_87 (Nat.le_of_ble_eq_true rfl) zkn (c_X7_in l zFull p1 0 3 s0) rfl (Nat.le_of_ble_eq_true rfl) rfl dX7_film_3 (fun r1 s2 => ?_)
  refine ze_if_ne h 12 dX7_film_6 (by decide) ?_ ?_
  · refine ze_aload_n h dX7_film_12 rfl ?_
    refine ze_iload_n h dX7_film_13 rfl ?_
    refine ze_callVi h (st := []) zce_X7_isHut zi_X7_isHut zs_X7_isHut zm_X7_179 zl_47 rfl rfl (Nat.le_of_ble_eq_true rfl) zkn (c_X7_isHut l  p2 s2) rfl (Nat.le_of_ble_eq_true rfl) rfl dX7_film_14 (fun r3 s4 => ?_)
    refine ze_if_ne h 23 dX7_film_17 (by decide) ?_ ?_
    · refine ze_iload_n h dX7_film_23 rfl ?_
      refine ze_iconst h 0 dX7_film_24 zk_i_0 ?_
      refine ze_bipush h 20 dX7_film_25 zk_b_20 ?_
      refine ze_callSi h (st := []) zce_X7_in zt_X7_in zm_X7_87 (Nat.le_of_ble_eq_true rfl) zkn (c_X7_in l zFull p3 0 20 s4) rfl (Nat.le_of_ble_eq_true rfl) rfl dX7_film_27 (fun r5 s6 => ?_)
      refine ze_if_ne h 36 dX7_film_30 (by decide) ?_ ?_
      · refine ze_aload_n h dX7_film_36 rfl ?_
        refine ze_getR h zl_47 rfl zf_X7_46 dX7_film_37 ?_
        refine ze_iload_n h dX7_film_40 rfl ?_
        refine ze_iconst h 1 dX7_film_41 zk_i_1 ?_
        refine ze_iastG h zl_60 dX7_film_42 ?_
        refine ze_nmS (fun s7 => ?_)
        refine ze_aload_n h dX7_film_43 rfl ?_
        refine ze_getR h zl_47 rfl zf_X7_49 dX7_film_44 ?_
        refine ze_iload_n h dX7_film_47 rfl ?_
        refine ze_iload_n h dX7_film_48 rfl ?_
        refine ze_iastG h zl_61 dX7_film_49 ?_
        refine ze_nmS (fun s8 => ?_)
        refine ze_aload_n h dX7_film_50 rfl ?_
        refine ze_callVv h (st := []) zce_X7_keeps zi_X7_keeps zs_X7_keeps zm_X7_227 zl_47 rfl rfl (Nat.le_of_ble_eq_true rfl) zkn (c_X7_keeps l  s8) rfl (Nat.le_of_ble_eq_true rfl) rfl dX7_film_51 (fun _ s10 => ?_)
        refine ze_iconst h 0 dX7_film_54 zk_i_0 ?_
        refine ze_pc 55 rfl ?_
        refine ze_istore h [some (.ref 47), some (.int p1), some (.int p2), some (.int p3), some (.int 0)] dX7_film_55 rfl (by decide) rfl ?_
        refine e_X7_film_57 h hR _ ?_ zN p1 p2 p3 0 s10
        · intro x22 s23
          refine ze_aload_n h dX7_film_114 rfl ?_
          refine ze_callVv h (st := []) zce_X7_lays zi_X7_lays zs_X7_lays zm_X7_233 zl_47 rfl rfl (Nat.le_of_ble_eq_true rfl) zkn (c_X7_lays l  s23) rfl (Nat.le_of_ble_eq_true rfl) rfl dX7_film_115 (fun _ s25 => ?_)
          refine ze_iload_n h dX7_film_118 rfl ?_
          exact ze_iret hR dX7_film_119
      · refine ze_bipush h (-7) dX7_film_33 zk_b_m7 ?_
        exact ze_iret hR dX7_film_35
    · refine ze_bipush h (-5) dX7_film_20 zk_b_m5 ?_
      exact ze_iret hR dX7_film_22
  · refine ze_bipush h (-2) dX7_film_9 zk_b_m2 ?_
    exact ze_iret hR dX7_film_11
set_option maxRecDepth 20000 in
theorem e_X7_snows_15 {l : Launch} {G : zGT} {T : Option Value × zMem} (h : zOk G l cX7_snows RX7 8 7 0 0 false) (hR : zR G cX7_snows (some .int) T zFull 0 0)  (c105 : Int32 → zMem → Option (Int32 × zMem)) (hc105 : ∀ (y1 : Int32) (s9 : zMem), zE G T (fun r : Int32 => some (.int r)) zFull 0 0 105 [some (.ref 47), none, none, none, none, some (.int y1), none, none] [] s9 (c105 y1 s9)) : ∀ (n : Nat) (x4 : Int32) (x5 : Int64) (x6 : Int32) (x7 : Int32) (s8 : zMem), zE G T (fun r : Int32 => some (.int r)) zFull 0 0 15 [some (.ref 47), none, some (.int x4), some (.long x5), none, some (.int x6), some (.int x7), none] [] s8 (f_X7_snows_15 c105 n x4 x5 x6 x7 s8) := by
  intro n
  induction n with
  | zero => intro _ _ _ _ _; exact ze_none
  | succ n ih =>
    intro x4 x5 x6 x7 s8
    rw [f_X7_snows_15]
    refine ze_iload h dX7_snows_15 rfl ?_
    refine ze_iconst h 5 dX7_snows_17 zk_i_5 ?_
    refine ze_icmp_ge h 105 dX7_snows_18 (by decide) ?_ ?_
    · refine zE_weak h [true, false, false, false, false, true, false, false] rfl ?_
      exact hc105 x6 s8
    · refine ze_aload_n h dX7_snows_21 rfl ?_
      refine ze_getI h zl_47 rfl zf_X7_84 dX7_snows_22 ?_
      refine ze_if_le h 105 dX7_snows_25 (by decide) ?_ ?_
      · refine zE_weak h [true, false, false, false, false, true, false, false] rfl ?_
        exact hc105 x6 s8
      · refine ze_lload_n h dX7_snows_28 rfl ?_
        refine ze_ldc2 h zq_X7_255 dX7_snows_29 ?_
        refine ze_lmul h dX7_snows_32 ?_
        refine ze_ldc2 h zq_X7_257 dX7_snows_33 ?_
        refine ze_lrem h dX7_snows_36 (by decide) ?_
        refine ze_nmL (fun x9 => ?_)
        refine ze_lstore_n h [some (.ref 47), none, some (.int x4), some (.long x9), none, some (.int x6), some (.int x7), none] dX7_snows_37 rfl (by decide) rfl ?_
        refine ze_lload_n h dX7_snows_38 rfl ?_
        refine ze_aload_n h dX7_snows_39 rfl ?_
        refine ze_getI h zl_47 rfl zf_X7_84 dX7_snows_40 ?_
        refine ze_i2l h dX7_snows_43 ?_
        refine ze_lremG h dX7_snows_44 ?_
        refine ze_l2i h dX7_snows_45 ?_
        refine ze_iconst h 0 dX7_snows_46 zk_i_0 ?_
        refine ze_pc 47 rfl ?_
        refine ze_iconst h 5 dX7_snows_47 zk_i_5 ?_
        refine ze_callSi h (st := []) zce_X7_within zt_X7_within zm_X7_176 (Nat.le_of_ble_eq_true rfl) zkn (c_X7_within l zFull ((zremL x9 ((s8 47 0).toInt64)).toInt32) 0 5 s8) rfl (Nat.le_of_ble_eq_true rfl) rfl dX7_snows_48 (fun r10 s11 => ?_)
        refine ze_istore h [some (.ref 47), none, some (.int x4), some (.long x9), none, some (.int x6), some (.int x7), some (.int r10)] dX7_snows_51 rfl (by decide) rfl ?_
        refine ze_aload_n h dX7_snows_53 rfl ?_
        refine ze_getR h zl_47 rfl zf_X7_16 dX7_snows_54 ?_
        refine ze_iconst h 3 dX7_snows_57 zk_i_3 ?_
        refine ze_iload h dX7_snows_58 rfl ?_
        refine ze_imul h dX7_snows_60 ?_
        refine ze_aload_n h dX7_snows_61 rfl ?_
        refine ze_getR h zl_47 rfl zf_X7_16 dX7_snows_62 ?_
        refine ze_iconst h 3 dX7_snows_65 zk_i_3 ?_
        refine ze_iload h dX7_snows_66 rfl ?_
        refine ze_imul h dX7_snows_68 ?_
        refine ze_ialdG h zl_50 dX7_snows_69 ?_
        refine ze_pc 70 rfl ?_
        refine ze_iload_n h dX7_snows_70 rfl ?_
        refine ze_icmp_ge h 78 dX7_snows_71 (by decide) ?_ ?_
        · refine ze_aload_n h dX7_snows_78 rfl ?_
          refine ze_getR h zl_47 rfl zf_X7_16 dX7_snows_79 ?_
          refine ze_iconst h 3 dX7_snows_82 zk_i_3 ?_
          refine ze_iload h dX7_snows_83 rfl ?_
          refine ze_imul h dX7_snows_85 ?_
          refine ze_ialdG h zl_50 dX7_snows_86 ?_
          refine ze_iload_n h dX7_snows_87 rfl ?_
          refine ze_isub h dX7_snows_88 ?_
          refine ze_iastG h zl_50 dX7_snows_89 ?_
          refine ze_nmS (fun s12 => ?_)
          refine ze_iload h dX7_snows_90 rfl ?_
          refine ze_aload_n h dX7_snows_92 rfl ?_
          refine ze_callVi h (st := [.int x6]) zce_X7_nightOf zi_X7_nightOf zs_X7_nightOf zm_X7_224 zl_47 rfl rfl (Nat.le_of_ble_eq_true rfl) zkn (c_X7_nightOf l  s12) rfl (Nat.le_of_ble_eq_true rfl) rfl dX7_snows_93 (fun r13 s14 => ?_)
          refine ze_ior h dX7_snows_96 ?_
          refine ze_pc 97 rfl ?_
          refine ze_nmI (fun x15 => ?_)
          refine ze_istore h [some (.ref 47), none, some (.int x4), some (.long x9), none, some (.int x15), some (.int x7), some (.int r10)] dX7_snows_97 rfl (by decide) rfl ?_
          refine ze_iincN h (fun y9 => [some (.ref 47), none, some (.int x4), some (.long x9), none, some (.int x15), some (.int y9), some (.int r10)]) 1 dX7_snows_99 rfl zk_i_1 rfl (by decide) (fun _ => rfl) (fun x16 => ?_)
          refine ze_goto h 15 dX7_snows_102 (by decide) ?_
          refine zE_weak h [true, false, true, true, false, true, true, false] rfl ?_
          exact ih x4 x9 x15 x16 s14
        · refine ze_iconst h 0 dX7_snows_74 zk_i_0 ?_
          refine ze_goto h 89 dX7_snows_75 (by decide) ?_
          refine ze_iastG h zl_50 dX7_snows_89 ?_
          refine ze_nmS (fun s17 => ?_)
          refine ze_iload h dX7_snows_90 rfl ?_
          refine ze_aload_n h dX7_snows_92 rfl ?_
          refine ze_callVi h (st := [.int x6]) zce_X7_nightOf zi_X7_nightOf zs_X7_nightOf zm_X7_224 zl_47 rfl rfl (Nat.le_of_ble_eq_true rfl) zkn (c_X7_nightOf l  s17) rfl (Nat.le_of_ble_eq_true rfl) rfl dX7_snows_93 (fun r18 s19 => ?_)
          refine ze_ior h dX7_snows_96 ?_
          refine ze_nmI (fun x20 => ?_)
          refine ze_istore h [some (.ref 47), none, some (.int x4), some (.long x9), none, some (.int x20), some (.int x7), some (.int r10)] dX7_snows_97 rfl (by decide) rfl ?_
          refine ze_iincN h (fun y9 => [some (.ref 47), none, some (.int x4), some (.long x9), none, some (.int x20), some (.int y9), some (.int r10)]) 1 dX7_snows_99 rfl zk_i_1 rfl (by decide) (fun _ => rfl) (fun x21 => ?_)
          refine ze_goto h 15 dX7_snows_102 (by decide) ?_
          refine zE_weak h [true, false, true, true, false, true, true, false] rfl ?_
          exact ih x4 x9 x20 x21 s19
set_option maxRecDepth 20000 in
theorem c_X7_snows (l : Launch)  (p1 : Int32) (p2 : Int32) (s0 : zMem) : zC l yX7_snows (.code yX7_snows cX7_snows 8 (some .int)) 7 [.ref 47, .int p1, .int p2] zFull s0 (fun r : Int32 => some (.int r)) (f_X7_snows p1 p2 s0) := by
  refine zC_of (own := RX7) rfl rfl (Nat.le_of_ble_eq_true rfl) [some (.ref 47), some (.int p1), some (.int p2), none, none, none, none, none] rfl (fun G T h hR => ?_)
  unfold f_X7_snows
  refine ze_iload_n h dX7_snows_0 rfl ?_
  refine ze_i2l h dX7_snows_1 ?_
  refine ze_lconst h 1 dX7_snows_2 zk_l_1 ?_
  refine ze_ladd h dX7_snows_3 ?_
  refine ze_nmL (fun x1 => ?_)
  refine ze_lstore_n h [some (.ref 47), some (.int p1), some (.int p2), some (.long x1), none, none, none, none] dX7_snows_4 rfl (by decide) rfl ?_
  refine ze_iconst h 0 dX7_snows_5 zk_i_0 ?_
  refine ze_istore h [some (.ref 47), some (.int p1), some (.int p2), some (.long x1), none, some (.int 0), none, none] dX7_snows_6 rfl (by decide) rfl ?_
  refine ze_aload_n h dX7_snows_8 rfl ?_
  refine ze_callVv h (st := []) zce_X7_keeps zi_X7_keeps zs_X7_keeps zm_X7_227 zl_47 rfl rfl (Nat.le_of_ble_eq_true rfl) zkn (c_X7_keeps l  s0) rfl (Nat.le_of_ble_eq_true rfl) rfl dX7_snows_9 (fun _ s3 => ?_)
  refine ze_iconst h 0 dX7_snows_12 zk_i_0 ?_
  refine ze_istore h [some (.ref 47), some (.int p1), some (.int p2), some (.long x1), none, some (.int 0), some (.int 0), none] dX7_snows_13 rfl (by decide) rfl ?_
  refine zE_weak h [true, false, true, true, false, true, true, false] rfl ?_
  refine e_X7_snows_15 h hR _ ?_ zN p2 x1 0 0 s3
  · intro x22 s23
    refine ze_aload_n h dX7_snows_105 rfl ?_
    refine ze_aload_n h dX7_snows_106 rfl ?_
    refine ze_callVi h (st := [.ref 47]) zce_X7_heatAll zi_X7_heatAll zs_X7_heatAll zm_X7_97 zl_47 rfl rfl (Nat.le_of_ble_eq_true rfl) zkn (c_X7_heatAll l  s23) rfl (Nat.le_of_ble_eq_true rfl) rfl dX7_snows_107 (fun r24 s25 => ?_)
    refine ze_putI h zl_47 rfl zf_X7_259 rfl rfl dX7_snows_110 ?_
    refine ze_nmS (fun s26 => ?_)
    refine ze_aload_n h dX7_snows_113 rfl ?_
    refine ze_callVv h (st := []) zce_X7_lays zi_X7_lays zs_X7_lays zm_X7_233 zl_47 rfl rfl (Nat.le_of_ble_eq_true rfl) zkn (c_X7_lays l  s26) rfl (Nat.le_of_ble_eq_true rfl) rfl dX7_snows_114 (fun _ s28 => ?_)
    refine ze_iload h dX7_snows_117 rfl ?_
    exact ze_iret hR dX7_snows_119
set_option maxRecDepth 20000 in
theorem c_X7_drawn (l : Launch)  (p1 : Int32) (p2 : Int32) (p3 : Int32) (s0 : zMem) : zC l yX7_drawn (.code yX7_drawn cX7_drawn 5 (some .int)) 8 [.ref 47, .int p1, .int p2, .int p3] zFull s0 (fun r : Int32 => some (.int r)) (f_X7_drawn p1 p2 p3 s0) := by
  refine zC_of (own := RX7) rfl rfl (Nat.le_of_ble_eq_true rfl) [some (.ref 47), some (.int p1), some (.int p2), some (.int p3), none] rfl (fun G T h hR => ?_)
  unfold f_X7_drawn
  refine ze_iload_n h dX7_drawn_0 rfl ?_
  refine ze_iconst h 0 dX7_drawn_1 zk_i_0 ?_
  refine ze_ldcw h zq_X7_262 dX7_drawn_2 ?_
  refine ze_callSi h (st := []) zce_X7_in zt_X7_in zm_X7_87 (Nat.le_of_ble_eq_true rfl) zkn (c_X7_in l zFull p1 0 99999 s0) rfl (Nat.le_of_ble_eq_true rfl) rfl dX7_drawn_5 (fun r1 s2 => ?_)
  refine ze_if_eq h 31 dX7_drawn_8 (by decide) ?_ ?_
  · refine ze_bipush h (-2) dX7_drawn_31 zk_b_m2 ?_
    exact ze_iret hR dX7_drawn_33
  · refine ze_iload_n h dX7_drawn_11 rfl ?_
    refine ze_iconst h 0 dX7_drawn_12 zk_i_0 ?_
    refine ze_sipush h 999 dX7_drawn_13 zk_s_999 ?_
    refine ze_callSi h (st := []) zce_X7_in zt_X7_in zm_X7_87 (Nat.le_of_ble_eq_true rfl) zkn (c_X7_in l zFull p2 0 999 s2) rfl (Nat.le_of_ble_eq_true rfl) rfl dX7_drawn_16 (fun r3 s4 => ?_)
    refine ze_if_eq h 31 dX7_drawn_19 (by decide) ?_ ?_
    · refine ze_bipush h (-2) dX7_drawn_31 zk_b_m2 ?_
      exact ze_iret hR dX7_drawn_33
    · refine ze_iload_n h dX7_drawn_22 rfl ?_
      refine ze_iconst h 0 dX7_drawn_23 zk_i_0 ?_
      refine ze_iconst h 1 dX7_drawn_24 zk_i_1 ?_
      refine ze_callSi h (st := []) zce_X7_in zt_X7_in zm_X7_87 (Nat.le_of_ble_eq_true rfl) zkn (c_X7_in l zFull p3 0 1 s4) rfl (Nat.le_of_ble_eq_true rfl) rfl dX7_drawn_25 (fun r5 s6 => ?_)
      refine ze_if_ne h 34 dX7_drawn_28 (by decide) ?_ ?_
      · refine ze_aload_n h dX7_drawn_34 rfl ?_
        refine ze_iload_n h dX7_drawn_35 rfl ?_
        refine ze_iload_n h dX7_drawn_36 rfl ?_
        refine ze_callVi h (st := []) zce_X7_snows zi_X7_snows zs_X7_snows zm_X7_263 zl_47 rfl rfl (Nat.le_of_ble_eq_true rfl) zkn (c_X7_snows l  p1 p2 s6) rfl (Nat.le_of_ble_eq_true rfl) rfl dX7_drawn_37 (fun r7 s8 => ?_)
        refine ze_istore h [some (.ref 47), some (.int p1), some (.int p2), some (.int p3), some (.int r7)] dX7_drawn_40 rfl (by decide) rfl ?_
        refine ze_iload_n h dX7_drawn_42 rfl ?_
        refine ze_if_ne h 51 dX7_drawn_43 (by decide) ?_ ?_
        · refine ze_aload_n h dX7_drawn_51 rfl ?_
          refine ze_getI h zl_47 rfl zf_X7_259 dX7_drawn_52 ?_
          exact ze_iret hR dX7_drawn_55
        · refine ze_iload h dX7_drawn_46 rfl ?_
          refine ze_goto h 55 dX7_drawn_48 (by decide) ?_
          exact ze_iret hR dX7_drawn_55
      · refine ze_bipush h (-2) dX7_drawn_31 zk_b_m2 ?_
        exact ze_iret hR dX7_drawn_33
set_option maxRecDepth 20000 in
theorem e_X7_lowest_16 {l : Launch} {G : zGT} {T : Option Value × zMem} {Λ : zLay} (h : zOk G l cX7_lowest RX7 11 1 0 0 false) (hR : zR G cX7_lowest (some .long) T Λ 0 0)  (c41 : Int64 → Int64 → Int32 → Int64 → zMem → Option (Int64 × zMem)) (hc41 : ∀ (y1 : Int64) (y2 : Int64) (y3 : Int32) (y4 : Int64) (s9 : zMem), zE G T (fun r : Int64 => some (.long r)) Λ 0 0 41 [some (.long y1), none, some (.long y2), none, some (.int y3), some (.long y4), none, none, none, none, none] [] s9 (c41 y1 y2 y3 y4 s9)) : ∀ (n : Nat) (x1 : Int64) (x2 : Int64) (x3 : Int32) (x4 : Int64) (x5 : Int64) (s6 : zMem), zE G T (fun r : Int64 => some (.long r)) Λ 0 0 16 [some (.long x1), none, some (.long x2), none, some (.int x3), some (.long x4), none, some (.long x5), none, none, none] [] s6 (f_X7_lowest_16 c41 n x1 x2 x3 x4 x5 s6) := by
  intro n
  induction n with
  | zero => intro _ _ _ _ _ _; exact ze_none
  | succ n ih =>
    intro x1 x2 x3 x4 x5 s6
    rw [f_X7_lowest_16]
    refine ze_lload h dX7_lowest_16 rfl ?_
    refine ze_lconst h 0 dX7_lowest_18 zk_l_0 ?_
    refine ze_lcmp h dX7_lowest_19 ?_
    refine ze_if_eq h 41 dX7_lowest_20 (by decide) ?_ ?_
    · refine zE_weak h [true, false, true, false, true, true, false, false, false, false, false] rfl ?_
      exact hc41 x1 x2 x3 x4 s6
    · refine ze_lload h dX7_lowest_23 rfl ?_
      refine ze_lload h dX7_lowest_25 rfl ?_
      refine ze_lremG h dX7_lowest_27 ?_
      refine ze_nmL (fun x7 => ?_)
      refine ze_lstore h [some (.long x1), none, some (.long x2), none, some (.int x3), some (.long x4), none, some (.long x5), none, some (.long x7), none] dX7_lowest_28 rfl (by decide) rfl ?_
      refine ze_lload h dX7_lowest_30 rfl ?_
      refine ze_lstore h [some (.long x1), none, some (.long x2), none, some (.int x3), some (.long x5), none, some (.long x5), none, some (.long x7), none] dX7_lowest_32 rfl (by decide) rfl ?_
      refine ze_lload h dX7_lowest_34 rfl ?_
      refine ze_lstore h [some (.long x1), none, some (.long x2), none, some (.int x3), some (.long x5), none, some (.long x7), none, some (.long x7), none] dX7_lowest_36 rfl (by decide) rfl ?_
      refine ze_goto h 16 dX7_lowest_38 (by decide) ?_
      refine zE_weak h [true, false, true, false, true, true, false, true, false, false, false] rfl ?_
      exact ih x1 x2 x3 x5 x7 s6
set_option maxRecDepth 20000 in
theorem c_X7_lowest (l : Launch) (Λ : zLay) (p1 : Int64) (p2 : Int64) (p3 : Int32) (s0 : zMem) : zC l yX7_lowest (.code yX7_lowest cX7_lowest 11 (some .long)) 1 [.long p1, .long p2, .int p3] Λ s0 (fun r : Int64 => some (.long r)) (f_X7_lowest p1 p2 p3 s0) := by
  refine zC_of (own := RX7) rfl rfl (Nat.le_of_ble_eq_true rfl) [some (.long p1), none, some (.long p2), none, some (.int p3), none, none, none, none, none, none] rfl (fun G T h hR => ?_)
  unfold f_X7_lowest
  refine ze_lload_n h dX7_lowest_0 rfl ?_
  refine ze_lconst h 0 dX7_lowest_1 zk_l_0 ?_
  refine ze_lcmp h dX7_lowest_2 ?_
  refine ze_if_ne h 10 dX7_lowest_3 (by decide) ?_ ?_
  · refine ze_lload_n h dX7_lowest_10 rfl ?_
    refine ze_lstore h [some (.long p1), none, some (.long p2), none, some (.int p3), some (.long p1), none, none, none, none, none] dX7_lowest_11 rfl (by decide) rfl ?_
    refine ze_lload_n h dX7_lowest_13 rfl ?_
    refine ze_lstore h [some (.long p1), none, some (.long p2), none, some (.int p3), some (.long p1), none, some (.long p2), none, none, none] dX7_lowest_14 rfl (by decide) rfl ?_
    refine e_X7_lowest_16 h hR _ ?_ zN p1 p2 p3 p1 p2 s0
    · intro x8 x9 x10 x11 s12
      refine ze_iload h dX7_lowest_41 rfl ?_
      refine ze_if_ne h 50 dX7_lowest_43 (by decide) ?_ ?_
      · refine ze_lload_n h dX7_lowest_50 rfl ?_
        refine ze_lload h dX7_lowest_51 rfl ?_
        refine ze_ldivG h dX7_lowest_53 ?_
        exact ze_lret hR dX7_lowest_54
      · refine ze_lload_n h dX7_lowest_46 rfl ?_
        refine ze_goto h 51 dX7_lowest_47 (by decide) ?_
        refine ze_lload h dX7_lowest_51 rfl ?_
        refine ze_ldivG h dX7_lowest_53 ?_
        exact ze_lret hR dX7_lowest_54
  · refine ze_iload h dX7_lowest_6 rfl ?_
    refine ze_i2l h dX7_lowest_8 ?_
    exact ze_lret hR dX7_lowest_9
set_option maxRecDepth 20000 in
theorem e_X7_odds_75 {l : Launch} {G : zGT} {T : Option Value × zMem} (h : zOk G l cX7_odds RX7 10 8 0 0 false) (hR : zR G cX7_odds (some .long) T zFull 0 0)  (c114 : Int32 → Int32 → Int64 → zMem → Option (Int64 × zMem)) (hc114 : ∀ (y1 : Int32) (y2 : Int32) (y3 : Int64) (s9 : zMem), zE G T (fun r : Int64 => some (.long r)) zFull 0 0 114 [none, none, some (.int y1), none, none, some (.int y2), none, some (.long y3), none, none] [] s9 (c114 y1 y2 y3 s9)) : ∀ (n : Nat) (x20 : Int32) (x21 : Int32) (x22 : Int32) (x23 : Int32) (x24 : Int32) (x25 : Int64) (x26 : Int32) (s27 : zMem), zE G T (fun r : Int64 => some (.long r)) zFull 0 0 75 [some (.ref 47), some (.int x20), some (.int x21), some (.int x22), some (.int x23), some (.int x24), none, some (.long x25), none, some (.int x26)] [] s27 (f_X7_odds_75 c114 n x20 x21 x22 x23 x24 x25 x26 s27) := by
  intro n
  induction n with
  | zero => intro _ _ _ _ _ _ _ _; exact ze_none
  | succ n ih =>
    intro x20 x21 x22 x23 x24 x25 x26 s27
    rw [f_X7_odds_75]
    refine ze_iload h dX7_odds_75 rfl ?_
    refine ze_iload_n h dX7_odds_77 rfl ?_
    refine ze_icmp_ge h 114 dX7_odds_78 (by decide) ?_ ?_
    · refine zE_weak h [false, false, true, false, false, true, false, true, false, false] rfl ?_
      exact hc114 x21 x24 x25 s27
    · refine ze_lload h dX7_odds_81 rfl ?_
      refine ze_aload_n h dX7_odds_83 rfl ?_
      refine ze_iload_n h dX7_odds_84 rfl ?_
      refine ze_iload h dX7_odds_85 rfl ?_
      refine ze_iadd h dX7_odds_87 ?_
      refine ze_iload_n h dX7_odds_88 rfl ?_
      refine ze_callVi h (st := [.long x25]) zce_X7_snows zi_X7_snows zs_X7_snows zm_X7_263 zl_47 rfl rfl (Nat.le_of_ble_eq_true rfl) zkn (c_X7_snows l  (x20 + x26) x22 s27) rfl (Nat.le_of_ble_eq_true rfl) rfl dX7_odds_89 (fun r28 s29 => ?_)
      refine ze_callSi h (st := [.long x25]) zce_X7_ones zt_X7_ones zm_X7_240 (Nat.le_of_ble_eq_true rfl) zkn (c_X7_ones l zFull r28 s29) rfl (Nat.le_of_ble_eq_true rfl) rfl dX7_odds_92 (fun r30 s31 => ?_)
      refine ze_iload h dX7_odds_95 rfl ?_
      refine ze_icmp_lt h 104 dX7_odds_97 (by decide) ?_ ?_
      · refine ze_lconst h 0 dX7_odds_104 zk_l_0 ?_
        refine ze_ladd h dX7_odds_105 ?_
        refine ze_nmL (fun x32 => ?_)
        refine ze_lstore h [some (.ref 47), some (.int x20), some (.int x21), some (.int x22), some (.int x23), some (.int x24), none, some (.long x32), none, some (.int x26)] dX7_odds_106 rfl (by decide) rfl ?_
        refine ze_iincN h (fun y9 => [some (.ref 47), some (.int x20), some (.int x21), some (.int x22), some (.int x23), some (.int x24), none, some (.long x32), none, some (.int y9)]) 1 dX7_odds_108 rfl zk_i_1 rfl (by decide) (fun _ => rfl) (fun x33 => ?_)
        refine ze_goto h 75 dX7_odds_111 (by decide) ?_
        exact ih x20 x21 x22 x23 x24 x32 x33 s31
      · refine ze_lconst h 1 dX7_odds_100 zk_l_1 ?_
        refine ze_goto h 105 dX7_odds_101 (by decide) ?_
        refine ze_ladd h dX7_odds_105 ?_
        refine ze_nmL (fun x34 => ?_)
        refine ze_lstore h [some (.ref 47), some (.int x20), some (.int x21), some (.int x22), some (.int x23), some (.int x24), none, some (.long x34), none, some (.int x26)] dX7_odds_106 rfl (by decide) rfl ?_
        refine ze_iincN h (fun y9 => [some (.ref 47), some (.int x20), some (.int x21), some (.int x22), some (.int x23), some (.int x24), none, some (.long x34), none, some (.int y9)]) 1 dX7_odds_108 rfl zk_i_1 rfl (by decide) (fun _ => rfl) (fun x35 => ?_)
        refine ze_goto h 75 dX7_odds_111 (by decide) ?_
        exact ih x20 x21 x22 x23 x24 x34 x35 s31
set_option maxRecDepth 20000 in
theorem e_X7_odds_37 {l : Launch} {G : zGT} {T : Option Value × zMem} (h : zOk G l cX7_odds RX7 10 8 0 0 false) (hR : zR G cX7_odds (some .long) T zFull 0 0)   : ∀ (x9 : Int32) (x10 : Int32) (x11 : Int32) (x12 : Int32) (x13 : Int32) (t14 : Int32) (s15 : zMem), zE G T (fun r : Int64 => some (.long r)) zFull 0 0 37 [some (.ref 47), some (.int x9), some (.int x10), some (.int x11), some (.int x12), some (.int x13), none, none, none, none] [.int t14] s15 (f_X7_odds_37  x9 x10 x11 x12 x13 t14 s15) := by
  intro x9 x10 x11 x12 x13 t14 s15
  unfold f_X7_odds_37
  refine ze_istore h [some (.ref 47), some (.int x9), some (.int x10), some (.int x11), some (.int x12), some (.int x13), some (.int t14), none, none, none] dX7_odds_37 rfl (by decide) rfl ?_
  refine ze_iload h dX7_odds_39 rfl ?_
  refine ze_if_eq h 65 dX7_odds_41 (by decide) ?_ ?_
  · refine ze_ldc2 h zq_X7_266 dX7_odds_65 ?_
    exact ze_lret hR dX7_odds_68
  · refine ze_iload h dX7_odds_44 rfl ?_
    refine ze_iconst h 0 dX7_odds_46 zk_i_0 ?_
    refine ze_bipush h 6 dX7_odds_47 zk_b_6 ?_
    refine ze_callSi h (st := []) zce_X7_in zt_X7_in zm_X7_87 (Nat.le_of_ble_eq_true rfl) zkn (c_X7_in l zFull x12 0 6 s15) rfl (Nat.le_of_ble_eq_true rfl) rfl dX7_odds_49 (fun r16 s17 => ?_)
    refine ze_if_eq h 65 dX7_odds_52 (by decide) ?_ ?_
    · refine ze_ldc2 h zq_X7_266 dX7_odds_65 ?_
      exact ze_lret hR dX7_odds_68
    · refine ze_iload h dX7_odds_55 rfl ?_
      refine ze_iconst h 0 dX7_odds_57 zk_i_0 ?_
      refine ze_iconst h 1 dX7_odds_58 zk_i_1 ?_
      refine ze_callSi h (st := []) zce_X7_in zt_X7_in zm_X7_87 (Nat.le_of_ble_eq_true rfl) zkn (c_X7_in l zFull x13 0 1 s17) rfl (Nat.le_of_ble_eq_true rfl) rfl dX7_odds_59 (fun r18 s19 => ?_)
      refine ze_if_ne h 69 dX7_odds_62 (by decide) ?_ ?_
      · refine ze_lconst h 0 dX7_odds_69 zk_l_0 ?_
        refine ze_lstore h [some (.ref 47), some (.int x9), some (.int x10), some (.int x11), some (.int x12), some (.int x13), some (.int t14), some (.long 0), none, none] dX7_odds_70 rfl (by decide) rfl ?_
        refine ze_iconst h 0 dX7_odds_72 zk_i_0 ?_
        refine ze_istore h [some (.ref 47), some (.int x9), some (.int x10), some (.int x11), some (.int x12), some (.int x13), some (.int t14), some (.long 0), none, some (.int 0)] dX7_odds_73 rfl (by decide) rfl ?_
        refine zE_weak h [true, true, true, true, true, true, false, true, false, true] rfl ?_
        refine e_X7_odds_75 h hR _ ?_ zN x9 x10 x11 x12 x13 0 0 s19
        · intro x36 x37 x38 s39
          refine ze_lload h dX7_odds_114 rfl ?_
          refine ze_iload_n h dX7_odds_116 rfl ?_
          refine ze_i2l h dX7_odds_117 ?_
          refine ze_iload h dX7_odds_118 rfl ?_
          refine ze_callSl h (st := []) zce_X7_lowest zt_X7_lowest zm_X7_268 (Nat.le_of_ble_eq_true rfl) zkn (c_X7_lowest l zFull x38 x36.toInt64 x37 s39) rfl (Nat.le_of_ble_eq_true rfl) rfl dX7_odds_120 (fun r40 s41 => ?_)
          exact ze_lret hR dX7_odds_123
      · refine ze_ldc2 h zq_X7_266 dX7_odds_65 ?_
        exact ze_lret hR dX7_odds_68
set_option maxRecDepth 20000 in
theorem e_X7_odds_36 {l : Launch} {G : zGT} {T : Option Value × zMem} (h : zOk G l cX7_odds RX7 10 8 0 0 false) (hR : zR G cX7_odds (some .long) T zFull 0 0)   : ∀ (x3 : Int32) (x4 : Int32) (x5 : Int32) (x6 : Int32) (x7 : Int32) (s8 : zMem), zE G T (fun r : Int64 => some (.long r)) zFull 0 0 36 [some (.ref 47), some (.int x3), some (.int x4), some (.int x5), some (.int x6), some (.int x7), none, none, none, none] [] s8 (f_X7_odds_36  x3 x4 x5 x6 x7 s8) := by
  intro x3 x4 x5 x6 x7 s8
  unfold f_X7_odds_36
  refine ze_iconst h 0 dX7_odds_36 zk_i_0 ?_
  exact e_X7_odds_37 h hR  x3 x4 x5 x6 x7 0 s8
set_option maxRecDepth 20000 in
theorem c_X7_odds (l : Launch)  (p1 : Int32) (p2 : Int32) (p3 : Int32) (p4 : Int32) (p5 : Int32) (s0 : zMem) : zC l yX7_odds (.code yX7_odds cX7_odds 10 (some .long)) 8 [.ref 47, .int p1, .int p2, .int p3, .int p4, .int p5] zFull s0 (fun r : Int64 => some (.long r)) (f_X7_odds p1 p2 p3 p4 p5 s0) := by
  refine zC_of (own := RX7) rfl rfl (Nat.le_of_ble_eq_true rfl) [some (.ref 47), some (.int p1), some (.int p2), some (.int p3), some (.int p4), some (.int p5), none, none, none, none] rfl (fun G T h hR => ?_)
  unfold f_X7_odds
  refine ze_iload_n h dX7_odds_0 rfl ?_
  refine ze_iconst h 0 dX7_odds_1 zk_i_0 ?_
  refine ze_ldcw h zq_X7_262 dX7_odds_2 ?_
  refine ze_callSi h (st := []) zce_X7_in zt_X7_in zm_X7_87 (Nat.le_of_ble_eq_true rfl) zkn (c_X7_in l zFull p1 0 99999 s0) rfl (Nat.le_of_ble_eq_true rfl) rfl dX7_odds_5 (fun r1 s2 => ?_)
  refine ze_if_eq h 36 dX7_odds_8 (by decide) ?_ ?_
  · exact e_X7_odds_36 h hR  p1 p2 p3 p4 p5 s2
  · refine ze_iload_n h dX7_odds_11 rfl ?_
    refine ze_iconst h 1 dX7_odds_12 zk_i_1 ?_
    refine ze_bipush h 40 dX7_odds_13 zk_b_40 ?_
    refine ze_callSi h (st := []) zce_X7_in zt_X7_in zm_X7_87 (Nat.le_of_ble_eq_true rfl) zkn (c_X7_in l zFull p2 1 40 s2) rfl (Nat.le_of_ble_eq_true rfl) rfl dX7_odds_15 (fun r42 s43 => ?_)
    refine ze_if_eq h 36 dX7_odds_18 (by decide) ?_ ?_
    · exact e_X7_odds_36 h hR  p1 p2 p3 p4 p5 s43
    · refine ze_iload_n h dX7_odds_21 rfl ?_
      refine ze_iconst h 0 dX7_odds_22 zk_i_0 ?_
      refine ze_sipush h 999 dX7_odds_23 zk_s_999 ?_
      refine ze_callSi h (st := []) zce_X7_in zt_X7_in zm_X7_87 (Nat.le_of_ble_eq_true rfl) zkn (c_X7_in l zFull p3 0 999 s43) rfl (Nat.le_of_ble_eq_true rfl) rfl dX7_odds_26 (fun r44 s45 => ?_)
      refine ze_if_eq h 36 dX7_odds_29 (by decide) ?_ ?_
      · exact e_X7_odds_36 h hR  p1 p2 p3 p4 p5 s45
      · refine ze_iconst h 1 dX7_odds_32 zk_i_1 ?_
        refine ze_goto h 37 dX7_odds_33 (by decide) ?_
        exact e_X7_odds_37 h hR  p1 p2 p3 p4 p5 1 s45
set_option maxRecDepth 20000 in
theorem e_X7_image_7 {l : Launch} {G : zGT} {T : Option Value × zMem} (h : zOk G l cX7_image RX7 2 1 0 0 false) (hR : zR G cX7_image (some .int) T zFull 0 0)  (c31 : zMem → Option (Int32 × zMem)) (hc31 : ∀ (s9 : zMem), zE G T (fun r : Int32 => some (.int r)) zFull 0 0 31 [some (.ref 47), none] [] s9 (c31 s9)) : ∀ (n : Nat) (x2 : Int32) (s3 : zMem), zE G T (fun r : Int32 => some (.int r)) zFull 0 0 7 [some (.ref 47), some (.int x2)] [] s3 (f_X7_image_7 c31 n x2 s3) := by
  intro n
  induction n with
  | zero => intro _ _; exact ze_none
  | succ n ih =>
    intro x2 s3
    rw [f_X7_image_7]
    refine ze_iload_n h dX7_image_7 rfl ?_
    refine ze_bipush h 18 dX7_image_8 zk_b_18 ?_
    refine ze_icmp_ge h 31 dX7_image_10 (by decide) ?_ ?_
    · refine zE_weak h [true, false] rfl ?_
      exact hc31 s3
    · refine ze_aload_n h dX7_image_13 rfl ?_
      refine ze_getR h zl_47 rfl zf_X7_40 dX7_image_14 ?_
      refine ze_iload_n h dX7_image_17 rfl ?_
      refine ze_aload_n h dX7_image_18 rfl ?_
      refine ze_getR h zl_47 rfl zf_X7_16 dX7_image_19 ?_
      refine ze_iload_n h dX7_image_22 rfl ?_
      refine ze_ialdG h zl_50 dX7_image_23 ?_
      refine ze_iastG h zl_58 dX7_image_24 ?_
      refine ze_nmS (fun s4 => ?_)
      refine ze_iincN h (fun y9 => [some (.ref 47), some (.int y9)]) 1 dX7_image_25 rfl zk_i_1 rfl (by decide) (fun _ => rfl) (fun x5 => ?_)
      refine ze_goto h 7 dX7_image_28 (by decide) ?_
      exact ih x5 s4
set_option maxRecDepth 20000 in
theorem e_X7_image_33 {l : Launch} {G : zGT} {T : Option Value × zMem} (h : zOk G l cX7_image RX7 2 1 0 0 false) (hR : zR G cX7_image (some .int) T zFull 0 0)  (c105 : zMem → Option (Int32 × zMem)) (hc105 : ∀ (s9 : zMem), zE G T (fun r : Int32 => some (.int r)) zFull 0 0 105 [some (.ref 47), none] [] s9 (c105 s9)) : ∀ (n : Nat) (x7 : Int32) (s8 : zMem), zE G T (fun r : Int32 => some (.int r)) zFull 0 0 33 [some (.ref 47), some (.int x7)] [] s8 (f_X7_image_33 c105 n x7 s8) := by
  intro n
  induction n with
  | zero => intro _ _; exact ze_none
  | succ n ih =>
    intro x7 s8
    rw [f_X7_image_33]
    refine ze_iload_n h dX7_image_33 rfl ?_
    refine ze_bipush h 10 dX7_image_34 zk_b_10 ?_
    refine ze_icmp_ge h 105 dX7_image_36 (by decide) ?_ ?_
    · refine zE_weak h [true, false] rfl ?_
      exact hc105 s8
    · refine ze_aload_n h dX7_image_39 rfl ?_
      refine ze_getR h zl_47 rfl zf_X7_40 dX7_image_40 ?_
      refine ze_bipush h 18 dX7_image_43 zk_b_18 ?_
      refine ze_iload_n h dX7_image_45 rfl ?_
      refine ze_iadd h dX7_image_46 ?_
      refine ze_aload_n h dX7_image_47 rfl ?_
      refine ze_getR h zl_47 rfl zf_X7_19 dX7_image_48 ?_
      refine ze_iload_n h dX7_image_51 rfl ?_
      refine ze_ialdG h zl_51 dX7_image_52 ?_
      refine ze_iastG h zl_58 dX7_image_53 ?_
      refine ze_nmS (fun s9 => ?_)
      refine ze_aload_n h dX7_image_54 rfl ?_
      refine ze_getR h zl_47 rfl zf_X7_40 dX7_image_55 ?_
      refine ze_bipush h 28 dX7_image_58 zk_b_28 ?_
      refine ze_pc 60 rfl ?_
      refine ze_iload_n h dX7_image_60 rfl ?_
      refine ze_iadd h dX7_image_61 ?_
      refine ze_aload_n h dX7_image_62 rfl ?_
      refine ze_getR h zl_47 rfl zf_X7_22 dX7_image_63 ?_
      refine ze_iload_n h dX7_image_66 rfl ?_
      refine ze_ialdG h zl_52 dX7_image_67 ?_
      refine ze_iastG h zl_58 dX7_image_68 ?_
      refine ze_nmS (fun s10 => ?_)
      refine ze_aload_n h dX7_image_69 rfl ?_
      refine ze_getR h zl_47 rfl zf_X7_40 dX7_image_70 ?_
      refine ze_bipush h 38 dX7_image_73 zk_b_38 ?_
      refine ze_iload_n h dX7_image_75 rfl ?_
      refine ze_iadd h dX7_image_76 ?_
      refine ze_aload_n h dX7_image_77 rfl ?_
      refine ze_getR h zl_47 rfl zf_X7_25 dX7_image_78 ?_
      refine ze_pc 81 rfl ?_
      refine ze_iload_n h dX7_image_81 rfl ?_
      refine ze_ialdG h zl_53 dX7_image_82 ?_
      refine ze_iastG h zl_58 dX7_image_83 ?_
      refine ze_nmS (fun s11 => ?_)
      refine ze_aload_n h dX7_image_84 rfl ?_
      refine ze_getR h zl_47 rfl zf_X7_40 dX7_image_85 ?_
      refine ze_bipush h 48 dX7_image_88 zk_b_48 ?_
      refine ze_iload_n h dX7_image_90 rfl ?_
      refine ze_iadd h dX7_image_91 ?_
      refine ze_aload_n h dX7_image_92 rfl ?_
      refine ze_getR h zl_47 rfl zf_X7_28 dX7_image_93 ?_
      refine ze_iload_n h dX7_image_96 rfl ?_
      refine ze_ialdG h zl_54 dX7_image_97 ?_
      refine ze_iastG h zl_58 dX7_image_98 ?_
      refine ze_nmS (fun s12 => ?_)
      refine ze_iincN h (fun y9 => [some (.ref 47), some (.int y9)]) 1 dX7_image_99 rfl zk_i_1 rfl (by decide) (fun _ => rfl) (fun x13 => ?_)
      refine ze_pc 102 rfl ?_
      refine ze_goto h 33 dX7_image_102 (by decide) ?_
      exact ih x13 s12
set_option maxRecDepth 20000 in
theorem c_X7_image (l : Launch)   (s0 : zMem) : zC l yX7_image (.code yX7_image cX7_image 2 (some .int)) 1 [.ref 47] zFull s0 (fun r : Int32 => some (.int r)) (f_X7_image s0) := by
  refine zC_of (own := RX7) rfl rfl (Nat.le_of_ble_eq_true rfl) [some (.ref 47), none] rfl (fun G T h hR => ?_)
  unfold f_X7_image
  refine ze_aload_n h dX7_image_0 rfl ?_
  refine ze_iconst h 1 dX7_image_1 zk_i_1 ?_
  refine ze_putI h zl_47 rfl zf_X7_272 rfl rfl dX7_image_2 ?_
  refine ze_nmS (fun s1 => ?_)
  refine ze_iconst h 0 dX7_image_5 zk_i_0 ?_
  refine ze_istore_n h [some (.ref 47), some (.int 0)] dX7_image_6 rfl (by decide) rfl ?_
  refine e_X7_image_7 h hR _ ?_ zN 0 s1
  · intro s6
    refine ze_iconst h 0 dX7_image_31 zk_i_0 ?_
    refine ze_istore_n h [some (.ref 47), some (.int 0)] dX7_image_32 rfl (by decide) rfl ?_
    refine e_X7_image_33 h hR _ ?_ zN 0 s6
    · intro s14
      refine ze_aload_n h dX7_image_105 rfl ?_
      refine ze_getR h zl_47 rfl zf_X7_43 dX7_image_106 ?_
      refine ze_iconst h 0 dX7_image_109 zk_i_0 ?_
      refine ze_aload_n h dX7_image_110 rfl ?_
      refine ze_getI h zl_47 rfl zf_X7_84 dX7_image_111 ?_
      refine ze_iastG h zl_59 dX7_image_114 ?_
      refine ze_nmS (fun s15 => ?_)
      refine ze_aload_n h dX7_image_115 rfl ?_
      refine ze_getR h zl_47 rfl zf_X7_43 dX7_image_116 ?_
      refine ze_iconst h 1 dX7_image_119 zk_i_1 ?_
      refine ze_aload_n h dX7_image_120 rfl ?_
      refine ze_getI h zl_47 rfl zf_X7_91 dX7_image_121 ?_
      refine ze_iastG h zl_59 dX7_image_124 ?_
      refine ze_nmS (fun s16 => ?_)
      refine ze_aload_n h dX7_image_125 rfl ?_
      refine ze_pc 126 rfl ?_
      refine ze_getR h zl_47 rfl zf_X7_43 dX7_image_126 ?_
      refine ze_iconst h 2 dX7_image_129 zk_i_2 ?_
      refine ze_aload_n h dX7_image_130 rfl ?_
      refine ze_getI h zl_47 rfl zf_X7_94 dX7_image_131 ?_
      refine ze_iastG h zl_59 dX7_image_134 ?_
      refine ze_nmS (fun s17 => ?_)
      refine ze_aload_n h dX7_image_135 rfl ?_
      refine ze_getR h zl_47 rfl zf_X7_43 dX7_image_136 ?_
      refine ze_iconst h 3 dX7_image_139 zk_i_3 ?_
      refine ze_aload_n h dX7_image_140 rfl ?_
      refine ze_getI h zl_47 rfl zf_X7_103 dX7_image_141 ?_
      refine ze_iastG h zl_59 dX7_image_144 ?_
      refine ze_nmS (fun s18 => ?_)
      refine ze_aload_n h dX7_image_145 rfl ?_
      refine ze_getI h zl_47 rfl zf_X7_84 dX7_image_146 ?_
      exact ze_iret hR dX7_image_149
set_option maxRecDepth 20000 in
theorem e_X7_back_12 {l : Launch} {G : zGT} {T : Option Value × zMem} (h : zOk G l cX7_back RX7 2 1 0 0 false) (hR : zR G cX7_back (some .int) T zFull 0 0)  (c36 : zMem → Option (Int32 × zMem)) (hc36 : ∀ (s9 : zMem), zE G T (fun r : Int32 => some (.int r)) zFull 0 0 36 [some (.ref 47), none] [] s9 (c36 s9)) : ∀ (n : Nat) (x1 : Int32) (s2 : zMem), zE G T (fun r : Int32 => some (.int r)) zFull 0 0 12 [some (.ref 47), some (.int x1)] [] s2 (f_X7_back_12 c36 n x1 s2) := by
  intro n
  induction n with
  | zero => intro _ _; exact ze_none
  | succ n ih =>
    intro x1 s2
    rw [f_X7_back_12]
    refine ze_iload_n h dX7_back_12 rfl ?_
    refine ze_bipush h 18 dX7_back_13 zk_b_18 ?_
    refine ze_icmp_ge h 36 dX7_back_15 (by decide) ?_ ?_
    · refine zE_weak h [true, false] rfl ?_
      exact hc36 s2
    · refine ze_aload_n h dX7_back_18 rfl ?_
      refine ze_getR h zl_47 rfl zf_X7_16 dX7_back_19 ?_
      refine ze_iload_n h dX7_back_22 rfl ?_
      refine ze_aload_n h dX7_back_23 rfl ?_
      refine ze_getR h zl_47 rfl zf_X7_40 dX7_back_24 ?_
      refine ze_iload_n h dX7_back_27 rfl ?_
      refine ze_ialdG h zl_58 dX7_back_28 ?_
      refine ze_iastG h zl_50 dX7_back_29 ?_
      refine ze_nmS (fun s3 => ?_)
      refine ze_iincN h (fun y9 => [some (.ref 47), some (.int y9)]) 1 dX7_back_30 rfl zk_i_1 rfl (by decide) (fun _ => rfl) (fun x4 => ?_)
      refine ze_goto h 12 dX7_back_33 (by decide) ?_
      exact ih x4 s3
set_option maxRecDepth 20000 in
theorem e_X7_back_38 {l : Launch} {G : zGT} {T : Option Value × zMem} (h : zOk G l cX7_back RX7 2 1 0 0 false) (hR : zR G cX7_back (some .int) T zFull 0 0)  (c110 : zMem → Option (Int32 × zMem)) (hc110 : ∀ (s9 : zMem), zE G T (fun r : Int32 => some (.int r)) zFull 0 0 110 [some (.ref 47), none] [] s9 (c110 s9)) : ∀ (n : Nat) (x6 : Int32) (s7 : zMem), zE G T (fun r : Int32 => some (.int r)) zFull 0 0 38 [some (.ref 47), some (.int x6)] [] s7 (f_X7_back_38 c110 n x6 s7) := by
  intro n
  induction n with
  | zero => intro _ _; exact ze_none
  | succ n ih =>
    intro x6 s7
    rw [f_X7_back_38]
    refine ze_iload_n h dX7_back_38 rfl ?_
    refine ze_bipush h 10 dX7_back_39 zk_b_10 ?_
    refine ze_icmp_ge h 110 dX7_back_41 (by decide) ?_ ?_
    · refine zE_weak h [true, false] rfl ?_
      exact hc110 s7
    · refine ze_aload_n h dX7_back_44 rfl ?_
      refine ze_getR h zl_47 rfl zf_X7_19 dX7_back_45 ?_
      refine ze_iload_n h dX7_back_48 rfl ?_
      refine ze_aload_n h dX7_back_49 rfl ?_
      refine ze_getR h zl_47 rfl zf_X7_40 dX7_back_50 ?_
      refine ze_bipush h 18 dX7_back_53 zk_b_18 ?_
      refine ze_iload_n h dX7_back_55 rfl ?_
      refine ze_iadd h dX7_back_56 ?_
      refine ze_ialdG h zl_58 dX7_back_57 ?_
      refine ze_iastG h zl_51 dX7_back_58 ?_
      refine ze_nmS (fun s8 => ?_)
      refine ze_aload_n h dX7_back_59 rfl ?_
      refine ze_getR h zl_47 rfl zf_X7_22 dX7_back_60 ?_
      refine ze_iload_n h dX7_back_63 rfl ?_
      refine ze_pc 64 rfl ?_
      refine ze_aload_n h dX7_back_64 rfl ?_
      refine ze_getR h zl_47 rfl zf_X7_40 dX7_back_65 ?_
      refine ze_bipush h 28 dX7_back_68 zk_b_28 ?_
      refine ze_iload_n h dX7_back_70 rfl ?_
      refine ze_iadd h dX7_back_71 ?_
      refine ze_ialdG h zl_58 dX7_back_72 ?_
      refine ze_iastG h zl_52 dX7_back_73 ?_
      refine ze_nmS (fun s9 => ?_)
      refine ze_aload_n h dX7_back_74 rfl ?_
      refine ze_getR h zl_47 rfl zf_X7_25 dX7_back_75 ?_
      refine ze_iload_n h dX7_back_78 rfl ?_
      refine ze_aload_n h dX7_back_79 rfl ?_
      refine ze_getR h zl_47 rfl zf_X7_40 dX7_back_80 ?_
      refine ze_bipush h 38 dX7_back_83 zk_b_38 ?_
      refine ze_iload_n h dX7_back_85 rfl ?_
      refine ze_pc 86 rfl ?_
      refine ze_iadd h dX7_back_86 ?_
      refine ze_ialdG h zl_58 dX7_back_87 ?_
      refine ze_iastG h zl_53 dX7_back_88 ?_
      refine ze_nmS (fun s10 => ?_)
      refine ze_aload_n h dX7_back_89 rfl ?_
      refine ze_getR h zl_47 rfl zf_X7_28 dX7_back_90 ?_
      refine ze_iload_n h dX7_back_93 rfl ?_
      refine ze_aload_n h dX7_back_94 rfl ?_
      refine ze_getR h zl_47 rfl zf_X7_40 dX7_back_95 ?_
      refine ze_bipush h 48 dX7_back_98 zk_b_48 ?_
      refine ze_iload_n h dX7_back_100 rfl ?_
      refine ze_iadd h dX7_back_101 ?_
      refine ze_ialdG h zl_58 dX7_back_102 ?_
      refine ze_iastG h zl_54 dX7_back_103 ?_
      refine ze_nmS (fun s11 => ?_)
      refine ze_iincN h (fun y9 => [some (.ref 47), some (.int y9)]) 1 dX7_back_104 rfl zk_i_1 rfl (by decide) (fun _ => rfl) (fun x12 => ?_)
      refine ze_pc 107 rfl ?_
      refine ze_goto h 38 dX7_back_107 (by decide) ?_
      exact ih x12 s11
set_option maxRecDepth 20000 in
theorem c_X7_back (l : Launch)   (s0 : zMem) : zC l yX7_back (.code yX7_back cX7_back 2 (some .int)) 1 [.ref 47] zFull s0 (fun r : Int32 => some (.int r)) (f_X7_back s0) := by
  refine zC_of (own := RX7) rfl rfl (Nat.le_of_ble_eq_true rfl) [some (.ref 47), none] rfl (fun G T h hR => ?_)
  unfold f_X7_back
  refine ze_aload_n h dX7_back_0 rfl ?_
  refine ze_getI h zl_47 rfl zf_X7_272 dX7_back_1 ?_
  refine ze_if_ne h 10 dX7_back_4 (by decide) ?_ ?_
  · refine ze_iconst h 0 dX7_back_10 zk_i_0 ?_
    refine ze_istore_n h [some (.ref 47), some (.int 0)] dX7_back_11 rfl (by decide) rfl ?_
    refine e_X7_back_12 h hR _ ?_ zN 0 s0
    · intro s5
      refine ze_iconst h 0 dX7_back_36 zk_i_0 ?_
      refine ze_istore_n h [some (.ref 47), some (.int 0)] dX7_back_37 rfl (by decide) rfl ?_
      refine e_X7_back_38 h hR _ ?_ zN 0 s5
      · intro s13
        refine ze_aload_n h dX7_back_110 rfl ?_
        refine ze_aload_n h dX7_back_111 rfl ?_
        refine ze_getR h zl_47 rfl zf_X7_43 dX7_back_112 ?_
        refine ze_iconst h 0 dX7_back_115 zk_i_0 ?_
        refine ze_ialdG h zl_59 dX7_back_116 ?_
        refine ze_putI h zl_47 rfl zf_X7_84 rfl rfl dX7_back_117 ?_
        refine ze_nmS (fun s14 => ?_)
        refine ze_aload_n h dX7_back_120 rfl ?_
        refine ze_aload_n h dX7_back_121 rfl ?_
        refine ze_getR h zl_47 rfl zf_X7_43 dX7_back_122 ?_
        refine ze_iconst h 1 dX7_back_125 zk_i_1 ?_
        refine ze_ialdG h zl_59 dX7_back_126 ?_
        refine ze_putI h zl_47 rfl zf_X7_91 rfl rfl dX7_back_127 ?_
        refine ze_nmS (fun s15 => ?_)
        refine ze_aload_n h dX7_back_130 rfl ?_
        refine ze_pc 131 rfl ?_
        refine ze_aload_n h dX7_back_131 rfl ?_
        refine ze_getR h zl_47 rfl zf_X7_43 dX7_back_132 ?_
        refine ze_iconst h 2 dX7_back_135 zk_i_2 ?_
        refine ze_ialdG h zl_59 dX7_back_136 ?_
        refine ze_putI h zl_47 rfl zf_X7_94 rfl rfl dX7_back_137 ?_
        refine ze_nmS (fun s16 => ?_)
        refine ze_aload_n h dX7_back_140 rfl ?_
        refine ze_aload_n h dX7_back_141 rfl ?_
        refine ze_getR h zl_47 rfl zf_X7_43 dX7_back_142 ?_
        refine ze_iconst h 3 dX7_back_145 zk_i_3 ?_
        refine ze_ialdG h zl_59 dX7_back_146 ?_
        refine ze_putI h zl_47 rfl zf_X7_103 rfl rfl dX7_back_147 ?_
        refine ze_nmS (fun s17 => ?_)
        refine ze_aload_n h dX7_back_150 rfl ?_
        refine ze_getI h zl_47 rfl zf_X7_84 dX7_back_151 ?_
        exact ze_iret hR dX7_back_154
  · refine ze_bipush h (-3) dX7_back_7 zk_b_m3 ?_
    exact ze_iret hR dX7_back_9
set_option maxRecDepth 20000 in
theorem e_X7_sheet_70 {l : Launch} {G : zGT} {T : Option Value × zMem} (h : zOk G l cX7_sheet RX7 5 2 0 0 false) (hR : zR G cX7_sheet (some .int) T zFull 0 0)   : ∀ (n : Nat) (x19 : Int32) (x20 : Int32) (s21 : zMem), zE G T (fun r : Int32 => some (.int r)) zFull 0 0 70 [some (.ref 47), some (.int x19), none, none, some (.int x20)] [] s21 (f_X7_sheet_70 n x19 x20 s21) := by
  intro n
  induction n with
  | zero => intro _ _ _; exact ze_none
  | succ n ih =>
    intro x19 x20 s21
    rw [f_X7_sheet_70]
    refine ze_iload h dX7_sheet_70 rfl ?_
    refine ze_bipush h 40 dX7_sheet_72 zk_b_40 ?_
    refine ze_icmp_ge h 96 dX7_sheet_74 (by decide) ?_ ?_
    · refine ze_iconst h 1 dX7_sheet_96 zk_i_1 ?_
      exact ze_iret hR dX7_sheet_97
    · refine ze_aload_n h dX7_sheet_77 rfl ?_
      refine ze_getR h zl_47 rfl zf_X7_52 dX7_sheet_78 ?_
      refine ze_bipush h 40 dX7_sheet_81 zk_b_40 ?_
      refine ze_iload_n h dX7_sheet_83 rfl ?_
      refine ze_imul h dX7_sheet_84 ?_
      refine ze_iload h dX7_sheet_85 rfl ?_
      refine ze_iadd h dX7_sheet_87 ?_
      refine ze_iconst h 0 dX7_sheet_88 zk_i_0 ?_
      refine ze_iastG h zl_62 dX7_sheet_89 ?_
      refine ze_nmS (fun s22 => ?_)
      refine ze_iincN h (fun y9 => [some (.ref 47), some (.int x19), none, none, some (.int y9)]) 1 dX7_sheet_90 rfl zk_i_1 rfl (by decide) (fun _ => rfl) (fun x23 => ?_)
      refine ze_goto h 70 dX7_sheet_93 (by decide) ?_
      exact ih x19 x23 s22
set_option maxRecDepth 20000 in
theorem e_X7_sheet_66 {l : Launch} {G : zGT} {T : Option Value × zMem} (h : zOk G l cX7_sheet RX7 5 2 0 0 false) (hR : zR G cX7_sheet (some .int) T zFull 0 0)   : ∀ (x14 : Int32) (t15 : Int32) (t16 : Int32) (s17 : zMem), zE G T (fun r : Int32 => some (.int r)) zFull 0 0 66 [some (.ref 47), some (.int x14), none, none, none] [.int t15, .int t16, .ref 61] s17 (f_X7_sheet_66  x14 t15 t16 s17) := by
  intro x14 t15 t16 s17
  unfold f_X7_sheet_66
  refine ze_iastG h zl_61 dX7_sheet_66 ?_
  refine ze_nmS (fun s18 => ?_)
  refine ze_iconst h 0 dX7_sheet_67 zk_i_0 ?_
  refine ze_istore h [some (.ref 47), some (.int x14), none, none, some (.int 0)] dX7_sheet_68 rfl (by decide) rfl ?_
  exact e_X7_sheet_70 h hR  zN x14 0 s18
set_option maxRecDepth 20000 in
theorem e_X7_sheet_44 {l : Launch} {G : zGT} {T : Option Value × zMem} (h : zOk G l cX7_sheet RX7 5 2 0 0 false) (hR : zR G cX7_sheet (some .int) T zFull 0 0)   : ∀ (x9 : Int32) (x10 : Int32) (x11 : Int32) (s12 : zMem), zE G T (fun r : Int32 => some (.int r)) zFull 0 0 44 [some (.ref 47), some (.int x9), some (.int x10), some (.int x11), none] [] s12 (f_X7_sheet_44  x9 x10 x11 s12) := by
  intro x9 x10 x11 s12
  unfold f_X7_sheet_44
  refine ze_aload_n h dX7_sheet_44 rfl ?_
  refine ze_getR h zl_47 rfl zf_X7_46 dX7_sheet_45 ?_
  refine ze_iload_n h dX7_sheet_48 rfl ?_
  refine ze_iload_n h dX7_sheet_49 rfl ?_
  refine ze_iastG h zl_60 dX7_sheet_50 ?_
  refine ze_nmS (fun s13 => ?_)
  refine ze_aload_n h dX7_sheet_51 rfl ?_
  refine ze_getR h zl_47 rfl zf_X7_49 dX7_sheet_52 ?_
  refine ze_iload_n h dX7_sheet_55 rfl ?_
  refine ze_iload_n h dX7_sheet_56 rfl ?_
  refine ze_iconst h (-1) dX7_sheet_57 zk_i_m1 ?_
  refine ze_icmp_ne h 65 dX7_sheet_58 (by decide) ?_ ?_
  · refine ze_iload_n h dX7_sheet_65 rfl ?_
    refine zE_weak h [true, true, false, false, false] rfl ?_
    exact e_X7_sheet_66 h hR  x9 x11 x9 s13
  · refine ze_iconst h 0 dX7_sheet_61 zk_i_0 ?_
    refine ze_goto h 66 dX7_sheet_62 (by decide) ?_
    refine zE_weak h [true, true, false, false, false] rfl ?_
    exact e_X7_sheet_66 h hR  x9 0 x9 s13
set_option maxRecDepth 20000 in
theorem e_X7_sheet_32 {l : Launch} {G : zGT} {T : Option Value × zMem} (h : zOk G l cX7_sheet RX7 5 2 0 0 false) (hR : zR G cX7_sheet (some .int) T zFull 0 0)   : ∀ (x5 : Int32) (x6 : Int32) (x7 : Int32) (s8 : zMem), zE G T (fun r : Int32 => some (.int r)) zFull 0 0 32 [some (.ref 47), some (.int x5), some (.int x6), some (.int x7), none] [] s8 (f_X7_sheet_32  x5 x6 x7 s8) := by
  intro x5 x6 x7 s8
  unfold f_X7_sheet_32
  refine ze_iload_n h dX7_sheet_32 rfl ?_
  refine ze_iconst h (-1) dX7_sheet_33 zk_i_m1 ?_
  refine ze_icmp_eq h 44 dX7_sheet_34 (by decide) ?_ ?_
  · exact e_X7_sheet_44 h hR  x5 x6 x7 s8
  · refine ze_iload_n h dX7_sheet_37 rfl ?_
    refine ze_if_ge h 44 dX7_sheet_38 (by decide) ?_ ?_
    · exact e_X7_sheet_44 h hR  x5 x6 x7 s8
    · refine ze_bipush h (-14) dX7_sheet_41 zk_b_m14 ?_
      exact ze_iret hR dX7_sheet_43
set_option maxRecDepth 20000 in
theorem c_X7_sheet (l : Launch)  (p1 : Int32) (p2 : Int32) (p3 : Int32) (s0 : zMem) : zC l yX7_sheet (.code yX7_sheet cX7_sheet 5 (some .int)) 2 [.ref 47, .int p1, .int p2, .int p3] zFull s0 (fun r : Int32 => some (.int r)) (f_X7_sheet p1 p2 p3 s0) := by
  refine zC_of (own := RX7) rfl rfl (Nat.le_of_ble_eq_true rfl) [some (.ref 47), some (.int p1), some (.int p2), some (.int p3), none] rfl (fun G T h hR => ?_)
  unfold f_X7_sheet
  refine ze_iload_n h dX7_sheet_0 rfl ?_
  refine ze_iconst h 0 dX7_sheet_1 zk_i_0 ?_
  refine ze_iconst h 3 dX7_sheet_2 zk_i_3 ?_
  refine ze_callSi h (st := []) zce_X7_in zt_X7_in zm_X7_87 (Nat.le_of_ble_eq_true rfl) zkn (c_X7_in l zFull p1 0 3 s0) rfl (Nat.le_of_ble_eq_true rfl) rfl dX7_sheet_3 (fun r1 s2 => ?_)
  refine ze_if_eq h 29 dX7_sheet_6 (by decide) ?_ ?_
  · refine ze_bipush h (-2) dX7_sheet_29 zk_b_m2 ?_
    exact ze_iret hR dX7_sheet_31
  · refine ze_iload_n h dX7_sheet_9 rfl ?_
    refine ze_iconst h (-1) dX7_sheet_10 zk_i_m1 ?_
    refine ze_iconst h 2 dX7_sheet_11 zk_i_2 ?_
    refine ze_callSi h (st := []) zce_X7_in zt_X7_in zm_X7_87 (Nat.le_of_ble_eq_true rfl) zkn (c_X7_in l zFull p2 (-1) 2 s2) rfl (Nat.le_of_ble_eq_true rfl) rfl dX7_sheet_12 (fun r3 s4 => ?_)
    refine ze_if_eq h 29 dX7_sheet_15 (by decide) ?_ ?_
    · refine ze_bipush h (-2) dX7_sheet_29 zk_b_m2 ?_
      exact ze_iret hR dX7_sheet_31
    · refine ze_iload_n h dX7_sheet_18 rfl ?_
      refine ze_iconst h (-1) dX7_sheet_19 zk_i_m1 ?_
      refine ze_icmp_eq h 32 dX7_sheet_20 (by decide) ?_ ?_
      · exact e_X7_sheet_32 h hR  p1 p2 p3 s4
      · refine ze_iload_n h dX7_sheet_23 rfl ?_
        refine ze_bipush h 40 dX7_sheet_24 zk_b_40 ?_
        refine ze_icmp_le h 32 dX7_sheet_26 (by decide) ?_ ?_
        · exact e_X7_sheet_32 h hR  p1 p2 p3 s4
        · refine ze_bipush h (-2) dX7_sheet_29 zk_b_m2 ?_
          exact ze_iret hR dX7_sheet_31
set_option maxRecDepth 20000 in
theorem c_X7_cell (l : Launch)  (p1 : Int32) (p2 : Int32) (p3 : Int32) (s0 : zMem) : zC l yX7_cell (.code yX7_cell cX7_cell 4 (some .int)) 2 [.ref 47, .int p1, .int p2, .int p3] zFull s0 (fun r : Int32 => some (.int r)) (f_X7_cell p1 p2 p3 s0) := by
  refine zC_of (own := RX7) rfl rfl (Nat.le_of_ble_eq_true rfl) [some (.ref 47), some (.int p1), some (.int p2), some (.int p3)] rfl (fun G T h hR => ?_)
  unfold f_X7_cell
  refine ze_iload_n h dX7_cell_0 rfl ?_
  refine ze_iconst h 0 dX7_cell_1 zk_i_0 ?_
  refine ze_iconst h 3 dX7_cell_2 zk_i_3 ?_
  refine ze_callSi h (st := []) zce_X7_in zt_X7_in zm_X7_87 (Nat.le_of_ble_eq_true rfl) zkn (c_X7_in l zFull p1 0 3 s0) rfl (Nat.le_of_ble_eq_true rfl) rfl dX7_cell_3 (fun r1 s2 => ?_)
  refine ze_if_ne h 12 dX7_cell_6 (by decide) ?_ ?_
  · refine ze_aload_n h dX7_cell_12 rfl ?_
    refine ze_getR h zl_47 rfl zf_X7_46 dX7_cell_13 ?_
    refine ze_iload_n h dX7_cell_16 rfl ?_
    refine ze_ialdG h zl_60 dX7_cell_17 ?_
    refine ze_iconst h (-1) dX7_cell_18 zk_i_m1 ?_
    refine ze_icmp_ne h 25 dX7_cell_19 (by decide) ?_ ?_
    · refine ze_iload_n h dX7_cell_25 rfl ?_
      refine ze_iconst h 0 dX7_cell_26 zk_i_0 ?_
      refine ze_aload_n h dX7_cell_27 rfl ?_
      refine ze_getR h zl_47 rfl zf_X7_49 dX7_cell_28 ?_
      refine ze_iload_n h dX7_cell_31 rfl ?_
      refine ze_ialdG h zl_61 dX7_cell_32 ?_
      refine ze_iconst h 1 dX7_cell_33 zk_i_1 ?_
      refine ze_isub h dX7_cell_34 ?_
      refine ze_callSi h (st := []) zce_X7_in zt_X7_in zm_X7_87 (Nat.le_of_ble_eq_true rfl) zkn (c_X7_in l zFull p2 0 ((s2 61 (zix p1)) - 1) s2) rfl (Nat.le_of_ble_eq_true rfl) rfl dX7_cell_35 (fun r3 s4 => ?_)
      refine ze_if_ne h 44 dX7_cell_38 (by decide) ?_ ?_
      · refine ze_aload_n h dX7_cell_44 rfl ?_
        refine ze_getR h zl_47 rfl zf_X7_52 dX7_cell_45 ?_
        refine ze_bipush h 40 dX7_cell_48 zk_b_40 ?_
        refine ze_iload_n h dX7_cell_50 rfl ?_
        refine ze_imul h dX7_cell_51 ?_
        refine ze_iload_n h dX7_cell_52 rfl ?_
        refine ze_iadd h dX7_cell_53 ?_
        refine ze_aload_n h dX7_cell_54 rfl ?_
        refine ze_getR h zl_47 rfl zf_X7_46 dX7_cell_55 ?_
        refine ze_iload_n h dX7_cell_58 rfl ?_
        refine ze_ialdG h zl_60 dX7_cell_59 ?_
        refine ze_if_ne h 68 dX7_cell_60 (by decide) ?_ ?_
        · refine ze_aload_n h dX7_cell_68 rfl ?_
          refine ze_getR h zl_47 rfl zf_X7_46 dX7_cell_69 ?_
          refine ze_iload_n h dX7_cell_72 rfl ?_
          refine ze_ialdG h zl_60 dX7_cell_73 ?_
          refine ze_iconst h 1 dX7_cell_74 zk_i_1 ?_
          refine ze_icmp_ne h 83 dX7_cell_75 (by decide) ?_ ?_
          · refine ze_iload_n h dX7_cell_83 rfl ?_
            refine ze_iastG h zl_62 dX7_cell_84 ?_
            refine ze_nmS (fun s5 => ?_)
            refine ze_iconst h 1 dX7_cell_85 zk_i_1 ?_
            exact ze_iret hR dX7_cell_86
          · refine ze_iload_n h dX7_cell_78 rfl ?_
            refine ze_i2s h dX7_cell_79 ?_
            refine ze_goto h 84 dX7_cell_80 (by decide) ?_
            refine ze_iastG h zl_62 dX7_cell_84 ?_
            refine ze_nmS (fun s6 => ?_)
            refine ze_iconst h 1 dX7_cell_85 zk_i_1 ?_
            exact ze_iret hR dX7_cell_86
        · refine ze_iload_n h dX7_cell_63 rfl ?_
          refine ze_i2b h dX7_cell_64 ?_
          refine ze_goto h 84 dX7_cell_65 (by decide) ?_
          refine ze_iastG h zl_62 dX7_cell_84 ?_
          refine ze_nmS (fun s7 => ?_)
          refine ze_iconst h 1 dX7_cell_85 zk_i_1 ?_
          exact ze_iret hR dX7_cell_86
      · refine ze_bipush h (-12) dX7_cell_41 zk_b_m12 ?_
        exact ze_iret hR dX7_cell_43
    · refine ze_bipush h (-11) dX7_cell_22 zk_b_m11 ?_
      exact ze_iret hR dX7_cell_24
  · refine ze_bipush h (-2) dX7_cell_9 zk_b_m2 ?_
    exact ze_iret hR dX7_cell_11
set_option maxRecDepth 20000 in
theorem e_X7_copy_173 {l : Launch} {G : zGT} {T : Option Value × zMem} (h : zOk G l cX7_copy RX7 10 2 0 0 false) (hR : zR G cX7_copy (some .int) T zFull 0 0)  (c147 : Int32 → Int32 → Int32 → Int32 → zMem → Option (Int32 × zMem)) (hc147 : ∀ (y1 : Int32) (y2 : Int32) (y3 : Int32) (y4 : Int32) (s9 : zMem), zE G T (fun r : Int32 => some (.int r)) zFull 0 0 147 [some (.ref 47), none, none, none, none, some (.int y1), some (.int y2), some (.int y3), some (.int y4), none] [] s9 (c147 y1 y2 y3 y4 s9)) : ∀ (x12 : Int32) (x13 : Int32) (x14 : Int32) (x15 : Int32) (t16 : Int32) (s17 : zMem), zE G T (fun r : Int32 => some (.int r)) zFull 0 0 173 [some (.ref 47), none, none, none, none, some (.int x12), some (.int x13), some (.int x14), some (.int x15), none] [.int t16] s17 (f_X7_copy_173 c147  x12 x13 x14 x15 t16 s17) := by
  intro x12 x13 x14 x15 t16 s17
  unfold f_X7_copy_173
  refine ze_istore h [some (.ref 47), none, none, none, none, some (.int x12), some (.int x13), some (.int x14), some (.int x15), some (.int t16)] dX7_copy_173 rfl (by decide) rfl ?_
  refine ze_aload_n h dX7_copy_175 rfl ?_
  refine ze_getR h zl_47 rfl zf_X7_52 dX7_copy_176 ?_
  refine ze_iload h dX7_copy_179 rfl ?_
  refine ze_iload h dX7_copy_181 rfl ?_
  refine ze_iadd h dX7_copy_183 ?_
  refine ze_aload_n h dX7_copy_184 rfl ?_
  refine ze_getR h zl_47 rfl zf_X7_52 dX7_copy_185 ?_
  refine ze_iload h dX7_copy_188 rfl ?_
  refine ze_iload h dX7_copy_190 rfl ?_
  refine ze_iadd h dX7_copy_192 ?_
  refine ze_ialdG h zl_62 dX7_copy_193 ?_
  refine ze_iastG h zl_62 dX7_copy_194 ?_
  refine ze_nmS (fun s18 => ?_)
  refine ze_pc 195 rfl ?_
  refine ze_iincN h (fun y9 => [some (.ref 47), none, none, none, none, some (.int x12), some (.int x13), some (.int x14), some (.int y9), some (.int t16)]) 1 dX7_copy_195 rfl zk_i_1 rfl (by decide) (fun _ => rfl) (fun x19 => ?_)
  refine ze_goto h 147 dX7_copy_198 (by decide) ?_
  refine zE_weak h [true, false, false, false, false, true, true, true, true, false] rfl ?_
  exact hc147 x12 x13 x14 x19 s18
set_option maxRecDepth 20000 in
theorem e_X7_copy_147 {l : Launch} {G : zGT} {T : Option Value × zMem} (h : zOk G l cX7_copy RX7 10 2 0 0 false) (hR : zR G cX7_copy (some .int) T zFull 0 0)   : ∀ (n : Nat) (x7 : Int32) (x8 : Int32) (x9 : Int32) (x10 : Int32) (s11 : zMem), zE G T (fun r : Int32 => some (.int r)) zFull 0 0 147 [some (.ref 47), none, none, none, none, some (.int x7), some (.int x8), some (.int x9), some (.int x10), none] [] s11 (f_X7_copy_147 n x7 x8 x9 x10 s11) := by
  intro n
  induction n with
  | zero => intro _ _ _ _ _; exact ze_none
  | succ n ih =>
    intro x7 x8 x9 x10 s11
    rw [f_X7_copy_147]
    refine ze_iload h dX7_copy_147 rfl ?_
    refine ze_iload h dX7_copy_149 rfl ?_
    refine ze_icmp_ge h 201 dX7_copy_151 (by decide) ?_ ?_
    · refine ze_iload h dX7_copy_201 rfl ?_
      exact ze_iret hR dX7_copy_203
    · refine ze_iload h dX7_copy_154 rfl ?_
      refine ze_iload h dX7_copy_156 rfl ?_
      refine ze_icmp_ge h 171 dX7_copy_158 (by decide) ?_ ?_
      · refine ze_iload h dX7_copy_171 rfl ?_
        refine e_X7_copy_173 h hR _ ?_ x7 x8 x9 x10 x10 s11
        · intro x20 x21 x22 x23 s24
          exact ih x20 x21 x22 x23 s24
      · refine ze_iload h dX7_copy_161 rfl ?_
        refine ze_iconst h 1 dX7_copy_163 zk_i_1 ?_
        refine ze_isub h dX7_copy_164 ?_
        refine ze_iload h dX7_copy_165 rfl ?_
        refine ze_isub h dX7_copy_167 ?_
        refine ze_goto h 173 dX7_copy_168 (by decide) ?_
        refine e_X7_copy_173 h hR _ ?_ x7 x8 x9 x10 ((x7 - 1) - x10) s11
        · intro x25 x26 x27 x28 s29
          exact ih x25 x26 x27 x28 s29
set_option maxRecDepth 20000 in
theorem c_X7_copy (l : Launch)  (p1 : Int32) (p2 : Int32) (p3 : Int32) (p4 : Int32) (p5 : Int32) (s0 : zMem) : zC l yX7_copy (.code yX7_copy cX7_copy 10 (some .int)) 2 [.ref 47, .int p1, .int p2, .int p3, .int p4, .int p5] zFull s0 (fun r : Int32 => some (.int r)) (f_X7_copy p1 p2 p3 p4 p5 s0) := by
  refine zC_of (own := RX7) rfl rfl (Nat.le_of_ble_eq_true rfl) [some (.ref 47), some (.int p1), some (.int p2), some (.int p3), some (.int p4), some (.int p5), none, none, none, none] rfl (fun G T h hR => ?_)
  unfold f_X7_copy
  refine ze_iload_n h dX7_copy_0 rfl ?_
  refine ze_iconst h 0 dX7_copy_1 zk_i_0 ?_
  refine ze_iconst h 3 dX7_copy_2 zk_i_3 ?_
  refine ze_callSi h (st := []) zce_X7_in zt_X7_in zm_X7_87 (Nat.le_of_ble_eq_true rfl) zkn (c_X7_in l zFull p1 0 3 s0) rfl (Nat.le_of_ble_eq_true rfl) rfl dX7_copy_3 (fun r1 s2 => ?_)
  refine ze_if_eq h 18 dX7_copy_6 (by decide) ?_ ?_
  · refine ze_bipush h (-2) dX7_copy_18 zk_b_m2 ?_
    exact ze_iret hR dX7_copy_20
  · refine ze_iload_n h dX7_copy_9 rfl ?_
    refine ze_iconst h 0 dX7_copy_10 zk_i_0 ?_
    refine ze_iconst h 3 dX7_copy_11 zk_i_3 ?_
    refine ze_callSi h (st := []) zce_X7_in zt_X7_in zm_X7_87 (Nat.le_of_ble_eq_true rfl) zkn (c_X7_in l zFull p3 0 3 s2) rfl (Nat.le_of_ble_eq_true rfl) rfl dX7_copy_12 (fun r3 s4 => ?_)
    refine ze_if_ne h 21 dX7_copy_15 (by decide) ?_ ?_
    · refine ze_aload_n h dX7_copy_21 rfl ?_
      refine ze_getR h zl_47 rfl zf_X7_46 dX7_copy_22 ?_
      refine ze_iload_n h dX7_copy_25 rfl ?_
      refine ze_ialdG h zl_60 dX7_copy_26 ?_
      refine ze_iconst h (-1) dX7_copy_27 zk_i_m1 ?_
      refine ze_icmp_eq h 41 dX7_copy_28 (by decide) ?_ ?_
      · refine ze_bipush h (-11) dX7_copy_41 zk_b_m11 ?_
        exact ze_iret hR dX7_copy_43
      · refine ze_aload_n h dX7_copy_31 rfl ?_
        refine ze_getR h zl_47 rfl zf_X7_46 dX7_copy_32 ?_
        refine ze_iload_n h dX7_copy_35 rfl ?_
        refine ze_ialdG h zl_60 dX7_copy_36 ?_
        refine ze_iconst h (-1) dX7_copy_37 zk_i_m1 ?_
        refine ze_icmp_ne h 44 dX7_copy_38 (by decide) ?_ ?_
        · refine ze_aload_n h dX7_copy_44 rfl ?_
          refine ze_getR h zl_47 rfl zf_X7_46 dX7_copy_45 ?_
          refine ze_iload_n h dX7_copy_48 rfl ?_
          refine ze_ialdG h zl_60 dX7_copy_49 ?_
          refine ze_aload_n h dX7_copy_50 rfl ?_
          refine ze_getR h zl_47 rfl zf_X7_46 dX7_copy_51 ?_
          refine ze_iload_n h dX7_copy_54 rfl ?_
          refine ze_ialdG h zl_60 dX7_copy_55 ?_
          refine ze_icmp_eq h 62 dX7_copy_56 (by decide) ?_ ?_
          · refine ze_iload h dX7_copy_62 rfl ?_
            refine ze_if_lt h 124 dX7_copy_64 (by decide) ?_ ?_
            · refine ze_bipush h (-12) dX7_copy_124 zk_b_m12 ?_
              exact ze_iret hR dX7_copy_126
            · refine ze_iload_n h dX7_copy_67 rfl ?_
              refine ze_if_lt h 124 dX7_copy_68 (by decide) ?_ ?_
              · refine ze_bipush h (-12) dX7_copy_124 zk_b_m12 ?_
                exact ze_iret hR dX7_copy_126
              · refine ze_iload h dX7_copy_71 rfl ?_
                refine ze_if_lt h 124 dX7_copy_73 (by decide) ?_ ?_
                · refine ze_bipush h (-12) dX7_copy_124 zk_b_m12 ?_
                  exact ze_iret hR dX7_copy_126
                · refine ze_iload_n h dX7_copy_76 rfl ?_
                  refine ze_aload_n h dX7_copy_77 rfl ?_
                  refine ze_getR h zl_47 rfl zf_X7_49 dX7_copy_78 ?_
                  refine ze_iload_n h dX7_copy_81 rfl ?_
                  refine ze_ialdG h zl_61 dX7_copy_82 ?_
                  refine ze_icmp_gt h 124 dX7_copy_83 (by decide) ?_ ?_
                  · refine ze_bipush h (-12) dX7_copy_124 zk_b_m12 ?_
                    exact ze_iret hR dX7_copy_126
                  · refine ze_iload h dX7_copy_86 rfl ?_
                    refine ze_aload_n h dX7_copy_88 rfl ?_
                    refine ze_getR h zl_47 rfl zf_X7_49 dX7_copy_89 ?_
                    refine ze_iload_n h dX7_copy_92 rfl ?_
                    refine ze_ialdG h zl_61 dX7_copy_93 ?_
                    refine ze_icmp_gt h 124 dX7_copy_94 (by decide) ?_ ?_
                    · refine ze_bipush h (-12) dX7_copy_124 zk_b_m12 ?_
                      exact ze_iret hR dX7_copy_126
                    · refine ze_iload h dX7_copy_97 rfl ?_
                      refine ze_aload_n h dX7_copy_99 rfl ?_
                      refine ze_getR h zl_47 rfl zf_X7_49 dX7_copy_100 ?_
                      refine ze_iload_n h dX7_copy_103 rfl ?_
                      refine ze_ialdG h zl_61 dX7_copy_104 ?_
                      refine ze_iload_n h dX7_copy_105 rfl ?_
                      refine ze_isub h dX7_copy_106 ?_
                      refine ze_icmp_gt h 124 dX7_copy_107 (by decide) ?_ ?_
                      · refine ze_bipush h (-12) dX7_copy_124 zk_b_m12 ?_
                        exact ze_iret hR dX7_copy_126
                      · refine ze_iload h dX7_copy_110 rfl ?_
                        refine ze_aload_n h dX7_copy_112 rfl ?_
                        refine ze_getR h zl_47 rfl zf_X7_49 dX7_copy_113 ?_
                        refine ze_iload_n h dX7_copy_116 rfl ?_
                        refine ze_ialdG h zl_61 dX7_copy_117 ?_
                        refine ze_iload h dX7_copy_118 rfl ?_
                        refine ze_isub h dX7_copy_120 ?_
                        refine ze_icmp_le h 127 dX7_copy_121 (by decide) ?_ ?_
                        · refine ze_bipush h 40 dX7_copy_127 zk_b_40 ?_
                          refine ze_iload_n h dX7_copy_129 rfl ?_
                          refine ze_imul h dX7_copy_130 ?_
                          refine ze_iload_n h dX7_copy_131 rfl ?_
                          refine ze_iadd h dX7_copy_132 ?_
                          refine ze_nmI (fun x5 => ?_)
                          refine ze_istore h [some (.ref 47), some (.int p1), some (.int p2), some (.int p3), some (.int p4), some (.int p5), some (.int x5), none, none, none] dX7_copy_133 rfl (by decide) rfl ?_
                          refine ze_bipush h 40 dX7_copy_135 zk_b_40 ?_
                          refine ze_iload_n h dX7_copy_137 rfl ?_
                          refine ze_imul h dX7_copy_138 ?_
                          refine ze_iload h dX7_copy_139 rfl ?_
                          refine ze_iadd h dX7_copy_141 ?_
                          refine ze_nmI (fun x6 => ?_)
                          refine ze_istore h [some (.ref 47), some (.int p1), some (.int p2), some (.int p3), some (.int p4), some (.int p5), some (.int x5), some (.int x6), none, none] dX7_copy_142 rfl (by decide) rfl ?_
                          refine ze_iconst h 0 dX7_copy_144 zk_i_0 ?_
                          refine ze_pc 145 rfl ?_
                          refine ze_istore h [some (.ref 47), some (.int p1), some (.int p2), some (.int p3), some (.int p4), some (.int p5), some (.int x5), some (.int x6), some (.int 0), none] dX7_copy_145 rfl (by decide) rfl ?_
                          refine zE_weak h [true, false, false, false, false, true, true, true, true, false] rfl ?_
                          exact e_X7_copy_147 h hR  zN p5 x5 x6 0 s4
                        · refine ze_bipush h (-12) dX7_copy_124 zk_b_m12 ?_
                          exact ze_iret hR dX7_copy_126
          · refine ze_bipush h (-13) dX7_copy_59 zk_b_m13 ?_
            exact ze_iret hR dX7_copy_61
        · refine ze_bipush h (-11) dX7_copy_41 zk_b_m11 ?_
          exact ze_iret hR dX7_copy_43
    · refine ze_bipush h (-2) dX7_copy_18 zk_b_m2 ?_
      exact ze_iret hR dX7_copy_20
set_option maxRecDepth 20000 in
theorem e_X7_hutsBy_64 {l : Launch} {G : zGT} {T : Option Value × zMem} (h : zOk G l cX7_hutsBy RX7 9 3 0 0 false) (hR : zR G cX7_hutsBy (some .int) T zFull 0 0)   : ∀ (n : Nat) (x7 : Int32) (x8 : Int32) (x9 : Int32) (x10 : Int32) (x11 : Int32) (s12 : zMem), zE G T (fun r : Int32 => some (.int r)) zFull 0 0 64 [some (.ref 47), some (.int x7), none, some (.int x8), some (.int x9), some (.int x10), some (.int x11), none, none] [] s12 (f_X7_hutsBy_64 n x7 x8 x9 x10 x11 s12) := by
  intro n
  induction n with
  | zero => intro _ _ _ _ _ _; exact ze_none
  | succ n ih =>
    intro x7 x8 x9 x10 x11 s12
    rw [f_X7_hutsBy_64]
    refine ze_iload h dX7_hutsBy_64 rfl ?_
    refine ze_iload h dX7_hutsBy_66 rfl ?_
    refine ze_icmp_ge h 153 dX7_hutsBy_68 (by decide) ?_ ?_
    · refine ze_iload h dX7_hutsBy_153 rfl ?_
      exact ze_iret hR dX7_hutsBy_155
    · refine ze_iload_n h dX7_hutsBy_71 rfl ?_
      refine ze_iconst h 2 dX7_hutsBy_72 zk_i_2 ?_
      refine ze_iload h dX7_hutsBy_73 rfl ?_
      refine ze_imul h dX7_hutsBy_75 ?_
      refine ze_iadd h dX7_hutsBy_76 ?_
      refine ze_nmI (fun x13 => ?_)
      refine ze_istore h [some (.ref 47), some (.int x7), none, some (.int x8), some (.int x9), some (.int x10), some (.int x11), some (.int x13), none] dX7_hutsBy_77 rfl (by decide) rfl ?_
      refine ze_iload_n h dX7_hutsBy_79 rfl ?_
      refine ze_if_lt h 102 dX7_hutsBy_80 (by decide) ?_ ?_
      · refine ze_bipush h (-12) dX7_hutsBy_102 zk_b_m12 ?_
        exact ze_iret hR dX7_hutsBy_104
      · refine ze_iload h dX7_hutsBy_83 rfl ?_
        refine ze_iload_n h dX7_hutsBy_85 rfl ?_
        refine ze_icmp_lt h 102 dX7_hutsBy_86 (by decide) ?_ ?_
        · refine ze_bipush h (-12) dX7_hutsBy_102 zk_b_m12 ?_
          exact ze_iret hR dX7_hutsBy_104
        · refine ze_iload h dX7_hutsBy_89 rfl ?_
          refine ze_aload_n h dX7_hutsBy_91 rfl ?_
          refine ze_getR h zl_47 rfl zf_X7_49 dX7_hutsBy_92 ?_
          refine ze_iload_n h dX7_hutsBy_95 rfl ?_
          refine ze_ialdG h zl_61 dX7_hutsBy_96 ?_
          refine ze_iconst h 2 dX7_hutsBy_97 zk_i_2 ?_
          refine ze_isub h dX7_hutsBy_98 ?_
          refine ze_icmp_le h 105 dX7_hutsBy_99 (by decide) ?_ ?_
          · refine ze_bipush h 40 dX7_hutsBy_105 zk_b_40 ?_
            refine ze_iload_n h dX7_hutsBy_107 rfl ?_
            refine ze_imul h dX7_hutsBy_108 ?_
            refine ze_iload h dX7_hutsBy_109 rfl ?_
            refine ze_iadd h dX7_hutsBy_111 ?_
            refine ze_nmI (fun x14 => ?_)
            refine ze_istore h [some (.ref 47), some (.int x7), none, some (.int x8), some (.int x9), some (.int x10), some (.int x11), some (.int x13), some (.int x14)] dX7_hutsBy_112 rfl (by decide) rfl ?_
            refine ze_iload h dX7_hutsBy_114 rfl ?_
            refine ze_aload_n h dX7_hutsBy_116 rfl ?_
            refine ze_aload_n h dX7_hutsBy_117 rfl ?_
            refine ze_getR h zl_47 rfl zf_X7_52 dX7_hutsBy_118 ?_
            refine ze_iload h dX7_hutsBy_121 rfl ?_
            refine ze_ialdG h zl_62 dX7_hutsBy_123 ?_
            refine ze_aload_n h dX7_hutsBy_124 rfl ?_
            refine ze_pc 125 rfl ?_
            refine ze_getR h zl_47 rfl zf_X7_52 dX7_hutsBy_125 ?_
            refine ze_iload h dX7_hutsBy_128 rfl ?_
            refine ze_iconst h 1 dX7_hutsBy_130 zk_i_1 ?_
            refine ze_iadd h dX7_hutsBy_131 ?_
            refine ze_ialdG h zl_62 dX7_hutsBy_132 ?_
            refine ze_callVi h (st := [.int x10]) zce_X7_hut zi_X7_hut zs_X7_hut zm_X7_276 zl_47 rfl rfl (Nat.le_of_ble_eq_true rfl) zkn (c_X7_hut l  (s12 62 (zix x14)) (s12 62 (zix (x14 + 1))) s12) rfl (Nat.le_of_ble_eq_true rfl) rfl dX7_hutsBy_133 (fun r15 s16 => ?_)
            refine ze_if_lt h 143 dX7_hutsBy_136 (by decide) ?_ ?_
            · refine ze_iconst h 0 dX7_hutsBy_143 zk_i_0 ?_
              refine ze_iadd h dX7_hutsBy_144 ?_
              refine ze_nmI (fun x17 => ?_)
              refine ze_istore h [some (.ref 47), some (.int x7), none, some (.int x8), some (.int x9), some (.int x17), some (.int x11), some (.int x13), some (.int x14)] dX7_hutsBy_145 rfl (by decide) rfl ?_
              refine ze_iincN h (fun y9 => [some (.ref 47), some (.int x7), none, some (.int x8), some (.int x9), some (.int x17), some (.int y9), some (.int x13), some (.int x14)]) 1 dX7_hutsBy_147 rfl zk_i_1 rfl (by decide) (fun _ => rfl) (fun x18 => ?_)
              refine ze_goto h 64 dX7_hutsBy_150 (by decide) ?_
              refine zE_weak h [true, true, false, true, true, true, true, false, false] rfl ?_
              exact ih x7 x8 x9 x17 x18 s16
            · refine ze_iconst h 1 dX7_hutsBy_139 zk_i_1 ?_
              refine ze_goto h 144 dX7_hutsBy_140 (by decide) ?_
              refine ze_iadd h dX7_hutsBy_144 ?_
              refine ze_nmI (fun x19 => ?_)
              refine ze_istore h [some (.ref 47), some (.int x7), none, some (.int x8), some (.int x9), some (.int x19), some (.int x11), some (.int x13), some (.int x14)] dX7_hutsBy_145 rfl (by decide) rfl ?_
              refine ze_iincN h (fun y9 => [some (.ref 47), some (.int x7), none, some (.int x8), some (.int x9), some (.int x19), some (.int y9), some (.int x13), some (.int x14)]) 1 dX7_hutsBy_147 rfl zk_i_1 rfl (by decide) (fun _ => rfl) (fun x20 => ?_)
              refine ze_goto h 64 dX7_hutsBy_150 (by decide) ?_
              refine zE_weak h [true, true, false, true, true, true, true, false, false] rfl ?_
              exact ih x7 x8 x9 x19 x20 s16
          · refine ze_bipush h (-12) dX7_hutsBy_102 zk_b_m12 ?_
            exact ze_iret hR dX7_hutsBy_104
set_option maxRecDepth 20000 in
theorem c_X7_hutsBy (l : Launch)  (p1 : Int32) (p2 : Int32) (p3 : Int32) (p4 : Int32) (s0 : zMem) : zC l yX7_hutsBy (.code yX7_hutsBy cX7_hutsBy 9 (some .int)) 3 [.ref 47, .int p1, .int p2, .int p3, .int p4] zFull s0 (fun r : Int32 => some (.int r)) (f_X7_hutsBy p1 p2 p3 p4 s0) := by
  refine zC_of (own := RX7) rfl rfl (Nat.le_of_ble_eq_true rfl) [some (.ref 47), some (.int p1), some (.int p2), some (.int p3), some (.int p4), none, none, none, none] rfl (fun G T h hR => ?_)
  unfold f_X7_hutsBy
  refine ze_iload_n h dX7_hutsBy_0 rfl ?_
  refine ze_iconst h 0 dX7_hutsBy_1 zk_i_0 ?_
  refine ze_iconst h 3 dX7_hutsBy_2 zk_i_3 ?_
  refine ze_callSi h (st := []) zce_X7_in zt_X7_in zm_X7_87 (Nat.le_of_ble_eq_true rfl) zkn (c_X7_in l zFull p1 0 3 s0) rfl (Nat.le_of_ble_eq_true rfl) rfl dX7_hutsBy_3 (fun r1 s2 => ?_)
  refine ze_if_eq h 29 dX7_hutsBy_6 (by decide) ?_ ?_
  · refine ze_bipush h (-2) dX7_hutsBy_29 zk_b_m2 ?_
    exact ze_iret hR dX7_hutsBy_31
  · refine ze_iload_n h dX7_hutsBy_9 rfl ?_
    refine ze_iconst h 0 dX7_hutsBy_10 zk_i_0 ?_
    refine ze_iconst h 2 dX7_hutsBy_11 zk_i_2 ?_
    refine ze_callSi h (st := []) zce_X7_in zt_X7_in zm_X7_87 (Nat.le_of_ble_eq_true rfl) zkn (c_X7_in l zFull p2 0 2 s2) rfl (Nat.le_of_ble_eq_true rfl) rfl dX7_hutsBy_12 (fun r3 s4 => ?_)
    refine ze_if_eq h 29 dX7_hutsBy_15 (by decide) ?_ ?_
    · refine ze_bipush h (-2) dX7_hutsBy_29 zk_b_m2 ?_
      exact ze_iret hR dX7_hutsBy_31
    · refine ze_iload h dX7_hutsBy_18 rfl ?_
      refine ze_iconst h 0 dX7_hutsBy_20 zk_i_0 ?_
      refine ze_bipush h 6 dX7_hutsBy_21 zk_b_6 ?_
      refine ze_callSi h (st := []) zce_X7_in zt_X7_in zm_X7_87 (Nat.le_of_ble_eq_true rfl) zkn (c_X7_in l zFull p4 0 6 s4) rfl (Nat.le_of_ble_eq_true rfl) rfl dX7_hutsBy_23 (fun r5 s6 => ?_)
      refine ze_if_ne h 32 dX7_hutsBy_26 (by decide) ?_ ?_
      · refine ze_aload_n h dX7_hutsBy_32 rfl ?_
        refine ze_getR h zl_47 rfl zf_X7_46 dX7_hutsBy_33 ?_
        refine ze_iload_n h dX7_hutsBy_36 rfl ?_
        refine ze_ialdG h zl_60 dX7_hutsBy_37 ?_
        refine ze_iconst h (-1) dX7_hutsBy_38 zk_i_m1 ?_
        refine ze_icmp_ne h 45 dX7_hutsBy_39 (by decide) ?_ ?_
        · refine ze_aload_n h dX7_hutsBy_45 rfl ?_
          refine ze_getR h zl_47 rfl zf_X7_46 dX7_hutsBy_46 ?_
          refine ze_iload_n h dX7_hutsBy_49 rfl ?_
          refine ze_ialdG h zl_60 dX7_hutsBy_50 ?_
          refine ze_iload_n h dX7_hutsBy_51 rfl ?_
          refine ze_icmp_eq h 58 dX7_hutsBy_52 (by decide) ?_ ?_
          · refine ze_iconst h 0 dX7_hutsBy_58 zk_i_0 ?_
            refine ze_istore h [some (.ref 47), some (.int p1), some (.int p2), some (.int p3), some (.int p4), some (.int 0), none, none, none] dX7_hutsBy_59 rfl (by decide) rfl ?_
            refine ze_iconst h 0 dX7_hutsBy_61 zk_i_0 ?_
            refine ze_istore h [some (.ref 47), some (.int p1), some (.int p2), some (.int p3), some (.int p4), some (.int 0), some (.int 0), none, none] dX7_hutsBy_62 rfl (by decide) rfl ?_
            refine zE_weak h [true, true, false, true, true, true, true, false, false] rfl ?_
            exact e_X7_hutsBy_64 h hR  zN p1 p3 p4 0 0 s6
          · refine ze_bipush h (-13) dX7_hutsBy_55 zk_b_m13 ?_
            exact ze_iret hR dX7_hutsBy_57
        · refine ze_bipush h (-11) dX7_hutsBy_42 zk_b_m11 ?_
          exact ze_iret hR dX7_hutsBy_44
      · refine ze_bipush h (-2) dX7_hutsBy_29 zk_b_m2 ?_
        exact ze_iret hR dX7_hutsBy_31
set_option maxRecDepth 20000 in
theorem c_X7_isUnder (l : Launch) (Λ : zLay) (p1 : Int32) (p2 : Int32) (s0 : zMem) : zC l yX7_isUnder (.code yX7_isUnder cX7_isUnder 2 (some .boolean)) 1 [.int p1, .int p2] Λ s0 (fun r : Int32 => some (.int r)) (f_X7_isUnder p1 p2 s0) := by
  refine zC_of (own := RX7) rfl rfl (Nat.le_of_ble_eq_true rfl) [some (.int p1), some (.int p2)] rfl (fun G T h hR => ?_)
  unfold f_X7_isUnder
  refine ze_iload_n h dX7_isUnder_0 rfl ?_
  refine ze_if_eq h 29 dX7_isUnder_1 (by decide) ?_ ?_
  · refine ze_iconst h 1 dX7_isUnder_29 zk_i_1 ?_
    refine ze_goto h 34 dX7_isUnder_30 (by decide) ?_
    exact ze_zret hR rfl dX7_isUnder_34
  · refine ze_iload_n h dX7_isUnder_4 rfl ?_
    refine ze_iload_n h dX7_isUnder_5 rfl ?_
    refine ze_icmp_eq h 29 dX7_isUnder_6 (by decide) ?_ ?_
    · refine ze_iconst h 1 dX7_isUnder_29 zk_i_1 ?_
      refine ze_goto h 34 dX7_isUnder_30 (by decide) ?_
      exact ze_zret hR rfl dX7_isUnder_34
    · refine ze_iload_n h dX7_isUnder_9 rfl ?_
      refine ze_iconst h 1 dX7_isUnder_10 zk_i_1 ?_
      refine ze_icmp_ne h 19 dX7_isUnder_11 (by decide) ?_ ?_
      · refine ze_iload_n h dX7_isUnder_19 rfl ?_
        refine ze_iconst h 2 dX7_isUnder_20 zk_i_2 ?_
        refine ze_icmp_ne h 33 dX7_isUnder_21 (by decide) ?_ ?_
        · refine ze_iconst h 0 dX7_isUnder_33 zk_i_0 ?_
          exact ze_zret hR rfl dX7_isUnder_34
        · refine ze_iload_n h dX7_isUnder_24 rfl ?_
          refine ze_iconst h 4 dX7_isUnder_25 zk_i_4 ?_
          refine ze_icmp_ne h 33 dX7_isUnder_26 (by decide) ?_ ?_
          · refine ze_iconst h 0 dX7_isUnder_33 zk_i_0 ?_
            exact ze_zret hR rfl dX7_isUnder_34
          · refine ze_iconst h 1 dX7_isUnder_29 zk_i_1 ?_
            refine ze_goto h 34 dX7_isUnder_30 (by decide) ?_
            exact ze_zret hR rfl dX7_isUnder_34
      · refine ze_iload_n h dX7_isUnder_14 rfl ?_
        refine ze_iconst h 3 dX7_isUnder_15 zk_i_3 ?_
        refine ze_icmp_eq h 29 dX7_isUnder_16 (by decide) ?_ ?_
        · refine ze_iconst h 1 dX7_isUnder_29 zk_i_1 ?_
          refine ze_goto h 34 dX7_isUnder_30 (by decide) ?_
          exact ze_zret hR rfl dX7_isUnder_34
        · refine ze_iload_n h dX7_isUnder_19 rfl ?_
          refine ze_iconst h 2 dX7_isUnder_20 zk_i_2 ?_
          refine ze_icmp_ne h 33 dX7_isUnder_21 (by decide) ?_ ?_
          · refine ze_iconst h 0 dX7_isUnder_33 zk_i_0 ?_
            exact ze_zret hR rfl dX7_isUnder_34
          · refine ze_iload_n h dX7_isUnder_24 rfl ?_
            refine ze_iconst h 4 dX7_isUnder_25 zk_i_4 ?_
            refine ze_icmp_ne h 33 dX7_isUnder_26 (by decide) ?_ ?_
            · refine ze_iconst h 0 dX7_isUnder_33 zk_i_0 ?_
              exact ze_zret hR rfl dX7_isUnder_34
            · refine ze_iconst h 1 dX7_isUnder_29 zk_i_1 ?_
              refine ze_goto h 34 dX7_isUnder_30 (by decide) ?_
              exact ze_zret hR rfl dX7_isUnder_34
set_option maxRecDepth 20000 in
theorem c_X7_taken (l : Launch)  (p1 : Int32) (p2 : Int32) (s0 : zMem) : zC l yX7_taken (.code yX7_taken cX7_taken 3 (some .int)) 2 [.ref 47, .int p1, .int p2] zFull s0 (fun r : Int32 => some (.int r)) (f_X7_taken p1 p2 s0) := by
  refine zC_of (own := RX7) rfl rfl (Nat.le_of_ble_eq_true rfl) [some (.ref 47), some (.int p1), some (.int p2)] rfl (fun G T h hR => ?_)
  unfold f_X7_taken
  refine ze_iload_n h dX7_taken_0 rfl ?_
  refine ze_iconst h 0 dX7_taken_1 zk_i_0 ?_
  refine ze_bipush h 6 dX7_taken_2 zk_b_6 ?_
  refine ze_callSi h (st := []) zce_X7_in zt_X7_in zm_X7_87 (Nat.le_of_ble_eq_true rfl) zkn (c_X7_in l zFull p2 0 6 s0) rfl (Nat.le_of_ble_eq_true rfl) rfl dX7_taken_4 (fun r1 s2 => ?_)
  refine ze_if_ne h 13 dX7_taken_7 (by decide) ?_ ?_
  · refine ze_iload_n h dX7_taken_13 rfl ?_
    refine ze_iconst h 0 dX7_taken_14 zk_i_0 ?_
    refine ze_bipush h 11 dX7_taken_15 zk_b_11 ?_
    refine ze_callSi h (st := []) zce_X7_in zt_X7_in zm_X7_87 (Nat.le_of_ble_eq_true rfl) zkn (c_X7_in l zFull p1 0 11 s2) rfl (Nat.le_of_ble_eq_true rfl) rfl dX7_taken_17 (fun r3 s4 => ?_)
    refine ze_if_ne h 26 dX7_taken_20 (by decide) ?_ ?_
    · refine ze_iload_n h dX7_taken_26 rfl ?_
      refine ze_bipush h 6 dX7_taken_27 zk_b_6 ?_
      refine ze_irem h dX7_taken_29 (by decide) ?_
      refine ze_aload_n h dX7_taken_30 rfl ?_
      refine ze_getI h zl_47 rfl zf_X7_84 dX7_taken_31 ?_
      refine ze_icmp_lt h 40 dX7_taken_34 (by decide) ?_ ?_
      · refine ze_iload_n h dX7_taken_40 rfl ?_
        refine ze_bipush h 6 dX7_taken_41 zk_b_6 ?_
        refine ze_icmp_lt h 69 dX7_taken_43 (by decide) ?_ ?_
        · refine ze_iload_n h dX7_taken_69 rfl ?_
          refine ze_bipush h 6 dX7_taken_70 zk_b_6 ?_
          refine ze_icmp_ge h 92 dX7_taken_72 (by decide) ?_ ?_
          · refine ze_bipush h (-13) dX7_taken_92 zk_b_m13 ?_
            exact ze_iret hR dX7_taken_94
          · refine ze_aload_n h dX7_taken_75 rfl ?_
            refine ze_getR h zl_47 rfl zf_X7_7 dX7_taken_76 ?_
            refine ze_iload_n h dX7_taken_79 rfl ?_
            refine ze_ialdG h zl_48 dX7_taken_80 ?_
            refine ze_iload_n h dX7_taken_81 rfl ?_
            refine ze_callSi h (st := []) zce_X7_isUnder zt_X7_isUnder zm_X7_279 (Nat.le_of_ble_eq_true rfl) zkn (c_X7_isUnder l zFull (s4 48 (zix p1)) p2 s4) rfl (Nat.le_of_ble_eq_true rfl) rfl dX7_taken_82 (fun r5 s6 => ?_)
            refine ze_if_eq h 92 dX7_taken_85 (by decide) ?_ ?_
            · refine ze_bipush h (-13) dX7_taken_92 zk_b_m13 ?_
              exact ze_iret hR dX7_taken_94
            · refine ze_iload_n h dX7_taken_88 rfl ?_
              refine ze_goto h 94 dX7_taken_89 (by decide) ?_
              exact ze_iret hR dX7_taken_94
        · refine ze_iload_n h dX7_taken_46 rfl ?_
          refine ze_bipush h 6 dX7_taken_47 zk_b_6 ?_
          refine ze_icmp_ne h 66 dX7_taken_49 (by decide) ?_ ?_
          · refine ze_bipush h (-13) dX7_taken_66 zk_b_m13 ?_
            exact ze_iret hR dX7_taken_68
          · refine ze_aload_n h dX7_taken_52 rfl ?_
            refine ze_getR h zl_47 rfl zf_X7_16 dX7_taken_53 ?_
            refine ze_iconst h 3 dX7_taken_56 zk_i_3 ?_
            refine ze_iload_n h dX7_taken_57 rfl ?_
            refine ze_bipush h 6 dX7_taken_58 zk_b_6 ?_
            refine ze_isub h dX7_taken_60 ?_
            refine ze_imul h dX7_taken_61 ?_
            refine ze_ialdG h zl_50 dX7_taken_62 ?_
            refine ze_goto h 68 dX7_taken_63 (by decide) ?_
            exact ze_iret hR dX7_taken_68
      · refine ze_bipush h (-11) dX7_taken_37 zk_b_m11 ?_
        exact ze_iret hR dX7_taken_39
    · refine ze_bipush h (-12) dX7_taken_23 zk_b_m12 ?_
      exact ze_iret hR dX7_taken_25
  · refine ze_bipush h (-2) dX7_taken_10 zk_b_m2 ?_
    exact ze_iret hR dX7_taken_12
