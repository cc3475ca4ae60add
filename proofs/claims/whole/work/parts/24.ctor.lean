set_option maxRecDepth 20000 in
set_option maxHeartbeats 4000000 in
theorem c_X4_init (l : Launch) (s0 : zMem) : zCI l yX4_init (.code yX4_init cX4_init 1 none) 2 3 1138 [.ref 1] zY_1 s0 zY_7 (f_X4_init  s0) := by
  refine zCI_of (own := RX4) rfl rfl rfl (Nat.le_of_ble_eq_true rfl) [some (.ref 1)] rfl (fun G T h hR => ?_)
  unfold f_X4_init
  refine ze_aload_n h dX4_init_0 rfl ?_
  refine ze_obj h (Nat.le_of_ble_eq_true rfl) zm_X4_3 zw_oi zw_oc (Nat.le_of_ble_eq_true rfl) dX4_init_1 ?_
  refine ze_aload_n h dX4_init_4 rfl ?_
  refine ze_sipush h 960 dX4_init_5 zk_s_960 ?_
  refine ze_newa h zw_arr (by decide) zk_z_960 (Nat.le_of_ble_eq_true rfl) rfl (Nat.le_of_ble_eq_true rfl) ⟨Nat.le_of_ble_eq_true rfl, Nat.le_of_ble_eq_true rfl⟩ dX4_init_8 ?_
  refine ze_nmS (fun s1 => ?_)
  refine ze_lam zY_2 1 960 rfl rfl rfl ?_
  refine ze_putRF h rfl (Nat.le_of_ble_eq_true rfl) zf_X4_9 rfl (zho rfl rfl) (fun _ => rfl) (fun _ => rfl) dX4_init_10 ?_
  refine ze_lam zY_3 1 960 rfl rfl rfl ?_
  refine ze_aload_n h dX4_init_13 rfl ?_
  refine ze_bipush h 18 dX4_init_14 zk_b_18 ?_
  refine ze_newa h zw_arr (by decide) zk_z_18 (Nat.le_of_ble_eq_true rfl) rfl (Nat.le_of_ble_eq_true rfl) ⟨Nat.le_of_ble_eq_true rfl, Nat.le_of_ble_eq_true rfl⟩ dX4_init_16 ?_
  refine ze_nmS (fun s2 => ?_)
  refine ze_lam zY_4 2 978 rfl rfl rfl ?_
  refine ze_putRF h rfl (Nat.le_of_ble_eq_true rfl) zf_X4_15 rfl (zho rfl rfl) (fun _ => rfl) (fun _ => rfl) dX4_init_18 ?_
  refine ze_lam zY_5 2 978 rfl rfl rfl ?_
  refine ze_aload_n h dX4_init_21 rfl ?_
  refine ze_sipush h 160 dX4_init_22 zk_s_160 ?_
  refine ze_newa h zw_arr (by decide) zk_z_160 (Nat.le_of_ble_eq_true rfl) rfl (Nat.le_of_ble_eq_true rfl) ⟨Nat.le_of_ble_eq_true rfl, Nat.le_of_ble_eq_true rfl⟩ dX4_init_25 ?_
  refine ze_nmS (fun s3 => ?_)
  refine ze_lam zY_6 3 1138 rfl rfl rfl ?_
  refine ze_pc 27 rfl ?_
  refine ze_putRF h rfl (Nat.le_of_ble_eq_true rfl) zf_X4_18 rfl (zho rfl rfl) (fun _ => rfl) (fun _ => rfl) dX4_init_27 ?_
  refine ze_lam zY_7 3 1138 rfl rfl rfl ?_
  exact ze_vret hR dX4_init_30
set_option maxRecDepth 20000 in
set_option maxHeartbeats 4000000 in
theorem c_X2_init (l : Launch) (s0 : zMem) : zCI l yX2_init (.code yX2_init cX2_init 1 none) 2 3 323 [.ref 5] zY_9 s0 zY_15 (f_X2_init  s0) := by
  refine zCI_of (own := RX2) rfl rfl rfl (Nat.le_of_ble_eq_true rfl) [some (.ref 5)] rfl (fun G T h hR => ?_)
  unfold f_X2_init
  refine ze_aload_n h dX2_init_0 rfl ?_
  refine ze_obj h (Nat.le_of_ble_eq_true rfl) zm_X2_3 zw_oi zw_oc (Nat.le_of_ble_eq_true rfl) dX2_init_1 ?_
  refine ze_aload_n h dX2_init_4 rfl ?_
  refine ze_sipush h 160 dX2_init_5 zk_s_160 ?_
  refine ze_newa h zw_arr (by decide) zk_z_160 (Nat.le_of_ble_eq_true rfl) rfl (Nat.le_of_ble_eq_true rfl) ⟨Nat.le_of_ble_eq_true rfl, Nat.le_of_ble_eq_true rfl⟩ dX2_init_8 ?_
  refine ze_nmS (fun s1 => ?_)
  refine ze_lam zY_10 1 160 rfl rfl rfl ?_
  refine ze_putRF h rfl (Nat.le_of_ble_eq_true rfl) zf_X2_9 rfl (zho rfl rfl) (fun _ => rfl) (fun _ => rfl) dX2_init_10 ?_
  refine ze_lam zY_11 1 160 rfl rfl rfl ?_
  refine ze_aload_n h dX2_init_13 rfl ?_
  refine ze_sipush h 160 dX2_init_14 zk_s_160 ?_
  refine ze_newa h zw_arr (by decide) zk_z_160 (Nat.le_of_ble_eq_true rfl) rfl (Nat.le_of_ble_eq_true rfl) ⟨Nat.le_of_ble_eq_true rfl, Nat.le_of_ble_eq_true rfl⟩ dX2_init_17 ?_
  refine ze_nmS (fun s2 => ?_)
  refine ze_lam zY_12 2 320 rfl rfl rfl ?_
  refine ze_putRF h rfl (Nat.le_of_ble_eq_true rfl) zf_X2_15 rfl (zho rfl rfl) (fun _ => rfl) (fun _ => rfl) dX2_init_19 ?_
  refine ze_lam zY_13 2 320 rfl rfl rfl ?_
  refine ze_aload_n h dX2_init_22 rfl ?_
  refine ze_iconst h 3 dX2_init_23 zk_i_3 ?_
  refine ze_newa h zw_arr (by decide) zk_z_3 (Nat.le_of_ble_eq_true rfl) rfl (Nat.le_of_ble_eq_true rfl) ⟨Nat.le_of_ble_eq_true rfl, Nat.le_of_ble_eq_true rfl⟩ dX2_init_24 ?_
  refine ze_nmS (fun s3 => ?_)
  refine ze_lam zY_14 3 323 rfl rfl rfl ?_
  refine ze_pc 26 rfl ?_
  refine ze_putRF h rfl (Nat.le_of_ble_eq_true rfl) zf_X2_18 rfl (zho rfl rfl) (fun _ => rfl) (fun _ => rfl) dX2_init_26 ?_
  refine ze_lam zY_15 3 323 rfl rfl rfl ?_
  exact ze_vret hR dX2_init_29
set_option maxRecDepth 20000 in
set_option maxHeartbeats 4000000 in
theorem c_X5_init_9 (l : Launch) (s0 : zMem) : zCI l yX5_init (.code yX5_init cX5_init 2 none) 2 10 76 [.ref 9, .ref 1] zY_17 s0 zY_38 (f_X5_init_9  s0) := by
  refine zCI_of (own := RX5) rfl rfl rfl (Nat.le_of_ble_eq_true rfl) [some (.ref 9), some (.ref 1)] rfl (fun G T h hR => ?_)
  unfold f_X5_init_9
  refine ze_aload_n h dX5_init_0 rfl ?_
  refine ze_obj h (Nat.le_of_ble_eq_true rfl) zm_X5_3 zw_oi zw_oc (Nat.le_of_ble_eq_true rfl) dX5_init_1 ?_
  refine ze_aload_n h dX5_init_4 rfl ?_
  refine ze_bipush h 6 dX5_init_5 zk_b_6 ?_
  refine ze_newa h zw_arr (by decide) zk_z_6 (Nat.le_of_ble_eq_true rfl) rfl (Nat.le_of_ble_eq_true rfl) ⟨Nat.le_of_ble_eq_true rfl, Nat.le_of_ble_eq_true rfl⟩ dX5_init_7 ?_
  refine ze_nmS (fun s1 => ?_)
  refine ze_lam zY_18 1 6 rfl rfl rfl ?_
  refine ze_putRF h rfl (Nat.le_of_ble_eq_true rfl) zf_X5_9 rfl (zho rfl rfl) (fun _ => rfl) (fun _ => rfl) dX5_init_9 ?_
  refine ze_lam zY_19 1 6 rfl rfl rfl ?_
  refine ze_aload_n h dX5_init_12 rfl ?_
  refine ze_bipush h 6 dX5_init_13 zk_b_6 ?_
  refine ze_newa h zw_arr (by decide) zk_z_6 (Nat.le_of_ble_eq_true rfl) rfl (Nat.le_of_ble_eq_true rfl) ⟨Nat.le_of_ble_eq_true rfl, Nat.le_of_ble_eq_true rfl⟩ dX5_init_15 ?_
  refine ze_nmS (fun s2 => ?_)
  refine ze_lam zY_20 2 12 rfl rfl rfl ?_
  refine ze_putRF h rfl (Nat.le_of_ble_eq_true rfl) zf_X5_15 rfl (zho rfl rfl) (fun _ => rfl) (fun _ => rfl) dX5_init_17 ?_
  refine ze_lam zY_21 2 12 rfl rfl rfl ?_
  refine ze_aload_n h dX5_init_20 rfl ?_
  refine ze_bipush h 6 dX5_init_21 zk_b_6 ?_
  refine ze_newa h zw_arr (by decide) zk_z_6 (Nat.le_of_ble_eq_true rfl) rfl (Nat.le_of_ble_eq_true rfl) ⟨Nat.le_of_ble_eq_true rfl, Nat.le_of_ble_eq_true rfl⟩ dX5_init_23 ?_
  refine ze_nmS (fun s3 => ?_)
  refine ze_lam zY_22 3 18 rfl rfl rfl ?_
  refine ze_pc 25 rfl ?_
  refine ze_putRF h rfl (Nat.le_of_ble_eq_true rfl) zf_X5_18 rfl (zho rfl rfl) (fun _ => rfl) (fun _ => rfl) dX5_init_25 ?_
  refine ze_lam zY_23 3 18 rfl rfl rfl ?_
  refine ze_aload_n h dX5_init_28 rfl ?_
  refine ze_bipush h 6 dX5_init_29 zk_b_6 ?_
  refine ze_newa h zw_arr (by decide) zk_z_6 (Nat.le_of_ble_eq_true rfl) rfl (Nat.le_of_ble_eq_true rfl) ⟨Nat.le_of_ble_eq_true rfl, Nat.le_of_ble_eq_true rfl⟩ dX5_init_31 ?_
  refine ze_nmS (fun s4 => ?_)
  refine ze_lam zY_24 4 24 rfl rfl rfl ?_
  refine ze_putRF h rfl (Nat.le_of_ble_eq_true rfl) zf_X5_21 rfl (zho rfl rfl) (fun _ => rfl) (fun _ => rfl) dX5_init_33 ?_
  refine ze_lam zY_25 4 24 rfl rfl rfl ?_
  refine ze_aload_n h dX5_init_36 rfl ?_
  refine ze_bipush h 6 dX5_init_37 zk_b_6 ?_
  refine ze_newa h zw_arr (by decide) zk_z_6 (Nat.le_of_ble_eq_true rfl) rfl (Nat.le_of_ble_eq_true rfl) ⟨Nat.le_of_ble_eq_true rfl, Nat.le_of_ble_eq_true rfl⟩ dX5_init_39 ?_
  refine ze_nmS (fun s5 => ?_)
  refine ze_lam zY_26 5 30 rfl rfl rfl ?_
  refine ze_putRF h rfl (Nat.le_of_ble_eq_true rfl) zf_X5_24 rfl (zho rfl rfl) (fun _ => rfl) (fun _ => rfl) dX5_init_41 ?_
  refine ze_lam zY_27 5 30 rfl rfl rfl ?_
  refine ze_aload_n h dX5_init_44 rfl ?_
  refine ze_bipush h 10 dX5_init_45 zk_b_10 ?_
  refine ze_newa h zw_arr (by decide) zk_z_10 (Nat.le_of_ble_eq_true rfl) rfl (Nat.le_of_ble_eq_true rfl) ⟨Nat.le_of_ble_eq_true rfl, Nat.le_of_ble_eq_true rfl⟩ dX5_init_47 ?_
  refine ze_nmS (fun s6 => ?_)
  refine ze_lam zY_28 6 40 rfl rfl rfl ?_
  refine ze_putRF h rfl (Nat.le_of_ble_eq_true rfl) zf_X5_27 rfl (zho rfl rfl) (fun _ => rfl) (fun _ => rfl) dX5_init_49 ?_
  refine ze_lam zY_29 6 40 rfl rfl rfl ?_
  refine ze_aload_n h dX5_init_52 rfl ?_
  refine ze_pc 53 rfl ?_
  refine ze_bipush h 10 dX5_init_53 zk_b_10 ?_
  refine ze_newa h zw_arr (by decide) zk_z_10 (Nat.le_of_ble_eq_true rfl) rfl (Nat.le_of_ble_eq_true rfl) ⟨Nat.le_of_ble_eq_true rfl, Nat.le_of_ble_eq_true rfl⟩ dX5_init_55 ?_
  refine ze_nmS (fun s7 => ?_)
  refine ze_lam zY_30 7 50 rfl rfl rfl ?_
  refine ze_putRF h rfl (Nat.le_of_ble_eq_true rfl) zf_X5_30 rfl (zho rfl rfl) (fun _ => rfl) (fun _ => rfl) dX5_init_57 ?_
  refine ze_lam zY_31 7 50 rfl rfl rfl ?_
  refine ze_aload_n h dX5_init_60 rfl ?_
  refine ze_bipush h 10 dX5_init_61 zk_b_10 ?_
  refine ze_newa h zw_arr (by decide) zk_z_10 (Nat.le_of_ble_eq_true rfl) rfl (Nat.le_of_ble_eq_true rfl) ⟨Nat.le_of_ble_eq_true rfl, Nat.le_of_ble_eq_true rfl⟩ dX5_init_63 ?_
  refine ze_nmS (fun s8 => ?_)
  refine ze_lam zY_32 8 60 rfl rfl rfl ?_
  refine ze_putRF h rfl (Nat.le_of_ble_eq_true rfl) zf_X5_33 rfl (zho rfl rfl) (fun _ => rfl) (fun _ => rfl) dX5_init_65 ?_
  refine ze_lam zY_33 8 60 rfl rfl rfl ?_
  refine ze_aload_n h dX5_init_68 rfl ?_
  refine ze_bipush h 10 dX5_init_69 zk_b_10 ?_
  refine ze_newa h zw_arr (by decide) zk_z_10 (Nat.le_of_ble_eq_true rfl) rfl (Nat.le_of_ble_eq_true rfl) ⟨Nat.le_of_ble_eq_true rfl, Nat.le_of_ble_eq_true rfl⟩ dX5_init_71 ?_
  refine ze_nmS (fun s9 => ?_)
  refine ze_lam zY_34 9 70 rfl rfl rfl ?_
  refine ze_putRF h rfl (Nat.le_of_ble_eq_true rfl) zf_X5_36 rfl (zho rfl rfl) (fun _ => rfl) (fun _ => rfl) dX5_init_73 ?_
  refine ze_lam zY_35 9 70 rfl rfl rfl ?_
  refine ze_aload_n h dX5_init_76 rfl ?_
  refine ze_bipush h 6 dX5_init_77 zk_b_6 ?_
  refine ze_newa h zw_arr (by decide) zk_z_6 (Nat.le_of_ble_eq_true rfl) rfl (Nat.le_of_ble_eq_true rfl) ⟨Nat.le_of_ble_eq_true rfl, Nat.le_of_ble_eq_true rfl⟩ dX5_init_79 ?_
  refine ze_nmS (fun s10 => ?_)
  refine ze_lam zY_36 10 76 rfl rfl rfl ?_
  refine ze_pc 81 rfl ?_
  refine ze_putRF h rfl (Nat.le_of_ble_eq_true rfl) zf_X5_41 rfl (zho rfl rfl) (fun _ => rfl) (fun _ => rfl) dX5_init_81 ?_
  refine ze_lam zY_37 10 76 rfl rfl rfl ?_
  refine ze_aload_n h dX5_init_84 rfl ?_
  refine ze_aload_n h dX5_init_85 rfl ?_
  refine ze_putRF h rfl (Nat.le_of_ble_eq_true rfl) zf_X5_44 rfl (zho rfl rfl) (fun _ => rfl) (fun _ => rfl) dX5_init_86 ?_
  refine ze_lam zY_38 10 76 rfl rfl rfl ?_
  exact ze_vret hR dX5_init_89
set_option maxRecDepth 20000 in
set_option maxHeartbeats 4000000 in
theorem c_X5_init_20 (l : Launch) (s0 : zMem) : zCI l yX5_init (.code yX5_init cX5_init 2 none) 2 10 76 [.ref 20, .ref 1] zY_40 s0 zY_61 (f_X5_init_20  s0) := by
  refine zCI_of (own := RX5) rfl rfl rfl (Nat.le_of_ble_eq_true rfl) [some (.ref 20), some (.ref 1)] rfl (fun G T h hR => ?_)
  unfold f_X5_init_20
  refine ze_aload_n h dX5_init_0 rfl ?_
  refine ze_obj h (Nat.le_of_ble_eq_true rfl) zm_X5_3 zw_oi zw_oc (Nat.le_of_ble_eq_true rfl) dX5_init_1 ?_
  refine ze_aload_n h dX5_init_4 rfl ?_
  refine ze_bipush h 6 dX5_init_5 zk_b_6 ?_
  refine ze_newa h zw_arr (by decide) zk_z_6 (Nat.le_of_ble_eq_true rfl) rfl (Nat.le_of_ble_eq_true rfl) ⟨Nat.le_of_ble_eq_true rfl, Nat.le_of_ble_eq_true rfl⟩ dX5_init_7 ?_
  refine ze_nmS (fun s1 => ?_)
  refine ze_lam zY_41 1 6 rfl rfl rfl ?_
  refine ze_putRF h rfl (Nat.le_of_ble_eq_true rfl) zf_X5_9 rfl (zho rfl rfl) (fun _ => rfl) (fun _ => rfl) dX5_init_9 ?_
  refine ze_lam zY_42 1 6 rfl rfl rfl ?_
  refine ze_aload_n h dX5_init_12 rfl ?_
  refine ze_bipush h 6 dX5_init_13 zk_b_6 ?_
  refine ze_newa h zw_arr (by decide) zk_z_6 (Nat.le_of_ble_eq_true rfl) rfl (Nat.le_of_ble_eq_true rfl) ⟨Nat.le_of_ble_eq_true rfl, Nat.le_of_ble_eq_true rfl⟩ dX5_init_15 ?_
  refine ze_nmS (fun s2 => ?_)
  refine ze_lam zY_43 2 12 rfl rfl rfl ?_
  refine ze_putRF h rfl (Nat.le_of_ble_eq_true rfl) zf_X5_15 rfl (zho rfl rfl) (fun _ => rfl) (fun _ => rfl) dX5_init_17 ?_
  refine ze_lam zY_44 2 12 rfl rfl rfl ?_
  refine ze_aload_n h dX5_init_20 rfl ?_
  refine ze_bipush h 6 dX5_init_21 zk_b_6 ?_
  refine ze_newa h zw_arr (by decide) zk_z_6 (Nat.le_of_ble_eq_true rfl) rfl (Nat.le_of_ble_eq_true rfl) ⟨Nat.le_of_ble_eq_true rfl, Nat.le_of_ble_eq_true rfl⟩ dX5_init_23 ?_
  refine ze_nmS (fun s3 => ?_)
  refine ze_lam zY_45 3 18 rfl rfl rfl ?_
  refine ze_pc 25 rfl ?_
  refine ze_putRF h rfl (Nat.le_of_ble_eq_true rfl) zf_X5_18 rfl (zho rfl rfl) (fun _ => rfl) (fun _ => rfl) dX5_init_25 ?_
  refine ze_lam zY_46 3 18 rfl rfl rfl ?_
  refine ze_aload_n h dX5_init_28 rfl ?_
  refine ze_bipush h 6 dX5_init_29 zk_b_6 ?_
  refine ze_newa h zw_arr (by decide) zk_z_6 (Nat.le_of_ble_eq_true rfl) rfl (Nat.le_of_ble_eq_true rfl) ⟨Nat.le_of_ble_eq_true rfl, Nat.le_of_ble_eq_true rfl⟩ dX5_init_31 ?_
  refine ze_nmS (fun s4 => ?_)
  refine ze_lam zY_47 4 24 rfl rfl rfl ?_
  refine ze_putRF h rfl (Nat.le_of_ble_eq_true rfl) zf_X5_21 rfl (zho rfl rfl) (fun _ => rfl) (fun _ => rfl) dX5_init_33 ?_
  refine ze_lam zY_48 4 24 rfl rfl rfl ?_
  refine ze_aload_n h dX5_init_36 rfl ?_
  refine ze_bipush h 6 dX5_init_37 zk_b_6 ?_
  refine ze_newa h zw_arr (by decide) zk_z_6 (Nat.le_of_ble_eq_true rfl) rfl (Nat.le_of_ble_eq_true rfl) ⟨Nat.le_of_ble_eq_true rfl, Nat.le_of_ble_eq_true rfl⟩ dX5_init_39 ?_
  refine ze_nmS (fun s5 => ?_)
  refine ze_lam zY_49 5 30 rfl rfl rfl ?_
  refine ze_putRF h rfl (Nat.le_of_ble_eq_true rfl) zf_X5_24 rfl (zho rfl rfl) (fun _ => rfl) (fun _ => rfl) dX5_init_41 ?_
  refine ze_lam zY_50 5 30 rfl rfl rfl ?_
  refine ze_aload_n h dX5_init_44 rfl ?_
  refine ze_bipush h 10 dX5_init_45 zk_b_10 ?_
  refine ze_newa h zw_arr (by decide) zk_z_10 (Nat.le_of_ble_eq_true rfl) rfl (Nat.le_of_ble_eq_true rfl) ⟨Nat.le_of_ble_eq_true rfl, Nat.le_of_ble_eq_true rfl⟩ dX5_init_47 ?_
  refine ze_nmS (fun s6 => ?_)
  refine ze_lam zY_51 6 40 rfl rfl rfl ?_
  refine ze_putRF h rfl (Nat.le_of_ble_eq_true rfl) zf_X5_27 rfl (zho rfl rfl) (fun _ => rfl) (fun _ => rfl) dX5_init_49 ?_
  refine ze_lam zY_52 6 40 rfl rfl rfl ?_
  refine ze_aload_n h dX5_init_52 rfl ?_
  refine ze_pc 53 rfl ?_
  refine ze_bipush h 10 dX5_init_53 zk_b_10 ?_
  refine ze_newa h zw_arr (by decide) zk_z_10 (Nat.le_of_ble_eq_true rfl) rfl (Nat.le_of_ble_eq_true rfl) ⟨Nat.le_of_ble_eq_true rfl, Nat.le_of_ble_eq_true rfl⟩ dX5_init_55 ?_
  refine ze_nmS (fun s7 => ?_)
  refine ze_lam zY_53 7 50 rfl rfl rfl ?_
  refine ze_putRF h rfl (Nat.le_of_ble_eq_true rfl) zf_X5_30 rfl (zho rfl rfl) (fun _ => rfl) (fun _ => rfl) dX5_init_57 ?_
  refine ze_lam zY_54 7 50 rfl rfl rfl ?_
  refine ze_aload_n h dX5_init_60 rfl ?_
  refine ze_bipush h 10 dX5_init_61 zk_b_10 ?_
  refine ze_newa h zw_arr (by decide) zk_z_10 (Nat.le_of_ble_eq_true rfl) rfl (Nat.le_of_ble_eq_true rfl) ⟨Nat.le_of_ble_eq_true rfl, Nat.le_of_ble_eq_true rfl⟩ dX5_init_63 ?_
  refine ze_nmS (fun s8 => ?_)
  refine ze_lam zY_55 8 60 rfl rfl rfl ?_
  refine ze_putRF h rfl (Nat.le_of_ble_eq_true rfl) zf_X5_33 rfl (zho rfl rfl) (fun _ => rfl) (fun _ => rfl) dX5_init_65 ?_
  refine ze_lam zY_56 8 60 rfl rfl rfl ?_
  refine ze_aload_n h dX5_init_68 rfl ?_
  refine ze_bipush h 10 dX5_init_69 zk_b_10 ?_
  refine ze_newa h zw_arr (by decide) zk_z_10 (Nat.le_of_ble_eq_true rfl) rfl (Nat.le_of_ble_eq_true rfl) ⟨Nat.le_of_ble_eq_true rfl, Nat.le_of_ble_eq_true rfl⟩ dX5_init_71 ?_
  refine ze_nmS (fun s9 => ?_)
  refine ze_lam zY_57 9 70 rfl rfl rfl ?_
  refine ze_putRF h rfl (Nat.le_of_ble_eq_true rfl) zf_X5_36 rfl (zho rfl rfl) (fun _ => rfl) (fun _ => rfl) dX5_init_73 ?_
  refine ze_lam zY_58 9 70 rfl rfl rfl ?_
  refine ze_aload_n h dX5_init_76 rfl ?_
  refine ze_bipush h 6 dX5_init_77 zk_b_6 ?_
  refine ze_newa h zw_arr (by decide) zk_z_6 (Nat.le_of_ble_eq_true rfl) rfl (Nat.le_of_ble_eq_true rfl) ⟨Nat.le_of_ble_eq_true rfl, Nat.le_of_ble_eq_true rfl⟩ dX5_init_79 ?_
  refine ze_nmS (fun s10 => ?_)
  refine ze_lam zY_59 10 76 rfl rfl rfl ?_
  refine ze_pc 81 rfl ?_
  refine ze_putRF h rfl (Nat.le_of_ble_eq_true rfl) zf_X5_41 rfl (zho rfl rfl) (fun _ => rfl) (fun _ => rfl) dX5_init_81 ?_
  refine ze_lam zY_60 10 76 rfl rfl rfl ?_
  refine ze_aload_n h dX5_init_84 rfl ?_
  refine ze_aload_n h dX5_init_85 rfl ?_
  refine ze_putRF h rfl (Nat.le_of_ble_eq_true rfl) zf_X5_44 rfl (zho rfl rfl) (fun _ => rfl) (fun _ => rfl) dX5_init_86 ?_
  refine ze_lam zY_61 10 76 rfl rfl rfl ?_
  exact ze_vret hR dX5_init_89
set_option maxRecDepth 20000 in
set_option maxHeartbeats 4000000 in
theorem c_X5_init_31 (l : Launch) (s0 : zMem) : zCI l yX5_init (.code yX5_init cX5_init 2 none) 2 10 76 [.ref 31, .ref 1] zY_63 s0 zY_84 (f_X5_init_31  s0) := by
  refine zCI_of (own := RX5) rfl rfl rfl (Nat.le_of_ble_eq_true rfl) [some (.ref 31), some (.ref 1)] rfl (fun G T h hR => ?_)
  unfold f_X5_init_31
  refine ze_aload_n h dX5_init_0 rfl ?_
  refine ze_obj h (Nat.le_of_ble_eq_true rfl) zm_X5_3 zw_oi zw_oc (Nat.le_of_ble_eq_true rfl) dX5_init_1 ?_
  refine ze_aload_n h dX5_init_4 rfl ?_
  refine ze_bipush h 6 dX5_init_5 zk_b_6 ?_
  refine ze_newa h zw_arr (by decide) zk_z_6 (Nat.le_of_ble_eq_true rfl) rfl (Nat.le_of_ble_eq_true rfl) ⟨Nat.le_of_ble_eq_true rfl, Nat.le_of_ble_eq_true rfl⟩ dX5_init_7 ?_
  refine ze_nmS (fun s1 => ?_)
  refine ze_lam zY_64 1 6 rfl rfl rfl ?_
  refine ze_putRF h rfl (Nat.le_of_ble_eq_true rfl) zf_X5_9 rfl (zho rfl rfl) (fun _ => rfl) (fun _ => rfl) dX5_init_9 ?_
  refine ze_lam zY_65 1 6 rfl rfl rfl ?_
  refine ze_aload_n h dX5_init_12 rfl ?_
  refine ze_bipush h 6 dX5_init_13 zk_b_6 ?_
  refine ze_newa h zw_arr (by decide) zk_z_6 (Nat.le_of_ble_eq_true rfl) rfl (Nat.le_of_ble_eq_true rfl) ⟨Nat.le_of_ble_eq_true rfl, Nat.le_of_ble_eq_true rfl⟩ dX5_init_15 ?_
  refine ze_nmS (fun s2 => ?_)
  refine ze_lam zY_66 2 12 rfl rfl rfl ?_
  refine ze_putRF h rfl (Nat.le_of_ble_eq_true rfl) zf_X5_15 rfl (zho rfl rfl) (fun _ => rfl) (fun _ => rfl) dX5_init_17 ?_
  refine ze_lam zY_67 2 12 rfl rfl rfl ?_
  refine ze_aload_n h dX5_init_20 rfl ?_
  refine ze_bipush h 6 dX5_init_21 zk_b_6 ?_
  refine ze_newa h zw_arr (by decide) zk_z_6 (Nat.le_of_ble_eq_true rfl) rfl (Nat.le_of_ble_eq_true rfl) ⟨Nat.le_of_ble_eq_true rfl, Nat.le_of_ble_eq_true rfl⟩ dX5_init_23 ?_
  refine ze_nmS (fun s3 => ?_)
  refine ze_lam zY_68 3 18 rfl rfl rfl ?_
  refine ze_pc 25 rfl ?_
  refine ze_putRF h rfl (Nat.le_of_ble_eq_true rfl) zf_X5_18 rfl (zho rfl rfl) (fun _ => rfl) (fun _ => rfl) dX5_init_25 ?_
  refine ze_lam zY_69 3 18 rfl rfl rfl ?_
  refine ze_aload_n h dX5_init_28 rfl ?_
  refine ze_bipush h 6 dX5_init_29 zk_b_6 ?_
  refine ze_newa h zw_arr (by decide) zk_z_6 (Nat.le_of_ble_eq_true rfl) rfl (Nat.le_of_ble_eq_true rfl) ⟨Nat.le_of_ble_eq_true rfl, Nat.le_of_ble_eq_true rfl⟩ dX5_init_31 ?_
  refine ze_nmS (fun s4 => ?_)
  refine ze_lam zY_70 4 24 rfl rfl rfl ?_
  refine ze_putRF h rfl (Nat.le_of_ble_eq_true rfl) zf_X5_21 rfl (zho rfl rfl) (fun _ => rfl) (fun _ => rfl) dX5_init_33 ?_
  refine ze_lam zY_71 4 24 rfl rfl rfl ?_
  refine ze_aload_n h dX5_init_36 rfl ?_
  refine ze_bipush h 6 dX5_init_37 zk_b_6 ?_
  refine ze_newa h zw_arr (by decide) zk_z_6 (Nat.le_of_ble_eq_true rfl) rfl (Nat.le_of_ble_eq_true rfl) ⟨Nat.le_of_ble_eq_true rfl, Nat.le_of_ble_eq_true rfl⟩ dX5_init_39 ?_
  refine ze_nmS (fun s5 => ?_)
  refine ze_lam zY_72 5 30 rfl rfl rfl ?_
  refine ze_putRF h rfl (Nat.le_of_ble_eq_true rfl) zf_X5_24 rfl (zho rfl rfl) (fun _ => rfl) (fun _ => rfl) dX5_init_41 ?_
  refine ze_lam zY_73 5 30 rfl rfl rfl ?_
  refine ze_aload_n h dX5_init_44 rfl ?_
  refine ze_bipush h 10 dX5_init_45 zk_b_10 ?_
  refine ze_newa h zw_arr (by decide) zk_z_10 (Nat.le_of_ble_eq_true rfl) rfl (Nat.le_of_ble_eq_true rfl) ⟨Nat.le_of_ble_eq_true rfl, Nat.le_of_ble_eq_true rfl⟩ dX5_init_47 ?_
  refine ze_nmS (fun s6 => ?_)
  refine ze_lam zY_74 6 40 rfl rfl rfl ?_
  refine ze_putRF h rfl (Nat.le_of_ble_eq_true rfl) zf_X5_27 rfl (zho rfl rfl) (fun _ => rfl) (fun _ => rfl) dX5_init_49 ?_
  refine ze_lam zY_75 6 40 rfl rfl rfl ?_
  refine ze_aload_n h dX5_init_52 rfl ?_
  refine ze_pc 53 rfl ?_
  refine ze_bipush h 10 dX5_init_53 zk_b_10 ?_
  refine ze_newa h zw_arr (by decide) zk_z_10 (Nat.le_of_ble_eq_true rfl) rfl (Nat.le_of_ble_eq_true rfl) ⟨Nat.le_of_ble_eq_true rfl, Nat.le_of_ble_eq_true rfl⟩ dX5_init_55 ?_
  refine ze_nmS (fun s7 => ?_)
  refine ze_lam zY_76 7 50 rfl rfl rfl ?_
  refine ze_putRF h rfl (Nat.le_of_ble_eq_true rfl) zf_X5_30 rfl (zho rfl rfl) (fun _ => rfl) (fun _ => rfl) dX5_init_57 ?_
  refine ze_lam zY_77 7 50 rfl rfl rfl ?_
  refine ze_aload_n h dX5_init_60 rfl ?_
  refine ze_bipush h 10 dX5_init_61 zk_b_10 ?_
  refine ze_newa h zw_arr (by decide) zk_z_10 (Nat.le_of_ble_eq_true rfl) rfl (Nat.le_of_ble_eq_true rfl) ⟨Nat.le_of_ble_eq_true rfl, Nat.le_of_ble_eq_true rfl⟩ dX5_init_63 ?_
  refine ze_nmS (fun s8 => ?_)
  refine ze_lam zY_78 8 60 rfl rfl rfl ?_
  refine ze_putRF h rfl (Nat.le_of_ble_eq_true rfl) zf_X5_33 rfl (zho rfl rfl) (fun _ => rfl) (fun _ => rfl) dX5_init_65 ?_
  refine ze_lam zY_79 8 60 rfl rfl rfl ?_
  refine ze_aload_n h dX5_init_68 rfl ?_
  refine ze_bipush h 10 dX5_init_69 zk_b_10 ?_
  refine ze_newa h zw_arr (by decide) zk_z_10 (Nat.le_of_ble_eq_true rfl) rfl (Nat.le_of_ble_eq_true rfl) ⟨Nat.le_of_ble_eq_true rfl, Nat.le_of_ble_eq_true rfl⟩ dX5_init_71 ?_
  refine ze_nmS (fun s9 => ?_)
  refine ze_lam zY_80 9 70 rfl rfl rfl ?_
  refine ze_putRF h rfl (Nat.le_of_ble_eq_true rfl) zf_X5_36 rfl (zho rfl rfl) (fun _ => rfl) (fun _ => rfl) dX5_init_73 ?_
  refine ze_lam zY_81 9 70 rfl rfl rfl ?_
  refine ze_aload_n h dX5_init_76 rfl ?_
  refine ze_bipush h 6 dX5_init_77 zk_b_6 ?_
  refine ze_newa h zw_arr (by decide) zk_z_6 (Nat.le_of_ble_eq_true rfl) rfl (Nat.le_of_ble_eq_true rfl) ⟨Nat.le_of_ble_eq_true rfl, Nat.le_of_ble_eq_true rfl⟩ dX5_init_79 ?_
  refine ze_nmS (fun s10 => ?_)
  refine ze_lam zY_82 10 76 rfl rfl rfl ?_
  refine ze_pc 81 rfl ?_
  refine ze_putRF h rfl (Nat.le_of_ble_eq_true rfl) zf_X5_41 rfl (zho rfl rfl) (fun _ => rfl) (fun _ => rfl) dX5_init_81 ?_
  refine ze_lam zY_83 10 76 rfl rfl rfl ?_
  refine ze_aload_n h dX5_init_84 rfl ?_
  refine ze_aload_n h dX5_init_85 rfl ?_
  refine ze_putRF h rfl (Nat.le_of_ble_eq_true rfl) zf_X5_44 rfl (zho rfl rfl) (fun _ => rfl) (fun _ => rfl) dX5_init_86 ?_
  refine ze_lam zY_84 10 76 rfl rfl rfl ?_
  exact ze_vret hR dX5_init_89
set_option maxRecDepth 20000 in
set_option maxHeartbeats 4000000 in
theorem c_X3_init (l : Launch) (s0 : zMem) : zCI l yX3_init (.code yX3_init cX3_init 1 none) 2 3 168 [.ref 42] zY_86 s0 zY_92 (f_X3_init  s0) := by
  refine zCI_of (own := RX3) rfl rfl rfl (Nat.le_of_ble_eq_true rfl) [some (.ref 42)] rfl (fun G T h hR => ?_)
  unfold f_X3_init
  refine ze_aload_n h dX3_init_0 rfl ?_
  refine ze_obj h (Nat.le_of_ble_eq_true rfl) zm_X3_1 zw_oi zw_oc (Nat.le_of_ble_eq_true rfl) dX3_init_1 ?_
  refine ze_aload_n h dX3_init_4 rfl ?_
  refine ze_iconst h 4 dX3_init_5 zk_i_4 ?_
  refine ze_newa h zw_arr (by decide) zk_z_4 (Nat.le_of_ble_eq_true rfl) rfl (Nat.le_of_ble_eq_true rfl) ⟨Nat.le_of_ble_eq_true rfl, Nat.le_of_ble_eq_true rfl⟩ dX3_init_6 ?_
  refine ze_nmS (fun s1 => ?_)
  refine ze_lam zY_87 1 4 rfl rfl rfl ?_
  refine ze_dup h dX3_init_8 rfl ?_
  refine ze_iconst h 0 dX3_init_9 zk_i_0 ?_
  refine ze_iconst h (-1) dX3_init_10 zk_i_m1 ?_
  refine ze_iastG h rfl dX3_init_11 ?_
  refine ze_nmS (fun s2 => ?_)
  refine ze_dup h dX3_init_12 rfl ?_
  refine ze_iconst h 1 dX3_init_13 zk_i_1 ?_
  refine ze_iconst h (-1) dX3_init_14 zk_i_m1 ?_
  refine ze_iastG h rfl dX3_init_15 ?_
  refine ze_nmS (fun s3 => ?_)
  refine ze_pc 16 rfl ?_
  refine ze_dup h dX3_init_16 rfl ?_
  refine ze_iconst h 2 dX3_init_17 zk_i_2 ?_
  refine ze_iconst h (-1) dX3_init_18 zk_i_m1 ?_
  refine ze_iastG h rfl dX3_init_19 ?_
  refine ze_nmS (fun s4 => ?_)
  refine ze_dup h dX3_init_20 rfl ?_
  refine ze_iconst h 3 dX3_init_21 zk_i_3 ?_
  refine ze_iconst h (-1) dX3_init_22 zk_i_m1 ?_
  refine ze_iastG h rfl dX3_init_23 ?_
  refine ze_nmS (fun s5 => ?_)
  refine ze_putRF h rfl (Nat.le_of_ble_eq_true rfl) zf_X3_9 rfl (zho rfl rfl) (fun _ => rfl) (fun _ => rfl) dX3_init_24 ?_
  refine ze_lam zY_88 1 4 rfl rfl rfl ?_
  refine ze_aload_n h dX3_init_27 rfl ?_
  refine ze_iconst h 4 dX3_init_28 zk_i_4 ?_
  refine ze_newa h zw_arr (by decide) zk_z_4 (Nat.le_of_ble_eq_true rfl) rfl (Nat.le_of_ble_eq_true rfl) ⟨Nat.le_of_ble_eq_true rfl, Nat.le_of_ble_eq_true rfl⟩ dX3_init_29 ?_
  refine ze_nmS (fun s6 => ?_)
  refine ze_lam zY_89 2 8 rfl rfl rfl ?_
  refine ze_putRF h rfl (Nat.le_of_ble_eq_true rfl) zf_X3_13 rfl (zho rfl rfl) (fun _ => rfl) (fun _ => rfl) dX3_init_31 ?_
  refine ze_lam zY_90 2 8 rfl rfl rfl ?_
  refine ze_aload_n h dX3_init_34 rfl ?_
  refine ze_pc 35 rfl ?_
  refine ze_sipush h 160 dX3_init_35 zk_s_160 ?_
  refine ze_newa h zw_arr (by decide) zk_z_160 (Nat.le_of_ble_eq_true rfl) rfl (Nat.le_of_ble_eq_true rfl) ⟨Nat.le_of_ble_eq_true rfl, Nat.le_of_ble_eq_true rfl⟩ dX3_init_38 ?_
  refine ze_nmS (fun s7 => ?_)
  refine ze_lam zY_91 3 168 rfl rfl rfl ?_
  refine ze_putRF h rfl (Nat.le_of_ble_eq_true rfl) zf_X3_16 rfl (zho rfl rfl) (fun _ => rfl) (fun _ => rfl) dX3_init_40 ?_
  refine ze_lam zY_92 3 168 rfl rfl rfl ?_
  exact ze_vret hR dX3_init_43
set_option maxRecDepth 20000 in
set_option maxHeartbeats 4000000 in
theorem e_X6_init_28 {l : Launch} {G : zGT} {T : Option Value × zMem} (h : zOk G l cX6_init RX6 2 74 46 1925 true) (hR : zR G cX6_init none T zY_95 46 1925) (c56 : zMem → Option (Unit × zMem)) (hc56 : ∀ (s9 : zMem), zE G T (fun _ : Unit => none) zY_16 8 1475 56 [some (.ref 0), none] [] s9 (c56 s9)) : ∀ (n : Nat) (x5 : Int32) (s6 : zMem), zE G T (fun _ : Unit => none) zY_16 8 1475 28 [some (.ref 0), some (.int x5)] [] s6 (f_X6_init_28 c56 n x5 s6) := by
  intro n
  induction n with
  | zero => intro _ _; exact ze_none
  | succ n ih =>
    intro x5 s6
    rw [f_X6_init_28]
    refine ze_iload_n h dX6_init_28 rfl ?_
    refine ze_ldcS (i := 0) h rfl dX6_init_29 ?_
    refine ze_callTi h (st := [.int x5]) (i := 0) zce_J0_length_8abf5 zi_J0_length_8abf5 zs_J0_length_8abf5 zm_X6_25 rfl (by decide) rfl (Nat.le_of_ble_eq_true rfl) ⟨Nat.le_of_ble_eq_true rfl, Nat.le_of_ble_eq_true rfl⟩ (c_J0_length_8abf5 l zY_16 (by decide) s6) rfl (Nat.le_of_ble_eq_true rfl) rfl dX6_init_31 (fun r7 s8 => ?_)
    refine ze_icmp_ge h 56 dX6_init_34 (by decide) ?_ ?_
    · refine zE_weak h [true, false] rfl ?_
      exact hc56 s8
    · refine ze_aload_n h dX6_init_37 rfl ?_
      refine ze_getR h rfl rfl zf_X6_19 dX6_init_38 ?_
      refine ze_ldcS (i := 0) h rfl dX6_init_41 ?_
      refine ze_iload_n h dX6_init_43 rfl ?_
      refine ze_callTi h (st := [.ref 5]) (i := 0) zce_J0_charAt_5068e zi_J0_charAt_5068e zs_J0_charAt_5068e zm_X6_31 rfl (by decide) rfl (Nat.le_of_ble_eq_true rfl) ⟨Nat.le_of_ble_eq_true rfl, Nat.le_of_ble_eq_true rfl⟩ (c_J0_charAt_5068e l zY_16 (by decide) x5 s8) rfl (Nat.le_of_ble_eq_true rfl) rfl dX6_init_44 (fun r9 s10 => ?_)
      refine ze_callVv h (st := []) zce_X2_takeByte zi_X2_takeByte zs_X2_takeByte zm_X6_35 rfl rfl rfl (Nat.le_of_ble_eq_true rfl) ⟨Nat.le_of_ble_eq_true rfl, Nat.le_of_ble_eq_true rfl⟩ (c_X2_takeByte l zY_16 zHasT_zY_16 r9 s10) rfl (Nat.le_of_ble_eq_true rfl) rfl dX6_init_47 (fun _ s12 => ?_)
      refine ze_iincN h (fun y9 => [some (.ref 0), some (.int y9)]) 1 dX6_init_50 rfl zk_i_1 rfl (by decide) (fun _ => rfl) (fun x13 => ?_)
      refine ze_goto h 28 dX6_init_53 (by decide) ?_
      exact ih x13 s12
set_option maxRecDepth 20000 in
set_option maxHeartbeats 4000000 in
theorem c_X6_init (l : Launch) (s0 : zMem) : zCI l yX6_init (.code yX6_init cX6_init 2 none) 74 46 1925 [.ref 0] zY_0 s0 zY_95 (f_X6_init  s0) := by
  refine zCI_of (own := RX6) rfl rfl rfl (Nat.le_of_ble_eq_true rfl) [some (.ref 0), none] rfl (fun G T h hR => ?_)
  unfold f_X6_init
  refine ze_aload_n h dX6_init_0 rfl ?_
  refine ze_obj h (Nat.le_of_ble_eq_true rfl) zm_X6_1 zw_oi zw_oc (Nat.le_of_ble_eq_true rfl) dX6_init_1 ?_
  refine ze_aload_n h dX6_init_4 rfl ?_
  refine ze_new h tyX4 (ci := 2) (fs := [some none, some none, some none, none]) rfl zinw_X4 tyX4_ok zcl_X6_7 zins_X4 zini_X4 rfl zfs_X4 rfl (Nat.le_of_ble_eq_true rfl) ⟨Nat.le_of_ble_eq_true rfl, Nat.le_of_ble_eq_true rfl⟩ dX6_init_5 ?_
  refine ze_nmS (fun s1 => ?_)
  refine ze_lam zY_1 1 4 rfl rfl rfl ?_
  refine ze_dup h dX6_init_8 rfl ?_
  refine ze_initN h (st := [.ref 1, .ref 0]) zce_X4_init zi_X4_init rfl zn_X6_9 (Nat.le_of_ble_eq_true rfl) ⟨Nat.le_of_ble_eq_true rfl, Nat.le_of_ble_eq_true rfl⟩ (c_X4_init l s1) rfl (Nat.le_of_ble_eq_true rfl) rfl dX6_init_9 (fun s2 => ?_)
  refine ze_lam zY_7 4 1142 rfl rfl rfl ?_
  refine ze_putRF h rfl (Nat.le_of_ble_eq_true rfl) zf_X6_10 rfl (zho rfl rfl) (fun _ => rfl) (fun _ => rfl) dX6_init_12 ?_
  refine ze_lam zY_8 4 1142 rfl rfl rfl ?_
  refine ze_aload_n h dX6_init_15 rfl ?_
  refine ze_new h tyX2 (ci := 0) (fs := [some none, none, some none, none, some none, none, none, none, none, none]) rfl zinw_X2 tyX2_ok zcl_X6_16 zins_X2 zini_X2 rfl zfs_X2 rfl (Nat.le_of_ble_eq_true rfl) ⟨Nat.le_of_ble_eq_true rfl, Nat.le_of_ble_eq_true rfl⟩ dX6_init_16 ?_
  refine ze_nmS (fun s3 => ?_)
  refine ze_lam zY_9 5 1152 rfl rfl rfl ?_
  refine ze_dup h dX6_init_19 rfl ?_
  refine ze_initN h (st := [.ref 5, .ref 0]) zce_X2_init zi_X2_init rfl zn_X6_18 (Nat.le_of_ble_eq_true rfl) ⟨Nat.le_of_ble_eq_true rfl, Nat.le_of_ble_eq_true rfl⟩ (c_X2_init l s3) rfl (Nat.le_of_ble_eq_true rfl) rfl dX6_init_20 (fun s4 => ?_)
  refine ze_lam zY_15 8 1475 rfl rfl rfl ?_
  refine ze_putRF h rfl (Nat.le_of_ble_eq_true rfl) zf_X6_19 rfl (zho rfl rfl) (fun _ => rfl) (fun _ => rfl) dX6_init_23 ?_
  refine ze_lam zY_16 8 1475 rfl rfl rfl ?_
  refine ze_iconst h 0 dX6_init_26 zk_i_0 ?_
  refine ze_pc 27 rfl ?_
  refine ze_istore_n h [some (.ref 0), some (.int 0)] dX6_init_27 rfl (by decide) rfl ?_
  refine e_X6_init_28 h hR _ ?_ zN 0 s4
  · intro s14
    refine ze_aload_n h dX6_init_56 rfl ?_
    refine ze_getR h rfl rfl zf_X6_19 dX6_init_57 ?_
    refine ze_callVi h (st := []) zce_X2_readText zi_X2_readText zs_X2_readText zm_X6_39 rfl rfl rfl (Nat.le_of_ble_eq_true rfl) ⟨Nat.le_of_ble_eq_true rfl, Nat.le_of_ble_eq_true rfl⟩ (c_X2_readText l zY_16 zHasT_zY_16 s14) rfl (Nat.le_of_ble_eq_true rfl) rfl dX6_init_60 (fun r15 s16 => ?_)
    refine ze_pop h dX6_init_63 rfl ?_
    refine ze_aload_n h dX6_init_64 rfl ?_
    refine ze_getR h rfl rfl zf_X6_10 dX6_init_65 ?_
    refine ze_aload_n h dX6_init_68 rfl ?_
    refine ze_getR h rfl rfl zf_X6_19 dX6_init_69 ?_
    refine ze_callVi h (st := []) zce_X4_keep zi_X4_keep zs_X4_keep zm_X6_42 rfl rfl rfl (Nat.le_of_ble_eq_true rfl) ⟨Nat.le_of_ble_eq_true rfl, Nat.le_of_ble_eq_true rfl⟩ (c_X4_keep l zY_16 zHasT_zY_16 s16) rfl (Nat.le_of_ble_eq_true rfl) rfl dX6_init_72 (fun r17 s18 => ?_)
    refine ze_pop h dX6_init_75 rfl ?_
    refine ze_aload_n h dX6_init_76 rfl ?_
    refine ze_getR h rfl rfl zf_X6_19 dX6_init_77 ?_
    refine ze_callVv h (st := []) zce_X2_clear zi_X2_clear zs_X2_clear zm_X6_46 rfl rfl rfl (Nat.le_of_ble_eq_true rfl) ⟨Nat.le_of_ble_eq_true rfl, Nat.le_of_ble_eq_true rfl⟩ (c_X2_clear l zY_16 zHasT_zY_16 s18) rfl (Nat.le_of_ble_eq_true rfl) rfl dX6_init_80 (fun _ s20 => ?_)
    refine ze_pc 83 rfl ?_
    refine ze_aload_n h dX6_init_83 rfl ?_
    refine ze_new h tyX5 (ci := 3) (fs := [some none, some none, some none, some none, some none, some none, some none, some none, some none, none, none, none, none, some none, some none]) rfl zinw_X5 tyX5_ok zcl_X6_49 zins_X5 zini_X5 rfl zfs_X5 rfl (Nat.le_of_ble_eq_true rfl) ⟨Nat.le_of_ble_eq_true rfl, Nat.le_of_ble_eq_true rfl⟩ dX6_init_84 ?_
    refine ze_nmS (fun s21 => ?_)
    refine ze_lam zY_17 9 1490 rfl rfl rfl ?_
    refine ze_dup h dX6_init_87 rfl ?_
    refine ze_aload_n h dX6_init_88 rfl ?_
    refine ze_getR h rfl rfl zf_X6_10 dX6_init_89 ?_
    refine ze_initI h (st := [.ref 9, .ref 0]) zce_X5_init zi_X5_init rfl zm_X6_51 (Nat.le_of_ble_eq_true rfl) ⟨Nat.le_of_ble_eq_true rfl, Nat.le_of_ble_eq_true rfl⟩ (c_X5_init_9 l s21) rfl (Nat.le_of_ble_eq_true rfl) rfl dX6_init_92 (fun s22 => ?_)
    refine ze_lam zY_38 19 1566 rfl rfl rfl ?_
    refine ze_putRF h rfl (Nat.le_of_ble_eq_true rfl) zf_X6_54 rfl (zho rfl rfl) (fun _ => rfl) (fun _ => rfl) dX6_init_95 ?_
    refine ze_lam zY_39 19 1566 rfl rfl rfl ?_
    refine ze_aload_n h dX6_init_98 rfl ?_
    refine ze_new h tyX5 (ci := 3) (fs := [some none, some none, some none, some none, some none, some none, some none, some none, some none, none, none, none, none, some none, some none]) rfl zinw_X5 tyX5_ok zcl_X6_49 zins_X5 zini_X5 rfl zfs_X5 rfl (Nat.le_of_ble_eq_true rfl) ⟨Nat.le_of_ble_eq_true rfl, Nat.le_of_ble_eq_true rfl⟩ dX6_init_99 ?_
    refine ze_nmS (fun s23 => ?_)
    refine ze_lam zY_40 20 1581 rfl rfl rfl ?_
    refine ze_dup h dX6_init_102 rfl ?_
    refine ze_aload_n h dX6_init_103 rfl ?_
    refine ze_getR h rfl rfl zf_X6_10 dX6_init_104 ?_
    refine ze_initI h (st := [.ref 20, .ref 0]) zce_X5_init zi_X5_init rfl zm_X6_51 (Nat.le_of_ble_eq_true rfl) ⟨Nat.le_of_ble_eq_true rfl, Nat.le_of_ble_eq_true rfl⟩ (c_X5_init_20 l s23) rfl (Nat.le_of_ble_eq_true rfl) rfl dX6_init_107 (fun s24 => ?_)
    refine ze_lam zY_61 30 1657 rfl rfl rfl ?_
    refine ze_putRF h rfl (Nat.le_of_ble_eq_true rfl) zf_X6_58 rfl (zho rfl rfl) (fun _ => rfl) (fun _ => rfl) dX6_init_110 ?_
    refine ze_lam zY_62 30 1657 rfl rfl rfl ?_
    refine ze_pc 113 rfl ?_
    refine ze_aload_n h dX6_init_113 rfl ?_
    refine ze_new h tyX5 (ci := 3) (fs := [some none, some none, some none, some none, some none, some none, some none, some none, some none, none, none, none, none, some none, some none]) rfl zinw_X5 tyX5_ok zcl_X6_49 zins_X5 zini_X5 rfl zfs_X5 rfl (Nat.le_of_ble_eq_true rfl) ⟨Nat.le_of_ble_eq_true rfl, Nat.le_of_ble_eq_true rfl⟩ dX6_init_114 ?_
    refine ze_nmS (fun s25 => ?_)
    refine ze_lam zY_63 31 1672 rfl rfl rfl ?_
    refine ze_dup h dX6_init_117 rfl ?_
    refine ze_aload_n h dX6_init_118 rfl ?_
    refine ze_getR h rfl rfl zf_X6_10 dX6_init_119 ?_
    refine ze_initI h (st := [.ref 31, .ref 0]) zce_X5_init zi_X5_init rfl zm_X6_51 (Nat.le_of_ble_eq_true rfl) ⟨Nat.le_of_ble_eq_true rfl, Nat.le_of_ble_eq_true rfl⟩ (c_X5_init_31 l s25) rfl (Nat.le_of_ble_eq_true rfl) rfl dX6_init_122 (fun s26 => ?_)
    refine ze_lam zY_84 41 1748 rfl rfl rfl ?_
    refine ze_putRF h rfl (Nat.le_of_ble_eq_true rfl) zf_X6_61 rfl (zho rfl rfl) (fun _ => rfl) (fun _ => rfl) dX6_init_125 ?_
    refine ze_lam zY_85 41 1748 rfl rfl rfl ?_
    refine ze_aload_n h dX6_init_128 rfl ?_
    refine ze_new h tyX3 (ci := 1) (fs := [some none, some none, some none]) rfl zinw_X3 tyX3_ok zcl_X6_64 zins_X3 zini_X3 rfl zfs_X3 rfl (Nat.le_of_ble_eq_true rfl) ⟨Nat.le_of_ble_eq_true rfl, Nat.le_of_ble_eq_true rfl⟩ dX6_init_129 ?_
    refine ze_nmS (fun s27 => ?_)
    refine ze_lam zY_86 42 1751 rfl rfl rfl ?_
    refine ze_dup h dX6_init_132 rfl ?_
    refine ze_initN h (st := [.ref 42, .ref 0]) zce_X3_init zi_X3_init rfl zn_X6_66 (Nat.le_of_ble_eq_true rfl) ⟨Nat.le_of_ble_eq_true rfl, Nat.le_of_ble_eq_true rfl⟩ (c_X3_init l s27) rfl (Nat.le_of_ble_eq_true rfl) rfl dX6_init_133 (fun s28 => ?_)
    refine ze_lam zY_92 45 1919 rfl rfl rfl ?_
    refine ze_putRF h rfl (Nat.le_of_ble_eq_true rfl) zf_X6_67 rfl (zho rfl rfl) (fun _ => rfl) (fun _ => rfl) dX6_init_136 ?_
    refine ze_lam zY_93 45 1919 rfl rfl rfl ?_
    refine ze_aload_n h dX6_init_139 rfl ?_
    refine ze_bipush h 6 dX6_init_140 zk_b_6 ?_
    refine ze_pc 142 rfl ?_
    refine ze_newa h zw_arr (by decide) zk_z_6 (Nat.le_of_ble_eq_true rfl) rfl (Nat.le_of_ble_eq_true rfl) ⟨Nat.le_of_ble_eq_true rfl, Nat.le_of_ble_eq_true rfl⟩ dX6_init_142 ?_
    refine ze_nmS (fun s29 => ?_)
    refine ze_lam zY_94 46 1925 rfl rfl rfl ?_
    refine ze_putRF h rfl (Nat.le_of_ble_eq_true rfl) zf_X6_71 rfl (zho rfl rfl) (fun _ => rfl) (fun _ => rfl) dX6_init_144 ?_
    refine ze_lam zY_95 46 1925 rfl rfl rfl ?_
    refine ze_aload_n h dX6_init_147 rfl ?_
    refine ze_iconst h 0 dX6_init_148 zk_i_0 ?_
    refine ze_putI h rfl rfl zf_X6_75 rfl rfl dX6_init_149 ?_
    refine ze_nmS (fun s30 => ?_)
    exact ze_vret hR dX6_init_152
set_option maxRecDepth 20000 in
set_option maxHeartbeats 4000000 in
theorem e_X7_init_1016 {l : Launch} {G : zGT} {T : Option Value × zMem} (h : zOk G l cX7_init RX7 2 6 22 2294 true) (hR : zR G cX7_init none T zFull 22 2294) (c1040 : zMem → Option (Unit × zMem)) (hc1040 : ∀ (s9 : zMem), zE G T (fun _ : Unit => none) zFull 22 2294 1040 [some (.ref 47), none] [] s9 (c1040 s9)) : ∀ (n : Nat) (x165 : Int32) (s166 : zMem), zE G T (fun _ : Unit => none) zFull 22 2294 1016 [some (.ref 47), some (.int x165)] [] s166 (f_X7_init_1016 c1040 n x165 s166) := by
  intro n
  induction n with
  | zero => intro _ _; exact ze_none
  | succ n ih =>
    intro x165 s166
    rw [f_X7_init_1016]
    refine ze_iload_n h dX7_init_1016 rfl ?_
    refine ze_bipush h 42 dX7_init_1017 zk_b_42 ?_
    refine ze_icmp_ge h 1040 dX7_init_1019 (by decide) ?_ ?_
    · refine zE_weak h [true, false] rfl ?_
      exact hc1040 s166
    · refine ze_aload_n h dX7_init_1022 rfl ?_
      refine ze_getR h rfl rfl zf_X7_31 dX7_init_1023 ?_
      refine ze_iload_n h dX7_init_1026 rfl ?_
      refine ze_aload_n h dX7_init_1027 rfl ?_
      refine ze_getR h rfl rfl zf_X7_55 dX7_init_1028 ?_
      refine ze_iload_n h dX7_init_1031 rfl ?_
      refine ze_ialdG h rfl dX7_init_1032 ?_
      refine ze_iastG h rfl dX7_init_1033 ?_
      refine ze_nmS (fun s167 => ?_)
      refine ze_iincN h (fun y9 => [some (.ref 47), some (.int y9)]) 1 dX7_init_1034 rfl zk_i_1 rfl (by decide) (fun _ => rfl) (fun x168 => ?_)
      refine ze_goto h 1016 dX7_init_1037 (by decide) ?_
      exact ih x168 s167
set_option maxRecDepth 20000 in
set_option maxHeartbeats 4000000 in
theorem c_X7_init (l : Launch) (s0 : zMem) : zCI l yX7_init (.code yX7_init cX7_init 2 none) 6 22 2294 [.ref 47] zY_96 s0 zFull (f_X7_init  s0) := by
  refine zCI_of (own := RX7) rfl rfl rfl (Nat.le_of_ble_eq_true rfl) [some (.ref 47), none] rfl (fun G T h hR => ?_)
  unfold f_X7_init
  refine ze_aload_n h dX7_init_0 rfl ?_
  refine ze_obj h (Nat.le_of_ble_eq_true rfl) zm_X7_1 zw_oi zw_oc (Nat.le_of_ble_eq_true rfl) dX7_init_1 ?_
  refine ze_aload_n h dX7_init_4 rfl ?_
  refine ze_bipush h 6 dX7_init_5 zk_b_6 ?_
  refine ze_newa h zw_arr (by decide) zk_z_6 (Nat.le_of_ble_eq_true rfl) rfl (Nat.le_of_ble_eq_true rfl) ⟨Nat.le_of_ble_eq_true rfl, Nat.le_of_ble_eq_true rfl⟩ dX7_init_7 ?_
  refine ze_nmS (fun s1 => ?_)
  refine ze_lam zY_97 1 6 rfl rfl rfl ?_
  refine ze_putRF h rfl (Nat.le_of_ble_eq_true rfl) zf_X7_7 rfl (zho rfl rfl) (fun _ => rfl) (fun _ => rfl) dX7_init_9 ?_
  refine ze_lam zY_98 1 6 rfl rfl rfl ?_
  refine ze_aload_n h dX7_init_12 rfl ?_
  refine ze_bipush h 6 dX7_init_13 zk_b_6 ?_
  refine ze_newa h zw_arr (by decide) zk_z_6 (Nat.le_of_ble_eq_true rfl) rfl (Nat.le_of_ble_eq_true rfl) ⟨Nat.le_of_ble_eq_true rfl, Nat.le_of_ble_eq_true rfl⟩ dX7_init_15 ?_
  refine ze_nmS (fun s2 => ?_)
  refine ze_lam zY_99 2 12 rfl rfl rfl ?_
  refine ze_putRF h rfl (Nat.le_of_ble_eq_true rfl) zf_X7_13 rfl (zho rfl rfl) (fun _ => rfl) (fun _ => rfl) dX7_init_17 ?_
  refine ze_lam zY_100 2 12 rfl rfl rfl ?_
  refine ze_aload_n h dX7_init_20 rfl ?_
  refine ze_bipush h 18 dX7_init_21 zk_b_18 ?_
  refine ze_newa h zw_arr (by decide) zk_z_18 (Nat.le_of_ble_eq_true rfl) rfl (Nat.le_of_ble_eq_true rfl) ⟨Nat.le_of_ble_eq_true rfl, Nat.le_of_ble_eq_true rfl⟩ dX7_init_23 ?_
  refine ze_nmS (fun s3 => ?_)
  refine ze_lam zY_101 3 30 rfl rfl rfl ?_
  refine ze_pc 25 rfl ?_
  refine ze_putRF h rfl (Nat.le_of_ble_eq_true rfl) zf_X7_16 rfl (zho rfl rfl) (fun _ => rfl) (fun _ => rfl) dX7_init_25 ?_
  refine ze_lam zY_102 3 30 rfl rfl rfl ?_
  refine ze_aload_n h dX7_init_28 rfl ?_
  refine ze_bipush h 10 dX7_init_29 zk_b_10 ?_
  refine ze_newa h zw_arr (by decide) zk_z_10 (Nat.le_of_ble_eq_true rfl) rfl (Nat.le_of_ble_eq_true rfl) ⟨Nat.le_of_ble_eq_true rfl, Nat.le_of_ble_eq_true rfl⟩ dX7_init_31 ?_
  refine ze_nmS (fun s4 => ?_)
  refine ze_lam zY_103 4 40 rfl rfl rfl ?_
  refine ze_putRF h rfl (Nat.le_of_ble_eq_true rfl) zf_X7_19 rfl (zho rfl rfl) (fun _ => rfl) (fun _ => rfl) dX7_init_33 ?_
  refine ze_lam zY_104 4 40 rfl rfl rfl ?_
  refine ze_aload_n h dX7_init_36 rfl ?_
  refine ze_bipush h 10 dX7_init_37 zk_b_10 ?_
  refine ze_newa h zw_arr (by decide) zk_z_10 (Nat.le_of_ble_eq_true rfl) rfl (Nat.le_of_ble_eq_true rfl) ⟨Nat.le_of_ble_eq_true rfl, Nat.le_of_ble_eq_true rfl⟩ dX7_init_39 ?_
  refine ze_nmS (fun s5 => ?_)
  refine ze_lam zY_105 5 50 rfl rfl rfl ?_
  refine ze_putRF h rfl (Nat.le_of_ble_eq_true rfl) zf_X7_22 rfl (zho rfl rfl) (fun _ => rfl) (fun _ => rfl) dX7_init_41 ?_
  refine ze_lam zY_106 5 50 rfl rfl rfl ?_
  refine ze_aload_n h dX7_init_44 rfl ?_
  refine ze_bipush h 10 dX7_init_45 zk_b_10 ?_
  refine ze_newa h zw_arr (by decide) zk_z_10 (Nat.le_of_ble_eq_true rfl) rfl (Nat.le_of_ble_eq_true rfl) ⟨Nat.le_of_ble_eq_true rfl, Nat.le_of_ble_eq_true rfl⟩ dX7_init_47 ?_
  refine ze_nmS (fun s6 => ?_)
  refine ze_lam zY_107 6 60 rfl rfl rfl ?_
  refine ze_putRF h rfl (Nat.le_of_ble_eq_true rfl) zf_X7_25 rfl (zho rfl rfl) (fun _ => rfl) (fun _ => rfl) dX7_init_49 ?_
  refine ze_lam zY_108 6 60 rfl rfl rfl ?_
  refine ze_aload_n h dX7_init_52 rfl ?_
  refine ze_pc 53 rfl ?_
  refine ze_bipush h 10 dX7_init_53 zk_b_10 ?_
  refine ze_newa h zw_arr (by decide) zk_z_10 (Nat.le_of_ble_eq_true rfl) rfl (Nat.le_of_ble_eq_true rfl) ⟨Nat.le_of_ble_eq_true rfl, Nat.le_of_ble_eq_true rfl⟩ dX7_init_55 ?_
  refine ze_nmS (fun s7 => ?_)
  refine ze_lam zY_109 7 70 rfl rfl rfl ?_
  refine ze_putRF h rfl (Nat.le_of_ble_eq_true rfl) zf_X7_28 rfl (zho rfl rfl) (fun _ => rfl) (fun _ => rfl) dX7_init_57 ?_
  refine ze_lam zY_110 7 70 rfl rfl rfl ?_
  refine ze_aload_n h dX7_init_60 rfl ?_
  refine ze_sipush h 160 dX7_init_61 zk_s_160 ?_
  refine ze_newa h zw_arr (by decide) zk_z_160 (Nat.le_of_ble_eq_true rfl) rfl (Nat.le_of_ble_eq_true rfl) ⟨Nat.le_of_ble_eq_true rfl, Nat.le_of_ble_eq_true rfl⟩ dX7_init_64 ?_
  refine ze_nmS (fun s8 => ?_)
  refine ze_lam zY_111 8 230 rfl rfl rfl ?_
  refine ze_putRF h rfl (Nat.le_of_ble_eq_true rfl) zf_X7_31 rfl (zho rfl rfl) (fun _ => rfl) (fun _ => rfl) dX7_init_66 ?_
  refine ze_lam zY_112 8 230 rfl rfl rfl ?_
  refine ze_aload_n h dX7_init_69 rfl ?_
  refine ze_sipush h 1200 dX7_init_70 zk_s_1200 ?_
  refine ze_newa h zw_arr (by decide) zk_z_1200 (Nat.le_of_ble_eq_true rfl) rfl (Nat.le_of_ble_eq_true rfl) ⟨Nat.le_of_ble_eq_true rfl, Nat.le_of_ble_eq_true rfl⟩ dX7_init_73 ?_
  refine ze_nmS (fun s9 => ?_)
  refine ze_lam zY_113 9 1430 rfl rfl rfl ?_
  refine ze_putRF h rfl (Nat.le_of_ble_eq_true rfl) zf_X7_34 rfl (zho rfl rfl) (fun _ => rfl) (fun _ => rfl) dX7_init_75 ?_
  refine ze_lam zY_114 9 1430 rfl rfl rfl ?_
  refine ze_aload_n h dX7_init_78 rfl ?_
  refine ze_bipush h 24 dX7_init_79 zk_b_24 ?_
  refine ze_newa h zw_arr (by decide) zk_z_24 (Nat.le_of_ble_eq_true rfl) rfl (Nat.le_of_ble_eq_true rfl) ⟨Nat.le_of_ble_eq_true rfl, Nat.le_of_ble_eq_true rfl⟩ dX7_init_81 ?_
  refine ze_nmS (fun s10 => ?_)
  refine ze_lam zY_115 10 1454 rfl rfl rfl ?_
  refine ze_pc 83 rfl ?_
  refine ze_putRF h rfl (Nat.le_of_ble_eq_true rfl) zf_X7_37 rfl (zho rfl rfl) (fun _ => rfl) (fun _ => rfl) dX7_init_83 ?_
  refine ze_lam zY_116 10 1454 rfl rfl rfl ?_
  refine ze_aload_n h dX7_init_86 rfl ?_
  refine ze_bipush h 58 dX7_init_87 zk_b_58 ?_
  refine ze_newa h zw_arr (by decide) zk_z_58 (Nat.le_of_ble_eq_true rfl) rfl (Nat.le_of_ble_eq_true rfl) ⟨Nat.le_of_ble_eq_true rfl, Nat.le_of_ble_eq_true rfl⟩ dX7_init_89 ?_
  refine ze_nmS (fun s11 => ?_)
  refine ze_lam zY_117 11 1512 rfl rfl rfl ?_
  refine ze_putRF h rfl (Nat.le_of_ble_eq_true rfl) zf_X7_40 rfl (zho rfl rfl) (fun _ => rfl) (fun _ => rfl) dX7_init_91 ?_
  refine ze_lam zY_118 11 1512 rfl rfl rfl ?_
  refine ze_aload_n h dX7_init_94 rfl ?_
  refine ze_iconst h 4 dX7_init_95 zk_i_4 ?_
  refine ze_newa h zw_arr (by decide) zk_z_4 (Nat.le_of_ble_eq_true rfl) rfl (Nat.le_of_ble_eq_true rfl) ⟨Nat.le_of_ble_eq_true rfl, Nat.le_of_ble_eq_true rfl⟩ dX7_init_96 ?_
  refine ze_nmS (fun s12 => ?_)
  refine ze_lam zY_119 12 1516 rfl rfl rfl ?_
  refine ze_putRF h rfl (Nat.le_of_ble_eq_true rfl) zf_X7_43 rfl (zho rfl rfl) (fun _ => rfl) (fun _ => rfl) dX7_init_98 ?_
  refine ze_lam zY_120 12 1516 rfl rfl rfl ?_
  refine ze_aload_n h dX7_init_101 rfl ?_
  refine ze_iconst h 4 dX7_init_102 zk_i_4 ?_
  refine ze_newa h zw_arr (by decide) zk_z_4 (Nat.le_of_ble_eq_true rfl) rfl (Nat.le_of_ble_eq_true rfl) ⟨Nat.le_of_ble_eq_true rfl, Nat.le_of_ble_eq_true rfl⟩ dX7_init_103 ?_
  refine ze_nmS (fun s13 => ?_)
  refine ze_lam zY_121 13 1520 rfl rfl rfl ?_
  refine ze_dup h dX7_init_105 rfl ?_
  refine ze_iconst h 0 dX7_init_106 zk_i_0 ?_
  refine ze_pc 107 rfl ?_
  refine ze_iconst h (-1) dX7_init_107 zk_i_m1 ?_
  refine ze_iastG h rfl dX7_init_108 ?_
  refine ze_nmS (fun s14 => ?_)
  refine ze_dup h dX7_init_109 rfl ?_
  refine ze_iconst h 1 dX7_init_110 zk_i_1 ?_
  refine ze_iconst h (-1) dX7_init_111 zk_i_m1 ?_
  refine ze_iastG h rfl dX7_init_112 ?_
  refine ze_nmS (fun s15 => ?_)
  refine ze_dup h dX7_init_113 rfl ?_
  refine ze_iconst h 2 dX7_init_114 zk_i_2 ?_
  refine ze_iconst h (-1) dX7_init_115 zk_i_m1 ?_
  refine ze_iastG h rfl dX7_init_116 ?_
  refine ze_nmS (fun s16 => ?_)
  refine ze_dup h dX7_init_117 rfl ?_
  refine ze_iconst h 3 dX7_init_118 zk_i_3 ?_
  refine ze_iconst h (-1) dX7_init_119 zk_i_m1 ?_
  refine ze_iastG h rfl dX7_init_120 ?_
  refine ze_nmS (fun s17 => ?_)
  refine ze_pc 121 rfl ?_
  refine ze_putRF h rfl (Nat.le_of_ble_eq_true rfl) zf_X7_46 rfl (zho rfl rfl) (fun _ => rfl) (fun _ => rfl) dX7_init_121 ?_
  refine ze_lam zY_122 13 1520 rfl rfl rfl ?_
  refine ze_aload_n h dX7_init_124 rfl ?_
  refine ze_iconst h 4 dX7_init_125 zk_i_4 ?_
  refine ze_newa h zw_arr (by decide) zk_z_4 (Nat.le_of_ble_eq_true rfl) rfl (Nat.le_of_ble_eq_true rfl) ⟨Nat.le_of_ble_eq_true rfl, Nat.le_of_ble_eq_true rfl⟩ dX7_init_126 ?_
  refine ze_nmS (fun s18 => ?_)
  refine ze_lam zY_123 14 1524 rfl rfl rfl ?_
  refine ze_putRF h rfl (Nat.le_of_ble_eq_true rfl) zf_X7_49 rfl (zho rfl rfl) (fun _ => rfl) (fun _ => rfl) dX7_init_128 ?_
  refine ze_lam zY_124 14 1524 rfl rfl rfl ?_
  refine ze_aload_n h dX7_init_131 rfl ?_
  refine ze_sipush h 160 dX7_init_132 zk_s_160 ?_
  refine ze_newa h zw_arr (by decide) zk_z_160 (Nat.le_of_ble_eq_true rfl) rfl (Nat.le_of_ble_eq_true rfl) ⟨Nat.le_of_ble_eq_true rfl, Nat.le_of_ble_eq_true rfl⟩ dX7_init_135 ?_
  refine ze_nmS (fun s19 => ?_)
  refine ze_lam zY_125 15 1684 rfl rfl rfl ?_
  refine ze_putRF h rfl (Nat.le_of_ble_eq_true rfl) zf_X7_52 rfl (zho rfl rfl) (fun _ => rfl) (fun _ => rfl) dX7_init_137 ?_
  refine ze_lam zY_126 15 1684 rfl rfl rfl ?_
  refine ze_aload_n h dX7_init_140 rfl ?_
  refine ze_bipush h 42 dX7_init_141 zk_b_42 ?_
  refine ze_newa h zw_arr (by decide) zk_z_42 (Nat.le_of_ble_eq_true rfl) rfl (Nat.le_of_ble_eq_true rfl) ⟨Nat.le_of_ble_eq_true rfl, Nat.le_of_ble_eq_true rfl⟩ dX7_init_143 ?_
  refine ze_nmS (fun s20 => ?_)
  refine ze_lam zY_127 16 1726 rfl rfl rfl ?_
  refine ze_dup h dX7_init_145 rfl ?_
  refine ze_iconst h 0 dX7_init_146 zk_i_0 ?_
  refine ze_pc 147 rfl ?_
  refine ze_bipush h 103 dX7_init_147 zk_b_103 ?_
  refine ze_iastG h rfl dX7_init_149 ?_
  refine ze_nmS (fun s21 => ?_)
  refine ze_dup h dX7_init_150 rfl ?_
  refine ze_iconst h 1 dX7_init_151 zk_i_1 ?_
  refine ze_bipush h 114 dX7_init_152 zk_b_114 ?_
  refine ze_iastG h rfl dX7_init_154 ?_
  refine ze_nmS (fun s22 => ?_)
  refine ze_dup h dX7_init_155 rfl ?_
  refine ze_iconst h 2 dX7_init_156 zk_i_2 ?_
  refine ze_bipush h 111 dX7_init_157 zk_b_111 ?_
  refine ze_iastG h rfl dX7_init_159 ?_
  refine ze_nmS (fun s23 => ?_)
  refine ze_dup h dX7_init_160 rfl ?_
  refine ze_iconst h 3 dX7_init_161 zk_i_3 ?_
  refine ze_bipush h 119 dX7_init_162 zk_b_119 ?_
  refine ze_iastG h rfl dX7_init_164 ?_
  refine ze_nmS (fun s24 => ?_)
  refine ze_pc 165 rfl ?_
  refine ze_dup h dX7_init_165 rfl ?_
  refine ze_iconst h 4 dX7_init_166 zk_i_4 ?_
  refine ze_bipush h 115 dX7_init_167 zk_b_115 ?_
  refine ze_iastG h rfl dX7_init_169 ?_
  refine ze_nmS (fun s25 => ?_)
  refine ze_dup h dX7_init_170 rfl ?_
  refine ze_iconst h 5 dX7_init_171 zk_i_5 ?_
  refine ze_bipush h 32 dX7_init_172 zk_b_32 ?_
  refine ze_iastG h rfl dX7_init_174 ?_
  refine ze_nmS (fun s26 => ?_)
  refine ze_dup h dX7_init_175 rfl ?_
  refine ze_bipush h 6 dX7_init_176 zk_b_6 ?_
  refine ze_bipush h 49 dX7_init_178 zk_b_49 ?_
  refine ze_iastG h rfl dX7_init_180 ?_
  refine ze_nmS (fun s27 => ?_)
  refine ze_dup h dX7_init_181 rfl ?_
  refine ze_bipush h 7 dX7_init_182 zk_b_7 ?_
  refine ze_pc 184 rfl ?_
  refine ze_bipush h 32 dX7_init_184 zk_b_32 ?_
  refine ze_iastG h rfl dX7_init_186 ?_
  refine ze_nmS (fun s28 => ?_)
  refine ze_dup h dX7_init_187 rfl ?_
  refine ze_bipush h 8 dX7_init_188 zk_b_8 ?_
  refine ze_bipush h 43 dX7_init_190 zk_b_43 ?_
  refine ze_iastG h rfl dX7_init_192 ?_
  refine ze_nmS (fun s29 => ?_)
  refine ze_dup h dX7_init_193 rfl ?_
  refine ze_bipush h 9 dX7_init_194 zk_b_9 ?_
  refine ze_bipush h 32 dX7_init_196 zk_b_32 ?_
  refine ze_iastG h rfl dX7_init_198 ?_
  refine ze_nmS (fun s30 => ?_)
  refine ze_dup h dX7_init_199 rfl ?_
  refine ze_bipush h 10 dX7_init_200 zk_b_10 ?_
  refine ze_bipush h 99 dX7_init_202 zk_b_99 ?_
  refine ze_iastG h rfl dX7_init_204 ?_
  refine ze_nmS (fun s31 => ?_)
  refine ze_pc 205 rfl ?_
  refine ze_dup h dX7_init_205 rfl ?_
  refine ze_bipush h 11 dX7_init_206 zk_b_11 ?_
  refine ze_bipush h 111 dX7_init_208 zk_b_111 ?_
  refine ze_iastG h rfl dX7_init_210 ?_
  refine ze_nmS (fun s32 => ?_)
  refine ze_dup h dX7_init_211 rfl ?_
  refine ze_bipush h 12 dX7_init_212 zk_b_12 ?_
  refine ze_bipush h 97 dX7_init_214 zk_b_97 ?_
  refine ze_iastG h rfl dX7_init_216 ?_
  refine ze_nmS (fun s33 => ?_)
  refine ze_dup h dX7_init_217 rfl ?_
  refine ze_bipush h 13 dX7_init_218 zk_b_13 ?_
  refine ze_bipush h 108 dX7_init_220 zk_b_108 ?_
  refine ze_iastG h rfl dX7_init_222 ?_
  refine ze_nmS (fun s34 => ?_)
  refine ze_dup h dX7_init_223 rfl ?_
  refine ze_bipush h 14 dX7_init_224 zk_b_14 ?_
  refine ze_pc 226 rfl ?_
  refine ze_bipush h 32 dX7_init_226 zk_b_32 ?_
  refine ze_iastG h rfl dX7_init_228 ?_
  refine ze_nmS (fun s35 => ?_)
  refine ze_dup h dX7_init_229 rfl ?_
  refine ze_bipush h 15 dX7_init_230 zk_b_15 ?_
  refine ze_bipush h 60 dX7_init_232 zk_b_60 ?_
  refine ze_iastG h rfl dX7_init_234 ?_
  refine ze_nmS (fun s36 => ?_)
  refine ze_dup h dX7_init_235 rfl ?_
  refine ze_bipush h 16 dX7_init_236 zk_b_16 ?_
  refine ze_bipush h 32 dX7_init_238 zk_b_32 ?_
  refine ze_iastG h rfl dX7_init_240 ?_
  refine ze_nmS (fun s37 => ?_)
  refine ze_dup h dX7_init_241 rfl ?_
  refine ze_bipush h 17 dX7_init_242 zk_b_17 ?_
  refine ze_bipush h 57 dX7_init_244 zk_b_57 ?_
  refine ze_iastG h rfl dX7_init_246 ?_
  refine ze_nmS (fun s38 => ?_)
  refine ze_pc 247 rfl ?_
  refine ze_dup h dX7_init_247 rfl ?_
  refine ze_bipush h 18 dX7_init_248 zk_b_18 ?_
  refine ze_bipush h 57 dX7_init_250 zk_b_57 ?_
  refine ze_iastG h rfl dX7_init_252 ?_
  refine ze_nmS (fun s39 => ?_)
  refine ze_dup h dX7_init_253 rfl ?_
  refine ze_bipush h 19 dX7_init_254 zk_b_19 ?_
  refine ze_bipush h 32 dX7_init_256 zk_b_32 ?_
  refine ze_iastG h rfl dX7_init_258 ?_
  refine ze_nmS (fun s40 => ?_)
  refine ze_dup h dX7_init_259 rfl ?_
  refine ze_bipush h 20 dX7_init_260 zk_b_20 ?_
  refine ze_bipush h 59 dX7_init_262 zk_b_59 ?_
  refine ze_iastG h rfl dX7_init_264 ?_
  refine ze_nmS (fun s41 => ?_)
  refine ze_dup h dX7_init_265 rfl ?_
  refine ze_bipush h 21 dX7_init_266 zk_b_21 ?_
  refine ze_pc 268 rfl ?_
  refine ze_bipush h 32 dX7_init_268 zk_b_32 ?_
  refine ze_iastG h rfl dX7_init_270 ?_
  refine ze_nmS (fun s42 => ?_)
  refine ze_dup h dX7_init_271 rfl ?_
  refine ze_bipush h 22 dX7_init_272 zk_b_22 ?_
  refine ze_bipush h 99 dX7_init_274 zk_b_99 ?_
  refine ze_iastG h rfl dX7_init_276 ?_
  refine ze_nmS (fun s43 => ?_)
  refine ze_dup h dX7_init_277 rfl ?_
  refine ze_bipush h 23 dX7_init_278 zk_b_23 ?_
  refine ze_bipush h 111 dX7_init_280 zk_b_111 ?_
  refine ze_iastG h rfl dX7_init_282 ?_
  refine ze_nmS (fun s44 => ?_)
  refine ze_dup h dX7_init_283 rfl ?_
  refine ze_bipush h 24 dX7_init_284 zk_b_24 ?_
  refine ze_bipush h 111 dX7_init_286 zk_b_111 ?_
  refine ze_iastG h rfl dX7_init_288 ?_
  refine ze_nmS (fun s45 => ?_)
  refine ze_pc 289 rfl ?_
  refine ze_dup h dX7_init_289 rfl ?_
  refine ze_bipush h 25 dX7_init_290 zk_b_25 ?_
  refine ze_bipush h 108 dX7_init_292 zk_b_108 ?_
  refine ze_iastG h rfl dX7_init_294 ?_
  refine ze_nmS (fun s46 => ?_)
  refine ze_dup h dX7_init_295 rfl ?_
  refine ze_bipush h 26 dX7_init_296 zk_b_26 ?_
  refine ze_bipush h 115 dX7_init_298 zk_b_115 ?_
  refine ze_iastG h rfl dX7_init_300 ?_
  refine ze_nmS (fun s47 => ?_)
  refine ze_dup h dX7_init_301 rfl ?_
  refine ze_bipush h 27 dX7_init_302 zk_b_27 ?_
  refine ze_bipush h 32 dX7_init_304 zk_b_32 ?_
  refine ze_iastG h rfl dX7_init_306 ?_
  refine ze_nmS (fun s48 => ?_)
  refine ze_dup h dX7_init_307 rfl ?_
  refine ze_bipush h 28 dX7_init_308 zk_b_28 ?_
  refine ze_pc 310 rfl ?_
  refine ze_bipush h 50 dX7_init_310 zk_b_50 ?_
  refine ze_iastG h rfl dX7_init_312 ?_
  refine ze_nmS (fun s49 => ?_)
  refine ze_dup h dX7_init_313 rfl ?_
  refine ze_bipush h 29 dX7_init_314 zk_b_29 ?_
  refine ze_bipush h 32 dX7_init_316 zk_b_32 ?_
  refine ze_iastG h rfl dX7_init_318 ?_
  refine ze_nmS (fun s50 => ?_)
  refine ze_dup h dX7_init_319 rfl ?_
  refine ze_bipush h 30 dX7_init_320 zk_b_30 ?_
  refine ze_bipush h 59 dX7_init_322 zk_b_59 ?_
  refine ze_iastG h rfl dX7_init_324 ?_
  refine ze_nmS (fun s51 => ?_)
  refine ze_dup h dX7_init_325 rfl ?_
  refine ze_bipush h 31 dX7_init_326 zk_b_31 ?_
  refine ze_bipush h 32 dX7_init_328 zk_b_32 ?_
  refine ze_iastG h rfl dX7_init_330 ?_
  refine ze_nmS (fun s52 => ?_)
  refine ze_pc 331 rfl ?_
  refine ze_dup h dX7_init_331 rfl ?_
  refine ze_bipush h 32 dX7_init_332 zk_b_32 ?_
  refine ze_bipush h 98 dX7_init_334 zk_b_98 ?_
  refine ze_iastG h rfl dX7_init_336 ?_
  refine ze_nmS (fun s53 => ?_)
  refine ze_dup h dX7_init_337 rfl ?_
  refine ze_bipush h 33 dX7_init_338 zk_b_33 ?_
  refine ze_bipush h 117 dX7_init_340 zk_b_117 ?_
  refine ze_iastG h rfl dX7_init_342 ?_
  refine ze_nmS (fun s54 => ?_)
  refine ze_dup h dX7_init_343 rfl ?_
  refine ze_bipush h 34 dX7_init_344 zk_b_34 ?_
  refine ze_bipush h 114 dX7_init_346 zk_b_114 ?_
  refine ze_iastG h rfl dX7_init_348 ?_
  refine ze_nmS (fun s55 => ?_)
  refine ze_dup h dX7_init_349 rfl ?_
  refine ze_bipush h 35 dX7_init_350 zk_b_35 ?_
  refine ze_pc 352 rfl ?_
  refine ze_bipush h 110 dX7_init_352 zk_b_110 ?_
  refine ze_iastG h rfl dX7_init_354 ?_
  refine ze_nmS (fun s56 => ?_)
  refine ze_dup h dX7_init_355 rfl ?_
  refine ze_bipush h 36 dX7_init_356 zk_b_36 ?_
  refine ze_bipush h 115 dX7_init_358 zk_b_115 ?_
  refine ze_iastG h rfl dX7_init_360 ?_
  refine ze_nmS (fun s57 => ?_)
  refine ze_dup h dX7_init_361 rfl ?_
  refine ze_bipush h 37 dX7_init_362 zk_b_37 ?_
  refine ze_bipush h 32 dX7_init_364 zk_b_32 ?_
  refine ze_iastG h rfl dX7_init_366 ?_
  refine ze_nmS (fun s58 => ?_)
  refine ze_dup h dX7_init_367 rfl ?_
  refine ze_bipush h 38 dX7_init_368 zk_b_38 ?_
  refine ze_bipush h 49 dX7_init_370 zk_b_49 ?_
  refine ze_iastG h rfl dX7_init_372 ?_
  refine ze_nmS (fun s59 => ?_)
  refine ze_pc 373 rfl ?_
  refine ze_dup h dX7_init_373 rfl ?_
  refine ze_bipush h 39 dX7_init_374 zk_b_39 ?_
  refine ze_bipush h 48 dX7_init_376 zk_b_48 ?_
  refine ze_iastG h rfl dX7_init_378 ?_
  refine ze_nmS (fun s60 => ?_)
  refine ze_dup h dX7_init_379 rfl ?_
  refine ze_bipush h 40 dX7_init_380 zk_b_40 ?_
  refine ze_bipush h 32 dX7_init_382 zk_b_32 ?_
  refine ze_iastG h rfl dX7_init_384 ?_
  refine ze_nmS (fun s61 => ?_)
  refine ze_dup h dX7_init_385 rfl ?_
  refine ze_bipush h 41 dX7_init_386 zk_b_41 ?_
  refine ze_bipush h 59 dX7_init_388 zk_b_59 ?_
  refine ze_iastG h rfl dX7_init_390 ?_
  refine ze_nmS (fun s62 => ?_)
  refine ze_putRF h rfl (Nat.le_of_ble_eq_true rfl) zf_X7_55 rfl (zho rfl rfl) (fun _ => rfl) (fun _ => rfl) dX7_init_391 ?_
  refine ze_lam zY_128 16 1726 rfl rfl rfl ?_
  refine ze_aload_n h dX7_init_394 rfl ?_
  refine ze_pc 395 rfl ?_
  refine ze_bipush h 96 dX7_init_395 zk_b_96 ?_
  refine ze_newa h zw_arr (by decide) zk_z_96 (Nat.le_of_ble_eq_true rfl) rfl (Nat.le_of_ble_eq_true rfl) ⟨Nat.le_of_ble_eq_true rfl, Nat.le_of_ble_eq_true rfl⟩ dX7_init_397 ?_
  refine ze_nmS (fun s63 => ?_)
  refine ze_lam zY_129 17 1822 rfl rfl rfl ?_
  refine ze_dup h dX7_init_399 rfl ?_
  refine ze_iconst h 0 dX7_init_400 zk_i_0 ?_
  refine ze_bipush h 103 dX7_init_401 zk_b_103 ?_
  refine ze_iastG h rfl dX7_init_403 ?_
  refine ze_nmS (fun s64 => ?_)
  refine ze_dup h dX7_init_404 rfl ?_
  refine ze_iconst h 1 dX7_init_405 zk_i_1 ?_
  refine ze_bipush h 114 dX7_init_406 zk_b_114 ?_
  refine ze_iastG h rfl dX7_init_408 ?_
  refine ze_nmS (fun s65 => ?_)
  refine ze_dup h dX7_init_409 rfl ?_
  refine ze_iconst h 2 dX7_init_410 zk_i_2 ?_
  refine ze_bipush h 111 dX7_init_411 zk_b_111 ?_
  refine ze_iastG h rfl dX7_init_413 ?_
  refine ze_nmS (fun s66 => ?_)
  refine ze_pc 414 rfl ?_
  refine ze_dup h dX7_init_414 rfl ?_
  refine ze_iconst h 3 dX7_init_415 zk_i_3 ?_
  refine ze_bipush h 119 dX7_init_416 zk_b_119 ?_
  refine ze_iastG h rfl dX7_init_418 ?_
  refine ze_nmS (fun s67 => ?_)
  refine ze_dup h dX7_init_419 rfl ?_
  refine ze_iconst h 4 dX7_init_420 zk_i_4 ?_
  refine ze_bipush h 115 dX7_init_421 zk_b_115 ?_
  refine ze_iastG h rfl dX7_init_423 ?_
  refine ze_nmS (fun s68 => ?_)
  refine ze_dup h dX7_init_424 rfl ?_
  refine ze_iconst h 5 dX7_init_425 zk_i_5 ?_
  refine ze_bipush h 32 dX7_init_426 zk_b_32 ?_
  refine ze_iastG h rfl dX7_init_428 ?_
  refine ze_nmS (fun s69 => ?_)
  refine ze_dup h dX7_init_429 rfl ?_
  refine ze_bipush h 6 dX7_init_430 zk_b_6 ?_
  refine ze_pc 432 rfl ?_
  refine ze_bipush h 32 dX7_init_432 zk_b_32 ?_
  refine ze_iastG h rfl dX7_init_434 ?_
  refine ze_nmS (fun s70 => ?_)
  refine ze_dup h dX7_init_435 rfl ?_
  refine ze_bipush h 7 dX7_init_436 zk_b_7 ?_
  refine ze_bipush h 32 dX7_init_438 zk_b_32 ?_
  refine ze_iastG h rfl dX7_init_440 ?_
  refine ze_nmS (fun s71 => ?_)
  refine ze_dup h dX7_init_441 rfl ?_
  refine ze_bipush h 8 dX7_init_442 zk_b_8 ?_
  refine ze_bipush h 99 dX7_init_444 zk_b_99 ?_
  refine ze_iastG h rfl dX7_init_446 ?_
  refine ze_nmS (fun s72 => ?_)
  refine ze_dup h dX7_init_447 rfl ?_
  refine ze_bipush h 9 dX7_init_448 zk_b_9 ?_
  refine ze_bipush h 111 dX7_init_450 zk_b_111 ?_
  refine ze_iastG h rfl dX7_init_452 ?_
  refine ze_nmS (fun s73 => ?_)
  refine ze_pc 453 rfl ?_
  refine ze_dup h dX7_init_453 rfl ?_
  refine ze_bipush h 10 dX7_init_454 zk_b_10 ?_
  refine ze_bipush h 111 dX7_init_456 zk_b_111 ?_
  refine ze_iastG h rfl dX7_init_458 ?_
  refine ze_nmS (fun s74 => ?_)
  refine ze_dup h dX7_init_459 rfl ?_
  refine ze_bipush h 11 dX7_init_460 zk_b_11 ?_
  refine ze_bipush h 108 dX7_init_462 zk_b_108 ?_
  refine ze_iastG h rfl dX7_init_464 ?_
  refine ze_nmS (fun s75 => ?_)
  refine ze_dup h dX7_init_465 rfl ?_
  refine ze_bipush h 12 dX7_init_466 zk_b_12 ?_
  refine ze_bipush h 115 dX7_init_468 zk_b_115 ?_
  refine ze_iastG h rfl dX7_init_470 ?_
  refine ze_nmS (fun s76 => ?_)
  refine ze_dup h dX7_init_471 rfl ?_
  refine ze_bipush h 13 dX7_init_472 zk_b_13 ?_
  refine ze_pc 474 rfl ?_
  refine ze_bipush h 32 dX7_init_474 zk_b_32 ?_
  refine ze_iastG h rfl dX7_init_476 ?_
  refine ze_nmS (fun s77 => ?_)
  refine ze_dup h dX7_init_477 rfl ?_
  refine ze_bipush h 14 dX7_init_478 zk_b_14 ?_
  refine ze_bipush h 32 dX7_init_480 zk_b_32 ?_
  refine ze_iastG h rfl dX7_init_482 ?_
  refine ze_nmS (fun s78 => ?_)
  refine ze_dup h dX7_init_483 rfl ?_
  refine ze_bipush h 15 dX7_init_484 zk_b_15 ?_
  refine ze_bipush h 32 dX7_init_486 zk_b_32 ?_
  refine ze_iastG h rfl dX7_init_488 ?_
  refine ze_nmS (fun s79 => ?_)
  refine ze_dup h dX7_init_489 rfl ?_
  refine ze_bipush h 16 dX7_init_490 zk_b_16 ?_
  refine ze_bipush h 98 dX7_init_492 zk_b_98 ?_
  refine ze_iastG h rfl dX7_init_494 ?_
  refine ze_nmS (fun s80 => ?_)
  refine ze_pc 495 rfl ?_
  refine ze_dup h dX7_init_495 rfl ?_
  refine ze_bipush h 17 dX7_init_496 zk_b_17 ?_
  refine ze_bipush h 117 dX7_init_498 zk_b_117 ?_
  refine ze_iastG h rfl dX7_init_500 ?_
  refine ze_nmS (fun s81 => ?_)
  refine ze_dup h dX7_init_501 rfl ?_
  refine ze_bipush h 18 dX7_init_502 zk_b_18 ?_
  refine ze_bipush h 114 dX7_init_504 zk_b_114 ?_
  refine ze_iastG h rfl dX7_init_506 ?_
  refine ze_nmS (fun s82 => ?_)
  refine ze_dup h dX7_init_507 rfl ?_
  refine ze_bipush h 19 dX7_init_508 zk_b_19 ?_
  refine ze_bipush h 110 dX7_init_510 zk_b_110 ?_
  refine ze_iastG h rfl dX7_init_512 ?_
  refine ze_nmS (fun s83 => ?_)
  refine ze_dup h dX7_init_513 rfl ?_
  refine ze_bipush h 20 dX7_init_514 zk_b_20 ?_
  refine ze_pc 516 rfl ?_
  refine ze_bipush h 115 dX7_init_516 zk_b_115 ?_
  refine ze_iastG h rfl dX7_init_518 ?_
  refine ze_nmS (fun s84 => ?_)
  refine ze_dup h dX7_init_519 rfl ?_
  refine ze_bipush h 21 dX7_init_520 zk_b_21 ?_
  refine ze_bipush h 32 dX7_init_522 zk_b_32 ?_
  refine ze_iastG h rfl dX7_init_524 ?_
  refine ze_nmS (fun s85 => ?_)
  refine ze_dup h dX7_init_525 rfl ?_
  refine ze_bipush h 22 dX7_init_526 zk_b_22 ?_
  refine ze_bipush h 32 dX7_init_528 zk_b_32 ?_
  refine ze_iastG h rfl dX7_init_530 ?_
  refine ze_nmS (fun s86 => ?_)
  refine ze_dup h dX7_init_531 rfl ?_
  refine ze_bipush h 23 dX7_init_532 zk_b_23 ?_
  refine ze_bipush h 32 dX7_init_534 zk_b_32 ?_
  refine ze_iastG h rfl dX7_init_536 ?_
  refine ze_nmS (fun s87 => ?_)
  refine ze_pc 537 rfl ?_
  refine ze_dup h dX7_init_537 rfl ?_
  refine ze_bipush h 24 dX7_init_538 zk_b_24 ?_
  refine ze_bipush h 104 dX7_init_540 zk_b_104 ?_
  refine ze_iastG h rfl dX7_init_542 ?_
  refine ze_nmS (fun s88 => ?_)
  refine ze_dup h dX7_init_543 rfl ?_
  refine ze_bipush h 25 dX7_init_544 zk_b_25 ?_
  refine ze_bipush h 101 dX7_init_546 zk_b_101 ?_
  refine ze_iastG h rfl dX7_init_548 ?_
  refine ze_nmS (fun s89 => ?_)
  refine ze_dup h dX7_init_549 rfl ?_
  refine ze_bipush h 26 dX7_init_550 zk_b_26 ?_
  refine ze_bipush h 97 dX7_init_552 zk_b_97 ?_
  refine ze_iastG h rfl dX7_init_554 ?_
  refine ze_nmS (fun s90 => ?_)
  refine ze_dup h dX7_init_555 rfl ?_
  refine ze_bipush h 27 dX7_init_556 zk_b_27 ?_
  refine ze_pc 558 rfl ?_
  refine ze_bipush h 116 dX7_init_558 zk_b_116 ?_
  refine ze_iastG h rfl dX7_init_560 ?_
  refine ze_nmS (fun s91 => ?_)
  refine ze_dup h dX7_init_561 rfl ?_
  refine ze_bipush h 28 dX7_init_562 zk_b_28 ?_
  refine ze_bipush h 32 dX7_init_564 zk_b_32 ?_
  refine ze_iastG h rfl dX7_init_566 ?_
  refine ze_nmS (fun s92 => ?_)
  refine ze_dup h dX7_init_567 rfl ?_
  refine ze_bipush h 29 dX7_init_568 zk_b_29 ?_
  refine ze_bipush h 32 dX7_init_570 zk_b_32 ?_
  refine ze_iastG h rfl dX7_init_572 ?_
  refine ze_nmS (fun s93 => ?_)
  refine ze_dup h dX7_init_573 rfl ?_
  refine ze_bipush h 30 dX7_init_574 zk_b_30 ?_
  refine ze_bipush h 32 dX7_init_576 zk_b_32 ?_
  refine ze_iastG h rfl dX7_init_578 ?_
  refine ze_nmS (fun s94 => ?_)
  refine ze_pc 579 rfl ?_
  refine ze_dup h dX7_init_579 rfl ?_
  refine ze_bipush h 31 dX7_init_580 zk_b_31 ?_
  refine ze_bipush h 32 dX7_init_582 zk_b_32 ?_
  refine ze_iastG h rfl dX7_init_584 ?_
  refine ze_nmS (fun s95 => ?_)
  refine ze_dup h dX7_init_585 rfl ?_
  refine ze_bipush h 32 dX7_init_586 zk_b_32 ?_
  refine ze_bipush h 119 dX7_init_588 zk_b_119 ?_
  refine ze_iastG h rfl dX7_init_590 ?_
  refine ze_nmS (fun s96 => ?_)
  refine ze_dup h dX7_init_591 rfl ?_
  refine ze_bipush h 33 dX7_init_592 zk_b_33 ?_
  refine ze_bipush h 111 dX7_init_594 zk_b_111 ?_
  refine ze_iastG h rfl dX7_init_596 ?_
  refine ze_nmS (fun s97 => ?_)
  refine ze_dup h dX7_init_597 rfl ?_
  refine ze_bipush h 34 dX7_init_598 zk_b_34 ?_
  refine ze_pc 600 rfl ?_
  refine ze_bipush h 111 dX7_init_600 zk_b_111 ?_
  refine ze_iastG h rfl dX7_init_602 ?_
  refine ze_nmS (fun s98 => ?_)
  refine ze_dup h dX7_init_603 rfl ?_
  refine ze_bipush h 35 dX7_init_604 zk_b_35 ?_
  refine ze_bipush h 100 dX7_init_606 zk_b_100 ?_
  refine ze_iastG h rfl dX7_init_608 ?_
  refine ze_nmS (fun s99 => ?_)
  refine ze_dup h dX7_init_609 rfl ?_
  refine ze_bipush h 36 dX7_init_610 zk_b_36 ?_
  refine ze_bipush h 32 dX7_init_612 zk_b_32 ?_
  refine ze_iastG h rfl dX7_init_614 ?_
  refine ze_nmS (fun s100 => ?_)
  refine ze_dup h dX7_init_615 rfl ?_
  refine ze_bipush h 37 dX7_init_616 zk_b_37 ?_
  refine ze_bipush h 32 dX7_init_618 zk_b_32 ?_
  refine ze_iastG h rfl dX7_init_620 ?_
  refine ze_nmS (fun s101 => ?_)
  refine ze_pc 621 rfl ?_
  refine ze_dup h dX7_init_621 rfl ?_
  refine ze_bipush h 38 dX7_init_622 zk_b_38 ?_
  refine ze_bipush h 32 dX7_init_624 zk_b_32 ?_
  refine ze_iastG h rfl dX7_init_626 ?_
  refine ze_nmS (fun s102 => ?_)
  refine ze_dup h dX7_init_627 rfl ?_
  refine ze_bipush h 39 dX7_init_628 zk_b_39 ?_
  refine ze_bipush h 32 dX7_init_630 zk_b_32 ?_
  refine ze_iastG h rfl dX7_init_632 ?_
  refine ze_nmS (fun s103 => ?_)
  refine ze_dup h dX7_init_633 rfl ?_
  refine ze_bipush h 40 dX7_init_634 zk_b_40 ?_
  refine ze_bipush h 110 dX7_init_636 zk_b_110 ?_
  refine ze_iastG h rfl dX7_init_638 ?_
  refine ze_nmS (fun s104 => ?_)
  refine ze_dup h dX7_init_639 rfl ?_
  refine ze_bipush h 41 dX7_init_640 zk_b_41 ?_
  refine ze_pc 642 rfl ?_
  refine ze_bipush h 105 dX7_init_642 zk_b_105 ?_
  refine ze_iastG h rfl dX7_init_644 ?_
  refine ze_nmS (fun s105 => ?_)
  refine ze_dup h dX7_init_645 rfl ?_
  refine ze_bipush h 42 dX7_init_646 zk_b_42 ?_
  refine ze_bipush h 103 dX7_init_648 zk_b_103 ?_
  refine ze_iastG h rfl dX7_init_650 ?_
  refine ze_nmS (fun s106 => ?_)
  refine ze_dup h dX7_init_651 rfl ?_
  refine ze_bipush h 43 dX7_init_652 zk_b_43 ?_
  refine ze_bipush h 104 dX7_init_654 zk_b_104 ?_
  refine ze_iastG h rfl dX7_init_656 ?_
  refine ze_nmS (fun s107 => ?_)
  refine ze_dup h dX7_init_657 rfl ?_
  refine ze_bipush h 44 dX7_init_658 zk_b_44 ?_
  refine ze_bipush h 116 dX7_init_660 zk_b_116 ?_
  refine ze_iastG h rfl dX7_init_662 ?_
  refine ze_nmS (fun s108 => ?_)
  refine ze_pc 663 rfl ?_
  refine ze_dup h dX7_init_663 rfl ?_
  refine ze_bipush h 45 dX7_init_664 zk_b_45 ?_
  refine ze_bipush h 32 dX7_init_666 zk_b_32 ?_
  refine ze_iastG h rfl dX7_init_668 ?_
  refine ze_nmS (fun s109 => ?_)
  refine ze_dup h dX7_init_669 rfl ?_
  refine ze_bipush h 46 dX7_init_670 zk_b_46 ?_
  refine ze_bipush h 32 dX7_init_672 zk_b_32 ?_
  refine ze_iastG h rfl dX7_init_674 ?_
  refine ze_nmS (fun s110 => ?_)
  refine ze_dup h dX7_init_675 rfl ?_
  refine ze_bipush h 47 dX7_init_676 zk_b_47 ?_
  refine ze_bipush h 32 dX7_init_678 zk_b_32 ?_
  refine ze_iastG h rfl dX7_init_680 ?_
  refine ze_nmS (fun s111 => ?_)
  refine ze_dup h dX7_init_681 rfl ?_
  refine ze_bipush h 48 dX7_init_682 zk_b_48 ?_
  refine ze_pc 684 rfl ?_
  refine ze_bipush h 99 dX7_init_684 zk_b_99 ?_
  refine ze_iastG h rfl dX7_init_686 ?_
  refine ze_nmS (fun s112 => ?_)
  refine ze_dup h dX7_init_687 rfl ?_
  refine ze_bipush h 49 dX7_init_688 zk_b_49 ?_
  refine ze_bipush h 111 dX7_init_690 zk_b_111 ?_
  refine ze_iastG h rfl dX7_init_692 ?_
  refine ze_nmS (fun s113 => ?_)
  refine ze_dup h dX7_init_693 rfl ?_
  refine ze_bipush h 50 dX7_init_694 zk_b_50 ?_
  refine ze_bipush h 97 dX7_init_696 zk_b_97 ?_
  refine ze_iastG h rfl dX7_init_698 ?_
  refine ze_nmS (fun s114 => ?_)
  refine ze_dup h dX7_init_699 rfl ?_
  refine ze_bipush h 51 dX7_init_700 zk_b_51 ?_
  refine ze_bipush h 108 dX7_init_702 zk_b_108 ?_
  refine ze_iastG h rfl dX7_init_704 ?_
  refine ze_nmS (fun s115 => ?_)
  refine ze_pc 705 rfl ?_
  refine ze_dup h dX7_init_705 rfl ?_
  refine ze_bipush h 52 dX7_init_706 zk_b_52 ?_
  refine ze_bipush h 32 dX7_init_708 zk_b_32 ?_
  refine ze_iastG h rfl dX7_init_710 ?_
  refine ze_nmS (fun s116 => ?_)
  refine ze_dup h dX7_init_711 rfl ?_
  refine ze_bipush h 53 dX7_init_712 zk_b_53 ?_
  refine ze_bipush h 32 dX7_init_714 zk_b_32 ?_
  refine ze_iastG h rfl dX7_init_716 ?_
  refine ze_nmS (fun s117 => ?_)
  refine ze_dup h dX7_init_717 rfl ?_
  refine ze_bipush h 54 dX7_init_718 zk_b_54 ?_
  refine ze_bipush h 32 dX7_init_720 zk_b_32 ?_
  refine ze_iastG h rfl dX7_init_722 ?_
  refine ze_nmS (fun s118 => ?_)
  refine ze_dup h dX7_init_723 rfl ?_
  refine ze_bipush h 55 dX7_init_724 zk_b_55 ?_
  refine ze_pc 726 rfl ?_
  refine ze_bipush h 32 dX7_init_726 zk_b_32 ?_
  refine ze_iastG h rfl dX7_init_728 ?_
  refine ze_nmS (fun s119 => ?_)
  refine ze_dup h dX7_init_729 rfl ?_
  refine ze_bipush h 56 dX7_init_730 zk_b_56 ?_
  refine ze_bipush h 111 dX7_init_732 zk_b_111 ?_
  refine ze_iastG h rfl dX7_init_734 ?_
  refine ze_nmS (fun s120 => ?_)
  refine ze_dup h dX7_init_735 rfl ?_
  refine ze_bipush h 57 dX7_init_736 zk_b_57 ?_
  refine ze_bipush h 119 dX7_init_738 zk_b_119 ?_
  refine ze_iastG h rfl dX7_init_740 ?_
  refine ze_nmS (fun s121 => ?_)
  refine ze_dup h dX7_init_741 rfl ?_
  refine ze_bipush h 58 dX7_init_742 zk_b_58 ?_
  refine ze_bipush h 101 dX7_init_744 zk_b_101 ?_
  refine ze_iastG h rfl dX7_init_746 ?_
  refine ze_nmS (fun s122 => ?_)
  refine ze_pc 747 rfl ?_
  refine ze_dup h dX7_init_747 rfl ?_
  refine ze_bipush h 59 dX7_init_748 zk_b_59 ?_
  refine ze_bipush h 100 dX7_init_750 zk_b_100 ?_
  refine ze_iastG h rfl dX7_init_752 ?_
  refine ze_nmS (fun s123 => ?_)
  refine ze_dup h dX7_init_753 rfl ?_
  refine ze_bipush h 60 dX7_init_754 zk_b_60 ?_
  refine ze_bipush h 32 dX7_init_756 zk_b_32 ?_
  refine ze_iastG h rfl dX7_init_758 ?_
  refine ze_nmS (fun s124 => ?_)
  refine ze_dup h dX7_init_759 rfl ?_
  refine ze_bipush h 61 dX7_init_760 zk_b_61 ?_
  refine ze_bipush h 32 dX7_init_762 zk_b_32 ?_
  refine ze_iastG h rfl dX7_init_764 ?_
  refine ze_nmS (fun s125 => ?_)
  refine ze_dup h dX7_init_765 rfl ?_
  refine ze_bipush h 62 dX7_init_766 zk_b_62 ?_
  refine ze_pc 768 rfl ?_
  refine ze_bipush h 32 dX7_init_768 zk_b_32 ?_
  refine ze_iastG h rfl dX7_init_770 ?_
  refine ze_nmS (fun s126 => ?_)
  refine ze_dup h dX7_init_771 rfl ?_
  refine ze_bipush h 63 dX7_init_772 zk_b_63 ?_
  refine ze_bipush h 32 dX7_init_774 zk_b_32 ?_
  refine ze_iastG h rfl dX7_init_776 ?_
  refine ze_nmS (fun s127 => ?_)
  refine ze_dup h dX7_init_777 rfl ?_
  refine ze_bipush h 64 dX7_init_778 zk_b_64 ?_
  refine ze_bipush h 109 dX7_init_780 zk_b_109 ?_
  refine ze_iastG h rfl dX7_init_782 ?_
  refine ze_nmS (fun s128 => ?_)
  refine ze_dup h dX7_init_783 rfl ?_
  refine ze_bipush h 65 dX7_init_784 zk_b_65 ?_
  refine ze_bipush h 111 dX7_init_786 zk_b_111 ?_
  refine ze_iastG h rfl dX7_init_788 ?_
  refine ze_nmS (fun s129 => ?_)
  refine ze_pc 789 rfl ?_
  refine ze_dup h dX7_init_789 rfl ?_
  refine ze_bipush h 66 dX7_init_790 zk_b_66 ?_
  refine ze_bipush h 114 dX7_init_792 zk_b_114 ?_
  refine ze_iastG h rfl dX7_init_794 ?_
  refine ze_nmS (fun s130 => ?_)
  refine ze_dup h dX7_init_795 rfl ?_
  refine ze_bipush h 67 dX7_init_796 zk_b_67 ?_
  refine ze_bipush h 101 dX7_init_798 zk_b_101 ?_
  refine ze_iastG h rfl dX7_init_800 ?_
  refine ze_nmS (fun s131 => ?_)
  refine ze_dup h dX7_init_801 rfl ?_
  refine ze_bipush h 68 dX7_init_802 zk_b_68 ?_
  refine ze_bipush h 32 dX7_init_804 zk_b_32 ?_
  refine ze_iastG h rfl dX7_init_806 ?_
  refine ze_nmS (fun s132 => ?_)
  refine ze_dup h dX7_init_807 rfl ?_
  refine ze_bipush h 69 dX7_init_808 zk_b_69 ?_
  refine ze_pc 810 rfl ?_
  refine ze_bipush h 32 dX7_init_810 zk_b_32 ?_
  refine ze_iastG h rfl dX7_init_812 ?_
  refine ze_nmS (fun s133 => ?_)
  refine ze_dup h dX7_init_813 rfl ?_
  refine ze_bipush h 70 dX7_init_814 zk_b_70 ?_
  refine ze_bipush h 32 dX7_init_816 zk_b_32 ?_
  refine ze_iastG h rfl dX7_init_818 ?_
  refine ze_nmS (fun s134 => ?_)
  refine ze_dup h dX7_init_819 rfl ?_
  refine ze_bipush h 71 dX7_init_820 zk_b_71 ?_
  refine ze_bipush h 32 dX7_init_822 zk_b_32 ?_
  refine ze_iastG h rfl dX7_init_824 ?_
  refine ze_nmS (fun s135 => ?_)
  refine ze_dup h dX7_init_825 rfl ?_
  refine ze_bipush h 72 dX7_init_826 zk_b_72 ?_
  refine ze_bipush h 111 dX7_init_828 zk_b_111 ?_
  refine ze_iastG h rfl dX7_init_830 ?_
  refine ze_nmS (fun s136 => ?_)
  refine ze_pc 831 rfl ?_
  refine ze_dup h dX7_init_831 rfl ?_
  refine ze_bipush h 73 dX7_init_832 zk_b_73 ?_
  refine ze_bipush h 114 dX7_init_834 zk_b_114 ?_
  refine ze_iastG h rfl dX7_init_836 ?_
  refine ze_nmS (fun s137 => ?_)
  refine ze_dup h dX7_init_837 rfl ?_
  refine ze_bipush h 74 dX7_init_838 zk_b_74 ?_
  refine ze_bipush h 32 dX7_init_840 zk_b_32 ?_
  refine ze_iastG h rfl dX7_init_842 ?_
  refine ze_nmS (fun s138 => ?_)
  refine ze_dup h dX7_init_843 rfl ?_
  refine ze_bipush h 75 dX7_init_844 zk_b_75 ?_
  refine ze_bipush h 32 dX7_init_846 zk_b_32 ?_
  refine ze_iastG h rfl dX7_init_848 ?_
  refine ze_nmS (fun s139 => ?_)
  refine ze_dup h dX7_init_849 rfl ?_
  refine ze_bipush h 76 dX7_init_850 zk_b_76 ?_
  refine ze_pc 852 rfl ?_
  refine ze_bipush h 32 dX7_init_852 zk_b_32 ?_
  refine ze_iastG h rfl dX7_init_854 ?_
  refine ze_nmS (fun s140 => ?_)
  refine ze_dup h dX7_init_855 rfl ?_
  refine ze_bipush h 77 dX7_init_856 zk_b_77 ?_
  refine ze_bipush h 32 dX7_init_858 zk_b_32 ?_
  refine ze_iastG h rfl dX7_init_860 ?_
  refine ze_nmS (fun s141 => ?_)
  refine ze_dup h dX7_init_861 rfl ?_
  refine ze_bipush h 78 dX7_init_862 zk_b_78 ?_
  refine ze_bipush h 32 dX7_init_864 zk_b_32 ?_
  refine ze_iastG h rfl dX7_init_866 ?_
  refine ze_nmS (fun s142 => ?_)
  refine ze_dup h dX7_init_867 rfl ?_
  refine ze_bipush h 79 dX7_init_868 zk_b_79 ?_
  refine ze_bipush h 32 dX7_init_870 zk_b_32 ?_
  refine ze_iastG h rfl dX7_init_872 ?_
  refine ze_nmS (fun s143 => ?_)
  refine ze_pc 873 rfl ?_
  refine ze_dup h dX7_init_873 rfl ?_
  refine ze_bipush h 80 dX7_init_874 zk_b_80 ?_
  refine ze_bipush h 97 dX7_init_876 zk_b_97 ?_
  refine ze_iastG h rfl dX7_init_878 ?_
  refine ze_nmS (fun s144 => ?_)
  refine ze_dup h dX7_init_879 rfl ?_
  refine ze_bipush h 81 dX7_init_880 zk_b_81 ?_
  refine ze_bipush h 110 dX7_init_882 zk_b_110 ?_
  refine ze_iastG h rfl dX7_init_884 ?_
  refine ze_nmS (fun s145 => ?_)
  refine ze_dup h dX7_init_885 rfl ?_
  refine ze_bipush h 82 dX7_init_886 zk_b_82 ?_
  refine ze_bipush h 100 dX7_init_888 zk_b_100 ?_
  refine ze_iastG h rfl dX7_init_890 ?_
  refine ze_nmS (fun s146 => ?_)
  refine ze_dup h dX7_init_891 rfl ?_
  refine ze_bipush h 83 dX7_init_892 zk_b_83 ?_
  refine ze_pc 894 rfl ?_
  refine ze_bipush h 32 dX7_init_894 zk_b_32 ?_
  refine ze_iastG h rfl dX7_init_896 ?_
  refine ze_nmS (fun s147 => ?_)
  refine ze_dup h dX7_init_897 rfl ?_
  refine ze_bipush h 84 dX7_init_898 zk_b_84 ?_
  refine ze_bipush h 32 dX7_init_900 zk_b_32 ?_
  refine ze_iastG h rfl dX7_init_902 ?_
  refine ze_nmS (fun s148 => ?_)
  refine ze_dup h dX7_init_903 rfl ?_
  refine ze_bipush h 85 dX7_init_904 zk_b_85 ?_
  refine ze_bipush h 32 dX7_init_906 zk_b_32 ?_
  refine ze_iastG h rfl dX7_init_908 ?_
  refine ze_nmS (fun s149 => ?_)
  refine ze_dup h dX7_init_909 rfl ?_
  refine ze_bipush h 86 dX7_init_910 zk_b_86 ?_
  refine ze_bipush h 32 dX7_init_912 zk_b_32 ?_
  refine ze_iastG h rfl dX7_init_914 ?_
  refine ze_nmS (fun s150 => ?_)
  refine ze_pc 915 rfl ?_
  refine ze_dup h dX7_init_915 rfl ?_
  refine ze_bipush h 87 dX7_init_916 zk_b_87 ?_
  refine ze_bipush h 32 dX7_init_918 zk_b_32 ?_
  refine ze_iastG h rfl dX7_init_920 ?_
  refine ze_nmS (fun s151 => ?_)
  refine ze_dup h dX7_init_921 rfl ?_
  refine ze_bipush h 88 dX7_init_922 zk_b_88 ?_
  refine ze_bipush h 110 dX7_init_924 zk_b_110 ?_
  refine ze_iastG h rfl dX7_init_926 ?_
  refine ze_nmS (fun s152 => ?_)
  refine ze_dup h dX7_init_927 rfl ?_
  refine ze_bipush h 89 dX7_init_928 zk_b_89 ?_
  refine ze_bipush h 111 dX7_init_930 zk_b_111 ?_
  refine ze_iastG h rfl dX7_init_932 ?_
  refine ze_nmS (fun s153 => ?_)
  refine ze_dup h dX7_init_933 rfl ?_
  refine ze_bipush h 90 dX7_init_934 zk_b_90 ?_
  refine ze_pc 936 rfl ?_
  refine ze_bipush h 116 dX7_init_936 zk_b_116 ?_
  refine ze_iastG h rfl dX7_init_938 ?_
  refine ze_nmS (fun s154 => ?_)
  refine ze_dup h dX7_init_939 rfl ?_
  refine ze_bipush h 91 dX7_init_940 zk_b_91 ?_
  refine ze_bipush h 32 dX7_init_942 zk_b_32 ?_
  refine ze_iastG h rfl dX7_init_944 ?_
  refine ze_nmS (fun s155 => ?_)
  refine ze_dup h dX7_init_945 rfl ?_
  refine ze_bipush h 92 dX7_init_946 zk_b_92 ?_
  refine ze_bipush h 32 dX7_init_948 zk_b_32 ?_
  refine ze_iastG h rfl dX7_init_950 ?_
  refine ze_nmS (fun s156 => ?_)
  refine ze_dup h dX7_init_951 rfl ?_
  refine ze_bipush h 93 dX7_init_952 zk_b_93 ?_
  refine ze_bipush h 32 dX7_init_954 zk_b_32 ?_
  refine ze_iastG h rfl dX7_init_956 ?_
  refine ze_nmS (fun s157 => ?_)
  refine ze_pc 957 rfl ?_
  refine ze_dup h dX7_init_957 rfl ?_
  refine ze_bipush h 94 dX7_init_958 zk_b_94 ?_
  refine ze_bipush h 32 dX7_init_960 zk_b_32 ?_
  refine ze_iastG h rfl dX7_init_962 ?_
  refine ze_nmS (fun s158 => ?_)
  refine ze_dup h dX7_init_963 rfl ?_
  refine ze_bipush h 95 dX7_init_964 zk_b_95 ?_
  refine ze_bipush h 32 dX7_init_966 zk_b_32 ?_
  refine ze_iastG h rfl dX7_init_968 ?_
  refine ze_nmS (fun s159 => ?_)
  refine ze_putRF h rfl (Nat.le_of_ble_eq_true rfl) zf_X7_58 rfl (zho rfl rfl) (fun _ => rfl) (fun _ => rfl) dX7_init_969 ?_
  refine ze_lam zY_130 17 1822 rfl rfl rfl ?_
  refine ze_aload_n h dX7_init_972 rfl ?_
  refine ze_sipush h 200 dX7_init_973 zk_s_200 ?_
  refine ze_newa h zw_arr (by decide) zk_z_200 (Nat.le_of_ble_eq_true rfl) rfl (Nat.le_of_ble_eq_true rfl) ⟨Nat.le_of_ble_eq_true rfl, Nat.le_of_ble_eq_true rfl⟩ dX7_init_976 ?_
  refine ze_nmS (fun s160 => ?_)
  refine ze_lam zY_131 18 2022 rfl rfl rfl ?_
  refine ze_putRF h rfl (Nat.le_of_ble_eq_true rfl) zf_X7_61 rfl (zho rfl rfl) (fun _ => rfl) (fun _ => rfl) dX7_init_978 ?_
  refine ze_lam zY_132 18 2022 rfl rfl rfl ?_
  refine ze_aload_n h dX7_init_981 rfl ?_
  refine ze_pc 982 rfl ?_
  refine ze_sipush h 200 dX7_init_982 zk_s_200 ?_
  refine ze_newa h zw_arr (by decide) zk_z_200 (Nat.le_of_ble_eq_true rfl) rfl (Nat.le_of_ble_eq_true rfl) ⟨Nat.le_of_ble_eq_true rfl, Nat.le_of_ble_eq_true rfl⟩ dX7_init_985 ?_
  refine ze_nmS (fun s161 => ?_)
  refine ze_lam zY_133 19 2222 rfl rfl rfl ?_
  refine ze_putRF h rfl (Nat.le_of_ble_eq_true rfl) zf_X7_64 rfl (zho rfl rfl) (fun _ => rfl) (fun _ => rfl) dX7_init_987 ?_
  refine ze_lam zY_134 19 2222 rfl rfl rfl ?_
  refine ze_aload_n h dX7_init_990 rfl ?_
  refine ze_bipush h 6 dX7_init_991 zk_b_6 ?_
  refine ze_newa h zw_arr (by decide) zk_z_6 (Nat.le_of_ble_eq_true rfl) rfl (Nat.le_of_ble_eq_true rfl) ⟨Nat.le_of_ble_eq_true rfl, Nat.le_of_ble_eq_true rfl⟩ dX7_init_993 ?_
  refine ze_nmS (fun s162 => ?_)
  refine ze_lam zY_135 20 2228 rfl rfl rfl ?_
  refine ze_putRF h rfl (Nat.le_of_ble_eq_true rfl) zf_X7_67 rfl (zho rfl rfl) (fun _ => rfl) (fun _ => rfl) dX7_init_995 ?_
  refine ze_lam zY_136 20 2228 rfl rfl rfl ?_
  refine ze_aload_n h dX7_init_998 rfl ?_
  refine ze_bipush h 60 dX7_init_999 zk_b_60 ?_
  refine ze_newa h zw_arr (by decide) zk_z_60 (Nat.le_of_ble_eq_true rfl) rfl (Nat.le_of_ble_eq_true rfl) ⟨Nat.le_of_ble_eq_true rfl, Nat.le_of_ble_eq_true rfl⟩ dX7_init_1001 ?_
  refine ze_nmS (fun s163 => ?_)
  refine ze_lam zY_137 21 2288 rfl rfl rfl ?_
  refine ze_putRF h rfl (Nat.le_of_ble_eq_true rfl) zf_X7_70 rfl (zho rfl rfl) (fun _ => rfl) (fun _ => rfl) dX7_init_1003 ?_
  refine ze_lam zY_138 21 2288 rfl rfl rfl ?_
  refine ze_aload_n h dX7_init_1006 rfl ?_
  refine ze_bipush h 6 dX7_init_1007 zk_b_6 ?_
  refine ze_newa h zw_arr (by decide) zk_z_6 (Nat.le_of_ble_eq_true rfl) rfl (Nat.le_of_ble_eq_true rfl) ⟨Nat.le_of_ble_eq_true rfl, Nat.le_of_ble_eq_true rfl⟩ dX7_init_1009 ?_
  refine ze_nmS (fun s164 => ?_)
  refine ze_lam zY_139 22 2294 rfl rfl rfl ?_
  refine ze_pc 1011 rfl ?_
  refine ze_putRF h rfl (Nat.le_of_ble_eq_true rfl) zf_X7_73 rfl (zho rfl rfl) (fun _ => rfl) (fun _ => rfl) dX7_init_1011 ?_
  refine ze_lam zFull 22 2294 rfl rfl rfl ?_
  refine ze_iconst h 0 dX7_init_1014 zk_i_0 ?_
  refine ze_istore_n h [some (.ref 47), some (.int 0)] dX7_init_1015 rfl (by decide) rfl ?_
  refine e_X7_init_1016 h hR _ ?_ zN 0 s164
  · intro s169
    refine ze_aload_n h dX7_init_1040 rfl ?_
    refine ze_bipush h 42 dX7_init_1041 zk_b_42 ?_
    refine ze_putI h rfl rfl zf_X7_76 rfl rfl dX7_init_1043 ?_
    refine ze_nmS (fun s170 => ?_)
    refine ze_aload_n h dX7_init_1046 rfl ?_
    refine ze_callVi h (st := []) zce_X7_text zi_X7_text zs_X7_text zm_X7_80 rfl rfl rfl (Nat.le_of_ble_eq_true rfl) ⟨Nat.le_of_ble_eq_true rfl, Nat.le_of_ble_eq_true rfl⟩ (c_X7_text l  s170) rfl (Nat.le_of_ble_eq_true rfl) rfl dX7_init_1047 (fun r171 s172 => ?_)
    refine ze_pop h dX7_init_1050 rfl ?_
    exact ze_vret hR dX7_init_1051
