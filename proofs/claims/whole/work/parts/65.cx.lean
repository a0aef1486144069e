def MXc : hMem := (h_up (h_up (h_up (h_up (h_up (h_up (h_up (MAi (MAi cM0 3 W24 24) 17 W24 24) 0 4 (1)) 30 8 (nI 35)) 40 6 (nI 41)) 80 0 (-1)) 82 0 (-1)) 84 0 (-1)) 86 0 (-1))
set_option maxRecDepth 20000 in
set_option maxHeartbeats 4000000 in
theorem w_X9 {Z : hZ} {Q : State → Prop} (hz : cOK Z cX9_init RX9 2 99 87 2968 1 none) (hi : Z.2.2.1.2.2.2.1.name = "<init>") (kk : hB Z Q (cI Z (hYx.1, (rfT 88 10 6 4), 88) MXc) 87 2968 147 [(1, .int 4), (0, .ref (h_b Z + 0))] []) : hB Z Q (cI Z (hYx.1, rfT 1 0 0 0, 1) cM0) 0 0 0 [(0, .ref (h_b Z + 0))] [] := by
  refine v_aload_n hz.1 dX9_init_0 rfl 0 rfl ?_
  refine c_obj hz ob_X9_3 ob_in ob_co (by omega) (by decide) dX9_init_1 ?_
  refine v_aload_n hz.1 dX9_init_4 rfl 0 rfl ?_
  refine c_newN (N' := 2) (cs' := 1) (ss' := 8) hz 6 (by decide) rfl uw_X7 tyX7 tyX7_ok df_X7 cl_X9_9 it_X7 ii_X7 rfl ((cM0_z).mono (m := 1) rfl) (fun _ => rfl) rfl (Or.inl (by decide)) (by decide) (by decide) dX9_init_5 rfl rfl rfl ?_
  refine v_dup hz.1 dX9_init_8 rfl ?_
  refine c_initE (cs' := 14) (ss' := 91) (Y' := (hYx.1, (rfT 15 0 0 0), 15)) (M' := (MAi cM0 3 W24 24)) hz mi_X9_11 (c_Str1 (n := 96) ((cM0_z).mono (m := 1) rfl)) rfl rfl (by decide) (by decide) (by decide) (Nat.le_of_ble_eq_true rfl) dX9_init_9 rfl rfl ?_
  refine c_putr hz hi ⟨Nat.le_of_ble_eq_true rfl, rfl⟩ ff_X9_12 rfl (by decide) rfl rfl dX9_init_12 ?_
  refine c_rf (rf' := (rfT 15 1 0 0)) (by decide +kernel) ?_
  refine v_aload_n hz.1 dX9_init_15 rfl 0 rfl ?_
  refine c_newN (N' := 16) (cs' := 15) (ss' := 99) hz 6 (by decide) rfl uw_X7 tyX7 tyX7_ok df_X7 cl_X9_9 it_X7 ii_X7 rfl (((cM0_z).mono (m := 15) rfl).ma rfl) (fun _ => rfl) rfl (Or.inl (by decide)) (by decide) (by decide) dX9_init_16 rfl rfl rfl ?_
  refine v_dup hz.1 dX9_init_19 rfl ?_
  refine c_initE (cs' := 28) (ss' := 182) (Y' := (hYx.1, (rfT 29 1 0 0), 29)) (M' := (MAi (MAi cM0 3 W24 24) 17 W24 24)) hz mi_X9_11 (c_Str15 (n := 96) (((cM0_z).mono (m := 15) rfl).ma rfl)) rfl rfl (by decide) (by decide) (by decide) (Nat.le_of_ble_eq_true rfl) dX9_init_20 rfl rfl ?_
  refine c_putr hz hi ⟨Nat.le_of_ble_eq_true rfl, rfl⟩ ff_X9_16 rfl (by decide) rfl rfl dX9_init_23 ?_
  refine c_rf (rf' := (rfT 29 3 0 0)) (by decide +kernel) ?_
  refine v_aload_n hz.1 dX9_init_26 rfl 0 rfl ?_
  refine v_iconst hz.1 0 dX9_init_27 rfl ?_
  refine c_putz hz ⟨Nat.le_of_ble_eq_true rfl, rfl⟩ fp_X9_19 rfl rfl rfl dX9_init_28 ?_
  rw [h_up_0 (show (MAi (MAi cM0 3 W24 24) 17 W24 24) 0 2 = 0 from rfl)]
  refine v_aload_n hz.1 dX9_init_31 rfl 0 rfl ?_
  refine v_bipush hz.1 6 dX9_init_32 rfl ?_
  refine c_newqN (N' := 30) (cs' := 29) (ss' := 188) hz 6 13 3 cl_X9_23 (fun h => h.2.2.1) (fun _ => rfl) (by decide) rfl (by decide) rfl (by decide) (fun _ => rfl) rfl (by decide) (by decide) (by decide) dX9_init_34 rfl rfl rfl ?_
  refine c_putr hz hi ⟨Nat.le_of_ble_eq_true rfl, rfl⟩ ff_X9_25 rfl (by decide) rfl rfl dX9_init_37 ?_
  refine c_rf (rf' := (rfT 30 5 0 0)) (by decide +kernel) ?_
  refine v_aload_n hz.1 dX9_init_40 rfl 0 rfl ?_
  refine v_iconst hz.1 1 dX9_init_41 rfl ?_
  refine c_puti hz ⟨Nat.le_of_ble_eq_true rfl, rfl⟩ fp_X9_29 rfl dX9_init_42 ?_
  refine v_aload_n hz.1 dX9_init_45 rfl 0 rfl ?_
  refine c_newN (N' := 31) (cs' := 30) (ss' := 197) hz 4 (by decide) rfl uw_X5 tyX5 tyX5_ok df_X5 cl_X9_33 it_X5 ii_X5 rfl (((((cM0_z).mono (m := 30) rfl).ma rfl).ma rfl).up rfl) (fun _ => rfl) rfl (Or.inl (by decide)) (by decide) (by decide) dX9_init_46 rfl rfl rfl ?_
  refine v_dup hz.1 dX9_init_49 rfl ?_
  refine c_initNE (cs' := 38) (ss' := 1047) (Y' := (hYx.1, (rfT 39 4 0 0), 39)) (M' := (h_up (h_up (MAi (MAi cM0 3 W24 24) 17 W24 24) 0 4 (1)) 30 8 (nI 35))) hz mi_X9_35 (c_Rdr (n := 96) (((((cM0_z).mono (m := 30) rfl).ma rfl).ma rfl).up rfl)) rfl rfl (by decide) (by decide) (by decide) (Nat.le_of_ble_eq_true rfl) dX9_init_50 rfl rfl ?_
  refine c_putr hz hi ⟨Nat.le_of_ble_eq_true rfl, rfl⟩ ff_X9_36 rfl (by decide) rfl rfl dX9_init_53 ?_
  refine c_rf (rf' := (rfT 39 6 0 0)) (by decide +kernel) ?_
  refine v_aload_n hz.1 dX9_init_56 rfl 0 rfl ?_
  refine v_iconst hz.1 4 dX9_init_57 rfl ?_
  refine c_newqN (N' := 40) (cs' := 39) (ss' := 1051) hz 4 14 4 cl_X9_40 (fun h => h.2.2.2) (fun _ => rfl) (by decide) rfl (by decide) rfl (by decide) (fun _ => rfl) rfl (by decide) (by decide) (by decide) dX9_init_58 rfl rfl rfl ?_
  refine c_putr hz hi ⟨Nat.le_of_ble_eq_true rfl, rfl⟩ ff_X9_42 rfl (by decide) rfl rfl dX9_init_61 ?_
  refine c_rf (rf' := (rfT 40 7 0 0)) (by decide +kernel) ?_
  refine v_aload_n hz.1 dX9_init_64 rfl 0 rfl ?_
  refine c_newN (N' := 41) (cs' := 40) (ss' := 1062) hz 7 (by decide) rfl uw_X8 tyX8 tyX8_ok df_X8 cl_X9_46 it_X8 ii_X8 rfl ((((((cM0_z).mono (m := 40) rfl).ma rfl).ma rfl).up rfl).up rfl) (fun _ => rfl) rfl (Or.inl (by decide)) (by decide) (by decide) dX9_init_65 rfl rfl rfl ?_
  refine v_dup hz.1 dX9_init_68 rfl ?_
  refine c_initNE (cs' := 48) (ss' := 1348) (Y' := (hYx.1, (rfT 49 7 0 0), 49)) (M' := (h_up (h_up (h_up (MAi (MAi cM0 3 W24 24) 17 W24 24) 0 4 (1)) 30 8 (nI 35)) 40 6 (nI 41))) hz mi_X9_48 (c_Tho (n := 96) ((((((cM0_z).mono (m := 40) rfl).ma rfl).ma rfl).up rfl).up rfl)) rfl rfl (by decide) (by decide) (by decide) (Nat.le_of_ble_eq_true rfl) dX9_init_69 rfl rfl ?_
  refine c_putr hz hi ⟨Nat.le_of_ble_eq_true rfl, rfl⟩ ff_X9_49 rfl (by decide) rfl rfl dX9_init_72 ?_
  refine c_rf (rf' := (rfT 49 8 0 0)) (by decide +kernel) ?_
  refine v_aload_n hz.1 dX9_init_75 rfl 0 rfl ?_
  refine c_newN (N' := 50) (cs' := 49) (ss' := 1354) hz 1 (by decide) rfl uw_X1 tyX1 tyX1_ok df_X1 cl_X9_53 it_X1 ii_X1 rfl (((((((cM0_z).mono (m := 49) rfl).ma rfl).ma rfl).up rfl).up rfl).up rfl) (fun _ => rfl) rfl (Or.inl (by decide)) (by decide) (by decide) dX9_init_76 rfl rfl rfl ?_
  refine v_dup hz.1 dX9_init_79 rfl ?_
  refine c_initNE (cs' := 54) (ss' := 1458) (Y' := (hYx.1, (rfT 55 8 0 0), 55)) (M' := (h_up (h_up (h_up (MAi (MAi cM0 3 W24 24) 17 W24 24) 0 4 (1)) 30 8 (nI 35)) 40 6 (nI 41))) hz mi_X9_55 (c_Err (n := 97) (((((((cM0_z).mono (m := 49) rfl).ma rfl).ma rfl).up rfl).up rfl).up rfl)) rfl rfl (by decide) (by decide) (by decide) (Nat.le_of_ble_eq_true rfl) dX9_init_80 rfl rfl ?_
  refine c_putr hz hi ⟨Nat.le_of_ble_eq_true rfl, rfl⟩ ff_X9_56 rfl (by decide) rfl rfl dX9_init_83 ?_
  refine c_rf (rf' := (rfT 55 9 0 0)) (by decide +kernel) ?_
  refine v_aload_n hz.1 dX9_init_86 rfl 0 rfl ?_
  refine v_bipush hz.1 96 dX9_init_87 rfl ?_
  refine c_newiN (N' := 56) (cs' := 55) (ss' := 1554) hz 96 ac_int rfl (by decide) rfl (by decide) (((((((cM0_z).mono (m := 55) rfl).ma rfl).ma rfl).up rfl).up rfl).up rfl) rfl (by decide) (by decide) (by decide) dX9_init_89 rfl rfl rfl ?_
  refine c_putr hz hi ⟨Nat.le_of_ble_eq_true rfl, rfl⟩ ff_X9_60 rfl (by decide) rfl rfl dX9_init_91 ?_
  refine c_rf (rf' := (rfT 56 10 0 0)) (by decide +kernel) ?_
  refine v_iconst hz.1 0 dX9_init_94 rfl ?_
  refine v_istore_n hz.1 [(1, .int 0), (0, .ref (h_b Z + 0))] dX9_init_95 rfl rfl rfl ?_
  refine v_iload_n hz.1 dX9_init_96 rfl 0 rfl ?_
  refine v_bipush hz.1 6 dX9_init_97 rfl ?_
  refine v_icmp_ge hz.1 dX9_init_99 (fun h => absurd h (by decide)) (fun _ => ?_)
  refine v_aload_n hz.1 dX9_init_102 rfl 1 rfl ?_
  refine c_getr (q := 29) hz ⟨Nat.le_of_ble_eq_true rfl, rfl⟩ fl_X9_25 rfl rfl (by decide) dX9_init_103 ?_
  refine v_iload_n hz.1 dX9_init_106 rfl 0 rfl ?_
  refine c_newN (N' := 57) (cs' := 56) (ss' := 1558) hz 3 (by decide) rfl uw_X4 tyX4 tyX4_ok df_X4 cl_X9_23 it_X4 ii_X4 rfl (((((((cM0_z).mono (m := 56) rfl).ma rfl).ma rfl).up rfl).up rfl).up rfl) (fun _ => rfl) rfl (Or.inl (by decide)) (by decide) (by decide) dX9_init_107 rfl rfl rfl ?_
  refine v_dup hz.1 dX9_init_110 rfl ?_
  refine c_initNE (cs' := 59) (ss' := 1761) (Y' := (hYx.1, (up2 (up2 (up2 (rfT 56 10 0 0) 56 0 (56 + 1)) 56 1 (56 + 2)) 56 2 (56 + 3)), 60)) (M' := (h_up (h_up (h_up (MAi (MAi cM0 3 W24 24) 17 W24 24) 0 4 (1)) 30 8 (nI 35)) 40 6 (nI 41))) hz mi_X9_64 (c_Law (n := 97) 56 rfl rfl rfl rfl (((((((cM0_z).mono (m := 56) rfl).ma rfl).ma rfl).up rfl).up rfl).up rfl)) rfl rfl (by decide) (by decide) (by decide) (Nat.le_of_ble_eq_true rfl) dX9_init_111 rfl rfl ?_
  refine c_aast (j := 0) hz 3 (fun _ => rfl) ⟨Nat.le_of_ble_eq_true rfl, rfl⟩ (by decide) ⟨Nat.le_of_ble_eq_true rfl, rfl⟩ (by decide) rfl (by decide) rfl (by decide) dX9_init_114 ?_
  refine c_rf (rf' := (rfT 60 10 1 0)) (by decide +kernel) ?_
  refine v_iinc hz.1 1 [(1, .int 1), (0, .ref (h_b Z + 0))] dX9_init_115 0 rfl rfl rfl rfl ?_
  refine v_goto hz.1 dX9_init_118 ?_
  refine v_iload_n hz.1 dX9_init_96 rfl 0 rfl ?_
  refine v_bipush hz.1 6 dX9_init_97 rfl ?_
  refine v_icmp_ge hz.1 dX9_init_99 (fun h => absurd h (by decide)) (fun _ => ?_)
  refine v_aload_n hz.1 dX9_init_102 rfl 1 rfl ?_
  refine c_getr (q := 29) hz ⟨Nat.le_of_ble_eq_true rfl, rfl⟩ fl_X9_25 rfl rfl (by decide) dX9_init_103 ?_
  refine v_iload_n hz.1 dX9_init_106 rfl 0 rfl ?_
  refine c_newN (N' := 61) (cs' := 60) (ss' := 1765) hz 3 (by decide) rfl uw_X4 tyX4 tyX4_ok df_X4 cl_X9_23 it_X4 ii_X4 rfl (((((((cM0_z).mono (m := 60) rfl).ma rfl).ma rfl).up rfl).up rfl).up rfl) (fun _ => rfl) rfl (Or.inl (by decide)) (by decide) (by decide) dX9_init_107 rfl rfl rfl ?_
  refine v_dup hz.1 dX9_init_110 rfl ?_
  refine c_initNE (cs' := 63) (ss' := 1968) (Y' := (hYx.1, (up2 (up2 (up2 (rfT 60 10 1 0) 60 0 (60 + 1)) 60 1 (60 + 2)) 60 2 (60 + 3)), 64)) (M' := (h_up (h_up (h_up (MAi (MAi cM0 3 W24 24) 17 W24 24) 0 4 (1)) 30 8 (nI 35)) 40 6 (nI 41))) hz mi_X9_64 (c_Law (n := 97) 60 rfl rfl rfl rfl (((((((cM0_z).mono (m := 60) rfl).ma rfl).ma rfl).up rfl).up rfl).up rfl)) rfl rfl (by decide) (by decide) (by decide) (Nat.le_of_ble_eq_true rfl) dX9_init_111 rfl rfl ?_
  refine c_aast (j := 1) hz 3 (fun _ => rfl) ⟨Nat.le_of_ble_eq_true rfl, rfl⟩ (by decide) ⟨Nat.le_of_ble_eq_true rfl, rfl⟩ (by decide) rfl (by decide) rfl (by decide) dX9_init_114 ?_
  refine c_rf (rf' := (rfT 64 10 2 0)) (by decide +kernel) ?_
  refine v_iinc hz.1 2 [(1, .int 2), (0, .ref (h_b Z + 0))] dX9_init_115 0 rfl rfl rfl rfl ?_
  refine v_goto hz.1 dX9_init_118 ?_
  refine v_iload_n hz.1 dX9_init_96 rfl 0 rfl ?_
  refine v_bipush hz.1 6 dX9_init_97 rfl ?_
  refine v_icmp_ge hz.1 dX9_init_99 (fun h => absurd h (by decide)) (fun _ => ?_)
  refine v_aload_n hz.1 dX9_init_102 rfl 1 rfl ?_
  refine c_getr (q := 29) hz ⟨Nat.le_of_ble_eq_true rfl, rfl⟩ fl_X9_25 rfl rfl (by decide) dX9_init_103 ?_
  refine v_iload_n hz.1 dX9_init_106 rfl 0 rfl ?_
  refine c_newN (N' := 65) (cs' := 64) (ss' := 1972) hz 3 (by decide) rfl uw_X4 tyX4 tyX4_ok df_X4 cl_X9_23 it_X4 ii_X4 rfl (((((((cM0_z).mono (m := 64) rfl).ma rfl).ma rfl).up rfl).up rfl).up rfl) (fun _ => rfl) rfl (Or.inl (by decide)) (by decide) (by decide) dX9_init_107 rfl rfl rfl ?_
  refine v_dup hz.1 dX9_init_110 rfl ?_
  refine c_initNE (cs' := 67) (ss' := 2175) (Y' := (hYx.1, (up2 (up2 (up2 (rfT 64 10 2 0) 64 0 (64 + 1)) 64 1 (64 + 2)) 64 2 (64 + 3)), 68)) (M' := (h_up (h_up (h_up (MAi (MAi cM0 3 W24 24) 17 W24 24) 0 4 (1)) 30 8 (nI 35)) 40 6 (nI 41))) hz mi_X9_64 (c_Law (n := 97) 64 rfl rfl rfl rfl (((((((cM0_z).mono (m := 64) rfl).ma rfl).ma rfl).up rfl).up rfl).up rfl)) rfl rfl (by decide) (by decide) (by decide) (Nat.le_of_ble_eq_true rfl) dX9_init_111 rfl rfl ?_
  refine c_aast (j := 2) hz 3 (fun _ => rfl) ⟨Nat.le_of_ble_eq_true rfl, rfl⟩ (by decide) ⟨Nat.le_of_ble_eq_true rfl, rfl⟩ (by decide) rfl (by decide) rfl (by decide) dX9_init_114 ?_
  refine c_rf (rf' := (rfT 68 10 3 0)) (by decide +kernel) ?_
  refine v_iinc hz.1 3 [(1, .int 3), (0, .ref (h_b Z + 0))] dX9_init_115 0 rfl rfl rfl rfl ?_
  refine v_goto hz.1 dX9_init_118 ?_
  refine v_iload_n hz.1 dX9_init_96 rfl 0 rfl ?_
  refine v_bipush hz.1 6 dX9_init_97 rfl ?_
  refine v_icmp_ge hz.1 dX9_init_99 (fun h => absurd h (by decide)) (fun _ => ?_)
  refine v_aload_n hz.1 dX9_init_102 rfl 1 rfl ?_
  refine c_getr (q := 29) hz ⟨Nat.le_of_ble_eq_true rfl, rfl⟩ fl_X9_25 rfl rfl (by decide) dX9_init_103 ?_
  refine v_iload_n hz.1 dX9_init_106 rfl 0 rfl ?_
  refine c_newN (N' := 69) (cs' := 68) (ss' := 2179) hz 3 (by decide) rfl uw_X4 tyX4 tyX4_ok df_X4 cl_X9_23 it_X4 ii_X4 rfl (((((((cM0_z).mono (m := 68) rfl).ma rfl).ma rfl).up rfl).up rfl).up rfl) (fun _ => rfl) rfl (Or.inl (by decide)) (by decide) (by decide) dX9_init_107 rfl rfl rfl ?_
  refine v_dup hz.1 dX9_init_110 rfl ?_
  refine c_initNE (cs' := 71) (ss' := 2382) (Y' := (hYx.1, (up2 (up2 (up2 (rfT 68 10 3 0) 68 0 (68 + 1)) 68 1 (68 + 2)) 68 2 (68 + 3)), 72)) (M' := (h_up (h_up (h_up (MAi (MAi cM0 3 W24 24) 17 W24 24) 0 4 (1)) 30 8 (nI 35)) 40 6 (nI 41))) hz mi_X9_64 (c_Law (n := 97) 68 rfl rfl rfl rfl (((((((cM0_z).mono (m := 68) rfl).ma rfl).ma rfl).up rfl).up rfl).up rfl)) rfl rfl (by decide) (by decide) (by decide) (Nat.le_of_ble_eq_true rfl) dX9_init_111 rfl rfl ?_
  refine c_aast (j := 3) hz 3 (fun _ => rfl) ⟨Nat.le_of_ble_eq_true rfl, rfl⟩ (by decide) ⟨Nat.le_of_ble_eq_true rfl, rfl⟩ (by decide) rfl (by decide) rfl (by decide) dX9_init_114 ?_
  refine c_rf (rf' := (rfT 72 10 4 0)) (by decide +kernel) ?_
  refine v_iinc hz.1 4 [(1, .int 4), (0, .ref (h_b Z + 0))] dX9_init_115 0 rfl rfl rfl rfl ?_
  refine v_goto hz.1 dX9_init_118 ?_
  refine v_iload_n hz.1 dX9_init_96 rfl 0 rfl ?_
  refine v_bipush hz.1 6 dX9_init_97 rfl ?_
  refine v_icmp_ge hz.1 dX9_init_99 (fun h => absurd h (by decide)) (fun _ => ?_)
  refine v_aload_n hz.1 dX9_init_102 rfl 1 rfl ?_
  refine c_getr (q := 29) hz ⟨Nat.le_of_ble_eq_true rfl, rfl⟩ fl_X9_25 rfl rfl (by decide) dX9_init_103 ?_
  refine v_iload_n hz.1 dX9_init_106 rfl 0 rfl ?_
  refine c_newN (N' := 73) (cs' := 72) (ss' := 2386) hz 3 (by decide) rfl uw_X4 tyX4 tyX4_ok df_X4 cl_X9_23 it_X4 ii_X4 rfl (((((((cM0_z).mono (m := 72) rfl).ma rfl).ma rfl).up rfl).up rfl).up rfl) (fun _ => rfl) rfl (Or.inl (by decide)) (by decide) (by decide) dX9_init_107 rfl rfl rfl ?_
  refine v_dup hz.1 dX9_init_110 rfl ?_
  refine c_initNE (cs' := 75) (ss' := 2589) (Y' := (hYx.1, (up2 (up2 (up2 (rfT 72 10 4 0) 72 0 (72 + 1)) 72 1 (72 + 2)) 72 2 (72 + 3)), 76)) (M' := (h_up (h_up (h_up (MAi (MAi cM0 3 W24 24) 17 W24 24) 0 4 (1)) 30 8 (nI 35)) 40 6 (nI 41))) hz mi_X9_64 (c_Law (n := 97) 72 rfl rfl rfl rfl (((((((cM0_z).mono (m := 72) rfl).ma rfl).ma rfl).up rfl).up rfl).up rfl)) rfl rfl (by decide) (by decide) (by decide) (Nat.le_of_ble_eq_true rfl) dX9_init_111 rfl rfl ?_
  refine c_aast (j := 4) hz 3 (fun _ => rfl) ⟨Nat.le_of_ble_eq_true rfl, rfl⟩ (by decide) ⟨Nat.le_of_ble_eq_true rfl, rfl⟩ (by decide) rfl (by decide) rfl (by decide) dX9_init_114 ?_
  refine c_rf (rf' := (rfT 76 10 5 0)) (by decide +kernel) ?_
  refine v_iinc hz.1 5 [(1, .int 5), (0, .ref (h_b Z + 0))] dX9_init_115 0 rfl rfl rfl rfl ?_
  refine v_goto hz.1 dX9_init_118 ?_
  refine v_iload_n hz.1 dX9_init_96 rfl 0 rfl ?_
  refine v_bipush hz.1 6 dX9_init_97 rfl ?_
  refine v_icmp_ge hz.1 dX9_init_99 (fun h => absurd h (by decide)) (fun _ => ?_)
  refine v_aload_n hz.1 dX9_init_102 rfl 1 rfl ?_
  refine c_getr (q := 29) hz ⟨Nat.le_of_ble_eq_true rfl, rfl⟩ fl_X9_25 rfl rfl (by decide) dX9_init_103 ?_
  refine v_iload_n hz.1 dX9_init_106 rfl 0 rfl ?_
  refine c_newN (N' := 77) (cs' := 76) (ss' := 2593) hz 3 (by decide) rfl uw_X4 tyX4 tyX4_ok df_X4 cl_X9_23 it_X4 ii_X4 rfl (((((((cM0_z).mono (m := 76) rfl).ma rfl).ma rfl).up rfl).up rfl).up rfl) (fun _ => rfl) rfl (Or.inl (by decide)) (by decide) (by decide) dX9_init_107 rfl rfl rfl ?_
  refine v_dup hz.1 dX9_init_110 rfl ?_
  refine c_initNE (cs' := 79) (ss' := 2796) (Y' := (hYx.1, (up2 (up2 (up2 (rfT 76 10 5 0) 76 0 (76 + 1)) 76 1 (76 + 2)) 76 2 (76 + 3)), 80)) (M' := (h_up (h_up (h_up (MAi (MAi cM0 3 W24 24) 17 W24 24) 0 4 (1)) 30 8 (nI 35)) 40 6 (nI 41))) hz mi_X9_64 (c_Law (n := 97) 76 rfl rfl rfl rfl (((((((cM0_z).mono (m := 76) rfl).ma rfl).ma rfl).up rfl).up rfl).up rfl)) rfl rfl (by decide) (by decide) (by decide) (Nat.le_of_ble_eq_true rfl) dX9_init_111 rfl rfl ?_
  refine c_aast (j := 5) hz 3 (fun _ => rfl) ⟨Nat.le_of_ble_eq_true rfl, rfl⟩ (by decide) ⟨Nat.le_of_ble_eq_true rfl, rfl⟩ (by decide) rfl (by decide) rfl (by decide) dX9_init_114 ?_
  refine c_rf (rf' := (rfT 80 10 6 0)) (by decide +kernel) ?_
  refine v_iinc hz.1 6 [(1, .int 6), (0, .ref (h_b Z + 0))] dX9_init_115 0 rfl rfl rfl rfl ?_
  refine v_goto hz.1 dX9_init_118 ?_
  refine v_iload_n hz.1 dX9_init_96 rfl 0 rfl ?_
  refine v_bipush hz.1 6 dX9_init_97 rfl ?_
  refine v_icmp_ge hz.1 dX9_init_99 (fun _ => ?_) (fun h => absurd (by decide) h)
  refine v_iconst hz.1 0 dX9_init_121 rfl ?_
  refine v_istore_n hz.1 [(1, .int 0), (0, .ref (h_b Z + 0))] dX9_init_122 rfl rfl rfl ?_
  refine v_iload_n hz.1 dX9_init_123 rfl 0 rfl ?_
  refine v_iconst hz.1 4 dX9_init_124 rfl ?_
  refine v_icmp_ge hz.1 dX9_init_125 (fun h => absurd h (by decide)) (fun _ => ?_)
  refine v_aload_n hz.1 dX9_init_128 rfl 1 rfl ?_
  refine c_getr (q := 39) hz ⟨Nat.le_of_ble_eq_true rfl, rfl⟩ fl_X9_42 rfl rfl (by decide) dX9_init_129 ?_
  refine v_iload_n hz.1 dX9_init_132 rfl 0 rfl ?_
  refine c_newN (N' := 81) (cs' := 80) (ss' := 2799) hz 5 (by decide) rfl uw_X6 tyX6 tyX6_ok df_X6 cl_X9_40 it_X6 ii_X6 rfl (((((((cM0_z).mono (m := 80) rfl).ma rfl).ma rfl).up rfl).up rfl).up rfl) (fun _ => rfl) rfl (Or.inl (by decide)) (by decide) (by decide) dX9_init_133 rfl rfl rfl ?_
  refine v_dup hz.1 dX9_init_136 rfl ?_
  refine c_initNE (cs' := 81) (ss' := 2839) (Y' := (hYx.1, (up2 (rfT 80 10 6 0) 80 2 (80 + 1)), 82)) (M' := (h_up (h_up (h_up (h_up (MAi (MAi cM0 3 W24 24) 17 W24 24) 0 4 (1)) 30 8 (nI 35)) 40 6 (nI 41)) 80 0 (-1))) hz mi_X9_65 (c_Sheet (n := 97) 80 rfl rfl (((((((cM0_z).mono (m := 80) rfl).ma rfl).ma rfl).up rfl).up rfl).up rfl)) rfl rfl (by decide) (by decide) (by decide) (Nat.le_of_ble_eq_true rfl) dX9_init_137 rfl rfl ?_
  refine c_aast (j := 0) hz 4 (fun _ => rfl) ⟨Nat.le_of_ble_eq_true rfl, rfl⟩ (by decide) ⟨Nat.le_of_ble_eq_true rfl, rfl⟩ (by decide) rfl (by decide) rfl (by decide) dX9_init_140 ?_
  refine c_rf (rf' := (rfT 82 10 6 1)) (by decide +kernel) ?_
  refine v_iinc hz.1 1 [(1, .int 1), (0, .ref (h_b Z + 0))] dX9_init_141 0 rfl rfl rfl rfl ?_
  refine v_goto hz.1 dX9_init_144 ?_
  refine v_iload_n hz.1 dX9_init_123 rfl 0 rfl ?_
  refine v_iconst hz.1 4 dX9_init_124 rfl ?_
  refine v_icmp_ge hz.1 dX9_init_125 (fun h => absurd h (by decide)) (fun _ => ?_)
  refine v_aload_n hz.1 dX9_init_128 rfl 1 rfl ?_
  refine c_getr (q := 39) hz ⟨Nat.le_of_ble_eq_true rfl, rfl⟩ fl_X9_42 rfl rfl (by decide) dX9_init_129 ?_
  refine v_iload_n hz.1 dX9_init_132 rfl 0 rfl ?_
  refine c_newN (N' := 83) (cs' := 82) (ss' := 2842) hz 5 (by decide) rfl uw_X6 tyX6 tyX6_ok df_X6 cl_X9_40 it_X6 ii_X6 rfl ((((((((cM0_z).mono (m := 82) rfl).ma rfl).ma rfl).up rfl).up rfl).up rfl).up rfl) (fun _ => rfl) rfl (Or.inl (by decide)) (by decide) (by decide) dX9_init_133 rfl rfl rfl ?_
  refine v_dup hz.1 dX9_init_136 rfl ?_
  refine c_initNE (cs' := 83) (ss' := 2882) (Y' := (hYx.1, (up2 (rfT 82 10 6 1) 82 2 (82 + 1)), 84)) (M' := (h_up (h_up (h_up (h_up (h_up (MAi (MAi cM0 3 W24 24) 17 W24 24) 0 4 (1)) 30 8 (nI 35)) 40 6 (nI 41)) 80 0 (-1)) 82 0 (-1))) hz mi_X9_65 (c_Sheet (n := 97) 82 rfl rfl ((((((((cM0_z).mono (m := 82) rfl).ma rfl).ma rfl).up rfl).up rfl).up rfl).up rfl)) rfl rfl (by decide) (by decide) (by decide) (Nat.le_of_ble_eq_true rfl) dX9_init_137 rfl rfl ?_
  refine c_aast (j := 1) hz 4 (fun _ => rfl) ⟨Nat.le_of_ble_eq_true rfl, rfl⟩ (by decide) ⟨Nat.le_of_ble_eq_true rfl, rfl⟩ (by decide) rfl (by decide) rfl (by decide) dX9_init_140 ?_
  refine c_rf (rf' := (rfT 84 10 6 2)) (by decide +kernel) ?_
  refine v_iinc hz.1 2 [(1, .int 2), (0, .ref (h_b Z + 0))] dX9_init_141 0 rfl rfl rfl rfl ?_
  refine v_goto hz.1 dX9_init_144 ?_
  refine v_iload_n hz.1 dX9_init_123 rfl 0 rfl ?_
  refine v_iconst hz.1 4 dX9_init_124 rfl ?_
  refine v_icmp_ge hz.1 dX9_init_125 (fun h => absurd h (by decide)) (fun _ => ?_)
  refine v_aload_n hz.1 dX9_init_128 rfl 1 rfl ?_
  refine c_getr (q := 39) hz ⟨Nat.le_of_ble_eq_true rfl, rfl⟩ fl_X9_42 rfl rfl (by decide) dX9_init_129 ?_
  refine v_iload_n hz.1 dX9_init_132 rfl 0 rfl ?_
  refine c_newN (N' := 85) (cs' := 84) (ss' := 2885) hz 5 (by decide) rfl uw_X6 tyX6 tyX6_ok df_X6 cl_X9_40 it_X6 ii_X6 rfl (((((((((cM0_z).mono (m := 84) rfl).ma rfl).ma rfl).up rfl).up rfl).up rfl).up rfl).up rfl) (fun _ => rfl) rfl (Or.inl (by decide)) (by decide) (by decide) dX9_init_133 rfl rfl rfl ?_
  refine v_dup hz.1 dX9_init_136 rfl ?_
  refine c_initNE (cs' := 85) (ss' := 2925) (Y' := (hYx.1, (up2 (rfT 84 10 6 2) 84 2 (84 + 1)), 86)) (M' := (h_up (h_up (h_up (h_up (h_up (h_up (MAi (MAi cM0 3 W24 24) 17 W24 24) 0 4 (1)) 30 8 (nI 35)) 40 6 (nI 41)) 80 0 (-1)) 82 0 (-1)) 84 0 (-1))) hz mi_X9_65 (c_Sheet (n := 97) 84 rfl rfl (((((((((cM0_z).mono (m := 84) rfl).ma rfl).ma rfl).up rfl).up rfl).up rfl).up rfl).up rfl)) rfl rfl (by decide) (by decide) (by decide) (Nat.le_of_ble_eq_true rfl) dX9_init_137 rfl rfl ?_
  refine c_aast (j := 2) hz 4 (fun _ => rfl) ⟨Nat.le_of_ble_eq_true rfl, rfl⟩ (by decide) ⟨Nat.le_of_ble_eq_true rfl, rfl⟩ (by decide) rfl (by decide) rfl (by decide) dX9_init_140 ?_
  refine c_rf (rf' := (rfT 86 10 6 3)) (by decide +kernel) ?_
  refine v_iinc hz.1 3 [(1, .int 3), (0, .ref (h_b Z + 0))] dX9_init_141 0 rfl rfl rfl rfl ?_
  refine v_goto hz.1 dX9_init_144 ?_
  refine v_iload_n hz.1 dX9_init_123 rfl 0 rfl ?_
  refine v_iconst hz.1 4 dX9_init_124 rfl ?_
  refine v_icmp_ge hz.1 dX9_init_125 (fun h => absurd h (by decide)) (fun _ => ?_)
  refine v_aload_n hz.1 dX9_init_128 rfl 1 rfl ?_
  refine c_getr (q := 39) hz ⟨Nat.le_of_ble_eq_true rfl, rfl⟩ fl_X9_42 rfl rfl (by decide) dX9_init_129 ?_
  refine v_iload_n hz.1 dX9_init_132 rfl 0 rfl ?_
  refine c_newN (N' := 87) (cs' := 86) (ss' := 2928) hz 5 (by decide) rfl uw_X6 tyX6 tyX6_ok df_X6 cl_X9_40 it_X6 ii_X6 rfl ((((((((((cM0_z).mono (m := 86) rfl).ma rfl).ma rfl).up rfl).up rfl).up rfl).up rfl).up rfl).up rfl) (fun _ => rfl) rfl (Or.inl (by decide)) (by decide) (by decide) dX9_init_133 rfl rfl rfl ?_
  refine v_dup hz.1 dX9_init_136 rfl ?_
  refine c_initNE (cs' := 87) (ss' := 2968) (Y' := (hYx.1, (up2 (rfT 86 10 6 3) 86 2 (86 + 1)), 88)) (M' := (h_up (h_up (h_up (h_up (h_up (h_up (h_up (MAi (MAi cM0 3 W24 24) 17 W24 24) 0 4 (1)) 30 8 (nI 35)) 40 6 (nI 41)) 80 0 (-1)) 82 0 (-1)) 84 0 (-1)) 86 0 (-1))) hz mi_X9_65 (c_Sheet (n := 97) 86 rfl rfl ((((((((((cM0_z).mono (m := 86) rfl).ma rfl).ma rfl).up rfl).up rfl).up rfl).up rfl).up rfl).up rfl)) rfl rfl (by decide) (by decide) (by decide) (Nat.le_of_ble_eq_true rfl) dX9_init_137 rfl rfl ?_
  refine c_aast (j := 3) hz 4 (fun _ => rfl) ⟨Nat.le_of_ble_eq_true rfl, rfl⟩ (by decide) ⟨Nat.le_of_ble_eq_true rfl, rfl⟩ (by decide) rfl (by decide) rfl (by decide) dX9_init_140 ?_
  refine c_rf (rf' := (rfT 88 10 6 4)) (by decide +kernel) ?_
  refine v_iinc hz.1 4 [(1, .int 4), (0, .ref (h_b Z + 0))] dX9_init_141 0 rfl rfl rfl rfl ?_
  refine v_goto hz.1 dX9_init_144 ?_
  refine v_iload_n hz.1 dX9_init_123 rfl 0 rfl ?_
  refine v_iconst hz.1 4 dX9_init_124 rfl ?_
  refine v_icmp_ge hz.1 dX9_init_125 (fun _ => ?_) (fun h => absurd (by decide) h)
  exact kk
