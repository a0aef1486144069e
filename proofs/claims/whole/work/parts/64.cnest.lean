set_option maxRecDepth 20000 in
set_option maxHeartbeats 4000000 in
theorem c_Hat {l : Launch} {dd : hDD} {b n k : Nat} {S : Nat → Nat × Nat} {rf : Nat → Nat → Nat} {M : hMem} : cC l dd b yX2_init cX2_init 1 (n + 1) k (S, rf, k + 1) M (S, rf, k + 1) M 0 0 := by
  refine c_met (by decide) (by decide) rfl (fun Z hz hi => ?_)
  refine v_aload_n hz.1 dX2_init_0 rfl 0 rfl ?_
  refine c_obj hz ob_X2_1 ob_in ob_co (by omega) (by decide) dX2_init_1 ?_
  exact c_vret hz (by decide) (by decide) dX2_init_4
set_option maxRecDepth 20000 in
set_option maxHeartbeats 4000000 in
theorem c_Cat {l : Launch} {dd : hDD} {b n k : Nat} {S : Nat → Nat × Nat} {rf : Nat → Nat → Nat} {M : hMem} : cC l dd b yX0_init cX0_init 1 (n + 1) k (S, rf, k + 1) M (S, rf, k + 1) M 0 0 := by
  refine c_met (by decide) (by decide) rfl (fun Z hz hi => ?_)
  refine v_aload_n hz.1 dX0_init_0 rfl 0 rfl ?_
  refine c_obj hz ob_X0_1 ob_in ob_co (by omega) (by decide) dX0_init_1 ?_
  exact c_vret hz (by decide) (by decide) dX0_init_4
set_option maxRecDepth 20000 in
set_option maxHeartbeats 4000000 in
theorem c_Law {l : Launch} {dd : hDD} {b n : Nat} (k : Nat) {S : Nat → Nat × Nat} {rf : Nat → Nat → Nat} {M : hMem} (h0 : S k = (3, 0)) (h1 : S (k + 1) = (10, 160)) (h2 : S (k + 2) = (10, 3)) (h3 : S (k + 3) = (10, 40)) (hM : MZ k M) : cC l dd b yX4_init cX4_init 1 (n + 1) k (S, rf, k + 1) M (S, up2 (up2 (up2 rf k 0 (k + 1)) k 1 (k + 2)) k 2 (k + 3), k + 4) M 3 203 := by
  refine c_met (by decide) (by decide) rfl (fun Z hz hi => ?_)
  refine v_aload_n hz.1 dX4_init_0 rfl 0 rfl ?_
  refine c_obj hz ob_X4_3 ob_in ob_co (by omega) (by decide) dX4_init_1 ?_
  refine v_aload_n hz.1 dX4_init_4 rfl 0 rfl ?_
  refine v_sipush hz.1 160 dX4_init_5 rfl ?_
  refine c_newiN (N' := k + 2) (cs' := 1) (ss' := 160) hz 160 ac_int h1 (by decide) rfl (by decide) (fun a ha => hM a (by omega)) rfl (by omega) (by decide) (by decide) dX4_init_8 rfl rfl rfl ?_
  refine c_putr hz hi ⟨by show k < k + 2; omega, h0⟩ ff_X4_9 rfl (by omega) rfl rfl dX4_init_10 ?_
  refine v_aload_n hz.1 dX4_init_13 rfl 0 rfl ?_
  refine v_iconst hz.1 3 dX4_init_14 rfl ?_
  refine c_newiN (N' := k + 3) (cs' := 2) (ss' := 163) hz 3 ac_int h2 (by decide) rfl (by decide) (fun a ha => hM a (by omega)) rfl (by omega) (by decide) (by decide) dX4_init_15 rfl rfl rfl ?_
  refine c_putr hz hi ⟨by show k < k + 3; omega, h0⟩ ff_X4_15 rfl (by omega) rfl rfl dX4_init_17 ?_
  refine v_aload_n hz.1 dX4_init_20 rfl 0 rfl ?_
  refine v_bipush hz.1 40 dX4_init_21 rfl ?_
  refine c_newiN (N' := k + 4) (cs' := 3) (ss' := 203) hz 40 ac_int h3 (by decide) rfl (by decide) (fun a ha => hM a (by omega)) rfl (by omega) (by decide) (by decide) dX4_init_23 rfl rfl rfl ?_
  refine c_putr hz hi ⟨by show k < k + 4; omega, h0⟩ ff_X4_18 rfl (by omega) rfl rfl dX4_init_25 ?_
  refine v_aload_n hz.1 dX4_init_28 rfl 0 rfl ?_
  refine v_iconst hz.1 0 dX4_init_29 rfl ?_
  refine c_puti hz ⟨by show k < k + 4; omega, h0⟩ fp_X4_21 rfl dX4_init_30 ?_
  rw [h_up_0 (hM k (Nat.le_refl _) 3)]
  exact c_vret hz (by decide) (by decide) dX4_init_33
set_option maxRecDepth 20000 in
set_option maxHeartbeats 4000000 in
theorem c_Sheet {l : Launch} {dd : hDD} {b n : Nat} (k : Nat) {S : Nat → Nat × Nat} {rf : Nat → Nat → Nat} {M : hMem} (h0 : S k = (5, 0)) (h1 : S (k + 1) = (10, 40)) (hM : MZ k M) : cC l dd b yX6_init cX6_init 1 (n + 1) k (S, rf, k + 1) M (S, up2 rf k 2 (k + 1), k + 2) (h_up M k 0 (-1)) 1 40 := by
  refine c_met (by decide) (by decide) rfl (fun Z hz hi => ?_)
  refine v_aload_n hz.1 dX6_init_0 rfl 0 rfl ?_
  refine c_obj hz ob_X6_3 ob_in ob_co (by omega) (by decide) dX6_init_1 ?_
  refine v_aload_n hz.1 dX6_init_4 rfl 0 rfl ?_
  refine v_iconst hz.1 (-1) dX6_init_5 rfl ?_
  refine c_puti hz ⟨by show k < k + 1; omega, h0⟩ fp_X6_9 rfl dX6_init_6 ?_
  refine v_aload_n hz.1 dX6_init_9 rfl 0 rfl ?_
  refine v_iconst hz.1 0 dX6_init_10 rfl ?_
  refine c_puti hz ⟨by show k < k + 1; omega, h0⟩ fp_X6_15 rfl dX6_init_11 ?_
  rw [h_up_0 (show h_up M k 0 (-1) k 1 = 0 by rw [h_up_slot M k 0 (-1) k (by decide)]; exact hM k (Nat.le_refl _) 1)]
  refine v_aload_n hz.1 dX6_init_14 rfl 0 rfl ?_
  refine v_bipush hz.1 40 dX6_init_15 rfl ?_
  refine c_newiN (N' := k + 2) (cs' := 1) (ss' := 40) hz 40 ac_int h1 (by decide) rfl (by decide) (fun a ha j => by rw [h_up_row M k 0 (-1) (show a ≠ k by omega)]; exact hM a (by omega) j) rfl (by omega) (by decide) (by decide) dX6_init_17 rfl rfl rfl ?_
  refine c_putr hz hi ⟨by show k < k + 2; omega, h0⟩ ff_X6_18 rfl (by omega) rfl rfl dX6_init_19 ?_
  exact c_vret hz (by decide) (by decide) dX6_init_22
def W24 : List Int32 := List.replicate 24 4
set_option maxRecDepth 20000 in
set_option maxHeartbeats 4000000 in
theorem c_Str1 {l : Launch} {dd : hDD} {b n : Nat} {M : hMem} (hM : MZ 1 M) : cC l dd b yX7_init cX7_init 2 (n + 2) 1 (hYx.1, rfT 1 0 0 0, 2) M (hYx.1, rfT 15 0 0 0, 15) (MAi M 3 W24 24) 13 83 := by
  refine c_met (by decide) (by decide) rfl (fun Z hz hi => ?_)
  refine v_aload_n hz.1 dX7_init_0 rfl 0 rfl ?_
  refine c_obj hz ob_X7_3 ob_in ob_co (by omega) (by decide) dX7_init_1 ?_
  refine v_aload_n hz.1 dX7_init_4 rfl 0 rfl ?_
  refine v_iconst hz.1 3 dX7_init_5 rfl ?_
  refine c_newiN (N' := 3) (cs' := 1) (ss' := 3) hz 3 ac_int rfl (by decide) rfl (by decide) ((hM).mono (m := 2) rfl) rfl (by decide) (by decide) (by decide) dX7_init_6 rfl rfl rfl ?_
  refine c_putr hz hi ⟨Nat.le_of_ble_eq_true rfl, rfl⟩ ff_X7_9 rfl (by decide) rfl rfl dX7_init_8 ?_
  refine v_aload_n hz.1 dX7_init_11 rfl 0 rfl ?_
  refine v_bipush hz.1 24 dX7_init_12 rfl ?_
  refine c_newiN (N' := 4) (cs' := 2) (ss' := 27) hz 24 ac_int rfl (by decide) rfl (by decide) ((hM).mono (m := 3) rfl) rfl (by decide) (by decide) (by decide) dX7_init_14 rfl rfl rfl ?_
  refine c_putr hz hi ⟨Nat.le_of_ble_eq_true rfl, rfl⟩ ff_X7_15 rfl (by decide) rfl rfl dX7_init_16 ?_
  refine v_aload_n hz.1 dX7_init_19 rfl 0 rfl ?_
  refine v_bipush hz.1 24 dX7_init_20 rfl ?_
  refine c_newiN (N' := 5) (cs' := 3) (ss' := 51) hz 24 ac_int rfl (by decide) rfl (by decide) ((hM).mono (m := 4) rfl) rfl (by decide) (by decide) (by decide) dX7_init_22 rfl rfl rfl ?_
  refine c_putr hz hi ⟨Nat.le_of_ble_eq_true rfl, rfl⟩ ff_X7_18 rfl (by decide) rfl rfl dX7_init_24 ?_
  refine v_aload_n hz.1 dX7_init_27 rfl 0 rfl ?_
  refine v_iconst hz.1 4 dX7_init_28 rfl ?_
  refine c_newqN (N' := 6) (cs' := 4) (ss' := 55) hz 4 11 1 cl_X7_21 (fun h => h.1) (fun _ => rfl) (by decide) rfl (by decide) rfl (by decide) (fun _ => rfl) rfl (by decide) (by decide) (by decide) dX7_init_29 rfl rfl rfl ?_
  refine c_putr hz hi ⟨Nat.le_of_ble_eq_true rfl, rfl⟩ ff_X7_23 rfl (by decide) rfl rfl dX7_init_32 ?_
  refine v_aload_n hz.1 dX7_init_35 rfl 0 rfl ?_
  refine v_iconst hz.1 4 dX7_init_36 rfl ?_
  refine c_newqN (N' := 7) (cs' := 5) (ss' := 59) hz 4 12 2 cl_X7_27 (fun h => h.2.1) (fun _ => rfl) (by decide) rfl (by decide) rfl (by decide) (fun _ => rfl) rfl (by decide) (by decide) (by decide) dX7_init_37 rfl rfl rfl ?_
  refine c_putr hz hi ⟨Nat.le_of_ble_eq_true rfl, rfl⟩ ff_X7_29 rfl (by decide) rfl rfl dX7_init_40 ?_
  refine v_iconst hz.1 0 dX7_init_43 rfl ?_
  refine v_istore_n hz.1 [(1, .int 0), (0, .ref (h_b Z + 1))] dX7_init_44 rfl rfl rfl ?_
  refine v_iload_n hz.1 dX7_init_45 rfl 0 rfl ?_
  refine v_bipush hz.1 24 dX7_init_46 rfl ?_
  refine v_icmp_ge hz.1 dX7_init_48 (fun h => absurd h (by decide)) (fun _ => ?_)
  refine v_aload_n hz.1 dX7_init_51 rfl 1 rfl ?_
  refine c_getr (q := 3) hz ⟨Nat.le_of_ble_eq_true rfl, rfl⟩ fl_X7_15 rfl rfl (by decide) dX7_init_52 ?_
  refine v_iload_n hz.1 dX7_init_55 rfl 0 rfl ?_
  refine v_iconst hz.1 4 dX7_init_56 rfl ?_
  refine c_m0 (MAi_0 M 3 W24) ?_
  refine c_iastA hz W24 0 ⟨Nat.le_of_ble_eq_true rfl, rfl⟩ (by decide) rfl rfl (a' := 1) rfl dX7_init_57 ?_
  refine v_iinc hz.1 1 [(1, .int 1), (0, .ref (h_b Z + 1))] dX7_init_58 0 rfl rfl rfl rfl ?_
  refine v_goto hz.1 dX7_init_61 ?_
  refine v_iload_n hz.1 dX7_init_45 rfl 0 rfl ?_
  refine v_bipush hz.1 24 dX7_init_46 rfl ?_
  refine v_icmp_ge hz.1 dX7_init_48 (fun h => absurd h (by decide)) (fun _ => ?_)
  refine v_aload_n hz.1 dX7_init_51 rfl 1 rfl ?_
  refine c_getr (q := 3) hz ⟨Nat.le_of_ble_eq_true rfl, rfl⟩ fl_X7_15 rfl rfl (by decide) dX7_init_52 ?_
  refine v_iload_n hz.1 dX7_init_55 rfl 0 rfl ?_
  refine v_iconst hz.1 4 dX7_init_56 rfl ?_
  refine c_iastA hz W24 1 ⟨Nat.le_of_ble_eq_true rfl, rfl⟩ (by decide) rfl rfl (a' := 2) rfl dX7_init_57 ?_
  refine v_iinc hz.1 2 [(1, .int 2), (0, .ref (h_b Z + 1))] dX7_init_58 0 rfl rfl rfl rfl ?_
  refine v_goto hz.1 dX7_init_61 ?_
  refine v_iload_n hz.1 dX7_init_45 rfl 0 rfl ?_
  refine v_bipush hz.1 24 dX7_init_46 rfl ?_
  refine v_icmp_ge hz.1 dX7_init_48 (fun h => absurd h (by decide)) (fun _ => ?_)
  refine v_aload_n hz.1 dX7_init_51 rfl 1 rfl ?_
  refine c_getr (q := 3) hz ⟨Nat.le_of_ble_eq_true rfl, rfl⟩ fl_X7_15 rfl rfl (by decide) dX7_init_52 ?_
  refine v_iload_n hz.1 dX7_init_55 rfl 0 rfl ?_
  refine v_iconst hz.1 4 dX7_init_56 rfl ?_
  refine c_iastA hz W24 2 ⟨Nat.le_of_ble_eq_true rfl, rfl⟩ (by decide) rfl rfl (a' := 3) rfl dX7_init_57 ?_
  refine v_iinc hz.1 3 [(1, .int 3), (0, .ref (h_b Z + 1))] dX7_init_58 0 rfl rfl rfl rfl ?_
  refine v_goto hz.1 dX7_init_61 ?_
  refine v_iload_n hz.1 dX7_init_45 rfl 0 rfl ?_
  refine v_bipush hz.1 24 dX7_init_46 rfl ?_
  refine v_icmp_ge hz.1 dX7_init_48 (fun h => absurd h (by decide)) (fun _ => ?_)
  refine v_aload_n hz.1 dX7_init_51 rfl 1 rfl ?_
  refine c_getr (q := 3) hz ⟨Nat.le_of_ble_eq_true rfl, rfl⟩ fl_X7_15 rfl rfl (by decide) dX7_init_52 ?_
  refine v_iload_n hz.1 dX7_init_55 rfl 0 rfl ?_
  refine v_iconst hz.1 4 dX7_init_56 rfl ?_
  refine c_iastA hz W24 3 ⟨Nat.le_of_ble_eq_true rfl, rfl⟩ (by decide) rfl rfl (a' := 4) rfl dX7_init_57 ?_
  refine v_iinc hz.1 4 [(1, .int 4), (0, .ref (h_b Z + 1))] dX7_init_58 0 rfl rfl rfl rfl ?_
  refine v_goto hz.1 dX7_init_61 ?_
  refine v_iload_n hz.1 dX7_init_45 rfl 0 rfl ?_
  refine v_bipush hz.1 24 dX7_init_46 rfl ?_
  refine v_icmp_ge hz.1 dX7_init_48 (fun h => absurd h (by decide)) (fun _ => ?_)
  refine v_aload_n hz.1 dX7_init_51 rfl 1 rfl ?_
  refine c_getr (q := 3) hz ⟨Nat.le_of_ble_eq_true rfl, rfl⟩ fl_X7_15 rfl rfl (by decide) dX7_init_52 ?_
  refine v_iload_n hz.1 dX7_init_55 rfl 0 rfl ?_
  refine v_iconst hz.1 4 dX7_init_56 rfl ?_
  refine c_iastA hz W24 4 ⟨Nat.le_of_ble_eq_true rfl, rfl⟩ (by decide) rfl rfl (a' := 5) rfl dX7_init_57 ?_
  refine v_iinc hz.1 5 [(1, .int 5), (0, .ref (h_b Z + 1))] dX7_init_58 0 rfl rfl rfl rfl ?_
  refine v_goto hz.1 dX7_init_61 ?_
  refine v_iload_n hz.1 dX7_init_45 rfl 0 rfl ?_
  refine v_bipush hz.1 24 dX7_init_46 rfl ?_
  refine v_icmp_ge hz.1 dX7_init_48 (fun h => absurd h (by decide)) (fun _ => ?_)
  refine v_aload_n hz.1 dX7_init_51 rfl 1 rfl ?_
  refine c_getr (q := 3) hz ⟨Nat.le_of_ble_eq_true rfl, rfl⟩ fl_X7_15 rfl rfl (by decide) dX7_init_52 ?_
  refine v_iload_n hz.1 dX7_init_55 rfl 0 rfl ?_
  refine v_iconst hz.1 4 dX7_init_56 rfl ?_
  refine c_iastA hz W24 5 ⟨Nat.le_of_ble_eq_true rfl, rfl⟩ (by decide) rfl rfl (a' := 6) rfl dX7_init_57 ?_
  refine v_iinc hz.1 6 [(1, .int 6), (0, .ref (h_b Z + 1))] dX7_init_58 0 rfl rfl rfl rfl ?_
  refine v_goto hz.1 dX7_init_61 ?_
  refine v_iload_n hz.1 dX7_init_45 rfl 0 rfl ?_
  refine v_bipush hz.1 24 dX7_init_46 rfl ?_
  refine v_icmp_ge hz.1 dX7_init_48 (fun h => absurd h (by decide)) (fun _ => ?_)
  refine v_aload_n hz.1 dX7_init_51 rfl 1 rfl ?_
  refine c_getr (q := 3) hz ⟨Nat.le_of_ble_eq_true rfl, rfl⟩ fl_X7_15 rfl rfl (by decide) dX7_init_52 ?_
  refine v_iload_n hz.1 dX7_init_55 rfl 0 rfl ?_
  refine v_iconst hz.1 4 dX7_init_56 rfl ?_
  refine c_iastA hz W24 6 ⟨Nat.le_of_ble_eq_true rfl, rfl⟩ (by decide) rfl rfl (a' := 7) rfl dX7_init_57 ?_
  refine v_iinc hz.1 7 [(1, .int 7), (0, .ref (h_b Z + 1))] dX7_init_58 0 rfl rfl rfl rfl ?_
  refine v_goto hz.1 dX7_init_61 ?_
  refine v_iload_n hz.1 dX7_init_45 rfl 0 rfl ?_
  refine v_bipush hz.1 24 dX7_init_46 rfl ?_
  refine v_icmp_ge hz.1 dX7_init_48 (fun h => absurd h (by decide)) (fun _ => ?_)
  refine v_aload_n hz.1 dX7_init_51 rfl 1 rfl ?_
  refine c_getr (q := 3) hz ⟨Nat.le_of_ble_eq_true rfl, rfl⟩ fl_X7_15 rfl rfl (by decide) dX7_init_52 ?_
  refine v_iload_n hz.1 dX7_init_55 rfl 0 rfl ?_
  refine v_iconst hz.1 4 dX7_init_56 rfl ?_
  refine c_iastA hz W24 7 ⟨Nat.le_of_ble_eq_true rfl, rfl⟩ (by decide) rfl rfl (a' := 8) rfl dX7_init_57 ?_
  refine v_iinc hz.1 8 [(1, .int 8), (0, .ref (h_b Z + 1))] dX7_init_58 0 rfl rfl rfl rfl ?_
  refine v_goto hz.1 dX7_init_61 ?_
  refine v_iload_n hz.1 dX7_init_45 rfl 0 rfl ?_
  refine v_bipush hz.1 24 dX7_init_46 rfl ?_
  refine v_icmp_ge hz.1 dX7_init_48 (fun h => absurd h (by decide)) (fun _ => ?_)
  refine v_aload_n hz.1 dX7_init_51 rfl 1 rfl ?_
  refine c_getr (q := 3) hz ⟨Nat.le_of_ble_eq_true rfl, rfl⟩ fl_X7_15 rfl rfl (by decide) dX7_init_52 ?_
  refine v_iload_n hz.1 dX7_init_55 rfl 0 rfl ?_
  refine v_iconst hz.1 4 dX7_init_56 rfl ?_
  refine c_iastA hz W24 8 ⟨Nat.le_of_ble_eq_true rfl, rfl⟩ (by decide) rfl rfl (a' := 9) rfl dX7_init_57 ?_
  refine v_iinc hz.1 9 [(1, .int 9), (0, .ref (h_b Z + 1))] dX7_init_58 0 rfl rfl rfl rfl ?_
  refine v_goto hz.1 dX7_init_61 ?_
  refine v_iload_n hz.1 dX7_init_45 rfl 0 rfl ?_
  refine v_bipush hz.1 24 dX7_init_46 rfl ?_
  refine v_icmp_ge hz.1 dX7_init_48 (fun h => absurd h (by decide)) (fun _ => ?_)
  refine v_aload_n hz.1 dX7_init_51 rfl 1 rfl ?_
  refine c_getr (q := 3) hz ⟨Nat.le_of_ble_eq_true rfl, rfl⟩ fl_X7_15 rfl rfl (by decide) dX7_init_52 ?_
  refine v_iload_n hz.1 dX7_init_55 rfl 0 rfl ?_
  refine v_iconst hz.1 4 dX7_init_56 rfl ?_
  refine c_iastA hz W24 9 ⟨Nat.le_of_ble_eq_true rfl, rfl⟩ (by decide) rfl rfl (a' := 10) rfl dX7_init_57 ?_
  refine v_iinc hz.1 10 [(1, .int 10), (0, .ref (h_b Z + 1))] dX7_init_58 0 rfl rfl rfl rfl ?_
  refine v_goto hz.1 dX7_init_61 ?_
  refine v_iload_n hz.1 dX7_init_45 rfl 0 rfl ?_
  refine v_bipush hz.1 24 dX7_init_46 rfl ?_
  refine v_icmp_ge hz.1 dX7_init_48 (fun h => absurd h (by decide)) (fun _ => ?_)
  refine v_aload_n hz.1 dX7_init_51 rfl 1 rfl ?_
  refine c_getr (q := 3) hz ⟨Nat.le_of_ble_eq_true rfl, rfl⟩ fl_X7_15 rfl rfl (by decide) dX7_init_52 ?_
  refine v_iload_n hz.1 dX7_init_55 rfl 0 rfl ?_
  refine v_iconst hz.1 4 dX7_init_56 rfl ?_
  refine c_iastA hz W24 10 ⟨Nat.le_of_ble_eq_true rfl, rfl⟩ (by decide) rfl rfl (a' := 11) rfl dX7_init_57 ?_
  refine v_iinc hz.1 11 [(1, .int 11), (0, .ref (h_b Z + 1))] dX7_init_58 0 rfl rfl rfl rfl ?_
  refine v_goto hz.1 dX7_init_61 ?_
  refine v_iload_n hz.1 dX7_init_45 rfl 0 rfl ?_
  refine v_bipush hz.1 24 dX7_init_46 rfl ?_
  refine v_icmp_ge hz.1 dX7_init_48 (fun h => absurd h (by decide)) (fun _ => ?_)
  refine v_aload_n hz.1 dX7_init_51 rfl 1 rfl ?_
  refine c_getr (q := 3) hz ⟨Nat.le_of_ble_eq_true rfl, rfl⟩ fl_X7_15 rfl rfl (by decide) dX7_init_52 ?_
  refine v_iload_n hz.1 dX7_init_55 rfl 0 rfl ?_
  refine v_iconst hz.1 4 dX7_init_56 rfl ?_
  refine c_iastA hz W24 11 ⟨Nat.le_of_ble_eq_true rfl, rfl⟩ (by decide) rfl rfl (a' := 12) rfl dX7_init_57 ?_
  refine v_iinc hz.1 12 [(1, .int 12), (0, .ref (h_b Z + 1))] dX7_init_58 0 rfl rfl rfl rfl ?_
  refine v_goto hz.1 dX7_init_61 ?_
  refine v_iload_n hz.1 dX7_init_45 rfl 0 rfl ?_
  refine v_bipush hz.1 24 dX7_init_46 rfl ?_
  refine v_icmp_ge hz.1 dX7_init_48 (fun h => absurd h (by decide)) (fun _ => ?_)
  refine v_aload_n hz.1 dX7_init_51 rfl 1 rfl ?_
  refine c_getr (q := 3) hz ⟨Nat.le_of_ble_eq_true rfl, rfl⟩ fl_X7_15 rfl rfl (by decide) dX7_init_52 ?_
  refine v_iload_n hz.1 dX7_init_55 rfl 0 rfl ?_
  refine v_iconst hz.1 4 dX7_init_56 rfl ?_
  refine c_iastA hz W24 12 ⟨Nat.le_of_ble_eq_true rfl, rfl⟩ (by decide) rfl rfl (a' := 13) rfl dX7_init_57 ?_
  refine v_iinc hz.1 13 [(1, .int 13), (0, .ref (h_b Z + 1))] dX7_init_58 0 rfl rfl rfl rfl ?_
  refine v_goto hz.1 dX7_init_61 ?_
  refine v_iload_n hz.1 dX7_init_45 rfl 0 rfl ?_
  refine v_bipush hz.1 24 dX7_init_46 rfl ?_
  refine v_icmp_ge hz.1 dX7_init_48 (fun h => absurd h (by decide)) (fun _ => ?_)
  refine v_aload_n hz.1 dX7_init_51 rfl 1 rfl ?_
  refine c_getr (q := 3) hz ⟨Nat.le_of_ble_eq_true rfl, rfl⟩ fl_X7_15 rfl rfl (by decide) dX7_init_52 ?_
  refine v_iload_n hz.1 dX7_init_55 rfl 0 rfl ?_
  refine v_iconst hz.1 4 dX7_init_56 rfl ?_
  refine c_iastA hz W24 13 ⟨Nat.le_of_ble_eq_true rfl, rfl⟩ (by decide) rfl rfl (a' := 14) rfl dX7_init_57 ?_
  refine v_iinc hz.1 14 [(1, .int 14), (0, .ref (h_b Z + 1))] dX7_init_58 0 rfl rfl rfl rfl ?_
  refine v_goto hz.1 dX7_init_61 ?_
  refine v_iload_n hz.1 dX7_init_45 rfl 0 rfl ?_
  refine v_bipush hz.1 24 dX7_init_46 rfl ?_
  refine v_icmp_ge hz.1 dX7_init_48 (fun h => absurd h (by decide)) (fun _ => ?_)
  refine v_aload_n hz.1 dX7_init_51 rfl 1 rfl ?_
  refine c_getr (q := 3) hz ⟨Nat.le_of_ble_eq_true rfl, rfl⟩ fl_X7_15 rfl rfl (by decide) dX7_init_52 ?_
  refine v_iload_n hz.1 dX7_init_55 rfl 0 rfl ?_
  refine v_iconst hz.1 4 dX7_init_56 rfl ?_
  refine c_iastA hz W24 14 ⟨Nat.le_of_ble_eq_true rfl, rfl⟩ (by decide) rfl rfl (a' := 15) rfl dX7_init_57 ?_
  refine v_iinc hz.1 15 [(1, .int 15), (0, .ref (h_b Z + 1))] dX7_init_58 0 rfl rfl rfl rfl ?_
  refine v_goto hz.1 dX7_init_61 ?_
  refine v_iload_n hz.1 dX7_init_45 rfl 0 rfl ?_
  refine v_bipush hz.1 24 dX7_init_46 rfl ?_
  refine v_icmp_ge hz.1 dX7_init_48 (fun h => absurd h (by decide)) (fun _ => ?_)
  refine v_aload_n hz.1 dX7_init_51 rfl 1 rfl ?_
  refine c_getr (q := 3) hz ⟨Nat.le_of_ble_eq_true rfl, rfl⟩ fl_X7_15 rfl rfl (by decide) dX7_init_52 ?_
  refine v_iload_n hz.1 dX7_init_55 rfl 0 rfl ?_
  refine v_iconst hz.1 4 dX7_init_56 rfl ?_
  refine c_iastA hz W24 15 ⟨Nat.le_of_ble_eq_true rfl, rfl⟩ (by decide) rfl rfl (a' := 16) rfl dX7_init_57 ?_
  refine v_iinc hz.1 16 [(1, .int 16), (0, .ref (h_b Z + 1))] dX7_init_58 0 rfl rfl rfl rfl ?_
  refine v_goto hz.1 dX7_init_61 ?_
  refine v_iload_n hz.1 dX7_init_45 rfl 0 rfl ?_
  refine v_bipush hz.1 24 dX7_init_46 rfl ?_
  refine v_icmp_ge hz.1 dX7_init_48 (fun h => absurd h (by decide)) (fun _ => ?_)
  refine v_aload_n hz.1 dX7_init_51 rfl 1 rfl ?_
  refine c_getr (q := 3) hz ⟨Nat.le_of_ble_eq_true rfl, rfl⟩ fl_X7_15 rfl rfl (by decide) dX7_init_52 ?_
  refine v_iload_n hz.1 dX7_init_55 rfl 0 rfl ?_
  refine v_iconst hz.1 4 dX7_init_56 rfl ?_
  refine c_iastA hz W24 16 ⟨Nat.le_of_ble_eq_true rfl, rfl⟩ (by decide) rfl rfl (a' := 17) rfl dX7_init_57 ?_
  refine v_iinc hz.1 17 [(1, .int 17), (0, .ref (h_b Z + 1))] dX7_init_58 0 rfl rfl rfl rfl ?_
  refine v_goto hz.1 dX7_init_61 ?_
  refine v_iload_n hz.1 dX7_init_45 rfl 0 rfl ?_
  refine v_bipush hz.1 24 dX7_init_46 rfl ?_
  refine v_icmp_ge hz.1 dX7_init_48 (fun h => absurd h (by decide)) (fun _ => ?_)
  refine v_aload_n hz.1 dX7_init_51 rfl 1 rfl ?_
  refine c_getr (q := 3) hz ⟨Nat.le_of_ble_eq_true rfl, rfl⟩ fl_X7_15 rfl rfl (by decide) dX7_init_52 ?_
  refine v_iload_n hz.1 dX7_init_55 rfl 0 rfl ?_
  refine v_iconst hz.1 4 dX7_init_56 rfl ?_
  refine c_iastA hz W24 17 ⟨Nat.le_of_ble_eq_true rfl, rfl⟩ (by decide) rfl rfl (a' := 18) rfl dX7_init_57 ?_
  refine v_iinc hz.1 18 [(1, .int 18), (0, .ref (h_b Z + 1))] dX7_init_58 0 rfl rfl rfl rfl ?_
  refine v_goto hz.1 dX7_init_61 ?_
  refine v_iload_n hz.1 dX7_init_45 rfl 0 rfl ?_
  refine v_bipush hz.1 24 dX7_init_46 rfl ?_
  refine v_icmp_ge hz.1 dX7_init_48 (fun h => absurd h (by decide)) (fun _ => ?_)
  refine v_aload_n hz.1 dX7_init_51 rfl 1 rfl ?_
  refine c_getr (q := 3) hz ⟨Nat.le_of_ble_eq_true rfl, rfl⟩ fl_X7_15 rfl rfl (by decide) dX7_init_52 ?_
  refine v_iload_n hz.1 dX7_init_55 rfl 0 rfl ?_
  refine v_iconst hz.1 4 dX7_init_56 rfl ?_
  refine c_iastA hz W24 18 ⟨Nat.le_of_ble_eq_true rfl, rfl⟩ (by decide) rfl rfl (a' := 19) rfl dX7_init_57 ?_
  refine v_iinc hz.1 19 [(1, .int 19), (0, .ref (h_b Z + 1))] dX7_init_58 0 rfl rfl rfl rfl ?_
  refine v_goto hz.1 dX7_init_61 ?_
  refine v_iload_n hz.1 dX7_init_45 rfl 0 rfl ?_
  refine v_bipush hz.1 24 dX7_init_46 rfl ?_
  refine v_icmp_ge hz.1 dX7_init_48 (fun h => absurd h (by decide)) (fun _ => ?_)
  refine v_aload_n hz.1 dX7_init_51 rfl 1 rfl ?_
  refine c_getr (q := 3) hz ⟨Nat.le_of_ble_eq_true rfl, rfl⟩ fl_X7_15 rfl rfl (by decide) dX7_init_52 ?_
  refine v_iload_n hz.1 dX7_init_55 rfl 0 rfl ?_
  refine v_iconst hz.1 4 dX7_init_56 rfl ?_
  refine c_iastA hz W24 19 ⟨Nat.le_of_ble_eq_true rfl, rfl⟩ (by decide) rfl rfl (a' := 20) rfl dX7_init_57 ?_
  refine v_iinc hz.1 20 [(1, .int 20), (0, .ref (h_b Z + 1))] dX7_init_58 0 rfl rfl rfl rfl ?_
  refine v_goto hz.1 dX7_init_61 ?_
  refine v_iload_n hz.1 dX7_init_45 rfl 0 rfl ?_
  refine v_bipush hz.1 24 dX7_init_46 rfl ?_
  refine v_icmp_ge hz.1 dX7_init_48 (fun h => absurd h (by decide)) (fun _ => ?_)
  refine v_aload_n hz.1 dX7_init_51 rfl 1 rfl ?_
  refine c_getr (q := 3) hz ⟨Nat.le_of_ble_eq_true rfl, rfl⟩ fl_X7_15 rfl rfl (by decide) dX7_init_52 ?_
  refine v_iload_n hz.1 dX7_init_55 rfl 0 rfl ?_
  refine v_iconst hz.1 4 dX7_init_56 rfl ?_
  refine c_iastA hz W24 20 ⟨Nat.le_of_ble_eq_true rfl, rfl⟩ (by decide) rfl rfl (a' := 21) rfl dX7_init_57 ?_
  refine v_iinc hz.1 21 [(1, .int 21), (0, .ref (h_b Z + 1))] dX7_init_58 0 rfl rfl rfl rfl ?_
  refine v_goto hz.1 dX7_init_61 ?_
  refine v_iload_n hz.1 dX7_init_45 rfl 0 rfl ?_
  refine v_bipush hz.1 24 dX7_init_46 rfl ?_
  refine v_icmp_ge hz.1 dX7_init_48 (fun h => absurd h (by decide)) (fun _ => ?_)
  refine v_aload_n hz.1 dX7_init_51 rfl 1 rfl ?_
  refine c_getr (q := 3) hz ⟨Nat.le_of_ble_eq_true rfl, rfl⟩ fl_X7_15 rfl rfl (by decide) dX7_init_52 ?_
  refine v_iload_n hz.1 dX7_init_55 rfl 0 rfl ?_
  refine v_iconst hz.1 4 dX7_init_56 rfl ?_
  refine c_iastA hz W24 21 ⟨Nat.le_of_ble_eq_true rfl, rfl⟩ (by decide) rfl rfl (a' := 22) rfl dX7_init_57 ?_
  refine v_iinc hz.1 22 [(1, .int 22), (0, .ref (h_b Z + 1))] dX7_init_58 0 rfl rfl rfl rfl ?_
  refine v_goto hz.1 dX7_init_61 ?_
  refine v_iload_n hz.1 dX7_init_45 rfl 0 rfl ?_
  refine v_bipush hz.1 24 dX7_init_46 rfl ?_
  refine v_icmp_ge hz.1 dX7_init_48 (fun h => absurd h (by decide)) (fun _ => ?_)
  refine v_aload_n hz.1 dX7_init_51 rfl 1 rfl ?_
  refine c_getr (q := 3) hz ⟨Nat.le_of_ble_eq_true rfl, rfl⟩ fl_X7_15 rfl rfl (by decide) dX7_init_52 ?_
  refine v_iload_n hz.1 dX7_init_55 rfl 0 rfl ?_
  refine v_iconst hz.1 4 dX7_init_56 rfl ?_
  refine c_iastA hz W24 22 ⟨Nat.le_of_ble_eq_true rfl, rfl⟩ (by decide) rfl rfl (a' := 23) rfl dX7_init_57 ?_
  refine v_iinc hz.1 23 [(1, .int 23), (0, .ref (h_b Z + 1))] dX7_init_58 0 rfl rfl rfl rfl ?_
  refine v_goto hz.1 dX7_init_61 ?_
  refine v_iload_n hz.1 dX7_init_45 rfl 0 rfl ?_
  refine v_bipush hz.1 24 dX7_init_46 rfl ?_
  refine v_icmp_ge hz.1 dX7_init_48 (fun h => absurd h (by decide)) (fun _ => ?_)
  refine v_aload_n hz.1 dX7_init_51 rfl 1 rfl ?_
  refine c_getr (q := 3) hz ⟨Nat.le_of_ble_eq_true rfl, rfl⟩ fl_X7_15 rfl rfl (by decide) dX7_init_52 ?_
  refine v_iload_n hz.1 dX7_init_55 rfl 0 rfl ?_
  refine v_iconst hz.1 4 dX7_init_56 rfl ?_
  refine c_iastA hz W24 23 ⟨Nat.le_of_ble_eq_true rfl, rfl⟩ (by decide) rfl rfl (a' := 24) rfl dX7_init_57 ?_
  refine v_iinc hz.1 24 [(1, .int 24), (0, .ref (h_b Z + 1))] dX7_init_58 0 rfl rfl rfl rfl ?_
  refine v_goto hz.1 dX7_init_61 ?_
  refine v_iload_n hz.1 dX7_init_45 rfl 0 rfl ?_
  refine v_bipush hz.1 24 dX7_init_46 rfl ?_
  refine v_icmp_ge hz.1 dX7_init_48 (fun _ => ?_) (fun h => absurd (by decide) h)
  refine v_iconst hz.1 0 dX7_init_64 rfl ?_
  refine v_istore_n hz.1 [(1, .int 0), (0, .ref (h_b Z + 1))] dX7_init_65 rfl rfl rfl ?_
  refine v_iload_n hz.1 dX7_init_66 rfl 0 rfl ?_
  refine v_iconst hz.1 4 dX7_init_67 rfl ?_
  refine v_icmp_ge hz.1 dX7_init_68 (fun h => absurd h (by decide)) (fun _ => ?_)
  refine v_aload_n hz.1 dX7_init_71 rfl 1 rfl ?_
  refine c_getr (q := 5) hz ⟨Nat.le_of_ble_eq_true rfl, rfl⟩ fl_X7_23 rfl rfl (by decide) dX7_init_72 ?_
  refine v_iload_n hz.1 dX7_init_75 rfl 0 rfl ?_
  refine c_newN (N' := 8) (cs' := 6) (ss' := 62) hz 2 (by decide) rfl uw_X2 tyX2 tyX2_ok df_X2 cl_X7_21 it_X2 ii_X2 rfl (((hM).mono (m := 7) rfl).ma rfl) (fun _ => rfl) rfl (Or.inl (by decide)) (by decide) (by decide) dX7_init_76 rfl rfl rfl ?_
  refine v_dup hz.1 dX7_init_79 rfl ?_
  refine c_initNE (cs' := 6) (ss' := 62) (Y' := (hYx.1, (up2 (up2 (up2 (up2 (up2 (rfT 1 0 0 0) 1 0 2) 1 1 3) 1 2 4) 1 3 5) 1 4 6), 8)) (M' := (MAi M 3 W24 24)) hz mi_X7_33 (c_Hat (n := n)) rfl rfl (by decide) (by decide) (by decide) (Nat.le_of_ble_eq_true rfl) dX7_init_80 rfl rfl ?_
  refine c_aast (j := 0) hz 1 (fun _ => rfl) ⟨Nat.le_of_ble_eq_true rfl, rfl⟩ (by decide) ⟨Nat.le_of_ble_eq_true rfl, rfl⟩ (by decide) rfl (by decide) rfl (by decide) dX7_init_83 ?_
  refine v_iinc hz.1 1 [(1, .int 1), (0, .ref (h_b Z + 1))] dX7_init_84 0 rfl rfl rfl rfl ?_
  refine v_goto hz.1 dX7_init_87 ?_
  refine v_iload_n hz.1 dX7_init_66 rfl 0 rfl ?_
  refine v_iconst hz.1 4 dX7_init_67 rfl ?_
  refine v_icmp_ge hz.1 dX7_init_68 (fun h => absurd h (by decide)) (fun _ => ?_)
  refine v_aload_n hz.1 dX7_init_71 rfl 1 rfl ?_
  refine c_getr (q := 5) hz ⟨Nat.le_of_ble_eq_true rfl, rfl⟩ fl_X7_23 rfl rfl (by decide) dX7_init_72 ?_
  refine v_iload_n hz.1 dX7_init_75 rfl 0 rfl ?_
  refine c_newN (N' := 9) (cs' := 7) (ss' := 65) hz 2 (by decide) rfl uw_X2 tyX2 tyX2_ok df_X2 cl_X7_21 it_X2 ii_X2 rfl (((hM).mono (m := 8) rfl).ma rfl) (fun _ => rfl) rfl (Or.inl (by decide)) (by decide) (by decide) dX7_init_76 rfl rfl rfl ?_
  refine v_dup hz.1 dX7_init_79 rfl ?_
  refine c_initNE (cs' := 7) (ss' := 65) (Y' := (hYx.1, (up2 (up2 (up2 (up2 (up2 (up2 (rfT 1 0 0 0) 1 0 2) 1 1 3) 1 2 4) 1 3 5) 1 4 6) 5 0 7), 9)) (M' := (MAi M 3 W24 24)) hz mi_X7_33 (c_Hat (n := n)) rfl rfl (by decide) (by decide) (by decide) (Nat.le_of_ble_eq_true rfl) dX7_init_80 rfl rfl ?_
  refine c_aast (j := 1) hz 1 (fun _ => rfl) ⟨Nat.le_of_ble_eq_true rfl, rfl⟩ (by decide) ⟨Nat.le_of_ble_eq_true rfl, rfl⟩ (by decide) rfl (by decide) rfl (by decide) dX7_init_83 ?_
  refine v_iinc hz.1 2 [(1, .int 2), (0, .ref (h_b Z + 1))] dX7_init_84 0 rfl rfl rfl rfl ?_
  refine v_goto hz.1 dX7_init_87 ?_
  refine v_iload_n hz.1 dX7_init_66 rfl 0 rfl ?_
  refine v_iconst hz.1 4 dX7_init_67 rfl ?_
  refine v_icmp_ge hz.1 dX7_init_68 (fun h => absurd h (by decide)) (fun _ => ?_)
  refine v_aload_n hz.1 dX7_init_71 rfl 1 rfl ?_
  refine c_getr (q := 5) hz ⟨Nat.le_of_ble_eq_true rfl, rfl⟩ fl_X7_23 rfl rfl (by decide) dX7_init_72 ?_
  refine v_iload_n hz.1 dX7_init_75 rfl 0 rfl ?_
  refine c_newN (N' := 10) (cs' := 8) (ss' := 68) hz 2 (by decide) rfl uw_X2 tyX2 tyX2_ok df_X2 cl_X7_21 it_X2 ii_X2 rfl (((hM).mono (m := 9) rfl).ma rfl) (fun _ => rfl) rfl (Or.inl (by decide)) (by decide) (by decide) dX7_init_76 rfl rfl rfl ?_
  refine v_dup hz.1 dX7_init_79 rfl ?_
  refine c_initNE (cs' := 8) (ss' := 68) (Y' := (hYx.1, (up2 (up2 (up2 (up2 (up2 (up2 (up2 (rfT 1 0 0 0) 1 0 2) 1 1 3) 1 2 4) 1 3 5) 1 4 6) 5 0 7) 5 1 8), 10)) (M' := (MAi M 3 W24 24)) hz mi_X7_33 (c_Hat (n := n)) rfl rfl (by decide) (by decide) (by decide) (Nat.le_of_ble_eq_true rfl) dX7_init_80 rfl rfl ?_
  refine c_aast (j := 2) hz 1 (fun _ => rfl) ⟨Nat.le_of_ble_eq_true rfl, rfl⟩ (by decide) ⟨Nat.le_of_ble_eq_true rfl, rfl⟩ (by decide) rfl (by decide) rfl (by decide) dX7_init_83 ?_
  refine v_iinc hz.1 3 [(1, .int 3), (0, .ref (h_b Z + 1))] dX7_init_84 0 rfl rfl rfl rfl ?_
  refine v_goto hz.1 dX7_init_87 ?_
  refine v_iload_n hz.1 dX7_init_66 rfl 0 rfl ?_
  refine v_iconst hz.1 4 dX7_init_67 rfl ?_
  refine v_icmp_ge hz.1 dX7_init_68 (fun h => absurd h (by decide)) (fun _ => ?_)
  refine v_aload_n hz.1 dX7_init_71 rfl 1 rfl ?_
  refine c_getr (q := 5) hz ⟨Nat.le_of_ble_eq_true rfl, rfl⟩ fl_X7_23 rfl rfl (by decide) dX7_init_72 ?_
  refine v_iload_n hz.1 dX7_init_75 rfl 0 rfl ?_
  refine c_newN (N' := 11) (cs' := 9) (ss' := 71) hz 2 (by decide) rfl uw_X2 tyX2 tyX2_ok df_X2 cl_X7_21 it_X2 ii_X2 rfl (((hM).mono (m := 10) rfl).ma rfl) (fun _ => rfl) rfl (Or.inl (by decide)) (by decide) (by decide) dX7_init_76 rfl rfl rfl ?_
  refine v_dup hz.1 dX7_init_79 rfl ?_
  refine c_initNE (cs' := 9) (ss' := 71) (Y' := (hYx.1, (up2 (up2 (up2 (up2 (up2 (up2 (up2 (up2 (rfT 1 0 0 0) 1 0 2) 1 1 3) 1 2 4) 1 3 5) 1 4 6) 5 0 7) 5 1 8) 5 2 9), 11)) (M' := (MAi M 3 W24 24)) hz mi_X7_33 (c_Hat (n := n)) rfl rfl (by decide) (by decide) (by decide) (Nat.le_of_ble_eq_true rfl) dX7_init_80 rfl rfl ?_
  refine c_aast (j := 3) hz 1 (fun _ => rfl) ⟨Nat.le_of_ble_eq_true rfl, rfl⟩ (by decide) ⟨Nat.le_of_ble_eq_true rfl, rfl⟩ (by decide) rfl (by decide) rfl (by decide) dX7_init_83 ?_
  refine v_iinc hz.1 4 [(1, .int 4), (0, .ref (h_b Z + 1))] dX7_init_84 0 rfl rfl rfl rfl ?_
  refine v_goto hz.1 dX7_init_87 ?_
  refine v_iload_n hz.1 dX7_init_66 rfl 0 rfl ?_
  refine v_iconst hz.1 4 dX7_init_67 rfl ?_
  refine v_icmp_ge hz.1 dX7_init_68 (fun _ => ?_) (fun h => absurd (by decide) h)
  refine v_iconst hz.1 0 dX7_init_90 rfl ?_
  refine v_istore_n hz.1 [(1, .int 0), (0, .ref (h_b Z + 1))] dX7_init_91 rfl rfl rfl ?_
  refine v_iload_n hz.1 dX7_init_92 rfl 0 rfl ?_
  refine v_iconst hz.1 4 dX7_init_93 rfl ?_
  refine v_icmp_ge hz.1 dX7_init_94 (fun h => absurd h (by decide)) (fun _ => ?_)
  refine v_aload_n hz.1 dX7_init_97 rfl 1 rfl ?_
  refine c_getr (q := 6) hz ⟨Nat.le_of_ble_eq_true rfl, rfl⟩ fl_X7_29 rfl rfl (by decide) dX7_init_98 ?_
  refine v_iload_n hz.1 dX7_init_101 rfl 0 rfl ?_
  refine c_newN (N' := 12) (cs' := 10) (ss' := 74) hz 0 (by decide) rfl uw_X0 tyX0 tyX0_ok df_X0 cl_X7_27 it_X0 ii_X0 rfl (((hM).mono (m := 11) rfl).ma rfl) (fun _ => rfl) rfl (Or.inl (by decide)) (by decide) (by decide) dX7_init_102 rfl rfl rfl ?_
  refine v_dup hz.1 dX7_init_105 rfl ?_
  refine c_initNE (cs' := 10) (ss' := 74) (Y' := (hYx.1, (up2 (up2 (up2 (up2 (up2 (up2 (up2 (up2 (up2 (rfT 1 0 0 0) 1 0 2) 1 1 3) 1 2 4) 1 3 5) 1 4 6) 5 0 7) 5 1 8) 5 2 9) 5 3 10), 12)) (M' := (MAi M 3 W24 24)) hz mi_X7_34 (c_Cat (n := n)) rfl rfl (by decide) (by decide) (by decide) (Nat.le_of_ble_eq_true rfl) dX7_init_106 rfl rfl ?_
  refine c_aast (j := 0) hz 2 (fun _ => rfl) ⟨Nat.le_of_ble_eq_true rfl, rfl⟩ (by decide) ⟨Nat.le_of_ble_eq_true rfl, rfl⟩ (by decide) rfl (by decide) rfl (by decide) dX7_init_109 ?_
  refine v_iinc hz.1 1 [(1, .int 1), (0, .ref (h_b Z + 1))] dX7_init_110 0 rfl rfl rfl rfl ?_
  refine v_goto hz.1 dX7_init_113 ?_
  refine v_iload_n hz.1 dX7_init_92 rfl 0 rfl ?_
  refine v_iconst hz.1 4 dX7_init_93 rfl ?_
  refine v_icmp_ge hz.1 dX7_init_94 (fun h => absurd h (by decide)) (fun _ => ?_)
  refine v_aload_n hz.1 dX7_init_97 rfl 1 rfl ?_
  refine c_getr (q := 6) hz ⟨Nat.le_of_ble_eq_true rfl, rfl⟩ fl_X7_29 rfl rfl (by decide) dX7_init_98 ?_
  refine v_iload_n hz.1 dX7_init_101 rfl 0 rfl ?_
  refine c_newN (N' := 13) (cs' := 11) (ss' := 77) hz 0 (by decide) rfl uw_X0 tyX0 tyX0_ok df_X0 cl_X7_27 it_X0 ii_X0 rfl (((hM).mono (m := 12) rfl).ma rfl) (fun _ => rfl) rfl (Or.inl (by decide)) (by decide) (by decide) dX7_init_102 rfl rfl rfl ?_
  refine v_dup hz.1 dX7_init_105 rfl ?_
  refine c_initNE (cs' := 11) (ss' := 77) (Y' := (hYx.1, (up2 (up2 (up2 (up2 (up2 (up2 (up2 (up2 (up2 (up2 (rfT 1 0 0 0) 1 0 2) 1 1 3) 1 2 4) 1 3 5) 1 4 6) 5 0 7) 5 1 8) 5 2 9) 5 3 10) 6 0 11), 13)) (M' := (MAi M 3 W24 24)) hz mi_X7_34 (c_Cat (n := n)) rfl rfl (by decide) (by decide) (by decide) (Nat.le_of_ble_eq_true rfl) dX7_init_106 rfl rfl ?_
  refine c_aast (j := 1) hz 2 (fun _ => rfl) ⟨Nat.le_of_ble_eq_true rfl, rfl⟩ (by decide) ⟨Nat.le_of_ble_eq_true rfl, rfl⟩ (by decide) rfl (by decide) rfl (by decide) dX7_init_109 ?_
  refine v_iinc hz.1 2 [(1, .int 2), (0, .ref (h_b Z + 1))] dX7_init_110 0 rfl rfl rfl rfl ?_
  refine v_goto hz.1 dX7_init_113 ?_
  refine v_iload_n hz.1 dX7_init_92 rfl 0 rfl ?_
  refine v_iconst hz.1 4 dX7_init_93 rfl ?_
  refine v_icmp_ge hz.1 dX7_init_94 (fun h => absurd h (by decide)) (fun _ => ?_)
  refine v_aload_n hz.1 dX7_init_97 rfl 1 rfl ?_
  refine c_getr (q := 6) hz ⟨Nat.le_of_ble_eq_true rfl, rfl⟩ fl_X7_29 rfl rfl (by decide) dX7_init_98 ?_
  refine v_iload_n hz.1 dX7_init_101 rfl 0 rfl ?_
  refine c_newN (N' := 14) (cs' := 12) (ss' := 80) hz 0 (by decide) rfl uw_X0 tyX0 tyX0_ok df_X0 cl_X7_27 it_X0 ii_X0 rfl (((hM).mono (m := 13) rfl).ma rfl) (fun _ => rfl) rfl (Or.inl (by decide)) (by decide) (by decide) dX7_init_102 rfl rfl rfl ?_
  refine v_dup hz.1 dX7_init_105 rfl ?_
  refine c_initNE (cs' := 12) (ss' := 80) (Y' := (hYx.1, (up2 (up2 (up2 (up2 (up2 (up2 (up2 (up2 (up2 (up2 (up2 (rfT 1 0 0 0) 1 0 2) 1 1 3) 1 2 4) 1 3 5) 1 4 6) 5 0 7) 5 1 8) 5 2 9) 5 3 10) 6 0 11) 6 1 12), 14)) (M' := (MAi M 3 W24 24)) hz mi_X7_34 (c_Cat (n := n)) rfl rfl (by decide) (by decide) (by decide) (Nat.le_of_ble_eq_true rfl) dX7_init_106 rfl rfl ?_
  refine c_aast (j := 2) hz 2 (fun _ => rfl) ⟨Nat.le_of_ble_eq_true rfl, rfl⟩ (by decide) ⟨Nat.le_of_ble_eq_true rfl, rfl⟩ (by decide) rfl (by decide) rfl (by decide) dX7_init_109 ?_
  refine v_iinc hz.1 3 [(1, .int 3), (0, .ref (h_b Z + 1))] dX7_init_110 0 rfl rfl rfl rfl ?_
  refine v_goto hz.1 dX7_init_113 ?_
  refine v_iload_n hz.1 dX7_init_92 rfl 0 rfl ?_
  refine v_iconst hz.1 4 dX7_init_93 rfl ?_
  refine v_icmp_ge hz.1 dX7_init_94 (fun h => absurd h (by decide)) (fun _ => ?_)
  refine v_aload_n hz.1 dX7_init_97 rfl 1 rfl ?_
  refine c_getr (q := 6) hz ⟨Nat.le_of_ble_eq_true rfl, rfl⟩ fl_X7_29 rfl rfl (by decide) dX7_init_98 ?_
  refine v_iload_n hz.1 dX7_init_101 rfl 0 rfl ?_
  refine c_newN (N' := 15) (cs' := 13) (ss' := 83) hz 0 (by decide) rfl uw_X0 tyX0 tyX0_ok df_X0 cl_X7_27 it_X0 ii_X0 rfl (((hM).mono (m := 14) rfl).ma rfl) (fun _ => rfl) rfl (Or.inl (by decide)) (by decide) (by decide) dX7_init_102 rfl rfl rfl ?_
  refine v_dup hz.1 dX7_init_105 rfl ?_
  refine c_initNE (cs' := 13) (ss' := 83) (Y' := (hYx.1, (up2 (up2 (up2 (up2 (up2 (up2 (up2 (up2 (up2 (up2 (up2 (up2 (rfT 1 0 0 0) 1 0 2) 1 1 3) 1 2 4) 1 3 5) 1 4 6) 5 0 7) 5 1 8) 5 2 9) 5 3 10) 6 0 11) 6 1 12) 6 2 13), 15)) (M' := (MAi M 3 W24 24)) hz mi_X7_34 (c_Cat (n := n)) rfl rfl (by decide) (by decide) (by decide) (Nat.le_of_ble_eq_true rfl) dX7_init_106 rfl rfl ?_
  refine c_aast (j := 3) hz 2 (fun _ => rfl) ⟨Nat.le_of_ble_eq_true rfl, rfl⟩ (by decide) ⟨Nat.le_of_ble_eq_true rfl, rfl⟩ (by decide) rfl (by decide) rfl (by decide) dX7_init_109 ?_
  refine v_iinc hz.1 4 [(1, .int 4), (0, .ref (h_b Z + 1))] dX7_init_110 0 rfl rfl rfl rfl ?_
  refine v_goto hz.1 dX7_init_113 ?_
  refine v_iload_n hz.1 dX7_init_92 rfl 0 rfl ?_
  refine v_iconst hz.1 4 dX7_init_93 rfl ?_
  refine v_icmp_ge hz.1 dX7_init_94 (fun _ => ?_) (fun h => absurd (by decide) h)
  refine c_rf (rf' := (rfT 15 0 0 0)) (by decide +kernel) ?_
  exact c_vret hz (by decide) (by decide) dX7_init_116
set_option maxRecDepth 20000 in
set_option maxHeartbeats 4000000 in
theorem c_Str15 {l : Launch} {dd : hDD} {b n : Nat} {M : hMem} (hM : MZ 15 M) : cC l dd b yX7_init cX7_init 2 (n + 2) 15 (hYx.1, rfT 15 1 0 0, 16) M (hYx.1, rfT 29 1 0 0, 29) (MAi M 17 W24 24) 13 83 := by
  refine c_met (by decide) (by decide) rfl (fun Z hz hi => ?_)
  refine v_aload_n hz.1 dX7_init_0 rfl 0 rfl ?_
  refine c_obj hz ob_X7_3 ob_in ob_co (by omega) (by decide) dX7_init_1 ?_
  refine v_aload_n hz.1 dX7_init_4 rfl 0 rfl ?_
  refine v_iconst hz.1 3 dX7_init_5 rfl ?_
  refine c_newiN (N' := 17) (cs' := 1) (ss' := 3) hz 3 ac_int rfl (by decide) rfl (by decide) ((hM).mono (m := 16) rfl) rfl (by decide) (by decide) (by decide) dX7_init_6 rfl rfl rfl ?_
  refine c_putr hz hi ⟨Nat.le_of_ble_eq_true rfl, rfl⟩ ff_X7_9 rfl (by decide) rfl rfl dX7_init_8 ?_
  refine v_aload_n hz.1 dX7_init_11 rfl 0 rfl ?_
  refine v_bipush hz.1 24 dX7_init_12 rfl ?_
  refine c_newiN (N' := 18) (cs' := 2) (ss' := 27) hz 24 ac_int rfl (by decide) rfl (by decide) ((hM).mono (m := 17) rfl) rfl (by decide) (by decide) (by decide) dX7_init_14 rfl rfl rfl ?_
  refine c_putr hz hi ⟨Nat.le_of_ble_eq_true rfl, rfl⟩ ff_X7_15 rfl (by decide) rfl rfl dX7_init_16 ?_
  refine v_aload_n hz.1 dX7_init_19 rfl 0 rfl ?_
  refine v_bipush hz.1 24 dX7_init_20 rfl ?_
  refine c_newiN (N' := 19) (cs' := 3) (ss' := 51) hz 24 ac_int rfl (by decide) rfl (by decide) ((hM).mono (m := 18) rfl) rfl (by decide) (by decide) (by decide) dX7_init_22 rfl rfl rfl ?_
  refine c_putr hz hi ⟨Nat.le_of_ble_eq_true rfl, rfl⟩ ff_X7_18 rfl (by decide) rfl rfl dX7_init_24 ?_
  refine v_aload_n hz.1 dX7_init_27 rfl 0 rfl ?_
  refine v_iconst hz.1 4 dX7_init_28 rfl ?_
  refine c_newqN (N' := 20) (cs' := 4) (ss' := 55) hz 4 11 1 cl_X7_21 (fun h => h.1) (fun _ => rfl) (by decide) rfl (by decide) rfl (by decide) (fun _ => rfl) rfl (by decide) (by decide) (by decide) dX7_init_29 rfl rfl rfl ?_
  refine c_putr hz hi ⟨Nat.le_of_ble_eq_true rfl, rfl⟩ ff_X7_23 rfl (by decide) rfl rfl dX7_init_32 ?_
  refine v_aload_n hz.1 dX7_init_35 rfl 0 rfl ?_
  refine v_iconst hz.1 4 dX7_init_36 rfl ?_
  refine c_newqN (N' := 21) (cs' := 5) (ss' := 59) hz 4 12 2 cl_X7_27 (fun h => h.2.1) (fun _ => rfl) (by decide) rfl (by decide) rfl (by decide) (fun _ => rfl) rfl (by decide) (by decide) (by decide) dX7_init_37 rfl rfl rfl ?_
  refine c_putr hz hi ⟨Nat.le_of_ble_eq_true rfl, rfl⟩ ff_X7_29 rfl (by decide) rfl rfl dX7_init_40 ?_
  refine v_iconst hz.1 0 dX7_init_43 rfl ?_
  refine v_istore_n hz.1 [(1, .int 0), (0, .ref (h_b Z + 15))] dX7_init_44 rfl rfl rfl ?_
  refine v_iload_n hz.1 dX7_init_45 rfl 0 rfl ?_
  refine v_bipush hz.1 24 dX7_init_46 rfl ?_
  refine v_icmp_ge hz.1 dX7_init_48 (fun h => absurd h (by decide)) (fun _ => ?_)
  refine v_aload_n hz.1 dX7_init_51 rfl 1 rfl ?_
  refine c_getr (q := 17) hz ⟨Nat.le_of_ble_eq_true rfl, rfl⟩ fl_X7_15 rfl rfl (by decide) dX7_init_52 ?_
  refine v_iload_n hz.1 dX7_init_55 rfl 0 rfl ?_
  refine v_iconst hz.1 4 dX7_init_56 rfl ?_
  refine c_m0 (MAi_0 M 17 W24) ?_
  refine c_iastA hz W24 0 ⟨Nat.le_of_ble_eq_true rfl, rfl⟩ (by decide) rfl rfl (a' := 1) rfl dX7_init_57 ?_
  refine v_iinc hz.1 1 [(1, .int 1), (0, .ref (h_b Z + 15))] dX7_init_58 0 rfl rfl rfl rfl ?_
  refine v_goto hz.1 dX7_init_61 ?_
  refine v_iload_n hz.1 dX7_init_45 rfl 0 rfl ?_
  refine v_bipush hz.1 24 dX7_init_46 rfl ?_
  refine v_icmp_ge hz.1 dX7_init_48 (fun h => absurd h (by decide)) (fun _ => ?_)
  refine v_aload_n hz.1 dX7_init_51 rfl 1 rfl ?_
  refine c_getr (q := 17) hz ⟨Nat.le_of_ble_eq_true rfl, rfl⟩ fl_X7_15 rfl rfl (by decide) dX7_init_52 ?_
  refine v_iload_n hz.1 dX7_init_55 rfl 0 rfl ?_
  refine v_iconst hz.1 4 dX7_init_56 rfl ?_
  refine c_iastA hz W24 1 ⟨Nat.le_of_ble_eq_true rfl, rfl⟩ (by decide) rfl rfl (a' := 2) rfl dX7_init_57 ?_
  refine v_iinc hz.1 2 [(1, .int 2), (0, .ref (h_b Z + 15))] dX7_init_58 0 rfl rfl rfl rfl ?_
  refine v_goto hz.1 dX7_init_61 ?_
  refine v_iload_n hz.1 dX7_init_45 rfl 0 rfl ?_
  refine v_bipush hz.1 24 dX7_init_46 rfl ?_
  refine v_icmp_ge hz.1 dX7_init_48 (fun h => absurd h (by decide)) (fun _ => ?_)
  refine v_aload_n hz.1 dX7_init_51 rfl 1 rfl ?_
  refine c_getr (q := 17) hz ⟨Nat.le_of_ble_eq_true rfl, rfl⟩ fl_X7_15 rfl rfl (by decide) dX7_init_52 ?_
  refine v_iload_n hz.1 dX7_init_55 rfl 0 rfl ?_
  refine v_iconst hz.1 4 dX7_init_56 rfl ?_
  refine c_iastA hz W24 2 ⟨Nat.le_of_ble_eq_true rfl, rfl⟩ (by decide) rfl rfl (a' := 3) rfl dX7_init_57 ?_
  refine v_iinc hz.1 3 [(1, .int 3), (0, .ref (h_b Z + 15))] dX7_init_58 0 rfl rfl rfl rfl ?_
  refine v_goto hz.1 dX7_init_61 ?_
  refine v_iload_n hz.1 dX7_init_45 rfl 0 rfl ?_
  refine v_bipush hz.1 24 dX7_init_46 rfl ?_
  refine v_icmp_ge hz.1 dX7_init_48 (fun h => absurd h (by decide)) (fun _ => ?_)
  refine v_aload_n hz.1 dX7_init_51 rfl 1 rfl ?_
  refine c_getr (q := 17) hz ⟨Nat.le_of_ble_eq_true rfl, rfl⟩ fl_X7_15 rfl rfl (by decide) dX7_init_52 ?_
  refine v_iload_n hz.1 dX7_init_55 rfl 0 rfl ?_
  refine v_iconst hz.1 4 dX7_init_56 rfl ?_
  refine c_iastA hz W24 3 ⟨Nat.le_of_ble_eq_true rfl, rfl⟩ (by decide) rfl rfl (a' := 4) rfl dX7_init_57 ?_
  refine v_iinc hz.1 4 [(1, .int 4), (0, .ref (h_b Z + 15))] dX7_init_58 0 rfl rfl rfl rfl ?_
  refine v_goto hz.1 dX7_init_61 ?_
  refine v_iload_n hz.1 dX7_init_45 rfl 0 rfl ?_
  refine v_bipush hz.1 24 dX7_init_46 rfl ?_
  refine v_icmp_ge hz.1 dX7_init_48 (fun h => absurd h (by decide)) (fun _ => ?_)
  refine v_aload_n hz.1 dX7_init_51 rfl 1 rfl ?_
  refine c_getr (q := 17) hz ⟨Nat.le_of_ble_eq_true rfl, rfl⟩ fl_X7_15 rfl rfl (by decide) dX7_init_52 ?_
  refine v_iload_n hz.1 dX7_init_55 rfl 0 rfl ?_
  refine v_iconst hz.1 4 dX7_init_56 rfl ?_
  refine c_iastA hz W24 4 ⟨Nat.le_of_ble_eq_true rfl, rfl⟩ (by decide) rfl rfl (a' := 5) rfl dX7_init_57 ?_
  refine v_iinc hz.1 5 [(1, .int 5), (0, .ref (h_b Z + 15))] dX7_init_58 0 rfl rfl rfl rfl ?_
  refine v_goto hz.1 dX7_init_61 ?_
  refine v_iload_n hz.1 dX7_init_45 rfl 0 rfl ?_
  refine v_bipush hz.1 24 dX7_init_46 rfl ?_
  refine v_icmp_ge hz.1 dX7_init_48 (fun h => absurd h (by decide)) (fun _ => ?_)
  refine v_aload_n hz.1 dX7_init_51 rfl 1 rfl ?_
  refine c_getr (q := 17) hz ⟨Nat.le_of_ble_eq_true rfl, rfl⟩ fl_X7_15 rfl rfl (by decide) dX7_init_52 ?_
  refine v_iload_n hz.1 dX7_init_55 rfl 0 rfl ?_
  refine v_iconst hz.1 4 dX7_init_56 rfl ?_
  refine c_iastA hz W24 5 ⟨Nat.le_of_ble_eq_true rfl, rfl⟩ (by decide) rfl rfl (a' := 6) rfl dX7_init_57 ?_
  refine v_iinc hz.1 6 [(1, .int 6), (0, .ref (h_b Z + 15))] dX7_init_58 0 rfl rfl rfl rfl ?_
  refine v_goto hz.1 dX7_init_61 ?_
  refine v_iload_n hz.1 dX7_init_45 rfl 0 rfl ?_
  refine v_bipush hz.1 24 dX7_init_46 rfl ?_
  refine v_icmp_ge hz.1 dX7_init_48 (fun h => absurd h (by decide)) (fun _ => ?_)
  refine v_aload_n hz.1 dX7_init_51 rfl 1 rfl ?_
  refine c_getr (q := 17) hz ⟨Nat.le_of_ble_eq_true rfl, rfl⟩ fl_X7_15 rfl rfl (by decide) dX7_init_52 ?_
  refine v_iload_n hz.1 dX7_init_55 rfl 0 rfl ?_
  refine v_iconst hz.1 4 dX7_init_56 rfl ?_
  refine c_iastA hz W24 6 ⟨Nat.le_of_ble_eq_true rfl, rfl⟩ (by decide) rfl rfl (a' := 7) rfl dX7_init_57 ?_
  refine v_iinc hz.1 7 [(1, .int 7), (0, .ref (h_b Z + 15))] dX7_init_58 0 rfl rfl rfl rfl ?_
  refine v_goto hz.1 dX7_init_61 ?_
  refine v_iload_n hz.1 dX7_init_45 rfl 0 rfl ?_
  refine v_bipush hz.1 24 dX7_init_46 rfl ?_
  refine v_icmp_ge hz.1 dX7_init_48 (fun h => absurd h (by decide)) (fun _ => ?_)
  refine v_aload_n hz.1 dX7_init_51 rfl 1 rfl ?_
  refine c_getr (q := 17) hz ⟨Nat.le_of_ble_eq_true rfl, rfl⟩ fl_X7_15 rfl rfl (by decide) dX7_init_52 ?_
  refine v_iload_n hz.1 dX7_init_55 rfl 0 rfl ?_
  refine v_iconst hz.1 4 dX7_init_56 rfl ?_
  refine c_iastA hz W24 7 ⟨Nat.le_of_ble_eq_true rfl, rfl⟩ (by decide) rfl rfl (a' := 8) rfl dX7_init_57 ?_
  refine v_iinc hz.1 8 [(1, .int 8), (0, .ref (h_b Z + 15))] dX7_init_58 0 rfl rfl rfl rfl ?_
  refine v_goto hz.1 dX7_init_61 ?_
  refine v_iload_n hz.1 dX7_init_45 rfl 0 rfl ?_
  refine v_bipush hz.1 24 dX7_init_46 rfl ?_
  refine v_icmp_ge hz.1 dX7_init_48 (fun h => absurd h (by decide)) (fun _ => ?_)
  refine v_aload_n hz.1 dX7_init_51 rfl 1 rfl ?_
  refine c_getr (q := 17) hz ⟨Nat.le_of_ble_eq_true rfl, rfl⟩ fl_X7_15 rfl rfl (by decide) dX7_init_52 ?_
  refine v_iload_n hz.1 dX7_init_55 rfl 0 rfl ?_
  refine v_iconst hz.1 4 dX7_init_56 rfl ?_
  refine c_iastA hz W24 8 ⟨Nat.le_of_ble_eq_true rfl, rfl⟩ (by decide) rfl rfl (a' := 9) rfl dX7_init_57 ?_
  refine v_iinc hz.1 9 [(1, .int 9), (0, .ref (h_b Z + 15))] dX7_init_58 0 rfl rfl rfl rfl ?_
  refine v_goto hz.1 dX7_init_61 ?_
  refine v_iload_n hz.1 dX7_init_45 rfl 0 rfl ?_
  refine v_bipush hz.1 24 dX7_init_46 rfl ?_
  refine v_icmp_ge hz.1 dX7_init_48 (fun h => absurd h (by decide)) (fun _ => ?_)
  refine v_aload_n hz.1 dX7_init_51 rfl 1 rfl ?_
  refine c_getr (q := 17) hz ⟨Nat.le_of_ble_eq_true rfl, rfl⟩ fl_X7_15 rfl rfl (by decide) dX7_init_52 ?_
  refine v_iload_n hz.1 dX7_init_55 rfl 0 rfl ?_
  refine v_iconst hz.1 4 dX7_init_56 rfl ?_
  refine c_iastA hz W24 9 ⟨Nat.le_of_ble_eq_true rfl, rfl⟩ (by decide) rfl rfl (a' := 10) rfl dX7_init_57 ?_
  refine v_iinc hz.1 10 [(1, .int 10), (0, .ref (h_b Z + 15))] dX7_init_58 0 rfl rfl rfl rfl ?_
  refine v_goto hz.1 dX7_init_61 ?_
  refine v_iload_n hz.1 dX7_init_45 rfl 0 rfl ?_
  refine v_bipush hz.1 24 dX7_init_46 rfl ?_
  refine v_icmp_ge hz.1 dX7_init_48 (fun h => absurd h (by decide)) (fun _ => ?_)
  refine v_aload_n hz.1 dX7_init_51 rfl 1 rfl ?_
  refine c_getr (q := 17) hz ⟨Nat.le_of_ble_eq_true rfl, rfl⟩ fl_X7_15 rfl rfl (by decide) dX7_init_52 ?_
  refine v_iload_n hz.1 dX7_init_55 rfl 0 rfl ?_
  refine v_iconst hz.1 4 dX7_init_56 rfl ?_
  refine c_iastA hz W24 10 ⟨Nat.le_of_ble_eq_true rfl, rfl⟩ (by decide) rfl rfl (a' := 11) rfl dX7_init_57 ?_
  refine v_iinc hz.1 11 [(1, .int 11), (0, .ref (h_b Z + 15))] dX7_init_58 0 rfl rfl rfl rfl ?_
  refine v_goto hz.1 dX7_init_61 ?_
  refine v_iload_n hz.1 dX7_init_45 rfl 0 rfl ?_
  refine v_bipush hz.1 24 dX7_init_46 rfl ?_
  refine v_icmp_ge hz.1 dX7_init_48 (fun h => absurd h (by decide)) (fun _ => ?_)
  refine v_aload_n hz.1 dX7_init_51 rfl 1 rfl ?_
  refine c_getr (q := 17) hz ⟨Nat.le_of_ble_eq_true rfl, rfl⟩ fl_X7_15 rfl rfl (by decide) dX7_init_52 ?_
  refine v_iload_n hz.1 dX7_init_55 rfl 0 rfl ?_
  refine v_iconst hz.1 4 dX7_init_56 rfl ?_
  refine c_iastA hz W24 11 ⟨Nat.le_of_ble_eq_true rfl, rfl⟩ (by decide) rfl rfl (a' := 12) rfl dX7_init_57 ?_
  refine v_iinc hz.1 12 [(1, .int 12), (0, .ref (h_b Z + 15))] dX7_init_58 0 rfl rfl rfl rfl ?_
  refine v_goto hz.1 dX7_init_61 ?_
  refine v_iload_n hz.1 dX7_init_45 rfl 0 rfl ?_
  refine v_bipush hz.1 24 dX7_init_46 rfl ?_
  refine v_icmp_ge hz.1 dX7_init_48 (fun h => absurd h (by decide)) (fun _ => ?_)
  refine v_aload_n hz.1 dX7_init_51 rfl 1 rfl ?_
  refine c_getr (q := 17) hz ⟨Nat.le_of_ble_eq_true rfl, rfl⟩ fl_X7_15 rfl rfl (by decide) dX7_init_52 ?_
  refine v_iload_n hz.1 dX7_init_55 rfl 0 rfl ?_
  refine v_iconst hz.1 4 dX7_init_56 rfl ?_
  refine c_iastA hz W24 12 ⟨Nat.le_of_ble_eq_true rfl, rfl⟩ (by decide) rfl rfl (a' := 13) rfl dX7_init_57 ?_
  refine v_iinc hz.1 13 [(1, .int 13), (0, .ref (h_b Z + 15))] dX7_init_58 0 rfl rfl rfl rfl ?_
  refine v_goto hz.1 dX7_init_61 ?_
  refine v_iload_n hz.1 dX7_init_45 rfl 0 rfl ?_
  refine v_bipush hz.1 24 dX7_init_46 rfl ?_
  refine v_icmp_ge hz.1 dX7_init_48 (fun h => absurd h (by decide)) (fun _ => ?_)
  refine v_aload_n hz.1 dX7_init_51 rfl 1 rfl ?_
  refine c_getr (q := 17) hz ⟨Nat.le_of_ble_eq_true rfl, rfl⟩ fl_X7_15 rfl rfl (by decide) dX7_init_52 ?_
  refine v_iload_n hz.1 dX7_init_55 rfl 0 rfl ?_
  refine v_iconst hz.1 4 dX7_init_56 rfl ?_
  refine c_iastA hz W24 13 ⟨Nat.le_of_ble_eq_true rfl, rfl⟩ (by decide) rfl rfl (a' := 14) rfl dX7_init_57 ?_
  refine v_iinc hz.1 14 [(1, .int 14), (0, .ref (h_b Z + 15))] dX7_init_58 0 rfl rfl rfl rfl ?_
  refine v_goto hz.1 dX7_init_61 ?_
  refine v_iload_n hz.1 dX7_init_45 rfl 0 rfl ?_
  refine v_bipush hz.1 24 dX7_init_46 rfl ?_
  refine v_icmp_ge hz.1 dX7_init_48 (fun h => absurd h (by decide)) (fun _ => ?_)
  refine v_aload_n hz.1 dX7_init_51 rfl 1 rfl ?_
  refine c_getr (q := 17) hz ⟨Nat.le_of_ble_eq_true rfl, rfl⟩ fl_X7_15 rfl rfl (by decide) dX7_init_52 ?_
  refine v_iload_n hz.1 dX7_init_55 rfl 0 rfl ?_
  refine v_iconst hz.1 4 dX7_init_56 rfl ?_
  refine c_iastA hz W24 14 ⟨Nat.le_of_ble_eq_true rfl, rfl⟩ (by decide) rfl rfl (a' := 15) rfl dX7_init_57 ?_
  refine v_iinc hz.1 15 [(1, .int 15), (0, .ref (h_b Z + 15))] dX7_init_58 0 rfl rfl rfl rfl ?_
  refine v_goto hz.1 dX7_init_61 ?_
  refine v_iload_n hz.1 dX7_init_45 rfl 0 rfl ?_
  refine v_bipush hz.1 24 dX7_init_46 rfl ?_
  refine v_icmp_ge hz.1 dX7_init_48 (fun h => absurd h (by decide)) (fun _ => ?_)
  refine v_aload_n hz.1 dX7_init_51 rfl 1 rfl ?_
  refine c_getr (q := 17) hz ⟨Nat.le_of_ble_eq_true rfl, rfl⟩ fl_X7_15 rfl rfl (by decide) dX7_init_52 ?_
  refine v_iload_n hz.1 dX7_init_55 rfl 0 rfl ?_
  refine v_iconst hz.1 4 dX7_init_56 rfl ?_
  refine c_iastA hz W24 15 ⟨Nat.le_of_ble_eq_true rfl, rfl⟩ (by decide) rfl rfl (a' := 16) rfl dX7_init_57 ?_
  refine v_iinc hz.1 16 [(1, .int 16), (0, .ref (h_b Z + 15))] dX7_init_58 0 rfl rfl rfl rfl ?_
  refine v_goto hz.1 dX7_init_61 ?_
  refine v_iload_n hz.1 dX7_init_45 rfl 0 rfl ?_
  refine v_bipush hz.1 24 dX7_init_46 rfl ?_
  refine v_icmp_ge hz.1 dX7_init_48 (fun h => absurd h (by decide)) (fun _ => ?_)
  refine v_aload_n hz.1 dX7_init_51 rfl 1 rfl ?_
  refine c_getr (q := 17) hz ⟨Nat.le_of_ble_eq_true rfl, rfl⟩ fl_X7_15 rfl rfl (by decide) dX7_init_52 ?_
  refine v_iload_n hz.1 dX7_init_55 rfl 0 rfl ?_
  refine v_iconst hz.1 4 dX7_init_56 rfl ?_
  refine c_iastA hz W24 16 ⟨Nat.le_of_ble_eq_true rfl, rfl⟩ (by decide) rfl rfl (a' := 17) rfl dX7_init_57 ?_
  refine v_iinc hz.1 17 [(1, .int 17), (0, .ref (h_b Z + 15))] dX7_init_58 0 rfl rfl rfl rfl ?_
  refine v_goto hz.1 dX7_init_61 ?_
  refine v_iload_n hz.1 dX7_init_45 rfl 0 rfl ?_
  refine v_bipush hz.1 24 dX7_init_46 rfl ?_
  refine v_icmp_ge hz.1 dX7_init_48 (fun h => absurd h (by decide)) (fun _ => ?_)
  refine v_aload_n hz.1 dX7_init_51 rfl 1 rfl ?_
  refine c_getr (q := 17) hz ⟨Nat.le_of_ble_eq_true rfl, rfl⟩ fl_X7_15 rfl rfl (by decide) dX7_init_52 ?_
  refine v_iload_n hz.1 dX7_init_55 rfl 0 rfl ?_
  refine v_iconst hz.1 4 dX7_init_56 rfl ?_
  refine c_iastA hz W24 17 ⟨Nat.le_of_ble_eq_true rfl, rfl⟩ (by decide) rfl rfl (a' := 18) rfl dX7_init_57 ?_
  refine v_iinc hz.1 18 [(1, .int 18), (0, .ref (h_b Z + 15))] dX7_init_58 0 rfl rfl rfl rfl ?_
  refine v_goto hz.1 dX7_init_61 ?_
  refine v_iload_n hz.1 dX7_init_45 rfl 0 rfl ?_
  refine v_bipush hz.1 24 dX7_init_46 rfl ?_
  refine v_icmp_ge hz.1 dX7_init_48 (fun h => absurd h (by decide)) (fun _ => ?_)
  refine v_aload_n hz.1 dX7_init_51 rfl 1 rfl ?_
  refine c_getr (q := 17) hz ⟨Nat.le_of_ble_eq_true rfl, rfl⟩ fl_X7_15 rfl rfl (by decide) dX7_init_52 ?_
  refine v_iload_n hz.1 dX7_init_55 rfl 0 rfl ?_
  refine v_iconst hz.1 4 dX7_init_56 rfl ?_
  refine c_iastA hz W24 18 ⟨Nat.le_of_ble_eq_true rfl, rfl⟩ (by decide) rfl rfl (a' := 19) rfl dX7_init_57 ?_
  refine v_iinc hz.1 19 [(1, .int 19), (0, .ref (h_b Z + 15))] dX7_init_58 0 rfl rfl rfl rfl ?_
  refine v_goto hz.1 dX7_init_61 ?_
  refine v_iload_n hz.1 dX7_init_45 rfl 0 rfl ?_
  refine v_bipush hz.1 24 dX7_init_46 rfl ?_
  refine v_icmp_ge hz.1 dX7_init_48 (fun h => absurd h (by decide)) (fun _ => ?_)
  refine v_aload_n hz.1 dX7_init_51 rfl 1 rfl ?_
  refine c_getr (q := 17) hz ⟨Nat.le_of_ble_eq_true rfl, rfl⟩ fl_X7_15 rfl rfl (by decide) dX7_init_52 ?_
  refine v_iload_n hz.1 dX7_init_55 rfl 0 rfl ?_
  refine v_iconst hz.1 4 dX7_init_56 rfl ?_
  refine c_iastA hz W24 19 ⟨Nat.le_of_ble_eq_true rfl, rfl⟩ (by decide) rfl rfl (a' := 20) rfl dX7_init_57 ?_
  refine v_iinc hz.1 20 [(1, .int 20), (0, .ref (h_b Z + 15))] dX7_init_58 0 rfl rfl rfl rfl ?_
  refine v_goto hz.1 dX7_init_61 ?_
  refine v_iload_n hz.1 dX7_init_45 rfl 0 rfl ?_
  refine v_bipush hz.1 24 dX7_init_46 rfl ?_
  refine v_icmp_ge hz.1 dX7_init_48 (fun h => absurd h (by decide)) (fun _ => ?_)
  refine v_aload_n hz.1 dX7_init_51 rfl 1 rfl ?_
  refine c_getr (q := 17) hz ⟨Nat.le_of_ble_eq_true rfl, rfl⟩ fl_X7_15 rfl rfl (by decide) dX7_init_52 ?_
  refine v_iload_n hz.1 dX7_init_55 rfl 0 rfl ?_
  refine v_iconst hz.1 4 dX7_init_56 rfl ?_
  refine c_iastA hz W24 20 ⟨Nat.le_of_ble_eq_true rfl, rfl⟩ (by decide) rfl rfl (a' := 21) rfl dX7_init_57 ?_
  refine v_iinc hz.1 21 [(1, .int 21), (0, .ref (h_b Z + 15))] dX7_init_58 0 rfl rfl rfl rfl ?_
  refine v_goto hz.1 dX7_init_61 ?_
  refine v_iload_n hz.1 dX7_init_45 rfl 0 rfl ?_
  refine v_bipush hz.1 24 dX7_init_46 rfl ?_
  refine v_icmp_ge hz.1 dX7_init_48 (fun h => absurd h (by decide)) (fun _ => ?_)
  refine v_aload_n hz.1 dX7_init_51 rfl 1 rfl ?_
  refine c_getr (q := 17) hz ⟨Nat.le_of_ble_eq_true rfl, rfl⟩ fl_X7_15 rfl rfl (by decide) dX7_init_52 ?_
  refine v_iload_n hz.1 dX7_init_55 rfl 0 rfl ?_
  refine v_iconst hz.1 4 dX7_init_56 rfl ?_
  refine c_iastA hz W24 21 ⟨Nat.le_of_ble_eq_true rfl, rfl⟩ (by decide) rfl rfl (a' := 22) rfl dX7_init_57 ?_
  refine v_iinc hz.1 22 [(1, .int 22), (0, .ref (h_b Z + 15))] dX7_init_58 0 rfl rfl rfl rfl ?_
  refine v_goto hz.1 dX7_init_61 ?_
  refine v_iload_n hz.1 dX7_init_45 rfl 0 rfl ?_
  refine v_bipush hz.1 24 dX7_init_46 rfl ?_
  refine v_icmp_ge hz.1 dX7_init_48 (fun h => absurd h (by decide)) (fun _ => ?_)
  refine v_aload_n hz.1 dX7_init_51 rfl 1 rfl ?_
  refine c_getr (q := 17) hz ⟨Nat.le_of_ble_eq_true rfl, rfl⟩ fl_X7_15 rfl rfl (by decide) dX7_init_52 ?_
  refine v_iload_n hz.1 dX7_init_55 rfl 0 rfl ?_
  refine v_iconst hz.1 4 dX7_init_56 rfl ?_
  refine c_iastA hz W24 22 ⟨Nat.le_of_ble_eq_true rfl, rfl⟩ (by decide) rfl rfl (a' := 23) rfl dX7_init_57 ?_
  refine v_iinc hz.1 23 [(1, .int 23), (0, .ref (h_b Z + 15))] dX7_init_58 0 rfl rfl rfl rfl ?_
  refine v_goto hz.1 dX7_init_61 ?_
  refine v_iload_n hz.1 dX7_init_45 rfl 0 rfl ?_
  refine v_bipush hz.1 24 dX7_init_46 rfl ?_
  refine v_icmp_ge hz.1 dX7_init_48 (fun h => absurd h (by decide)) (fun _ => ?_)
  refine v_aload_n hz.1 dX7_init_51 rfl 1 rfl ?_
  refine c_getr (q := 17) hz ⟨Nat.le_of_ble_eq_true rfl, rfl⟩ fl_X7_15 rfl rfl (by decide) dX7_init_52 ?_
  refine v_iload_n hz.1 dX7_init_55 rfl 0 rfl ?_
  refine v_iconst hz.1 4 dX7_init_56 rfl ?_
  refine c_iastA hz W24 23 ⟨Nat.le_of_ble_eq_true rfl, rfl⟩ (by decide) rfl rfl (a' := 24) rfl dX7_init_57 ?_
  refine v_iinc hz.1 24 [(1, .int 24), (0, .ref (h_b Z + 15))] dX7_init_58 0 rfl rfl rfl rfl ?_
  refine v_goto hz.1 dX7_init_61 ?_
  refine v_iload_n hz.1 dX7_init_45 rfl 0 rfl ?_
  refine v_bipush hz.1 24 dX7_init_46 rfl ?_
  refine v_icmp_ge hz.1 dX7_init_48 (fun _ => ?_) (fun h => absurd (by decide) h)
  refine v_iconst hz.1 0 dX7_init_64 rfl ?_
  refine v_istore_n hz.1 [(1, .int 0), (0, .ref (h_b Z + 15))] dX7_init_65 rfl rfl rfl ?_
  refine v_iload_n hz.1 dX7_init_66 rfl 0 rfl ?_
  refine v_iconst hz.1 4 dX7_init_67 rfl ?_
  refine v_icmp_ge hz.1 dX7_init_68 (fun h => absurd h (by decide)) (fun _ => ?_)
  refine v_aload_n hz.1 dX7_init_71 rfl 1 rfl ?_
  refine c_getr (q := 19) hz ⟨Nat.le_of_ble_eq_true rfl, rfl⟩ fl_X7_23 rfl rfl (by decide) dX7_init_72 ?_
  refine v_iload_n hz.1 dX7_init_75 rfl 0 rfl ?_
  refine c_newN (N' := 22) (cs' := 6) (ss' := 62) hz 2 (by decide) rfl uw_X2 tyX2 tyX2_ok df_X2 cl_X7_21 it_X2 ii_X2 rfl (((hM).mono (m := 21) rfl).ma rfl) (fun _ => rfl) rfl (Or.inl (by decide)) (by decide) (by decide) dX7_init_76 rfl rfl rfl ?_
  refine v_dup hz.1 dX7_init_79 rfl ?_
  refine c_initNE (cs' := 6) (ss' := 62) (Y' := (hYx.1, (up2 (up2 (up2 (up2 (up2 (rfT 15 1 0 0) 15 0 16) 15 1 17) 15 2 18) 15 3 19) 15 4 20), 22)) (M' := (MAi M 17 W24 24)) hz mi_X7_33 (c_Hat (n := n)) rfl rfl (by decide) (by decide) (by decide) (Nat.le_of_ble_eq_true rfl) dX7_init_80 rfl rfl ?_
  refine c_aast (j := 0) hz 1 (fun _ => rfl) ⟨Nat.le_of_ble_eq_true rfl, rfl⟩ (by decide) ⟨Nat.le_of_ble_eq_true rfl, rfl⟩ (by decide) rfl (by decide) rfl (by decide) dX7_init_83 ?_
  refine v_iinc hz.1 1 [(1, .int 1), (0, .ref (h_b Z + 15))] dX7_init_84 0 rfl rfl rfl rfl ?_
  refine v_goto hz.1 dX7_init_87 ?_
  refine v_iload_n hz.1 dX7_init_66 rfl 0 rfl ?_
  refine v_iconst hz.1 4 dX7_init_67 rfl ?_
  refine v_icmp_ge hz.1 dX7_init_68 (fun h => absurd h (by decide)) (fun _ => ?_)
  refine v_aload_n hz.1 dX7_init_71 rfl 1 rfl ?_
  refine c_getr (q := 19) hz ⟨Nat.le_of_ble_eq_true rfl, rfl⟩ fl_X7_23 rfl rfl (by decide) dX7_init_72 ?_
  refine v_iload_n hz.1 dX7_init_75 rfl 0 rfl ?_
  refine c_newN (N' := 23) (cs' := 7) (ss' := 65) hz 2 (by decide) rfl uw_X2 tyX2 tyX2_ok df_X2 cl_X7_21 it_X2 ii_X2 rfl (((hM).mono (m := 22) rfl).ma rfl) (fun _ => rfl) rfl (Or.inl (by decide)) (by decide) (by decide) dX7_init_76 rfl rfl rfl ?_
  refine v_dup hz.1 dX7_init_79 rfl ?_
  refine c_initNE (cs' := 7) (ss' := 65) (Y' := (hYx.1, (up2 (up2 (up2 (up2 (up2 (up2 (rfT 15 1 0 0) 15 0 16) 15 1 17) 15 2 18) 15 3 19) 15 4 20) 19 0 21), 23)) (M' := (MAi M 17 W24 24)) hz mi_X7_33 (c_Hat (n := n)) rfl rfl (by decide) (by decide) (by decide) (Nat.le_of_ble_eq_true rfl) dX7_init_80 rfl rfl ?_
  refine c_aast (j := 1) hz 1 (fun _ => rfl) ⟨Nat.le_of_ble_eq_true rfl, rfl⟩ (by decide) ⟨Nat.le_of_ble_eq_true rfl, rfl⟩ (by decide) rfl (by decide) rfl (by decide) dX7_init_83 ?_
  refine v_iinc hz.1 2 [(1, .int 2), (0, .ref (h_b Z + 15))] dX7_init_84 0 rfl rfl rfl rfl ?_
  refine v_goto hz.1 dX7_init_87 ?_
  refine v_iload_n hz.1 dX7_init_66 rfl 0 rfl ?_
  refine v_iconst hz.1 4 dX7_init_67 rfl ?_
  refine v_icmp_ge hz.1 dX7_init_68 (fun h => absurd h (by decide)) (fun _ => ?_)
  refine v_aload_n hz.1 dX7_init_71 rfl 1 rfl ?_
  refine c_getr (q := 19) hz ⟨Nat.le_of_ble_eq_true rfl, rfl⟩ fl_X7_23 rfl rfl (by decide) dX7_init_72 ?_
  refine v_iload_n hz.1 dX7_init_75 rfl 0 rfl ?_
  refine c_newN (N' := 24) (cs' := 8) (ss' := 68) hz 2 (by decide) rfl uw_X2 tyX2 tyX2_ok df_X2 cl_X7_21 it_X2 ii_X2 rfl (((hM).mono (m := 23) rfl).ma rfl) (fun _ => rfl) rfl (Or.inl (by decide)) (by decide) (by decide) dX7_init_76 rfl rfl rfl ?_
  refine v_dup hz.1 dX7_init_79 rfl ?_
  refine c_initNE (cs' := 8) (ss' := 68) (Y' := (hYx.1, (up2 (up2 (up2 (up2 (up2 (up2 (up2 (rfT 15 1 0 0) 15 0 16) 15 1 17) 15 2 18) 15 3 19) 15 4 20) 19 0 21) 19 1 22), 24)) (M' := (MAi M 17 W24 24)) hz mi_X7_33 (c_Hat (n := n)) rfl rfl (by decide) (by decide) (by decide) (Nat.le_of_ble_eq_true rfl) dX7_init_80 rfl rfl ?_
  refine c_aast (j := 2) hz 1 (fun _ => rfl) ⟨Nat.le_of_ble_eq_true rfl, rfl⟩ (by decide) ⟨Nat.le_of_ble_eq_true rfl, rfl⟩ (by decide) rfl (by decide) rfl (by decide) dX7_init_83 ?_
  refine v_iinc hz.1 3 [(1, .int 3), (0, .ref (h_b Z + 15))] dX7_init_84 0 rfl rfl rfl rfl ?_
  refine v_goto hz.1 dX7_init_87 ?_
  refine v_iload_n hz.1 dX7_init_66 rfl 0 rfl ?_
  refine v_iconst hz.1 4 dX7_init_67 rfl ?_
  refine v_icmp_ge hz.1 dX7_init_68 (fun h => absurd h (by decide)) (fun _ => ?_)
  refine v_aload_n hz.1 dX7_init_71 rfl 1 rfl ?_
  refine c_getr (q := 19) hz ⟨Nat.le_of_ble_eq_true rfl, rfl⟩ fl_X7_23 rfl rfl (by decide) dX7_init_72 ?_
  refine v_iload_n hz.1 dX7_init_75 rfl 0 rfl ?_
  refine c_newN (N' := 25) (cs' := 9) (ss' := 71) hz 2 (by decide) rfl uw_X2 tyX2 tyX2_ok df_X2 cl_X7_21 it_X2 ii_X2 rfl (((hM).mono (m := 24) rfl).ma rfl) (fun _ => rfl) rfl (Or.inl (by decide)) (by decide) (by decide) dX7_init_76 rfl rfl rfl ?_
  refine v_dup hz.1 dX7_init_79 rfl ?_
  refine c_initNE (cs' := 9) (ss' := 71) (Y' := (hYx.1, (up2 (up2 (up2 (up2 (up2 (up2 (up2 (up2 (rfT 15 1 0 0) 15 0 16) 15 1 17) 15 2 18) 15 3 19) 15 4 20) 19 0 21) 19 1 22) 19 2 23), 25)) (M' := (MAi M 17 W24 24)) hz mi_X7_33 (c_Hat (n := n)) rfl rfl (by decide) (by decide) (by decide) (Nat.le_of_ble_eq_true rfl) dX7_init_80 rfl rfl ?_
  refine c_aast (j := 3) hz 1 (fun _ => rfl) ⟨Nat.le_of_ble_eq_true rfl, rfl⟩ (by decide) ⟨Nat.le_of_ble_eq_true rfl, rfl⟩ (by decide) rfl (by decide) rfl (by decide) dX7_init_83 ?_
  refine v_iinc hz.1 4 [(1, .int 4), (0, .ref (h_b Z + 15))] dX7_init_84 0 rfl rfl rfl rfl ?_
  refine v_goto hz.1 dX7_init_87 ?_
  refine v_iload_n hz.1 dX7_init_66 rfl 0 rfl ?_
  refine v_iconst hz.1 4 dX7_init_67 rfl ?_
  refine v_icmp_ge hz.1 dX7_init_68 (fun _ => ?_) (fun h => absurd (by decide) h)
  refine v_iconst hz.1 0 dX7_init_90 rfl ?_
  refine v_istore_n hz.1 [(1, .int 0), (0, .ref (h_b Z + 15))] dX7_init_91 rfl rfl rfl ?_
  refine v_iload_n hz.1 dX7_init_92 rfl 0 rfl ?_
  refine v_iconst hz.1 4 dX7_init_93 rfl ?_
  refine v_icmp_ge hz.1 dX7_init_94 (fun h => absurd h (by decide)) (fun _ => ?_)
  refine v_aload_n hz.1 dX7_init_97 rfl 1 rfl ?_
  refine c_getr (q := 20) hz ⟨Nat.le_of_ble_eq_true rfl, rfl⟩ fl_X7_29 rfl rfl (by decide) dX7_init_98 ?_
  refine v_iload_n hz.1 dX7_init_101 rfl 0 rfl ?_
  refine c_newN (N' := 26) (cs' := 10) (ss' := 74) hz 0 (by decide) rfl uw_X0 tyX0 tyX0_ok df_X0 cl_X7_27 it_X0 ii_X0 rfl (((hM).mono (m := 25) rfl).ma rfl) (fun _ => rfl) rfl (Or.inl (by decide)) (by decide) (by decide) dX7_init_102 rfl rfl rfl ?_
  refine v_dup hz.1 dX7_init_105 rfl ?_
  refine c_initNE (cs' := 10) (ss' := 74) (Y' := (hYx.1, (up2 (up2 (up2 (up2 (up2 (up2 (up2 (up2 (up2 (rfT 15 1 0 0) 15 0 16) 15 1 17) 15 2 18) 15 3 19) 15 4 20) 19 0 21) 19 1 22) 19 2 23) 19 3 24), 26)) (M' := (MAi M 17 W24 24)) hz mi_X7_34 (c_Cat (n := n)) rfl rfl (by decide) (by decide) (by decide) (Nat.le_of_ble_eq_true rfl) dX7_init_106 rfl rfl ?_
  refine c_aast (j := 0) hz 2 (fun _ => rfl) ⟨Nat.le_of_ble_eq_true rfl, rfl⟩ (by decide) ⟨Nat.le_of_ble_eq_true rfl, rfl⟩ (by decide) rfl (by decide) rfl (by decide) dX7_init_109 ?_
  refine v_iinc hz.1 1 [(1, .int 1), (0, .ref (h_b Z + 15))] dX7_init_110 0 rfl rfl rfl rfl ?_
  refine v_goto hz.1 dX7_init_113 ?_
  refine v_iload_n hz.1 dX7_init_92 rfl 0 rfl ?_
  refine v_iconst hz.1 4 dX7_init_93 rfl ?_
  refine v_icmp_ge hz.1 dX7_init_94 (fun h => absurd h (by decide)) (fun _ => ?_)
  refine v_aload_n hz.1 dX7_init_97 rfl 1 rfl ?_
  refine c_getr (q := 20) hz ⟨Nat.le_of_ble_eq_true rfl, rfl⟩ fl_X7_29 rfl rfl (by decide) dX7_init_98 ?_
  refine v_iload_n hz.1 dX7_init_101 rfl 0 rfl ?_
  refine c_newN (N' := 27) (cs' := 11) (ss' := 77) hz 0 (by decide) rfl uw_X0 tyX0 tyX0_ok df_X0 cl_X7_27 it_X0 ii_X0 rfl (((hM).mono (m := 26) rfl).ma rfl) (fun _ => rfl) rfl (Or.inl (by decide)) (by decide) (by decide) dX7_init_102 rfl rfl rfl ?_
  refine v_dup hz.1 dX7_init_105 rfl ?_
  refine c_initNE (cs' := 11) (ss' := 77) (Y' := (hYx.1, (up2 (up2 (up2 (up2 (up2 (up2 (up2 (up2 (up2 (up2 (rfT 15 1 0 0) 15 0 16) 15 1 17) 15 2 18) 15 3 19) 15 4 20) 19 0 21) 19 1 22) 19 2 23) 19 3 24) 20 0 25), 27)) (M' := (MAi M 17 W24 24)) hz mi_X7_34 (c_Cat (n := n)) rfl rfl (by decide) (by decide) (by decide) (Nat.le_of_ble_eq_true rfl) dX7_init_106 rfl rfl ?_
  refine c_aast (j := 1) hz 2 (fun _ => rfl) ⟨Nat.le_of_ble_eq_true rfl, rfl⟩ (by decide) ⟨Nat.le_of_ble_eq_true rfl, rfl⟩ (by decide) rfl (by decide) rfl (by decide) dX7_init_109 ?_
  refine v_iinc hz.1 2 [(1, .int 2), (0, .ref (h_b Z + 15))] dX7_init_110 0 rfl rfl rfl rfl ?_
  refine v_goto hz.1 dX7_init_113 ?_
  refine v_iload_n hz.1 dX7_init_92 rfl 0 rfl ?_
  refine v_iconst hz.1 4 dX7_init_93 rfl ?_
  refine v_icmp_ge hz.1 dX7_init_94 (fun h => absurd h (by decide)) (fun _ => ?_)
  refine v_aload_n hz.1 dX7_init_97 rfl 1 rfl ?_
  refine c_getr (q := 20) hz ⟨Nat.le_of_ble_eq_true rfl, rfl⟩ fl_X7_29 rfl rfl (by decide) dX7_init_98 ?_
  refine v_iload_n hz.1 dX7_init_101 rfl 0 rfl ?_
  refine c_newN (N' := 28) (cs' := 12) (ss' := 80) hz 0 (by decide) rfl uw_X0 tyX0 tyX0_ok df_X0 cl_X7_27 it_X0 ii_X0 rfl (((hM).mono (m := 27) rfl).ma rfl) (fun _ => rfl) rfl (Or.inl (by decide)) (by decide) (by decide) dX7_init_102 rfl rfl rfl ?_
  refine v_dup hz.1 dX7_init_105 rfl ?_
  refine c_initNE (cs' := 12) (ss' := 80) (Y' := (hYx.1, (up2 (up2 (up2 (up2 (up2 (up2 (up2 (up2 (up2 (up2 (up2 (rfT 15 1 0 0) 15 0 16) 15 1 17) 15 2 18) 15 3 19) 15 4 20) 19 0 21) 19 1 22) 19 2 23) 19 3 24) 20 0 25) 20 1 26), 28)) (M' := (MAi M 17 W24 24)) hz mi_X7_34 (c_Cat (n := n)) rfl rfl (by decide) (by decide) (by decide) (Nat.le_of_ble_eq_true rfl) dX7_init_106 rfl rfl ?_
  refine c_aast (j := 2) hz 2 (fun _ => rfl) ⟨Nat.le_of_ble_eq_true rfl, rfl⟩ (by decide) ⟨Nat.le_of_ble_eq_true rfl, rfl⟩ (by decide) rfl (by decide) rfl (by decide) dX7_init_109 ?_
  refine v_iinc hz.1 3 [(1, .int 3), (0, .ref (h_b Z + 15))] dX7_init_110 0 rfl rfl rfl rfl ?_
  refine v_goto hz.1 dX7_init_113 ?_
  refine v_iload_n hz.1 dX7_init_92 rfl 0 rfl ?_
  refine v_iconst hz.1 4 dX7_init_93 rfl ?_
  refine v_icmp_ge hz.1 dX7_init_94 (fun h => absurd h (by decide)) (fun _ => ?_)
  refine v_aload_n hz.1 dX7_init_97 rfl 1 rfl ?_
  refine c_getr (q := 20) hz ⟨Nat.le_of_ble_eq_true rfl, rfl⟩ fl_X7_29 rfl rfl (by decide) dX7_init_98 ?_
  refine v_iload_n hz.1 dX7_init_101 rfl 0 rfl ?_
  refine c_newN (N' := 29) (cs' := 13) (ss' := 83) hz 0 (by decide) rfl uw_X0 tyX0 tyX0_ok df_X0 cl_X7_27 it_X0 ii_X0 rfl (((hM).mono (m := 28) rfl).ma rfl) (fun _ => rfl) rfl (Or.inl (by decide)) (by decide) (by decide) dX7_init_102 rfl rfl rfl ?_
  refine v_dup hz.1 dX7_init_105 rfl ?_
  refine c_initNE (cs' := 13) (ss' := 83) (Y' := (hYx.1, (up2 (up2 (up2 (up2 (up2 (up2 (up2 (up2 (up2 (up2 (up2 (up2 (rfT 15 1 0 0) 15 0 16) 15 1 17) 15 2 18) 15 3 19) 15 4 20) 19 0 21) 19 1 22) 19 2 23) 19 3 24) 20 0 25) 20 1 26) 20 2 27), 29)) (M' := (MAi M 17 W24 24)) hz mi_X7_34 (c_Cat (n := n)) rfl rfl (by decide) (by decide) (by decide) (Nat.le_of_ble_eq_true rfl) dX7_init_106 rfl rfl ?_
  refine c_aast (j := 3) hz 2 (fun _ => rfl) ⟨Nat.le_of_ble_eq_true rfl, rfl⟩ (by decide) ⟨Nat.le_of_ble_eq_true rfl, rfl⟩ (by decide) rfl (by decide) rfl (by decide) dX7_init_109 ?_
  refine v_iinc hz.1 4 [(1, .int 4), (0, .ref (h_b Z + 15))] dX7_init_110 0 rfl rfl rfl rfl ?_
  refine v_goto hz.1 dX7_init_113 ?_
  refine v_iload_n hz.1 dX7_init_92 rfl 0 rfl ?_
  refine v_iconst hz.1 4 dX7_init_93 rfl ?_
  refine v_icmp_ge hz.1 dX7_init_94 (fun _ => ?_) (fun h => absurd (by decide) h)
  refine c_rf (rf' := (rfT 29 1 0 0)) (by decide +kernel) ?_
  exact c_vret hz (by decide) (by decide) dX7_init_116
set_option maxRecDepth 20000 in
set_option maxHeartbeats 4000000 in
theorem c_Rdr {l : Launch} {dd : hDD} {b n : Nat} {M : hMem} (hM : MZ 30 M) : cC l dd b yX5_init cX5_init 1 (n + 2) 30 (hYx.1, rfT 30 4 0 0, 31) M (hYx.1, rfT 39 4 0 0, 39) (h_up M 30 8 (nI 35)) 8 850 := by
  refine c_met (by decide) (by decide) rfl (fun Z hz hi => ?_)
  refine v_aload_n hz.1 dX5_init_0 rfl 0 rfl ?_
  refine c_obj hz ob_X5_3 ob_in ob_co (by omega) (by decide) dX5_init_1 ?_
  refine v_aload_n hz.1 dX5_init_4 rfl 0 rfl ?_
  refine v_iconst hz.1 0 dX5_init_5 rfl ?_
  refine c_puti hz ⟨Nat.le_of_ble_eq_true rfl, rfl⟩ fp_X5_9 rfl dX5_init_6 ?_
  rw [h_up_0 (((hM).mono (m := 30) rfl) 30 (Nat.le_refl _) 0)]
  refine v_aload_n hz.1 dX5_init_9 rfl 0 rfl ?_
  refine v_sipush hz.1 160 dX5_init_10 rfl ?_
  refine c_newiN (N' := 32) (cs' := 1) (ss' := 160) hz 160 ac_int rfl (by decide) rfl (by decide) ((hM).mono (m := 31) rfl) rfl (by decide) (by decide) (by decide) dX5_init_13 rfl rfl rfl ?_
  refine c_putr hz hi ⟨Nat.le_of_ble_eq_true rfl, rfl⟩ ff_X5_15 rfl (by decide) rfl rfl dX5_init_15 ?_
  refine v_aload_n hz.1 dX5_init_18 rfl 0 rfl ?_
  refine v_sipush hz.1 161 dX5_init_19 rfl ?_
  refine c_newiN (N' := 33) (cs' := 2) (ss' := 321) hz 161 ac_int rfl (by decide) rfl (by decide) ((hM).mono (m := 32) rfl) rfl (by decide) (by decide) (by decide) dX5_init_22 rfl rfl rfl ?_
  refine c_putr hz hi ⟨Nat.le_of_ble_eq_true rfl, rfl⟩ ff_X5_19 rfl (by decide) rfl rfl dX5_init_24 ?_
  refine v_aload_n hz.1 dX5_init_27 rfl 0 rfl ?_
  refine v_sipush hz.1 161 dX5_init_28 rfl ?_
  refine c_newiN (N' := 34) (cs' := 3) (ss' := 482) hz 161 ac_int rfl (by decide) rfl (by decide) ((hM).mono (m := 33) rfl) rfl (by decide) (by decide) (by decide) dX5_init_31 rfl rfl rfl ?_
  refine c_putr hz hi ⟨Nat.le_of_ble_eq_true rfl, rfl⟩ ff_X5_22 rfl (by decide) rfl rfl dX5_init_33 ?_
  refine v_aload_n hz.1 dX5_init_36 rfl 0 rfl ?_
  refine v_sipush hz.1 161 dX5_init_37 rfl ?_
  refine c_newiN (N' := 35) (cs' := 4) (ss' := 643) hz 161 ac_int rfl (by decide) rfl (by decide) ((hM).mono (m := 34) rfl) rfl (by decide) (by decide) (by decide) dX5_init_40 rfl rfl rfl ?_
  refine c_putr hz hi ⟨Nat.le_of_ble_eq_true rfl, rfl⟩ ff_X5_25 rfl (by decide) rfl rfl dX5_init_42 ?_
  refine v_aload_n hz.1 dX5_init_45 rfl 0 rfl ?_
  refine c_newN (N' := 36) (cs' := 5) (ss' := 647) hz 3 (by decide) rfl uw_X4 tyX4 tyX4_ok df_X4 cl_X5_28 it_X4 ii_X4 rfl ((hM).mono (m := 35) rfl) (fun _ => rfl) rfl (Or.inl (by decide)) (by decide) (by decide) dX5_init_46 rfl rfl rfl ?_
  refine v_dup hz.1 dX5_init_49 rfl ?_
  refine c_initNE (cs' := 8) (ss' := 850) (Y' := (hYx.1, (up2 (up2 (up2 (up2 (up2 (up2 (up2 (rfT 30 4 0 0) 30 1 31) 30 2 32) 30 3 33) 30 4 34) 35 0 (35 + 1)) 35 1 (35 + 2)) 35 2 (35 + 3)), 39)) (M' := M) hz mi_X5_30 (c_Law (n := n) 35 rfl rfl rfl rfl ((hM).mono (m := 35) rfl)) rfl rfl (by decide) (by decide) (by decide) (Nat.le_of_ble_eq_true rfl) dX5_init_50 rfl rfl ?_
  refine c_putd hz ⟨Nat.le_of_ble_eq_true rfl, rfl⟩ fp_X5_31 rfl (by decide) dX5_init_53 ?_
  refine c_rf (rf' := (rfT 39 4 0 0)) (by decide +kernel) ?_
  exact c_vret hz (by decide) (by decide) dX5_init_56
set_option maxRecDepth 20000 in
set_option maxHeartbeats 4000000 in
theorem c_Tho {l : Launch} {dd : hDD} {b n : Nat} {M : hMem} (hM : MZ 40 M) : cC l dd b yX8_init cX8_init 1 (n + 2) 40 (hYx.1, rfT 40 7 0 0, 41) M (hYx.1, rfT 49 7 0 0, 49) (h_up M 40 6 (nI 41)) 8 286 := by
  refine c_met (by decide) (by decide) rfl (fun Z hz hi => ?_)
  refine v_aload_n hz.1 dX8_init_0 rfl 0 rfl ?_
  refine c_obj hz ob_X8_3 ob_in ob_co (by omega) (by decide) dX8_init_1 ?_
  refine v_aload_n hz.1 dX8_init_4 rfl 0 rfl ?_
  refine c_newN (N' := 42) (cs' := 1) (ss' := 4) hz 3 (by decide) rfl uw_X4 tyX4 tyX4_ok df_X4 cl_X8_9 it_X4 ii_X4 rfl ((hM).mono (m := 41) rfl) (fun _ => rfl) rfl (Or.inl (by decide)) (by decide) (by decide) dX8_init_5 rfl rfl rfl ?_
  refine v_dup hz.1 dX8_init_8 rfl ?_
  refine c_initNE (cs' := 4) (ss' := 207) (Y' := (hYx.1, (up2 (up2 (up2 (rfT 40 7 0 0) 41 0 (41 + 1)) 41 1 (41 + 2)) 41 2 (41 + 3)), 45)) (M' := M) hz mi_X8_11 (c_Law (n := n) 41 rfl rfl rfl rfl ((hM).mono (m := 41) rfl)) rfl rfl (by decide) (by decide) (by decide) (Nat.le_of_ble_eq_true rfl) dX8_init_9 rfl rfl ?_
  refine c_putd hz ⟨Nat.le_of_ble_eq_true rfl, rfl⟩ fp_X8_12 rfl (by decide) dX8_init_12 ?_
  refine v_aload_n hz.1 dX8_init_15 rfl 0 rfl ?_
  refine v_bipush hz.1 24 dX8_init_16 rfl ?_
  refine c_newiN (N' := 46) (cs' := 5) (ss' := 231) hz 24 ac_int rfl (by decide) rfl (by decide) (((hM).mono (m := 45) rfl).up rfl) rfl (by decide) (by decide) (by decide) dX8_init_18 rfl rfl rfl ?_
  refine c_putr hz hi ⟨Nat.le_of_ble_eq_true rfl, rfl⟩ ff_X8_18 rfl (by decide) rfl rfl dX8_init_20 ?_
  refine v_aload_n hz.1 dX8_init_23 rfl 0 rfl ?_
  refine v_bipush hz.1 24 dX8_init_24 rfl ?_
  refine c_newiN (N' := 47) (cs' := 6) (ss' := 255) hz 24 ac_int rfl (by decide) rfl (by decide) (((hM).mono (m := 46) rfl).up rfl) rfl (by decide) (by decide) (by decide) dX8_init_26 rfl rfl rfl ?_
  refine c_putr hz hi ⟨Nat.le_of_ble_eq_true rfl, rfl⟩ ff_X8_22 rfl (by decide) rfl rfl dX8_init_28 ?_
  refine v_aload_n hz.1 dX8_init_31 rfl 0 rfl ?_
  refine v_bipush hz.1 25 dX8_init_32 rfl ?_
  refine c_newiN (N' := 48) (cs' := 7) (ss' := 280) hz 25 ac_int rfl (by decide) rfl (by decide) (((hM).mono (m := 47) rfl).up rfl) rfl (by decide) (by decide) (by decide) dX8_init_34 rfl rfl rfl ?_
  refine c_putr hz hi ⟨Nat.le_of_ble_eq_true rfl, rfl⟩ ff_X8_25 rfl (by decide) rfl rfl dX8_init_36 ?_
  refine v_aload_n hz.1 dX8_init_39 rfl 0 rfl ?_
  refine v_bipush hz.1 6 dX8_init_40 rfl ?_
  refine c_newiN (N' := 49) (cs' := 8) (ss' := 286) hz 6 ac_int rfl (by decide) rfl (by decide) (((hM).mono (m := 48) rfl).up rfl) rfl (by decide) (by decide) (by decide) dX8_init_42 rfl rfl rfl ?_
  refine c_putr hz hi ⟨Nat.le_of_ble_eq_true rfl, rfl⟩ ff_X8_28 rfl (by decide) rfl rfl dX8_init_44 ?_
  refine c_rf (rf' := (rfT 49 7 0 0)) (by decide +kernel) ?_
  exact c_vret hz (by decide) (by decide) dX8_init_47
set_option maxRecDepth 20000 in
set_option maxHeartbeats 4000000 in
theorem c_Err {l : Launch} {dd : hDD} {b n : Nat} {M : hMem} (hM : MZ 49 M) : cC l dd b yX1_init cX1_init 1 (n + 1) 49 (hYx.1, rfT 49 8 0 0, 50) M (hYx.1, rfT 55 8 0 0, 55) M 5 104 := by
  refine c_met (by decide) (by decide) rfl (fun Z hz hi => ?_)
  refine v_aload_n hz.1 dX1_init_0 rfl 0 rfl ?_
  refine c_obj hz ob_X1_3 ob_in ob_co (by omega) (by decide) dX1_init_1 ?_
  refine v_aload_n hz.1 dX1_init_4 rfl 0 rfl ?_
  refine v_iconst hz.1 4 dX1_init_5 rfl ?_
  refine v_bipush hz.1 25 dX1_init_6 rfl ?_
  refine c_multi (N' := 55) (cs' := 5) (ss' := 104) (rf' := (up2 (up2 (up2 (up2 (rfT 49 8 0 0) 50 0 51) 50 1 52) 50 2 53) 50 3 54)) hz cl_X1_9 rfl (by decide) ((hM).mono (m := 50) rfl) (by decide) (fun j hj => by unfold up2 rfT; rw [if_pos rfl, if_neg (by omega), if_pos rfl, if_neg (by omega), if_pos rfl, if_neg (by omega), if_pos rfl, if_neg (by omega)]; rfl) (fun a ha => by unfold up2; rw [if_neg ha, if_neg ha, if_neg ha, if_neg ha]) rfl (by decide) (by decide) (by decide) dX1_init_8 rfl rfl rfl ?_
  refine c_putr hz hi ⟨Nat.le_of_ble_eq_true rfl, rfl⟩ ff_X1_11 rfl (by decide) rfl rfl dX1_init_12 ?_
  refine c_rf (rf' := (rfT 55 8 0 0)) (by decide +kernel) ?_
  exact c_vret hz (by decide) (by decide) dX1_init_15
