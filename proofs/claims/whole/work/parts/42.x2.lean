set_option maxRecDepth 10000 in
set_option maxHeartbeats 4000000 in
theorem wX9_think {Z : hZ} {n : Nat} (hz : hOK Z hYx cX9_think RX9 2 (n + 2) none) (a1 : Int32) (M : hMem) : hW Z rtV M 0 [(0, .ref (h_b Z + 0)), (1, .int a1)] [] (fX9_think a1 M) := by
  unfold fX9_think
  refine x_aload_n hz dX9_think_0 rfl 0 rfl ?_
  refine x_getr hz sx_0 fl_X9_49 rfl rx_0_7 (by decide) dX9_think_1 ?_
  refine x_aload_n hz dX9_think_4 rfl 0 rfl ?_
  refine x_getr hz sx_0 fl_X9_12 rfl rx_0_0 (by decide) dX9_think_5 ?_
  refine x_aload_n hz dX9_think_8 rfl 0 rfl ?_
  refine x_getr hz sx_0 fl_X9_12 rfl rx_0_0 (by decide) dX9_think_9 ?_
  refine x_getr hz sx_1 fl_X9_160 rfl rx_1_3 (by decide) dX9_think_12 ?_
  refine x_iload_n hz dX9_think_15 rfl 1 rfl ?_
  refine x_guard (fun hi16 => ?_)
  refine x_aald0 hz (q := (7 + a1.toNatClampNeg)) 1 (fun _ => rfl) sx_5 (by decide) hi16 rfl (by omega) dX9_think_16 ?_
  refine x_aload_n hz dX9_think_17 rfl 0 rfl ?_
  refine x_getr hz sx_0 fl_X9_25 rfl rx_0_3 (by decide) dX9_think_18 ?_
  refine x_aload_n hz dX9_think_21 rfl 0 rfl ?_
  refine x_getr hz sx_0 fl_X9_12 rfl rx_0_0 (by decide) dX9_think_22 ?_
  refine x_geti hz sx_1 fl_X9_118 rfl dX9_think_25 ?_
  refine x_guard (fun hi28 => ?_)
  refine x_aald0 hz (q := (56 + 4 * (M 1 7).toNatClampNeg)) 3 (fun _ => rfl) sx_29 (by decide) hi28 rfl (by omega) dX9_think_28 ?_
  refine x_bind (fun q29 hq29 => ?_)
  refine x_callV hz mv_X9_344 sx_40 (by decide) rfl rfl (kX8_suppose (n := n) (7 + a1.toNatClampNeg) (56 + 4 * (M 1 7).toNatClampNeg) M q29 hq29) rfl (av := [.ref (h_b Z + 1), .ref (h_b Z + (7 + a1.toNatClampNeg)), .ref (h_b Z + (56 + 4 * (M 1 7).toNatClampNeg))]) (rest := []) rfl rfl (Nat.le_of_ble_eq_true rfl) dX9_think_29 ?_
  exact x_vret hz rfl dX9_think_32
theorem kX9_think {l : Launch} {dd : hDD} {b n : Nat} (a1 : Int32) (M : hMem) (r : hMem) (h : fX9_think a1 M = some r) : hC l hYx dd b yX9_think cX9_think 2 none (n + 2) [.ref (b + 0), .int a1] M (none, r) :=
  h_met (av := fun b => [.ref (b + 0), .int a1]) (rt := rtV) (by decide) (Nat.le_of_ble_eq_true rfl) (fun Z hz => wX9_think (n := n) hz a1 M) r h
set_option maxRecDepth 10000 in
set_option maxHeartbeats 4000000 in
theorem wX3_eddyWay {Z : hZ} {n : Nat} (hz : hOK Z hYx cX3_eddyWay RX3 3 (n + 0) (some .int)) (a0 : Int32) (a1 : Int32) (a2 : Int32) (M : hMem) : hW Z (rtP M) M 0 [(0, .int a0), (1, .int a1), (2, .int a2)] [] (some (fX3_eddyWay a0 a1 a2 M)) := by
  unfold fX3_eddyWay
  refine x_iload_n hz dX3_eddyWay_0 rfl 0 rfl ?_
  refine x_pull ?_
  refine x_case (fun hc3 => ?_) (fun hc3 => ?_)
  · refine x_look hz dX3_eddyWay_1 (by decide) (by rw [hc3] <;> rfl) rfl ?_
    refine x_iload_n hz dX3_eddyWay_28 rfl 2 rfl ?_
    refine x_iconst hz 1 dX3_eddyWay_29 rfl ?_
    refine x_iadd hz dX3_eddyWay_30 ?_
    refine x_iload_n hz dX3_eddyWay_31 rfl 1 rfl ?_
    refine x_iadd hz dX3_eddyWay_32 ?_
    refine x_iconst hz 4 dX3_eddyWay_33 rfl ?_
    refine x_irem hz dX3_eddyWay_34 (by decide) ?_
    exact x_iret hz rfl dX3_eddyWay_35
  refine x_pull ?_
  refine x_case (fun hc5 => ?_) (fun hc5 => ?_)
  · refine x_look hz dX3_eddyWay_1 (by decide) (by rw [hc5] <;> rfl) rfl ?_
    refine x_iload_n hz dX3_eddyWay_36 rfl 2 rfl ?_
    exact x_iret hz rfl dX3_eddyWay_37
  refine x_look hz dX3_eddyWay_1 (by decide) ((lv_osw (a := 3) (o := 27) (r := [(5, 35)]) (d := 37) hc3 (by decide)).trans ((lv_osw (a := 5) (o := 35) (r := []) (d := 37) hc5 (by decide)).trans rfl)) rfl ?_
  refine x_iload_n hz dX3_eddyWay_38 rfl 2 rfl ?_
  refine x_iconst hz 1 dX3_eddyWay_39 rfl ?_
  refine x_iadd hz dX3_eddyWay_40 ?_
  refine x_iconst hz 4 dX3_eddyWay_41 rfl ?_
  refine x_irem hz dX3_eddyWay_42 (by decide) ?_
  exact x_iret hz rfl dX3_eddyWay_43
theorem kX3_eddyWay {l : Launch} {dd : hDD} {b n : Nat} (a0 : Int32) (a1 : Int32) (a2 : Int32) (M : hMem) : hC l hYx dd b yX3_eddyWay cX3_eddyWay 3 (some .int) (n + 0) [.int a0, .int a1, .int a2] M (some (.int (fX3_eddyWay a0 a1 a2 M)), M) :=
  h_met (av := fun b => [.int a0, .int a1, .int a2]) (rt := (rtP M)) (by decide) (Nat.le_of_ble_eq_true rfl) (fun Z hz => wX3_eddyWay (n := n) hz a0 a1 a2 M) _ rfl
set_option maxRecDepth 10000 in
set_option maxHeartbeats 4000000 in
theorem wX3_hatFar {Z : hZ} {n : Nat} (hz : hOK Z hYx cX3_hatFar RX3 2 (n + 0) (some .int)) (a0 : Int32) (a1 : Int32) (M : hMem) : hW Z (rtP M) M 0 [(0, .int a0), (1, .int a1)] [] (some (fX3_hatFar a0 a1 M)) := by
  unfold fX3_hatFar
  refine x_iload_n hz dX3_hatFar_0 rfl 1 rfl ?_
  refine x_pull ?_
  refine x_if_ne hz dX3_hatFar_1 ?_ ?_
  · refine x_iload_n hz dX3_hatFar_10 rfl 0 rfl ?_
    exact x_iret hz rfl dX3_hatFar_11
  refine x_iload_n hz dX3_hatFar_4 rfl 0 rfl ?_
  refine x_iconst hz 3 dX3_hatFar_5 rfl ?_
  refine x_idiv hz dX3_hatFar_6 (by decide) ?_
  refine x_goto hz dX3_hatFar_7 ?_
  exact x_iret hz rfl dX3_hatFar_11
theorem kX3_hatFar {l : Launch} {dd : hDD} {b n : Nat} (a0 : Int32) (a1 : Int32) (M : hMem) : hC l hYx dd b yX3_hatFar cX3_hatFar 2 (some .int) (n + 0) [.int a0, .int a1] M (some (.int (fX3_hatFar a0 a1 M)), M) :=
  h_met (av := fun b => [.int a0, .int a1]) (rt := (rtP M)) (by decide) (Nat.le_of_ble_eq_true rfl) (fun Z hz => wX3_hatFar (n := n) hz a0 a1 M) _ rfl
set_option maxRecDepth 10000 in
set_option maxHeartbeats 4000000 in
theorem wX3_bowlerFar {Z : hZ} {n : Nat} (hz : hOK Z hYx cX3_bowlerFar RX3 3 (n + 1) (some .int)) (a0 : Int32) (a1 : Int32) (a2 : Int32) (M : hMem) : hW Z (rtP M) M 0 [(0, .int a0), (1, .int a1), (2, .int a2)] [] (some (fX3_bowlerFar a0 a1 a2 M)) := by
  unfold fX3_bowlerFar
  refine x_iload_n hz dX3_bowlerFar_0 rfl 2 rfl ?_
  refine x_iconst hz 1 dX3_bowlerFar_1 rfl ?_
  refine x_pull ?_
  refine x_icmp_ne hz dX3_bowlerFar_2 ?_ ?_
  · refine x_iload_n hz dX3_bowlerFar_19 rfl 1 rfl ?_
    refine x_iload_n hz dX3_bowlerFar_20 rfl 2 rfl ?_
    refine x_callS hz ms_X3_22 (kX3_hatFar (n := n) a1 a2 M) rfl (av := [.int a1, .int a2]) (rest := []) rfl rfl (Nat.le_of_ble_eq_true rfl) dX3_bowlerFar_21 ?_
    exact x_iret hz rfl dX3_bowlerFar_24
  refine x_iload_n hz dX3_bowlerFar_5 rfl 1 rfl ?_
  refine x_iload_n hz dX3_bowlerFar_6 rfl 2 rfl ?_
  refine x_callS hz ms_X3_22 (kX3_hatFar (n := n) a1 a2 M) rfl (av := [.int a1, .int a2]) (rest := []) rfl rfl (Nat.le_of_ble_eq_true rfl) dX3_bowlerFar_7 ?_
  refine x_iconst hz 1 dX3_bowlerFar_10 rfl ?_
  refine x_iadd hz dX3_bowlerFar_11 ?_
  refine x_iload_n hz dX3_bowlerFar_12 rfl 0 rfl ?_
  refine x_iconst hz 4 dX3_bowlerFar_13 rfl ?_
  refine x_idiv hz dX3_bowlerFar_14 (by decide) ?_
  refine x_iadd hz dX3_bowlerFar_15 ?_
  refine x_goto hz dX3_bowlerFar_16 ?_
  exact x_iret hz rfl dX3_bowlerFar_24
theorem kX3_bowlerFar {l : Launch} {dd : hDD} {b n : Nat} (a0 : Int32) (a1 : Int32) (a2 : Int32) (M : hMem) : hC l hYx dd b yX3_bowlerFar cX3_bowlerFar 3 (some .int) (n + 1) [.int a0, .int a1, .int a2] M (some (.int (fX3_bowlerFar a0 a1 a2 M)), M) :=
  h_met (av := fun b => [.int a0, .int a1, .int a2]) (rt := (rtP M)) (by decide) (Nat.le_of_ble_eq_true rfl) (fun Z hz => wX3_bowlerFar (n := n) hz a0 a1 a2 M) _ rfl
set_option maxRecDepth 10000 in
set_option maxHeartbeats 4000000 in
theorem wX3_capFar {Z : hZ} {n : Nat} (hz : hOK Z hYx cX3_capFar RX3 1 (n + 1) (some .int)) (a0 : Int32) (M : hMem) : hW Z (rtP M) M 0 [(0, .int a0)] [] (some (fX3_capFar a0 M)) := by
  unfold fX3_capFar
  refine x_iload_n hz dX3_capFar_0 rfl 0 rfl ?_
  refine x_iconst hz 0 dX3_capFar_1 rfl ?_
  refine x_iconst hz 1 dX3_capFar_2 rfl ?_
  refine x_callN hz mn_X3_15 (kX9_bounded (n := n) a0 0 1 M) rfl (av := [.int a0, .int 0, .int 1]) (rest := []) rfl rfl (Nat.le_of_ble_eq_true rfl) dX3_capFar_3 ?_
  exact x_iret hz rfl dX3_capFar_6
theorem kX3_capFar {l : Launch} {dd : hDD} {b n : Nat} (a0 : Int32) (M : hMem) : hC l hYx dd b yX3_capFar cX3_capFar 1 (some .int) (n + 1) [.int a0] M (some (.int (fX3_capFar a0 M)), M) :=
  h_met (av := fun b => [.int a0]) (rt := (rtP M)) (by decide) (Nat.le_of_ble_eq_true rfl) (fun Z hz => wX3_capFar (n := n) hz a0 M) _ rfl
set_option maxRecDepth 10000 in
set_option maxHeartbeats 4000000 in
theorem wX3_far {Z : hZ} {n : Nat} (hz : hOK Z hYx cX3_far RX3 4 (n + 2) (some .int)) (a0 : Int32) (a1 : Int32) (a2 : Int32) (a3 : Int32) (M : hMem) : hW Z (rtP M) M 0 [(0, .int a0), (1, .int a1), (2, .int a2), (3, .int a3)] [] (some (fX3_far a0 a1 a2 a3 M)) := by
  unfold fX3_far
  refine x_iload_n hz dX3_far_0 rfl 0 rfl ?_
  refine x_pull ?_
  refine x_case (fun hc1 => ?_) (fun hc1 => ?_)
  · refine x_tabIn hz dX3_far_1 1 (by rw [hc1]; rfl) (by decide) (by decide) rfl rfl ?_
    refine x_iload_n hz dX3_far_36 rfl 1 rfl ?_
    refine x_iload_n hz dX3_far_37 rfl 2 rfl ?_
    refine x_iload_n hz dX3_far_38 rfl 3 rfl ?_
    refine x_callS hz ms_X3_9 (kX3_bowlerFar (n := n) a1 a2 a3 M) rfl (av := [.int a1, .int a2, .int a3]) (rest := []) rfl rfl (Nat.le_of_ble_eq_true rfl) dX3_far_39 ?_
    refine x_iconst hz 0 dX3_far_42 rfl ?_
    refine x_bipush hz 12 dX3_far_43 rfl ?_
    refine x_callN hz mn_X3_15 (kX9_bounded (n := (n + 1)) (fX3_bowlerFar a1 a2 a3 M) 0 12 M) rfl (av := [.int (fX3_bowlerFar a1 a2 a3 M), .int 0, .int 12]) (rest := []) rfl rfl (Nat.le_of_ble_eq_true rfl) dX3_far_45 ?_
    exact x_iret hz rfl dX3_far_48
  refine x_pull ?_
  refine x_case (fun hc2 => ?_) (fun hc2 => ?_)
  · refine x_tabIn hz dX3_far_1 2 (by rw [hc2]; rfl) (by decide) (by decide) rfl rfl ?_
    refine x_iload_n hz dX3_far_49 rfl 2 rfl ?_
    refine x_callS hz ms_X3_18 (kX3_capFar (n := n) a2 M) rfl (av := [.int a2]) (rest := []) rfl rfl (Nat.le_of_ble_eq_true rfl) dX3_far_50 ?_
    exact x_iret hz rfl dX3_far_53
  refine x_pull ?_
  refine x_case (fun hc3 => ?_) (fun hc3 => ?_)
  · refine x_tabIn hz dX3_far_1 3 (by rw [hc3]; rfl) (by decide) (by decide) rfl rfl ?_
    refine x_iload_n hz dX3_far_54 rfl 1 rfl ?_
    refine x_iload_n hz dX3_far_55 rfl 2 rfl ?_
    refine x_iconst hz 1 dX3_far_56 rfl ?_
    refine x_callS hz ms_X3_9 (kX3_bowlerFar (n := n) a1 a2 1 M) rfl (av := [.int a1, .int a2, .int 1]) (rest := []) rfl rfl (Nat.le_of_ble_eq_true rfl) dX3_far_57 ?_
    refine x_iconst hz 0 dX3_far_60 rfl ?_
    refine x_bipush hz 12 dX3_far_61 rfl ?_
    refine x_callN hz mn_X3_15 (kX9_bounded (n := (n + 1)) (fX3_bowlerFar a1 a2 1 M) 0 12 M) rfl (av := [.int (fX3_bowlerFar a1 a2 1 M), .int 0, .int 12]) (rest := []) rfl rfl (Nat.le_of_ble_eq_true rfl) dX3_far_63 ?_
    exact x_iret hz rfl dX3_far_66
  refine x_pull ?_
  refine x_case (fun hc4 => ?_) (fun hc4 => ?_)
  · refine x_tabIn hz dX3_far_1 4 (by rw [hc4]; rfl) (by decide) (by decide) rfl rfl ?_
    refine x_iload_n hz dX3_far_67 rfl 2 rfl ?_
    refine x_iconst hz 1 dX3_far_68 rfl ?_
    refine x_pull ?_
    refine x_icmp_le hz dX3_far_69 ?_ ?_
    · refine x_iload_n hz dX3_far_86 rfl 2 rfl ?_
      refine x_callS hz ms_X3_18 (kX3_capFar (n := n) a2 M) rfl (av := [.int a2]) (rest := []) rfl rfl (Nat.le_of_ble_eq_true rfl) dX3_far_87 ?_
      exact x_iret hz rfl dX3_far_90
    refine x_iload_n hz dX3_far_72 rfl 2 rfl ?_
    refine x_iload_n hz dX3_far_73 rfl 1 rfl ?_
    refine x_iconst hz 2 dX3_far_74 rfl ?_
    refine x_idiv hz dX3_far_75 (by decide) ?_
    refine x_iadd hz dX3_far_76 ?_
    refine x_iconst hz 0 dX3_far_77 rfl ?_
    refine x_bipush hz 12 dX3_far_78 rfl ?_
    refine x_callN hz mn_X3_15 (kX9_bounded (n := (n + 1)) (a2 + (a1 / 2)) 0 12 M) rfl (av := [.int (a2 + (a1 / 2)), .int 0, .int 12]) (rest := []) rfl rfl (Nat.le_of_ble_eq_true rfl) dX3_far_80 ?_
    refine x_goto hz dX3_far_83 ?_
    exact x_iret hz rfl dX3_far_90
  refine x_pull ?_
  refine x_case (fun hc5 => ?_) (fun hc5 => ?_)
  · refine x_tabIn hz dX3_far_1 5 (by rw [hc5]; rfl) (by decide) (by decide) rfl rfl ?_
    refine x_iload_n hz dX3_far_91 rfl 2 rfl ?_
    refine x_iload_n hz dX3_far_92 rfl 3 rfl ?_
    refine x_callS hz ms_X3_22 (kX3_hatFar (n := (n + 1)) a2 a3 M) rfl (av := [.int a2, .int a3]) (rest := []) rfl rfl (Nat.le_of_ble_eq_true rfl) dX3_far_93 ?_
    refine x_iload_n hz dX3_far_96 rfl 1 rfl ?_
    refine x_isub hz dX3_far_97 ?_
    refine x_iconst hz 0 dX3_far_98 rfl ?_
    refine x_bipush hz 12 dX3_far_99 rfl ?_
    refine x_callN hz mn_X3_15 (kX9_bounded (n := (n + 1)) ((fX3_hatFar a2 a3 M) - a1) 0 12 M) rfl (av := [.int ((fX3_hatFar a2 a3 M) - a1), .int 0, .int 12]) (rest := []) rfl rfl (Nat.le_of_ble_eq_true rfl) dX3_far_101 ?_
    exact x_iret hz rfl dX3_far_104
  have ehc1 := lv_neT (a := 1) hc1 (by decide)
  have ehc2 := lv_neT (a := 2) hc2 (by decide)
  have ehc3 := lv_neT (a := 3) hc3 (by decide)
  have ehc4 := lv_neT (a := 4) hc4 (by decide)
  have ehc5 := lv_neT (a := 5) hc5 (by decide)
  refine x_tabOut hz dX3_far_1 (by omega) rfl ?_
  refine x_iload_n hz dX3_far_105 rfl 2 rfl ?_
  refine x_iload_n hz dX3_far_106 rfl 3 rfl ?_
  refine x_callS hz ms_X3_22 (kX3_hatFar (n := (n + 1)) a2 a3 M) rfl (av := [.int a2, .int a3]) (rest := []) rfl rfl (Nat.le_of_ble_eq_true rfl) dX3_far_107 ?_
  refine x_iconst hz 0 dX3_far_110 rfl ?_
  refine x_bipush hz 12 dX3_far_111 rfl ?_
  refine x_callN hz mn_X3_15 (kX9_bounded (n := (n + 1)) (fX3_hatFar a2 a3 M) 0 12 M) rfl (av := [.int (fX3_hatFar a2 a3 M), .int 0, .int 12]) (rest := []) rfl rfl (Nat.le_of_ble_eq_true rfl) dX3_far_113 ?_
  exact x_iret hz rfl dX3_far_116
theorem kX3_far {l : Launch} {dd : hDD} {b n : Nat} (a0 : Int32) (a1 : Int32) (a2 : Int32) (a3 : Int32) (M : hMem) : hC l hYx dd b yX3_far cX3_far 4 (some .int) (n + 2) [.int a0, .int a1, .int a2, .int a3] M (some (.int (fX3_far a0 a1 a2 a3 M)), M) :=
  h_met (av := fun b => [.int a0, .int a1, .int a2, .int a3]) (rt := (rtP M)) (by decide) (Nat.le_of_ble_eq_true rfl) (fun Z hz => wX3_far (n := n) hz a0 a1 a2 a3 M) _ rfl
set_option maxRecDepth 10000 in
set_option maxHeartbeats 4000000 in
theorem wX3_isOne_L4 {Z : hZ} {n : Nat} (hz : hOK Z hYx cX3_isOne RX3 4 (n + 0) (some .boolean))  (v1 : Int32) (M : hMem)  : ∀ (i : Nat) (s : Int32 × Int32), hW Z (rtP M) M 4 [(1, .int v1), (2, .int s.1), (3, .int s.2)] [] (h_lp (fX3_isOne_L4 v1 M) i s) := by
  refine x_loop (Ms := fun s : Int32 × Int32 => M) (Ls := fun s : Int32 × Int32 => [(1, .int v1), (2, .int s.1), (3, .int s.2)]) ?_
  intro k4 hk4 s
  show hW Z (rtP M) M 4 [(1, .int v1), (2, .int s.1), (3, .int s.2)] [] (fX3_isOne_L4 v1 M k4 s)
  unfold fX3_isOne_L4
  refine x_iload_n hz dX3_isOne_4 rfl 2 rfl ?_
  refine x_bipush hz 6 dX3_isOne_5 rfl ?_
  refine x_icmp_ge hz dX3_isOne_7 ?_ ?_
  · refine x_iconst hz 0 dX3_isOne_39 rfl ?_
    exact x_zret hz rfl rfl dX3_isOne_40
  refine x_iload_n hz dX3_isOne_10 rfl 1 rfl ?_
  refine x_if_lt hz dX3_isOne_11 ?_ ?_
  · refine x_iconst hz 0 dX3_isOne_39 rfl ?_
    exact x_zret hz rfl rfl dX3_isOne_40
  refine x_iload_n hz dX3_isOne_14 rfl 1 rfl ?_
  refine x_bipush hz 6 dX3_isOne_15 rfl ?_
  refine x_icmp_ge hz dX3_isOne_17 ?_ ?_
  · refine x_iconst hz 0 dX3_isOne_39 rfl ?_
    exact x_zret hz rfl rfl dX3_isOne_40
  refine x_iload_n hz dX3_isOne_20 rfl 1 rfl ?_
  refine x_iload_n hz dX3_isOne_21 rfl 0 rfl ?_
  refine x_icmp_ne hz dX3_isOne_22 ?_ ?_
  · refine x_above hz dX3_isOne_27 ?_
    refine x_iload_n hz dX3_isOne_30 rfl 1 rfl ?_
    refine x_iabv hz dX3_isOne_31 (fun hi31 => ?_)
    refine x_istore_n hz [(2, .int (h_abvI s.1.toNatClampNeg)), (1, .int v1), (3, .int s.2)] dX3_isOne_32 rfl rfl rfl ?_
    refine x_iinc hz (s.2 + 1) [(3, .int (s.2 + 1)), (2, .int (h_abvI s.1.toNatClampNeg)), (1, .int v1)] dX3_isOne_33 2 rfl rfl rfl rfl ?_
    refine x_goto hz dX3_isOne_36 ?_
    exact x_sub [2, 1, 0] rfl (hk4 (h_abvI s.1.toNatClampNeg, s.2 + 1))
  refine x_iconst hz 1 dX3_isOne_25 rfl ?_
  exact x_zret hz rfl rfl dX3_isOne_26
set_option maxRecDepth 10000 in
set_option maxHeartbeats 4000000 in
theorem wX3_isOne {Z : hZ} {n : Nat} (hz : hOK Z hYx cX3_isOne RX3 4 (n + 0) (some .boolean)) (a0 : Int32) (a1 : Int32) (M : hMem) : hW Z (rtP M) M 0 [(0, .int a0), (1, .int a1)] [] (fX3_isOne a0 a1 M) := by
  unfold fX3_isOne
  refine x_iload_n hz dX3_isOne_0 rfl 0 rfl ?_
  refine x_istore_n hz [(2, .int a0), (0, .int a0), (1, .int a1)] dX3_isOne_1 rfl rfl rfl ?_
  refine x_iconst hz 0 dX3_isOne_2 rfl ?_
  refine x_istore_n hz [(3, .int 0), (2, .int a0), (0, .int a0), (1, .int a1)] dX3_isOne_3 rfl rfl rfl ?_
  exact x_sub [3, 1, 0] rfl (wX3_isOne_L4 hz a1 M h_FU (a0, 0))
theorem kX3_isOne {l : Launch} {dd : hDD} {b n : Nat} (a0 : Int32) (a1 : Int32) (M : hMem) (r : Int32) (h : fX3_isOne a0 a1 M = some r) : hC l hYx dd b yX3_isOne cX3_isOne 4 (some .boolean) (n + 0) [.int a0, .int a1] M (some (.int r), M) :=
  h_met (av := fun b => [.int a0, .int a1]) (rt := (rtP M)) (by decide) (Nat.le_of_ble_eq_true rfl) (fun Z hz => wX3_isOne (n := n) hz a0 a1 M) r h
set_option maxRecDepth 10000 in
set_option maxHeartbeats 4000000 in
theorem wX3_turnsOver {Z : hZ} {n : Nat} (hz : hOK Z hYx cX3_turnsOver RX3 1 (n + 1) (some .boolean)) (a0 : Int32) (M : hMem) : hW Z (rtP M) M 0 [(0, .int a0)] [] (fX3_turnsOver a0 M) := by
  unfold fX3_turnsOver
  refine x_iload_n hz dX3_turnsOver_0 rfl 0 rfl ?_
  refine x_iconst hz 2 dX3_turnsOver_1 rfl ?_
  refine x_bind (fun q2 hq2 => ?_)
  refine x_callS hz ms_X3_26 (kX3_isOne (n := n) a0 2 M q2 hq2) rfl (av := [.int a0, .int 2]) (rest := []) rfl rfl (Nat.le_of_ble_eq_true rfl) dX3_turnsOver_2 ?_
  refine x_if_ne hz dX3_turnsOver_5 ?_ ?_
  · refine x_iconst hz 0 dX3_turnsOver_12 rfl ?_
    exact x_zret hz rfl rfl dX3_turnsOver_13
  refine x_iconst hz 1 dX3_turnsOver_8 rfl ?_
  refine x_goto hz dX3_turnsOver_9 ?_
  exact x_zret hz rfl rfl dX3_turnsOver_13
theorem kX3_turnsOver {l : Launch} {dd : hDD} {b n : Nat} (a0 : Int32) (M : hMem) (r : Int32) (h : fX3_turnsOver a0 M = some r) : hC l hYx dd b yX3_turnsOver cX3_turnsOver 1 (some .boolean) (n + 1) [.int a0] M (some (.int r), M) :=
  h_met (av := fun b => [.int a0]) (rt := (rtP M)) (by decide) (Nat.le_of_ble_eq_true rfl) (fun Z hz => wX3_turnsOver (n := n) hz a0 M) r h
set_option maxRecDepth 10000 in
set_option maxHeartbeats 4000000 in
theorem wX8_isWet {Z : hZ} {n : Nat} (hz : hOK Z hYx cX8_isWet RX8 2 (n + 1) (some .boolean)) (a1 : Int32) (M : hMem) : hW Z (rtP M) M 0 [(0, .ref (h_b Z + 40)), (1, .int a1)] [] (some (fX8_isWet a1 M)) := by
  unfold fX8_isWet
  refine x_aload_n hz dX8_isWet_0 rfl 0 rfl ?_
  refine x_geti hz sx_40 fl_X8_40 rfl dX8_isWet_1 ?_
  refine x_iload_n hz dX8_isWet_4 rfl 1 rfl ?_
  refine x_callN hz mn_X8_82 (kX9_squareOf (n := n) a1 M) rfl (av := [.int a1]) (rest := [.int (M 40 1)]) rfl rfl (Nat.le_of_ble_eq_true rfl) dX8_isWet_5 ?_
  refine x_iushr hz dX8_isWet_8 ?_
  refine x_iconst hz 1 dX8_isWet_9 rfl ?_
  refine x_iand hz dX8_isWet_10 ?_
  refine x_pull ?_
  refine x_if_eq hz dX8_isWet_11 ?_ ?_
  · refine x_iconst hz 0 dX8_isWet_18 rfl ?_
    exact x_zret hz rfl rfl dX8_isWet_19
  refine x_iconst hz 1 dX8_isWet_14 rfl ?_
  refine x_goto hz dX8_isWet_15 ?_
  exact x_zret hz rfl rfl dX8_isWet_19
theorem bX8_isWet (a1 : Int32) (M : hMem) : narrow .boolean (.int (fX8_isWet a1 M)) = .int (fX8_isWet a1 M) := by
  unfold fX8_isWet
  repeat (first | rfl | split)
theorem kX8_isWet {l : Launch} {dd : hDD} {b n : Nat} (a1 : Int32) (M : hMem) : hC l hYx dd b yX8_isWet cX8_isWet 2 (some .boolean) (n + 1) [.ref (b + 40), .int a1] M (some (.int (fX8_isWet a1 M)), M) :=
  h_met (av := fun b => [.ref (b + 40), .int a1]) (rt := (rtP M)) (by decide) (Nat.le_of_ble_eq_true rfl) (fun Z hz => wX8_isWet (n := n) hz a1 M) _ rfl
set_option maxRecDepth 10000 in
set_option maxHeartbeats 4000000 in
theorem wX8_beside_L79 {Z : hZ} {n : Nat} (hz : hOK Z hYx cX8_beside RX8 4 (n + 1) (some .int))  (v3 : Int32) (M : hMem)  : hW Z (rtP M) M 79 [(0, .ref (h_b Z + 40)), (3, .int v3)] [] (some (fX8_beside_L79 v3 M)) := by
  unfold fX8_beside_L79
  refine x_iload_n hz dX8_beside_79 rfl 1 rfl ?_
  refine x_callN hz mn_X8_126 (kX9_isSquare (n := n) v3 M) rfl (av := [.int v3]) (rest := []) rfl rfl (Nat.le_of_ble_eq_true rfl) dX8_beside_80 ?_
  refine x_pull ?_
  refine x_if_eq hz dX8_beside_83 ?_ ?_
  · refine x_iconst hz (-1) dX8_beside_101 rfl ?_
    exact x_iret hz rfl dX8_beside_102
  refine x_aload_n hz dX8_beside_86 rfl 0 rfl ?_
  refine x_geti hz sx_40 fl_X8_36 rfl dX8_beside_87 ?_
  refine x_iload_n hz dX8_beside_90 rfl 1 rfl ?_
  refine x_iushr hz dX8_beside_91 ?_
  refine x_iconst hz 1 dX8_beside_92 rfl ?_
  refine x_iand hz dX8_beside_93 ?_
  refine x_pull ?_
  refine x_if_ne hz dX8_beside_94 ?_ ?_
  · refine x_iconst hz (-1) dX8_beside_101 rfl ?_
    exact x_iret hz rfl dX8_beside_102
  refine x_iload_n hz dX8_beside_97 rfl 1 rfl ?_
  refine x_goto hz dX8_beside_98 ?_
  exact x_iret hz rfl dX8_beside_102
set_option maxRecDepth 10000 in
set_option maxHeartbeats 4000000 in
theorem wX8_beside_L52 {Z : hZ} {n : Nat} (hz : hOK Z hYx cX8_beside RX8 4 (n + 1) (some .int))  (t0 : Int32) (M : hMem)  : hW Z (rtP M) M 52 [(0, .ref (h_b Z + 40))] [.int t0] (some (fX8_beside_L52 t0 M)) := by
  unfold fX8_beside_L52
  refine x_istore_n hz [(3, .int t0), (0, .ref (h_b Z + 40))] dX8_beside_52 rfl rfl rfl ?_
  refine x_goto hz dX8_beside_53 ?_
  exact x_sub [1, 0] rfl (wX8_beside_L79 hz t0 M)
set_option maxRecDepth 10000 in
set_option maxHeartbeats 4000000 in
theorem wX8_beside_L78 {Z : hZ} {n : Nat} (hz : hOK Z hYx cX8_beside RX8 4 (n + 1) (some .int))  (t0 : Int32) (M : hMem)  : hW Z (rtP M) M 78 [(0, .ref (h_b Z + 40))] [.int t0] (some (fX8_beside_L78 t0 M)) := by
  unfold fX8_beside_L78
  refine x_istore_n hz [(3, .int t0), (0, .ref (h_b Z + 40))] dX8_beside_78 rfl rfl rfl ?_
  exact x_sub [1, 0] rfl (wX8_beside_L79 hz t0 M)
set_option maxRecDepth 10000 in
set_option maxHeartbeats 4000000 in
theorem wX8_beside {Z : hZ} {n : Nat} (hz : hOK Z hYx cX8_beside RX8 4 (n + 1) (some .int)) (a1 : Int32) (a2 : Int32) (M : hMem) : hW Z (rtP M) M 0 [(0, .ref (h_b Z + 40)), (1, .int a1), (2, .int a2)] [] (some (fX8_beside a1 a2 M)) := by
  unfold fX8_beside
  refine x_iload_n hz dX8_beside_0 rfl 2 rfl ?_
  refine x_pull ?_
  refine x_case (fun hc0 => ?_) (fun hc0 => ?_)
  · refine x_tabIn hz dX8_beside_1 0 (by rw [hc0]; rfl) (by decide) (by decide) rfl rfl ?_
    refine x_iload_n hz dX8_beside_28 rfl 1 rfl ?_
    refine x_bipush hz 8 dX8_beside_29 rfl ?_
    refine x_isub hz dX8_beside_31 ?_
    refine x_istore_n hz [(3, .int (a1 - 8)), (0, .ref (h_b Z + 40)), (1, .int a1), (2, .int a2)] dX8_beside_32 rfl rfl rfl ?_
    refine x_goto hz dX8_beside_33 ?_
    exact x_sub [1, 0] rfl (wX8_beside_L79 hz (a1 - 8) M)
  refine x_pull ?_
  refine x_case (fun hc1 => ?_) (fun hc1 => ?_)
  · refine x_tabIn hz dX8_beside_1 1 (by rw [hc1]; rfl) (by decide) (by decide) rfl rfl ?_
    refine x_iload_n hz dX8_beside_36 rfl 1 rfl ?_
    refine x_bipush hz 8 dX8_beside_37 rfl ?_
    refine x_irem hz dX8_beside_39 (by decide) ?_
    refine x_bipush hz 7 dX8_beside_40 rfl ?_
    refine x_pull ?_
    refine x_icmp_ge hz dX8_beside_42 ?_ ?_
    · refine x_iconst hz (-1) dX8_beside_51 rfl ?_
      exact x_sub [0] rfl (wX8_beside_L52 hz (-1) M)
    refine x_iload_n hz dX8_beside_45 rfl 1 rfl ?_
    refine x_iconst hz 1 dX8_beside_46 rfl ?_
    refine x_iadd hz dX8_beside_47 ?_
    refine x_goto hz dX8_beside_48 ?_
    exact x_sub [0] rfl (wX8_beside_L52 hz (a1 + 1) M)
  refine x_pull ?_
  refine x_case (fun hc2 => ?_) (fun hc2 => ?_)
  · refine x_tabIn hz dX8_beside_1 2 (by rw [hc2]; rfl) (by decide) (by decide) rfl rfl ?_
    refine x_iload_n hz dX8_beside_56 rfl 1 rfl ?_
    refine x_bipush hz 8 dX8_beside_57 rfl ?_
    refine x_iadd hz dX8_beside_59 ?_
    refine x_istore_n hz [(3, .int (a1 + 8)), (0, .ref (h_b Z + 40)), (1, .int a1), (2, .int a2)] dX8_beside_60 rfl rfl rfl ?_
    refine x_goto hz dX8_beside_61 ?_
    exact x_sub [1, 0] rfl (wX8_beside_L79 hz (a1 + 8) M)
  have ehc0 := lv_neT (a := 0) hc0 (by decide)
  have ehc1 := lv_neT (a := 1) hc1 (by decide)
  have ehc2 := lv_neT (a := 2) hc2 (by decide)
  refine x_tabOut hz dX8_beside_1 (by omega) rfl ?_
  refine x_iload_n hz dX8_beside_64 rfl 1 rfl ?_
  refine x_bipush hz 8 dX8_beside_65 rfl ?_
  refine x_irem hz dX8_beside_67 (by decide) ?_
  refine x_pull ?_
  refine x_if_le hz dX8_beside_68 ?_ ?_
  · refine x_iconst hz (-1) dX8_beside_77 rfl ?_
    exact x_sub [0] rfl (wX8_beside_L78 hz (-1) M)
  refine x_iload_n hz dX8_beside_71 rfl 1 rfl ?_
  refine x_iconst hz 1 dX8_beside_72 rfl ?_
  refine x_isub hz dX8_beside_73 ?_
  refine x_goto hz dX8_beside_74 ?_
  exact x_sub [0] rfl (wX8_beside_L78 hz (a1 - 1) M)
theorem kX8_beside {l : Launch} {dd : hDD} {b n : Nat} (a1 : Int32) (a2 : Int32) (M : hMem) : hC l hYx dd b yX8_beside cX8_beside 4 (some .int) (n + 1) [.ref (b + 40), .int a1, .int a2] M (some (.int (fX8_beside a1 a2 M)), M) :=
  h_met (av := fun b => [.ref (b + 40), .int a1, .int a2]) (rt := (rtP M)) (by decide) (Nat.le_of_ble_eq_true rfl) (fun Z hz => wX8_beside (n := n) hz a1 a2 M) _ rfl
set_option maxRecDepth 10000 in
set_option maxHeartbeats 4000000 in
theorem wX8_slide_L6 {Z : hZ} {n : Nat} (hz : hOK Z hYx cX8_slide RX8 7 (n + 2) (some .int))  (v2 : Int32) (v3 : Int32) (M : hMem)  : ∀ (i : Nat) (s : Int32 × Int32), hW Z (rtP M) M 6 [(0, .ref (h_b Z + 40)), (2, .int v2), (3, .int v3), (4, .int s.1), (5, .int s.2)] [] (h_lp (fX8_slide_L6 v2 v3 M) i s) := by
  refine x_loop (Ms := fun s : Int32 × Int32 => M) (Ls := fun s : Int32 × Int32 => [(0, .ref (h_b Z + 40)), (2, .int v2), (3, .int v3), (4, .int s.1), (5, .int s.2)]) ?_
  intro k6 hk6 s
  show hW Z (rtP M) M 6 [(0, .ref (h_b Z + 40)), (2, .int v2), (3, .int v3), (4, .int s.1), (5, .int s.2)] [] (fX8_slide_L6 v2 v3 M k6 s)
  unfold fX8_slide_L6
  refine x_iload hz dX8_slide_6 4 rfl ?_
  refine x_iload_n hz dX8_slide_8 rfl 2 rfl ?_
  refine x_icmp_ge hz dX8_slide_9 ?_ ?_
  · refine x_iload hz dX8_slide_54 3 rfl ?_
    exact x_iret hz rfl dX8_slide_56
  refine x_aload_n hz dX8_slide_12 rfl 0 rfl ?_
  refine x_iload hz dX8_slide_13 3 rfl ?_
  refine x_iload_n hz dX8_slide_15 rfl 1 rfl ?_
  refine x_callV hz mv_X8_123 sx_40 (by decide) rfl rfl (kX8_beside (n := n) s.1 v2 M) rfl (av := [.int s.1, .int v2]) (rest := []) rfl rfl (Nat.le_of_ble_eq_true rfl) dX8_slide_16 ?_
  refine x_istore hz [(6, .int (fX8_beside s.1 v2 M)), (0, .ref (h_b Z + 40)), (2, .int v2), (3, .int v3), (4, .int s.1), (5, .int s.2)] dX8_slide_19 rfl rfl ?_
  refine x_iload hz dX8_slide_21 0 rfl ?_
  refine x_if_ge hz dX8_slide_23 ?_ ?_
  · refine x_iload hz dX8_slide_29 0 rfl ?_
    refine x_istore hz [(4, .int (fX8_beside s.1 v2 M)), (6, .int (fX8_beside s.1 v2 M)), (0, .ref (h_b Z + 40)), (2, .int v2), (3, .int v3), (5, .int s.2)] dX8_slide_31 rfl rfl ?_
    refine x_aload_n hz dX8_slide_33 rfl 2 rfl ?_
    refine x_geti hz sx_40 fl_X8_40 rfl dX8_slide_34 ?_
    refine x_iload hz dX8_slide_37 0 rfl ?_
    refine x_iushr hz dX8_slide_39 ?_
    refine x_iconst hz 1 dX8_slide_40 rfl ?_
    refine x_iand hz dX8_slide_41 ?_
    refine x_if_eq hz dX8_slide_42 ?_ ?_
    · refine x_iinc hz (s.2 + 1) [(5, .int (s.2 + 1)), (4, .int (fX8_beside s.1 v2 M)), (6, .int (fX8_beside s.1 v2 M)), (0, .ref (h_b Z + 40)), (2, .int v2), (3, .int v3)] dX8_slide_48 5 rfl rfl rfl rfl ?_
      refine x_goto hz dX8_slide_51 ?_
      exact x_sub [3, 4, 5, 1, 0] rfl (hk6 (fX8_beside s.1 v2 M, s.2 + 1))
    refine x_goto hz dX8_slide_45 ?_
    refine x_iload hz dX8_slide_54 0 rfl ?_
    exact x_iret hz rfl dX8_slide_56
  refine x_goto hz dX8_slide_26 ?_
  refine x_iload hz dX8_slide_54 4 rfl ?_
  exact x_iret hz rfl dX8_slide_56
set_option maxRecDepth 10000 in
set_option maxHeartbeats 4000000 in
theorem wX8_slide {Z : hZ} {n : Nat} (hz : hOK Z hYx cX8_slide RX8 7 (n + 2) (some .int)) (a1 : Int32) (a2 : Int32) (a3 : Int32) (M : hMem) : hW Z (rtP M) M 0 [(0, .ref (h_b Z + 40)), (1, .int a1), (2, .int a2), (3, .int a3)] [] (fX8_slide a1 a2 a3 M) := by
  unfold fX8_slide
  refine x_iload_n hz dX8_slide_0 rfl 1 rfl ?_
  refine x_istore hz [(4, .int a1), (0, .ref (h_b Z + 40)), (1, .int a1), (2, .int a2), (3, .int a3)] dX8_slide_1 rfl rfl ?_
  refine x_iconst hz 0 dX8_slide_3 rfl ?_
  refine x_istore hz [(5, .int 0), (4, .int a1), (0, .ref (h_b Z + 40)), (1, .int a1), (2, .int a2), (3, .int a3)] dX8_slide_4 rfl rfl ?_
  exact x_sub [2, 4, 5, 1, 0] rfl (wX8_slide_L6 hz a2 a3 M h_FU (a1, 0))
theorem kX8_slide {l : Launch} {dd : hDD} {b n : Nat} (a1 : Int32) (a2 : Int32) (a3 : Int32) (M : hMem) (r : Int32) (h : fX8_slide a1 a2 a3 M = some r) : hC l hYx dd b yX8_slide cX8_slide 7 (some .int) (n + 2) [.ref (b + 40), .int a1, .int a2, .int a3] M (some (.int r), M) :=
  h_met (av := fun b => [.ref (b + 40), .int a1, .int a2, .int a3]) (rt := (rtP M)) (by decide) (Nat.le_of_ble_eq_true rfl) (fun Z hz => wX8_slide (n := n) hz a1 a2 a3 M) r h
set_option maxRecDepth 10000 in
set_option maxHeartbeats 4000000 in
theorem wX8_next_L128 {Z : hZ} {n : Nat} (hz : hOK Z hYx cX8_next RX8 8 (n + 3) (some .int))  (v3 : Int32) (v4 : Int32) (v5 : Int32) (t2 : Int32) (t1 : Int32) (M : hMem)  : hW Z rtM M 128 [(0, .ref (h_b Z + 40)), (3, .int v3), (4, .int v4), (5, .int v5)] [.int t2, .int t1, .ref (h_b Z + 40)] (fX8_next_L128 v3 v4 v5 t2 t1 M) := by
  unfold fX8_next_L128
  refine x_iload hz dX8_next_128 3 rfl ?_
  refine x_bind (fun q130 hq130 => ?_)
  refine x_callV hz mv_X8_114 sx_40 (by decide) rfl rfl (kX8_slide (n := n) t1 t2 v5 M q130 hq130) rfl (av := [.int t1, .int t2, .int v5]) (rest := []) rfl rfl (Nat.le_of_ble_eq_true rfl) dX8_next_130 ?_
  refine x_istore hz [(7, .int q130), (0, .ref (h_b Z + 40)), (3, .int v3), (4, .int v4), (5, .int v5)] dX8_next_133 rfl rfl ?_
  refine x_iload hz dX8_next_135 0 rfl ?_
  refine x_iload_n hz dX8_next_137 rfl 2 rfl ?_
  refine x_icmp_eq hz dX8_next_138 ?_ ?_
  · refine x_iload hz dX8_next_151 0 rfl ?_
    refine x_iload hz dX8_next_153 3 rfl ?_
    refine x_callN hz mn_X8_120 (kX9_stateOf (n := (n + 2)) q130 v4 M) rfl (av := [.int q130, .int v4]) (rest := []) rfl rfl (Nat.le_of_ble_eq_true rfl) dX8_next_155 ?_
    exact x_iret hz rfl dX8_next_158
  refine x_aload_n hz dX8_next_141 rfl 1 rfl ?_
  refine x_geti hz sx_40 fl_X8_59 rfl dX8_next_142 ?_
  refine x_bind (fun q145 hq145 => ?_)
  refine x_callS hz ms_X8_117 (kX3_turnsOver (n := (n + 1)) (M 40 3) M q145 hq145) rfl (av := [.int (M 40 3)]) (rest := []) rfl rfl (Nat.le_of_ble_eq_true rfl) dX8_next_145 ?_
  refine x_if_ne hz dX8_next_148 ?_ ?_
  · refine x_iload hz dX8_next_159 0 rfl ?_
    refine x_iload hz dX8_next_161 3 rfl ?_
    refine x_aload_n hz dX8_next_163 rfl 1 rfl ?_
    refine x_getd hz sx_40 fl_X8_12 rfl (t := 3) (n2 := 0) rfl dX8_next_164 (fun hg164 => ?_)
    refine x_iconst hz 1 dX8_next_167 rfl ?_
    refine x_aload_n hz dX8_next_168 rfl 1 rfl ?_
    refine x_getr hz sx_40 fl_X8_28 rfl rx_40_10 (by decide) dX8_next_169 ?_
    refine x_bind (fun q172 hq172 => ?_)
    refine x_callV hz mv_X8_100 (h_isB_is hg164) (by decide) rfl rfl (kX4_says (n := n) ((M 40 6).toNatClampNeg) 1 M q172 hq172) rfl (av := [.int 1, .ref (h_b Z + 48)]) (rest := [.int v4, .int q130]) rfl rfl (Nat.le_of_ble_eq_true rfl) dX8_next_172 ?_
    refine x_iadd hz dX8_next_175 ?_
    refine x_iconst hz 3 dX8_next_176 rfl ?_
    refine x_irem hz dX8_next_177 (by decide) ?_
    refine x_callN hz mn_X8_120 (kX9_stateOf (n := (n + 2)) q130 (h_rem (v4 + q172.1) 3) q172.2) rfl (av := [.int q130, .int (h_rem (v4 + q172.1) 3)]) (rest := []) rfl rfl (Nat.le_of_ble_eq_true rfl) dX8_next_178 ?_
    exact x_iret hz rfl dX8_next_181
  refine x_iload hz dX8_next_151 0 rfl ?_
  refine x_iload hz dX8_next_153 3 rfl ?_
  refine x_callN hz mn_X8_120 (kX9_stateOf (n := (n + 2)) q130 v4 M) rfl (av := [.int q130, .int v4]) (rest := []) rfl rfl (Nat.le_of_ble_eq_true rfl) dX8_next_155 ?_
  exact x_iret hz rfl dX8_next_158
set_option maxRecDepth 10000 in
set_option maxHeartbeats 4000000 in
theorem wX8_next_L93 {Z : hZ} {n : Nat} (hz : hOK Z hYx cX8_next RX8 8 (n + 3) (some .int))  (v1 : Int32) (v3 : Int32) (v4 : Int32) (v5 : Int32) (t0 : Int32) (M : hMem)  : hW Z rtM M 93 [(0, .ref (h_b Z + 40)), (1, .int v1), (3, .int v3), (4, .int v4), (5, .int v5)] [.int t0] (fX8_next_L93 v1 v3 v4 v5 t0 M) := by
  unfold fX8_next_L93
  refine x_istore hz [(6, .int t0), (0, .ref (h_b Z + 40)), (1, .int v1), (3, .int v3), (4, .int v4), (5, .int v5)] dX8_next_93 rfl rfl ?_
  refine x_aload_n hz dX8_next_95 rfl 1 rfl ?_
  refine x_iload_n hz dX8_next_96 rfl 3 rfl ?_
  refine x_iload hz dX8_next_97 0 rfl ?_
  refine x_if_eq hz dX8_next_99 ?_ ?_
  · refine x_aload_n hz dX8_next_122 rfl 1 rfl ?_
    refine x_getr hz sx_40 fl_X8_18 rfl rx_40_7 (by decide) dX8_next_123 ?_
    refine x_iload_n hz dX8_next_126 rfl 2 rfl ?_
    refine x_iald hz sx_45 dX8_next_127 (fun hi127 => ?_)
    exact x_sub [1, 3, 4, 5] rfl (wX8_next_L128 hz v3 v4 v5 (M 45 v1.toNatClampNeg) v3 M)
  refine x_aload_n hz dX8_next_102 rfl 1 rfl ?_
  refine x_geti hz sx_40 fl_X8_59 rfl dX8_next_103 ?_
  refine x_aload_n hz dX8_next_106 rfl 1 rfl ?_
  refine x_geti hz sx_40 fl_X8_63 rfl dX8_next_107 ?_
  refine x_aload_n hz dX8_next_110 rfl 1 rfl ?_
  refine x_getr hz sx_40 fl_X8_18 rfl rx_40_7 (by decide) dX8_next_111 ?_
  refine x_iload_n hz dX8_next_114 rfl 2 rfl ?_
  refine x_iald hz sx_45 dX8_next_115 (fun hi115 => ?_)
  refine x_callS hz ms_X8_110 (kX3_eddyWay (n := (n + 2)) (M 40 3) (M 40 4) (M 45 v1.toNatClampNeg) M) rfl (av := [.int (M 40 3), .int (M 40 4), .int (M 45 v1.toNatClampNeg)]) (rest := [.int v3, .ref (h_b Z + 40)]) rfl rfl (Nat.le_of_ble_eq_true rfl) dX8_next_116 ?_
  refine x_goto hz dX8_next_119 ?_
  exact x_sub [1, 3, 4, 5] rfl (wX8_next_L128 hz v3 v4 v5 (fX3_eddyWay (M 40 3) (M 40 4) (M 45 v1.toNatClampNeg) M) v3 M)
set_option maxRecDepth 10000 in
set_option maxHeartbeats 4000000 in
theorem wX8_next {Z : hZ} {n : Nat} (hz : hOK Z hYx cX8_next RX8 8 (n + 3) (some .int)) (a1 : Int32) (a2 : Int32) (M : hMem) : hW Z rtM M 0 [(0, .ref (h_b Z + 40)), (1, .int a1), (2, .int a2)] [] (fX8_next a1 a2 M) := by
  unfold fX8_next
  refine x_iload_n hz dX8_next_0 rfl 1 rfl ?_
  refine x_callN hz mn_X8_89 (kX9_isSecond (n := (n + 2)) a1 M) rfl (av := [.int a1]) (rest := []) rfl rfl (Nat.le_of_ble_eq_true rfl) dX8_next_1 ?_
  refine x_if_eq hz dX8_next_4 ?_ ?_
  · refine x_iload_n hz dX8_next_25 rfl 2 rfl ?_
    exact x_iret hz rfl dX8_next_26
  refine x_aload_n hz dX8_next_7 rfl 0 rfl ?_
  refine x_getr hz sx_40 fl_X8_18 rfl rx_40_7 (by decide) dX8_next_8 ?_
  refine x_iload_n hz dX8_next_11 rfl 1 rfl ?_
  refine x_iald hz sx_45 dX8_next_12 (fun hi12 => ?_)
  refine x_iconst hz 4 dX8_next_13 rfl ?_
  refine x_icmp_eq hz dX8_next_14 ?_ ?_
  · refine x_iload_n hz dX8_next_25 rfl 2 rfl ?_
    exact x_iret hz rfl dX8_next_26
  refine x_aload_n hz dX8_next_17 rfl 0 rfl ?_
  refine x_iload_n hz dX8_next_18 rfl 2 rfl ?_
  refine x_callV hz mv_X8_93 sx_40 (by decide) rfl rfl (kX8_isWet (n := (n + 1)) a2 M) rfl (av := [.int a2]) (rest := []) rfl rfl (Nat.le_of_ble_eq_true rfl) dX8_next_19 ?_
  refine x_if_eq hz dX8_next_22 ?_ ?_
  · refine x_iload_n hz dX8_next_27 rfl 2 rfl ?_
    refine x_callN hz mn_X8_82 (kX9_squareOf (n := (n + 2)) a2 M) rfl (av := [.int a2]) (rest := []) rfl rfl (Nat.le_of_ble_eq_true rfl) dX8_next_28 ?_
    refine x_istore_n hz [(3, .int (fX9_squareOf a2 M)), (0, .ref (h_b Z + 40)), (1, .int a1), (2, .int a2)] dX8_next_31 rfl rfl rfl ?_
    refine x_iload_n hz dX8_next_32 rfl 3 rfl ?_
    refine x_callN hz mn_X8_78 (kX9_lieOf (n := (n + 2)) a2 M) rfl (av := [.int a2]) (rest := []) rfl rfl (Nat.le_of_ble_eq_true rfl) dX8_next_33 ?_
    refine x_istore hz [(4, .int (fX9_lieOf a2 M)), (3, .int (fX9_squareOf a2 M)), (0, .ref (h_b Z + 40)), (1, .int a1), (2, .int a2)] dX8_next_36 rfl rfl ?_
    refine x_aload_n hz dX8_next_38 rfl 2 rfl ?_
    refine x_aload_n hz dX8_next_39 rfl 2 rfl ?_
    refine x_getr hz sx_40 fl_X8_22 rfl rx_40_8 (by decide) dX8_next_40 ?_
    refine x_iload_n hz dX8_next_43 rfl 3 rfl ?_
    refine x_iald hz sx_46 dX8_next_44 (fun hi44 => ?_)
    refine x_iload_n hz dX8_next_45 rfl 3 rfl ?_
    refine x_iload_n hz dX8_next_46 rfl 4 rfl ?_
    refine x_bind (fun q47 hq47 => ?_)
    refine x_callV hz mv_X8_96 sx_40 (by decide) rfl rfl (kX8_tell (n := (n + 1)) (M 46 a1.toNatClampNeg) a1 a2 M q47 hq47) rfl (av := [.int (M 46 a1.toNatClampNeg), .int a1, .int a2]) (rest := []) rfl rfl (Nat.le_of_ble_eq_true rfl) dX8_next_47 ?_
    refine x_aload_n hz dX8_next_50 rfl 2 rfl ?_
    refine x_geti hz sx_40 fl_X8_59 rfl dX8_next_51 ?_
    refine x_aload_n hz dX8_next_54 rfl 2 rfl ?_
    refine x_geti hz sx_40 fl_X8_63 rfl dX8_next_55 ?_
    refine x_aload_n hz dX8_next_58 rfl 2 rfl ?_
    refine x_getd hz sx_40 fl_X8_12 rfl (t := 3) (n2 := 0) rfl dX8_next_59 (fun hg59 => ?_)
    refine x_iconst hz 0 dX8_next_62 rfl ?_
    refine x_aload_n hz dX8_next_63 rfl 2 rfl ?_
    refine x_getr hz sx_40 fl_X8_28 rfl rx_40_10 (by decide) dX8_next_64 ?_
    refine x_bind (fun q67 hq67 => ?_)
    refine x_callV hz mv_X8_100 (h_isB_is hg59) (by decide) rfl rfl (kX4_says (n := n) ((q47 40 6).toNatClampNeg) 0 q47 q67 hq67) rfl (av := [.int 0, .ref (h_b Z + 48)]) (rest := [.int (q47 40 4), .int (q47 40 3)]) rfl rfl (Nat.le_of_ble_eq_true rfl) dX8_next_67 ?_
    refine x_iload hz dX8_next_70 0 rfl ?_
    refine x_callS hz ms_X8_104 (kX3_far (n := n) (q47 40 3) (q47 40 4) q67.1 (fX9_lieOf a2 M) q67.2) rfl (av := [.int (q47 40 3), .int (q47 40 4), .int q67.1, .int (fX9_lieOf a2 M)]) (rest := []) rfl rfl (Nat.le_of_ble_eq_true rfl) dX8_next_72 ?_
    refine x_istore hz [(5, .int (fX3_far (q47 40 3) (q47 40 4) q67.1 (fX9_lieOf a2 M) q67.2)), (4, .int (fX9_lieOf a2 M)), (3, .int (fX9_squareOf a2 M)), (0, .ref (h_b Z + 40)), (1, .int a1), (2, .int a2)] dX8_next_75 rfl rfl ?_
    refine x_aload_n hz dX8_next_77 rfl 3 rfl ?_
    refine x_geti hz sx_40 fl_X8_43 rfl dX8_next_78 ?_
    refine x_iload_n hz dX8_next_81 rfl 2 rfl ?_
    refine x_iushr hz dX8_next_82 ?_
    refine x_iconst hz 1 dX8_next_83 rfl ?_
    refine x_iand hz dX8_next_84 ?_
    refine x_if_eq hz dX8_next_85 ?_ ?_
    · refine x_iconst hz 0 dX8_next_92 rfl ?_
      exact x_sub [3, 4, 2, 1, 0] rfl (wX8_next_L93 hz a1 (fX9_squareOf a2 M) (fX9_lieOf a2 M) (fX3_far (q47 40 3) (q47 40 4) q67.1 (fX9_lieOf a2 M) q67.2) 0 q67.2)
    refine x_iconst hz 1 dX8_next_88 rfl ?_
    refine x_goto hz dX8_next_89 ?_
    exact x_sub [3, 4, 2, 1, 0] rfl (wX8_next_L93 hz a1 (fX9_squareOf a2 M) (fX9_lieOf a2 M) (fX3_far (q47 40 3) (q47 40 4) q67.1 (fX9_lieOf a2 M) q67.2) 1 q67.2)
  refine x_iload_n hz dX8_next_25 rfl 2 rfl ?_
  exact x_iret hz rfl dX8_next_26
theorem kX8_next {l : Launch} {dd : hDD} {b n : Nat} (a1 : Int32) (a2 : Int32) (M : hMem) (r : Int32 × hMem) (h : fX8_next a1 a2 M = some r) : hC l hYx dd b yX8_next cX8_next 8 (some .int) (n + 3) [.ref (b + 40), .int a1, .int a2] M (some (.int r.1), r.2) :=
  h_met (av := fun b => [.ref (b + 40), .int a1, .int a2]) (rt := rtM) (by decide) (Nat.le_of_ble_eq_true rfl) (fun Z hz => wX8_next (n := n) hz a1 a2 M) r h
set_option maxRecDepth 10000 in
set_option maxHeartbeats 4000000 in
theorem wX8_later_L6 {Z : hZ} {n : Nat} (hz : hOK Z hYx cX8_later RX8 6 (n + 4) (some .int))  (v3 : Int32)   : ∀ (i : Nat) (s : Int32 × Int32 × hMem), hW Z rtM s.2.2 6 [(0, .ref (h_b Z + 40)), (3, .int v3), (4, .int s.1), (5, .int s.2.1)] [] (h_lp (fX8_later_L6 v3) i s) := by
  refine x_loop (Ms := fun s : Int32 × Int32 × hMem => s.2.2) (Ls := fun s : Int32 × Int32 × hMem => [(0, .ref (h_b Z + 40)), (3, .int v3), (4, .int s.1), (5, .int s.2.1)]) ?_
  intro k6 hk6 s
  show hW Z rtM s.2.2 6 [(0, .ref (h_b Z + 40)), (3, .int v3), (4, .int s.1), (5, .int s.2.1)] [] (fX8_later_L6 v3 k6 s)
  unfold fX8_later_L6
  refine x_iload hz dX8_later_6 3 rfl ?_
  refine x_iload_n hz dX8_later_8 rfl 1 rfl ?_
  refine x_icmp_ge hz dX8_later_9 ?_ ?_
  · refine x_iload hz dX8_later_28 2 rfl ?_
    exact x_iret hz rfl dX8_later_30
  refine x_aload_n hz dX8_later_12 rfl 0 rfl ?_
  refine x_iload hz dX8_later_13 3 rfl ?_
  refine x_iload hz dX8_later_15 2 rfl ?_
  refine x_bind (fun q17 hq17 => ?_)
  refine x_callV hz mv_X8_85 sx_40 (by decide) rfl rfl (kX8_next (n := n) s.2.1 s.1 s.2.2 q17 hq17) rfl (av := [.int s.2.1, .int s.1]) (rest := []) rfl rfl (Nat.le_of_ble_eq_true rfl) dX8_later_17 ?_
  refine x_istore hz [(4, .int q17.1), (0, .ref (h_b Z + 40)), (3, .int v3), (5, .int s.2.1)] dX8_later_20 rfl rfl ?_
  refine x_iinc hz (s.2.1 + 1) [(5, .int (s.2.1 + 1)), (4, .int q17.1), (0, .ref (h_b Z + 40)), (3, .int v3)] dX8_later_22 3 rfl rfl rfl rfl ?_
  refine x_goto hz dX8_later_25 ?_
  exact x_sub [2, 3, 1, 0] rfl (hk6 (q17.1, s.2.1 + 1, q17.2))
set_option maxRecDepth 10000 in
set_option maxHeartbeats 4000000 in
theorem wX8_later {Z : hZ} {n : Nat} (hz : hOK Z hYx cX8_later RX8 6 (n + 4) (some .int)) (a1 : Int32) (a2 : Int32) (a3 : Int32) (M : hMem) : hW Z rtM M 0 [(0, .ref (h_b Z + 40)), (1, .int a1), (2, .int a2), (3, .int a3)] [] (fX8_later a1 a2 a3 M) := by
  unfold fX8_later
  refine x_iload_n hz dX8_later_0 rfl 1 rfl ?_
  refine x_istore hz [(4, .int a1), (0, .ref (h_b Z + 40)), (1, .int a1), (2, .int a2), (3, .int a3)] dX8_later_1 rfl rfl ?_
  refine x_iload_n hz dX8_later_3 rfl 3 rfl ?_
  refine x_istore hz [(5, .int a2), (4, .int a1), (0, .ref (h_b Z + 40)), (1, .int a1), (2, .int a2), (3, .int a3)] dX8_later_4 rfl rfl ?_
  exact x_sub [2, 5, 1, 0] rfl (wX8_later_L6 hz a3 h_FU (a1, a2, M))
theorem kX8_later {l : Launch} {dd : hDD} {b n : Nat} (a1 : Int32) (a2 : Int32) (a3 : Int32) (M : hMem) (r : Int32 × hMem) (h : fX8_later a1 a2 a3 M = some r) : hC l hYx dd b yX8_later cX8_later 6 (some .int) (n + 4) [.ref (b + 40), .int a1, .int a2, .int a3] M (some (.int r.1), r.2) :=
  h_met (av := fun b => [.ref (b + 40), .int a1, .int a2, .int a3]) (rt := rtM) (by decide) (Nat.le_of_ble_eq_true rfl) (fun Z hz => wX8_later (n := n) hz a1 a2 a3 M) r h
set_option maxRecDepth 10000 in
set_option maxHeartbeats 4000000 in
theorem wX9_at {Z : hZ} {n : Nat} (hz : hOK Z hYx cX9_at RX9 5 (n + 5) (some .int)) (a1 : Int32) (a2 : Int32) (a3 : Int32) (M : hMem) : hW Z rtM M 0 [(0, .ref (h_b Z + 0)), (1, .int a1), (2, .int a2), (3, .int a3)] [] (fX9_at a1 a2 a3 M) := by
  unfold fX9_at
  refine x_aload_n hz dX9_at_0 rfl 0 rfl ?_
  refine x_iload_n hz dX9_at_1 rfl 1 rfl ?_
  refine x_callV hz mv_X9_171 sx_0 (by decide) rfl rfl (kX9_isHat (n := (n + 4)) a1 M) rfl (av := [.int a1]) (rest := []) rfl rfl (Nat.le_of_ble_eq_true rfl) dX9_at_2 ?_
  refine x_if_ne hz dX9_at_5 ?_ ?_
  · refine x_iload_n hz dX9_at_11 rfl 2 rfl ?_
    refine x_callS hz ms_X9_127 (kX9_isBehind (n := (n + 4)) a2 M) rfl (av := [.int a2]) (rest := []) rfl rfl (Nat.le_of_ble_eq_true rfl) dX9_at_12 ?_
    refine x_if_eq hz dX9_at_15 ?_ ?_
    · refine x_bipush hz (-7) dX9_at_25 rfl ?_
      exact x_iret hz rfl dX9_at_27
    refine x_iload_n hz dX9_at_18 rfl 3 rfl ?_
    refine x_callS hz ms_X9_204 (kX9_isZeroOrOne (n := (n + 4)) a3 M) rfl (av := [.int a3]) (rest := []) rfl rfl (Nat.le_of_ble_eq_true rfl) dX9_at_19 ?_
    refine x_if_ne hz dX9_at_22 ?_ ?_
    · refine x_aload_n hz dX9_at_28 rfl 0 rfl ?_
      refine x_iload_n hz dX9_at_29 rfl 1 rfl ?_
      refine x_bind (fun q30 hq30 => ?_)
      refine x_callV hz mv_X9_207 sx_0 (by decide) rfl rfl (kX9_think (n := (n + 2)) a1 M q30 hq30) rfl (av := [.int a1]) (rest := []) rfl rfl (Nat.le_of_ble_eq_true rfl) dX9_at_30 ?_
      refine x_aload_n hz dX9_at_33 rfl 0 rfl ?_
      refine x_getr hz sx_0 fl_X9_49 rfl rx_0_7 (by decide) dX9_at_34 ?_
      refine x_aload_n hz dX9_at_37 rfl 0 rfl ?_
      refine x_getr hz sx_0 fl_X9_49 rfl rx_0_7 (by decide) dX9_at_38 ?_
      refine x_geti hz sx_40 fl_X9_210 rfl dX9_at_41 ?_
      refine x_iconst hz 0 dX9_at_44 rfl ?_
      refine x_iload_n hz dX9_at_45 rfl 2 rfl ?_
      refine x_bind (fun q46 hq46 => ?_)
      refine x_callV hz mv_X9_213 sx_40 (by decide) rfl rfl (kX8_later (n := n) (q30 40 5) 0 a2 q30 q46 hq46) rfl (av := [.int (q30 40 5), .int 0, .int a2]) (rest := []) rfl rfl (Nat.le_of_ble_eq_true rfl) dX9_at_46 ?_
      refine x_istore hz [(4, .int q46.1), (0, .ref (h_b Z + 0)), (1, .int a1), (2, .int a2), (3, .int a3)] dX9_at_49 rfl rfl ?_
      refine x_iload_n hz dX9_at_51 rfl 4 rfl ?_
      refine x_if_ne hz dX9_at_52 ?_ ?_
      · refine x_iload hz dX9_at_63 0 rfl ?_
        refine x_callS hz ms_X9_177 (kX9_lieOf (n := (n + 4)) q46.1 q46.2) rfl (av := [.int q46.1]) (rest := []) rfl rfl (Nat.le_of_ble_eq_true rfl) dX9_at_65 ?_
        exact x_iret hz rfl dX9_at_68
      refine x_iload hz dX9_at_55 0 rfl ?_
      refine x_callS hz ms_X9_174 (kX9_squareOf (n := (n + 4)) q46.1 q46.2) rfl (av := [.int q46.1]) (rest := []) rfl rfl (Nat.le_of_ble_eq_true rfl) dX9_at_57 ?_
      refine x_goto hz dX9_at_60 ?_
      exact x_iret hz rfl dX9_at_68
    refine x_bipush hz (-7) dX9_at_25 rfl ?_
    exact x_iret hz rfl dX9_at_27
  refine x_bipush hz (-5) dX9_at_8 rfl ?_
  exact x_iret hz rfl dX9_at_10
theorem kX9_at {l : Launch} {dd : hDD} {b n : Nat} (a1 : Int32) (a2 : Int32) (a3 : Int32) (M : hMem) (r : Int32 × hMem) (h : fX9_at a1 a2 a3 M = some r) : hC l hYx dd b yX9_at cX9_at 5 (some .int) (n + 5) [.ref (b + 0), .int a1, .int a2, .int a3] M (some (.int r.1), r.2) :=
  h_met (av := fun b => [.ref (b + 0), .int a1, .int a2, .int a3]) (rt := rtM) (by decide) (Nat.le_of_ble_eq_true rfl) (fun Z hz => wX9_at (n := n) hz a1 a2 a3 M) r h
set_option maxRecDepth 10000 in
set_option maxHeartbeats 4000000 in
theorem wX9_letPass_L2 {Z : hZ} {n : Nat} (hz : hOK Z hYx cX9_letPass RX9 3 (n + 5) none)  (v1 : Int32)   : ∀ (i : Nat) (s : Int32 × hMem), hW Z rtV s.2 2 [(0, .ref (h_b Z + 0)), (1, .int v1), (2, .int s.1)] [] (h_lp (fX9_letPass_L2 v1) i s) := by
  refine x_loop (Ms := fun s : Int32 × hMem => s.2) (Ls := fun s : Int32 × hMem => [(0, .ref (h_b Z + 0)), (1, .int v1), (2, .int s.1)]) ?_
  intro k2 hk2 s
  show hW Z rtV s.2 2 [(0, .ref (h_b Z + 0)), (1, .int v1), (2, .int s.1)] [] (fX9_letPass_L2 v1 k2 s)
  unfold fX9_letPass_L2
  refine x_iload_n hz dX9_letPass_2 rfl 2 rfl ?_
  refine x_aload_n hz dX9_letPass_3 rfl 0 rfl ?_
  refine x_getr hz sx_0 fl_X9_12 rfl rx_0_0 (by decide) dX9_letPass_4 ?_
  refine x_geti hz sx_1 fl_X9_112 rfl dX9_letPass_7 ?_
  refine x_icmp_ge hz dX9_letPass_10 ?_ ?_
  · exact x_vret hz rfl dX9_letPass_52
  refine x_aload_n hz dX9_letPass_13 rfl 0 rfl ?_
  refine x_iload_n hz dX9_letPass_14 rfl 2 rfl ?_
  refine x_bind (fun q15 hq15 => ?_)
  refine x_callV hz mv_X9_207 sx_0 (by decide) rfl rfl (kX9_think (n := (n + 2)) s.1 s.2 q15 hq15) rfl (av := [.int s.1]) (rest := []) rfl rfl (Nat.le_of_ble_eq_true rfl) dX9_letPass_15 ?_
  refine x_aload_n hz dX9_letPass_18 rfl 0 rfl ?_
  refine x_getr hz sx_0 fl_X9_12 rfl rx_0_0 (by decide) dX9_letPass_19 ?_
  refine x_getr hz sx_1 fl_X9_160 rfl rx_1_3 (by decide) dX9_letPass_22 ?_
  refine x_iload_n hz dX9_letPass_25 rfl 2 rfl ?_
  refine x_guard (fun hi26 => ?_)
  refine x_aald0 hz (q := (7 + s.1.toNatClampNeg)) 1 (fun _ => rfl) sx_5 (by decide) hi26 rfl (by omega) dX9_letPass_26 ?_
  refine x_aload_n hz dX9_letPass_27 rfl 0 rfl ?_
  refine x_getr hz sx_0 fl_X9_49 rfl rx_0_7 (by decide) dX9_letPass_28 ?_
  refine x_aload_n hz dX9_letPass_31 rfl 0 rfl ?_
  refine x_getr hz sx_0 fl_X9_49 rfl rx_0_7 (by decide) dX9_letPass_32 ?_
  refine x_geti hz sx_40 fl_X9_210 rfl dX9_letPass_35 ?_
  refine x_iconst hz 0 dX9_letPass_38 rfl ?_
  refine x_iload_n hz dX9_letPass_39 rfl 1 rfl ?_
  refine x_bind (fun q40 hq40 => ?_)
  refine x_callV hz mv_X9_213 sx_40 (by decide) rfl rfl (kX8_later (n := n) (q15 40 5) 0 v1 q15 q40 hq40) rfl (av := [.int (q15 40 5), .int 0, .int v1]) (rest := [.ref (h_b Z + (7 + s.1.toNatClampNeg))]) rfl rfl (Nat.le_of_ble_eq_true rfl) dX9_letPass_40 ?_
  refine x_puti hz (ge_5 hi26) fp_X9_168 rfl dX9_letPass_43 ?_
  refine x_iinc hz (s.1 + 1) [(2, .int (s.1 + 1)), (0, .ref (h_b Z + 0)), (1, .int v1)] dX9_letPass_46 2 rfl rfl rfl rfl ?_
  refine x_goto hz dX9_letPass_49 ?_
  exact x_sub [1, 2, 0] rfl (hk2 (s.1 + 1, h_up q40.2 (7 + s.1.toNatClampNeg) 2 q40.1))
set_option maxRecDepth 10000 in
set_option maxHeartbeats 4000000 in
theorem wX9_letPass {Z : hZ} {n : Nat} (hz : hOK Z hYx cX9_letPass RX9 3 (n + 5) none) (a1 : Int32) (M : hMem) : hW Z rtV M 0 [(0, .ref (h_b Z + 0)), (1, .int a1)] [] (fX9_letPass a1 M) := by
  unfold fX9_letPass
  refine x_iconst hz 0 dX9_letPass_0 rfl ?_
  refine x_istore_n hz [(2, .int 0), (0, .ref (h_b Z + 0)), (1, .int a1)] dX9_letPass_1 rfl rfl rfl ?_
  exact x_sub [1, 2, 0] rfl (wX9_letPass_L2 hz a1 h_FU (0, M))
theorem kX9_letPass {l : Launch} {dd : hDD} {b n : Nat} (a1 : Int32) (M : hMem) (r : hMem) (h : fX9_letPass a1 M = some r) : hC l hYx dd b yX9_letPass cX9_letPass 3 none (n + 5) [.ref (b + 0), .int a1] M (none, r) :=
  h_met (av := fun b => [.ref (b + 0), .int a1]) (rt := rtV) (by decide) (Nat.le_of_ble_eq_true rfl) (fun Z hz => wX9_letPass (n := n) hz a1 M) r h
set_option maxRecDepth 10000 in
set_option maxHeartbeats 4000000 in
theorem wX9_pass_L19 {Z : hZ} {n : Nat} (hz : hOK Z hYx cX9_pass RX9 4 (n + 6) (some .int))   (M : hMem)  : ∀ (i : Nat) (s : Int32 × Int32), hW Z rtM M 19 [(0, .ref (h_b Z + 0)), (2, .int s.1), (3, .int s.2)] [] (h_lp (fX9_pass_L19 M) i s) := by
  refine x_loop (Ms := fun s : Int32 × Int32 => M) (Ls := fun s : Int32 × Int32 => [(0, .ref (h_b Z + 0)), (2, .int s.1), (3, .int s.2)]) ?_
  intro k19 hk19 s
  show hW Z rtM M 19 [(0, .ref (h_b Z + 0)), (2, .int s.1), (3, .int s.2)] [] (fX9_pass_L19 M k19 s)
  unfold fX9_pass_L19
  refine x_iload_n hz dX9_pass_19 rfl 2 rfl ?_
  refine x_aload_n hz dX9_pass_20 rfl 0 rfl ?_
  refine x_getr hz sx_0 fl_X9_12 rfl rx_0_0 (by decide) dX9_pass_21 ?_
  refine x_geti hz sx_1 fl_X9_112 rfl dX9_pass_24 ?_
  refine x_icmp_ge hz dX9_pass_27 ?_ ?_
  · refine x_iload_n hz dX9_pass_66 rfl 1 rfl ?_
    exact x_iret hz rfl dX9_pass_67
  refine x_iload_n hz dX9_pass_30 rfl 1 rfl ?_
  refine x_aload_n hz dX9_pass_31 rfl 0 rfl ?_
  refine x_getr hz sx_0 fl_X9_12 rfl rx_0_0 (by decide) dX9_pass_32 ?_
  refine x_getr hz sx_1 fl_X9_96 rfl rx_1_0 (by decide) dX9_pass_35 ?_
  refine x_iconst hz 1 dX9_pass_38 rfl ?_
  refine x_iald0 hz sx_2 (by decide) (v := M 2 1) rfl dX9_pass_39 ?_
  refine x_aload_n hz dX9_pass_40 rfl 0 rfl ?_
  refine x_getr hz sx_0 fl_X9_12 rfl rx_0_0 (by decide) dX9_pass_41 ?_
  refine x_getr hz sx_1 fl_X9_160 rfl rx_1_3 (by decide) dX9_pass_44 ?_
  refine x_iload_n hz dX9_pass_47 rfl 2 rfl ?_
  refine x_guard (fun hi48 => ?_)
  refine x_aald0 hz (q := (7 + s.2.toNatClampNeg)) 1 (fun _ => rfl) sx_5 (by decide) hi48 rfl (by omega) dX9_pass_48 ?_
  refine x_geti hz (ge_5 hi48) fl_X9_168 rfl dX9_pass_49 ?_
  refine x_callS hz ms_X9_174 (kX9_squareOf (n := (n + 5)) (M (7 + s.2.toNatClampNeg) 2) M) rfl (av := [.int (M (7 + s.2.toNatClampNeg) 2)]) (rest := [.int (M 2 1), .int s.1]) rfl rfl (Nat.le_of_ble_eq_true rfl) dX9_pass_52 ?_
  refine x_iushr hz dX9_pass_55 ?_
  refine x_iconst hz 1 dX9_pass_56 rfl ?_
  refine x_iand hz dX9_pass_57 ?_
  refine x_iadd hz dX9_pass_58 ?_
  refine x_istore_n hz [(2, .int (s.1 + ((h_ushr (M 2 1) (fX9_squareOf (M (7 + s.2.toNatClampNeg) 2) M)) &&& 1))), (0, .ref (h_b Z + 0)), (3, .int s.2)] dX9_pass_59 rfl rfl rfl ?_
  refine x_iinc hz (s.2 + 1) [(3, .int (s.2 + 1)), (2, .int (s.1 + ((h_ushr (M 2 1) (fX9_squareOf (M (7 + s.2.toNatClampNeg) 2) M)) &&& 1))), (0, .ref (h_b Z + 0))] dX9_pass_60 2 rfl rfl rfl rfl ?_
  refine x_goto hz dX9_pass_63 ?_
  exact x_sub [2, 1, 0] rfl (hk19 (s.1 + ((h_ushr (M 2 1) (fX9_squareOf (M (7 + s.2.toNatClampNeg) 2) M)) &&& 1), s.2 + 1))
set_option maxRecDepth 10000 in
set_option maxHeartbeats 4000000 in
theorem wX9_pass {Z : hZ} {n : Nat} (hz : hOK Z hYx cX9_pass RX9 4 (n + 6) (some .int)) (a1 : Int32) (M : hMem) : hW Z rtM M 0 [(0, .ref (h_b Z + 0)), (1, .int a1)] [] (fX9_pass a1 M) := by
  unfold fX9_pass
  refine x_iload_n hz dX9_pass_0 rfl 1 rfl ?_
  refine x_callS hz ms_X9_127 (kX9_isBehind (n := (n + 5)) a1 M) rfl (av := [.int a1]) (rest := []) rfl rfl (Nat.le_of_ble_eq_true rfl) dX9_pass_1 ?_
  refine x_if_ne hz dX9_pass_4 ?_ ?_
  · refine x_aload_n hz dX9_pass_10 rfl 0 rfl ?_
    refine x_iload_n hz dX9_pass_11 rfl 1 rfl ?_
    refine x_bind (fun q12 hq12 => ?_)
    refine x_callV hz mv_X9_217 sx_0 (by decide) rfl rfl (kX9_letPass (n := n) a1 M q12 hq12) rfl (av := [.int a1]) (rest := []) rfl rfl (Nat.le_of_ble_eq_true rfl) dX9_pass_12 ?_
    refine x_iconst hz 0 dX9_pass_15 rfl ?_
    refine x_istore_n hz [(2, .int 0), (0, .ref (h_b Z + 0)), (1, .int a1)] dX9_pass_16 rfl rfl rfl ?_
    refine x_iconst hz 0 dX9_pass_17 rfl ?_
    refine x_istore_n hz [(3, .int 0), (2, .int 0), (0, .ref (h_b Z + 0)), (1, .int a1)] dX9_pass_18 rfl rfl rfl ?_
    exact x_sub [2, 1, 0] rfl (wX9_pass_L19 hz q12 h_FU (0, 0))
  refine x_bipush hz (-2) dX9_pass_7 rfl ?_
  exact x_iret hz rfl dX9_pass_9
theorem kX9_pass {l : Launch} {dd : hDD} {b n : Nat} (a1 : Int32) (M : hMem) (r : Int32 × hMem) (h : fX9_pass a1 M = some r) : hC l hYx dd b yX9_pass cX9_pass 4 (some .int) (n + 6) [.ref (b + 0), .int a1] M (some (.int r.1), r.2) :=
  h_met (av := fun b => [.ref (b + 0), .int a1]) (rt := rtM) (by decide) (Nat.le_of_ble_eq_true rfl) (fun Z hz => wX9_pass (n := n) hz a1 M) r h
set_option maxRecDepth 10000 in
set_option maxHeartbeats 4000000 in
theorem wX8_follow_L9 {Z : hZ} {n : Nat} (hz : hOK Z hYx cX8_follow RX8 3 (n + 4) none)  (v1 : Nat) (hv1 : h_is hYx v1 10 25)   : ∀ (i : Nat) (s : Int32 × hMem), hW Z rtV s.2 9 [(0, .ref (h_b Z + 40)), (1, .ref (h_b Z + v1)), (2, .int s.1)] [] (h_lp (fX8_follow_L9 v1) i s) := by
  refine x_loop (Ms := fun s : Int32 × hMem => s.2) (Ls := fun s : Int32 × hMem => [(0, .ref (h_b Z + 40)), (1, .ref (h_b Z + v1)), (2, .int s.1)]) ?_
  intro k9 hk9 s
  show hW Z rtV s.2 9 [(0, .ref (h_b Z + 40)), (1, .ref (h_b Z + v1)), (2, .int s.1)] [] (fX8_follow_L9 v1 k9 s)
  unfold fX8_follow_L9
  refine x_iload_n hz dX8_follow_9 rfl 2 rfl ?_
  refine x_bipush hz 24 dX8_follow_10 rfl ?_
  refine x_icmp_ge hz dX8_follow_12 ?_ ?_
  · exact x_vret hz rfl dX8_follow_34
  refine x_aload_n hz dX8_follow_15 rfl 1 rfl ?_
  refine x_iload_n hz dX8_follow_16 rfl 2 rfl ?_
  refine x_iconst hz 1 dX8_follow_17 rfl ?_
  refine x_iadd hz dX8_follow_18 ?_
  refine x_aload_n hz dX8_follow_19 rfl 0 rfl ?_
  refine x_iload_n hz dX8_follow_20 rfl 2 rfl ?_
  refine x_aload_n hz dX8_follow_21 rfl 1 rfl ?_
  refine x_iload_n hz dX8_follow_22 rfl 2 rfl ?_
  refine x_iald hz hv1 dX8_follow_23 (fun hi23 => ?_)
  refine x_bind (fun q24 hq24 => ?_)
  refine x_callV hz mv_X8_85 sx_40 (by decide) rfl rfl (kX8_next (n := n) s.1 (s.2 v1 s.1.toNatClampNeg) s.2 q24 hq24) rfl (av := [.int s.1, .int (s.2 v1 s.1.toNatClampNeg)]) (rest := [.int (s.1 + 1), .ref (h_b Z + v1)]) rfl rfl (Nat.le_of_ble_eq_true rfl) dX8_follow_24 ?_
  refine x_iast hz hv1 dX8_follow_27 (fun hi27 => ?_)
  refine x_iinc hz (s.1 + 1) [(2, .int (s.1 + 1)), (0, .ref (h_b Z + 40)), (1, .ref (h_b Z + v1))] dX8_follow_28 2 rfl rfl rfl rfl ?_
  refine x_goto hz dX8_follow_31 ?_
  exact x_sub [1, 2, 0] rfl (hk9 (s.1 + 1, h_up q24.2 v1 (s.1 + 1).toNatClampNeg q24.1))
set_option maxRecDepth 10000 in
set_option maxHeartbeats 4000000 in
theorem wX8_follow {Z : hZ} {n : Nat} (hz : hOK Z hYx cX8_follow RX8 3 (n + 4) none) (a1 : Nat) (M : hMem) : hW Z rtV M 0 [(0, .ref (h_b Z + 40)), (1, .ref (h_b Z + a1))] [] (fX8_follow a1 M) := by
  unfold fX8_follow
  refine x_guard (fun hpa1 => ?_)
  refine x_aload_n hz dX8_follow_0 rfl 1 rfl ?_
  refine x_iconst hz 0 dX8_follow_1 rfl ?_
  refine x_aload_n hz dX8_follow_2 rfl 0 rfl ?_
  refine x_geti hz sx_40 fl_X8_67 rfl dX8_follow_3 ?_
  refine x_iast0 hz (h_isB_is hpa1) (by decide) (j := 0) rfl dX8_follow_6 ?_
  refine x_iconst hz 0 dX8_follow_7 rfl ?_
  refine x_istore_n hz [(2, .int 0), (0, .ref (h_b Z + 40)), (1, .ref (h_b Z + a1))] dX8_follow_8 rfl rfl rfl ?_
  exact x_sub [1, 2, 0] rfl (wX8_follow_L9 hz a1 (h_isB_is hpa1) h_FU (0, h_up M a1 0 (M 40 5)))
theorem kX8_follow {l : Launch} {dd : hDD} {b n : Nat} (a1 : Nat) (M : hMem) (r : hMem) (h : fX8_follow a1 M = some r) : hC l hYx dd b yX8_follow cX8_follow 3 none (n + 4) [.ref (b + 40), .ref (b + a1)] M (none, r) :=
  h_met (av := fun b => [.ref (b + 40), .ref (b + a1)]) (rt := rtV) (by decide) (Nat.le_of_ble_eq_true rfl) (fun Z hz => wX8_follow (n := n) hz a1 M) r h
set_option maxRecDepth 10000 in
set_option maxHeartbeats 4000000 in
theorem wX8_firstIn_L10 {Z : hZ} {n : Nat} (hz : hOK Z hYx cX8_firstIn RX8 3 (n + 5) (some .int))  (v1 : Int32) (M : hMem)  : ∀ (i : Nat) (s : Int32), hW Z rtM M 10 [(0, .ref (h_b Z + 40)), (1, .int v1), (2, .int s)] [] (h_lp (fX8_firstIn_L10 v1 M) i s) := by
  refine x_loop (Ms := fun s : Int32 => M) (Ls := fun s : Int32 => [(0, .ref (h_b Z + 40)), (1, .int v1), (2, .int s)]) ?_
  intro k10 hk10 s
  show hW Z rtM M 10 [(0, .ref (h_b Z + 40)), (1, .int v1), (2, .int s)] [] (fX8_firstIn_L10 v1 M k10 s)
  unfold fX8_firstIn_L10
  refine x_iload_n hz dX8_firstIn_10 rfl 2 rfl ?_
  refine x_bipush hz 24 dX8_firstIn_11 rfl ?_
  refine x_icmp_gt hz dX8_firstIn_13 ?_ ?_
  · refine x_iconst hz (-1) dX8_firstIn_40 rfl ?_
    exact x_iret hz rfl dX8_firstIn_41
  refine x_iload_n hz dX8_firstIn_16 rfl 1 rfl ?_
  refine x_aload_n hz dX8_firstIn_17 rfl 0 rfl ?_
  refine x_getr hz sx_40 fl_X8_25 rfl rx_40_9 (by decide) dX8_firstIn_18 ?_
  refine x_iload_n hz dX8_firstIn_21 rfl 2 rfl ?_
  refine x_iald hz sx_47 dX8_firstIn_22 (fun hi22 => ?_)
  refine x_callN hz mn_X8_82 (kX9_squareOf (n := (n + 4)) (M 47 s.toNatClampNeg) M) rfl (av := [.int (M 47 s.toNatClampNeg)]) (rest := [.int v1]) rfl rfl (Nat.le_of_ble_eq_true rfl) dX8_firstIn_23 ?_
  refine x_iushr hz dX8_firstIn_26 ?_
  refine x_iconst hz 1 dX8_firstIn_27 rfl ?_
  refine x_iand hz dX8_firstIn_28 ?_
  refine x_if_eq hz dX8_firstIn_29 ?_ ?_
  · refine x_iinc hz (s + 1) [(2, .int (s + 1)), (0, .ref (h_b Z + 40)), (1, .int v1)] dX8_firstIn_34 2 rfl rfl rfl rfl ?_
    refine x_goto hz dX8_firstIn_37 ?_
    exact x_sub [1, 2, 0] rfl (hk10 (s + 1))
  refine x_iload_n hz dX8_firstIn_32 rfl 2 rfl ?_
  exact x_iret hz rfl dX8_firstIn_33
set_option maxRecDepth 10000 in
set_option maxHeartbeats 4000000 in
theorem wX8_firstIn {Z : hZ} {n : Nat} (hz : hOK Z hYx cX8_firstIn RX8 3 (n + 5) (some .int)) (a1 : Int32) (M : hMem) : hW Z rtM M 0 [(0, .ref (h_b Z + 40)), (1, .int a1)] [] (fX8_firstIn a1 M) := by
  unfold fX8_firstIn
  refine x_aload_n hz dX8_firstIn_0 rfl 0 rfl ?_
  refine x_aload_n hz dX8_firstIn_1 rfl 0 rfl ?_
  refine x_getr hz sx_40 fl_X8_25 rfl rx_40_9 (by decide) dX8_firstIn_2 ?_
  refine x_bind (fun q5 hq5 => ?_)
  refine x_callV hz mv_X8_129 sx_40 (by decide) rfl rfl (kX8_follow (n := n) 47 M q5 hq5) rfl (av := [.ref (h_b Z + 47)]) (rest := []) rfl rfl (Nat.le_of_ble_eq_true rfl) dX8_firstIn_5 ?_
  refine x_iconst hz 0 dX8_firstIn_8 rfl ?_
  refine x_istore_n hz [(2, .int 0), (0, .ref (h_b Z + 40)), (1, .int a1)] dX8_firstIn_9 rfl rfl rfl ?_
  exact x_sub [1, 2, 0] rfl (wX8_firstIn_L10 hz a1 q5 h_FU 0)
theorem kX8_firstIn {l : Launch} {dd : hDD} {b n : Nat} (a1 : Int32) (M : hMem) (r : Int32 × hMem) (h : fX8_firstIn a1 M = some r) : hC l hYx dd b yX8_firstIn cX8_firstIn 3 (some .int) (n + 5) [.ref (b + 40), .int a1] M (some (.int r.1), r.2) :=
  h_met (av := fun b => [.ref (b + 40), .int a1]) (rt := rtM) (by decide) (Nat.le_of_ble_eq_true rfl) (fun Z hz => wX8_firstIn (n := n) hz a1 M) r h
set_option maxRecDepth 10000 in
set_option maxHeartbeats 4000000 in
theorem wX9_when {Z : hZ} {n : Nat} (hz : hOK Z hYx cX9_when RX9 3 (n + 6) (some .int)) (a1 : Int32) (a2 : Int32) (M : hMem) : hW Z rtM M 0 [(0, .ref (h_b Z + 0)), (1, .int a1), (2, .int a2)] [] (fX9_when a1 a2 M) := by
  unfold fX9_when
  refine x_aload_n hz dX9_when_0 rfl 0 rfl ?_
  refine x_iload_n hz dX9_when_1 rfl 1 rfl ?_
  refine x_callV hz mv_X9_171 sx_0 (by decide) rfl rfl (kX9_isHat (n := (n + 5)) a1 M) rfl (av := [.int a1]) (rest := []) rfl rfl (Nat.le_of_ble_eq_true rfl) dX9_when_2 ?_
  refine x_if_ne hz dX9_when_5 ?_ ?_
  · refine x_iload_n hz dX9_when_11 rfl 2 rfl ?_
    refine x_callS hz ms_X9_86 (kX9_isSquare (n := (n + 5)) a2 M) rfl (av := [.int a2]) (rest := []) rfl rfl (Nat.le_of_ble_eq_true rfl) dX9_when_12 ?_
    refine x_if_ne hz dX9_when_15 ?_ ?_
    · refine x_aload_n hz dX9_when_21 rfl 0 rfl ?_
      refine x_iload_n hz dX9_when_22 rfl 1 rfl ?_
      refine x_bind (fun q23 hq23 => ?_)
      refine x_callV hz mv_X9_207 sx_0 (by decide) rfl rfl (kX9_think (n := (n + 3)) a1 M q23 hq23) rfl (av := [.int a1]) (rest := []) rfl rfl (Nat.le_of_ble_eq_true rfl) dX9_when_23 ?_
      refine x_aload_n hz dX9_when_26 rfl 0 rfl ?_
      refine x_getr hz sx_0 fl_X9_49 rfl rx_0_7 (by decide) dX9_when_27 ?_
      refine x_iconst hz 1 dX9_when_30 rfl ?_
      refine x_iload_n hz dX9_when_31 rfl 2 rfl ?_
      refine x_ishl hz dX9_when_32 ?_
      refine x_bind (fun q33 hq33 => ?_)
      refine x_callV hz mv_X9_220 sx_40 (by decide) rfl rfl (kX8_firstIn (n := n) (1 <<< (a2 &&& 31)) q23 q33 hq33) rfl (av := [.int (1 <<< (a2 &&& 31))]) (rest := []) rfl rfl (Nat.le_of_ble_eq_true rfl) dX9_when_33 ?_
      exact x_iret hz rfl dX9_when_36
    refine x_bipush hz (-7) dX9_when_18 rfl ?_
    exact x_iret hz rfl dX9_when_20
  refine x_bipush hz (-5) dX9_when_8 rfl ?_
  exact x_iret hz rfl dX9_when_10
theorem kX9_when {l : Launch} {dd : hDD} {b n : Nat} (a1 : Int32) (a2 : Int32) (M : hMem) (r : Int32 × hMem) (h : fX9_when a1 a2 M = some r) : hC l hYx dd b yX9_when cX9_when 3 (some .int) (n + 6) [.ref (b + 0), .int a1, .int a2] M (some (.int r.1), r.2) :=
  h_met (av := fun b => [.ref (b + 0), .int a1, .int a2]) (rt := rtM) (by decide) (Nat.le_of_ble_eq_true rfl) (fun Z hz => wX9_when (n := n) hz a1 a2 M) r h
set_option maxRecDepth 10000 in
set_option maxHeartbeats 4000000 in
theorem wX9_track_L41 {Z : hZ} {n : Nat} (hz : hOK Z hYx cX9_track RX9 5 (n + 5) (some .int))  (v2 : Int32) (M : hMem)  : ∀ (i : Nat) (s : Int32 × Int32), hW Z rtM M 41 [(0, .ref (h_b Z + 0)), (2, .int v2), (3, .int s.1), (4, .int s.2)] [] (h_lp (fX9_track_L41 v2 M) i s) := by
  refine x_loop (Ms := fun s : Int32 × Int32 => M) (Ls := fun s : Int32 × Int32 => [(0, .ref (h_b Z + 0)), (2, .int v2), (3, .int s.1), (4, .int s.2)]) ?_
  intro k41 hk41 s
  show hW Z rtM M 41 [(0, .ref (h_b Z + 0)), (2, .int v2), (3, .int s.1), (4, .int s.2)] [] (fX9_track_L41 v2 M k41 s)
  unfold fX9_track_L41
  refine x_iload hz dX9_track_41 3 rfl ?_
  refine x_iload_n hz dX9_track_43 rfl 1 rfl ?_
  refine x_icmp_gt hz dX9_track_44 ?_ ?_
  · refine x_iload_n hz dX9_track_71 rfl 2 rfl ?_
    exact x_iret hz rfl dX9_track_72
  refine x_iload_n hz dX9_track_47 rfl 2 rfl ?_
  refine x_iconst hz 1 dX9_track_48 rfl ?_
  refine x_aload_n hz dX9_track_49 rfl 0 rfl ?_
  refine x_getr hz sx_0 fl_X9_49 rfl rx_0_7 (by decide) dX9_track_50 ?_
  refine x_getr hz sx_40 fl_X9_223 rfl rx_40_9 (by decide) dX9_track_53 ?_
  refine x_iload hz dX9_track_56 3 rfl ?_
  refine x_iald hz sx_47 dX9_track_58 (fun hi58 => ?_)
  refine x_callS hz ms_X9_174 (kX9_squareOf (n := (n + 4)) (M 47 s.2.toNatClampNeg) M) rfl (av := [.int (M 47 s.2.toNatClampNeg)]) (rest := [.int 1, .int s.1]) rfl rfl (Nat.le_of_ble_eq_true rfl) dX9_track_59 ?_
  refine x_ishl hz dX9_track_62 ?_
  refine x_ior hz dX9_track_63 ?_
  refine x_istore_n hz [(3, .int (s.1 ||| (1 <<< ((fX9_squareOf (M 47 s.2.toNatClampNeg) M) &&& 31)))), (0, .ref (h_b Z + 0)), (2, .int v2), (4, .int s.2)] dX9_track_64 rfl rfl rfl ?_
  refine x_iinc hz (s.2 + 1) [(4, .int (s.2 + 1)), (3, .int (s.1 ||| (1 <<< ((fX9_squareOf (M 47 s.2.toNatClampNeg) M) &&& 31)))), (0, .ref (h_b Z + 0)), (2, .int v2)] dX9_track_65 3 rfl rfl rfl rfl ?_
  refine x_goto hz dX9_track_68 ?_
  exact x_sub [2, 3, 1, 0] rfl (hk41 (s.1 ||| (1 <<< ((fX9_squareOf (M 47 s.2.toNatClampNeg) M) &&& 31)), s.2 + 1))
set_option maxRecDepth 10000 in
set_option maxHeartbeats 4000000 in
theorem wX9_track {Z : hZ} {n : Nat} (hz : hOK Z hYx cX9_track RX9 5 (n + 5) (some .int)) (a1 : Int32) (a2 : Int32) (M : hMem) : hW Z rtM M 0 [(0, .ref (h_b Z + 0)), (1, .int a1), (2, .int a2)] [] (fX9_track a1 a2 M) := by
  unfold fX9_track
  refine x_aload_n hz dX9_track_0 rfl 0 rfl ?_
  refine x_iload_n hz dX9_track_1 rfl 1 rfl ?_
  refine x_callV hz mv_X9_171 sx_0 (by decide) rfl rfl (kX9_isHat (n := (n + 4)) a1 M) rfl (av := [.int a1]) (rest := []) rfl rfl (Nat.le_of_ble_eq_true rfl) dX9_track_2 ?_
  refine x_if_eq hz dX9_track_5 ?_ ?_
  · refine x_iconst hz 0 dX9_track_15 rfl ?_
    exact x_iret hz rfl dX9_track_16
  refine x_iload_n hz dX9_track_8 rfl 2 rfl ?_
  refine x_callS hz ms_X9_127 (kX9_isBehind (n := (n + 4)) a2 M) rfl (av := [.int a2]) (rest := []) rfl rfl (Nat.le_of_ble_eq_true rfl) dX9_track_9 ?_
  refine x_if_ne hz dX9_track_12 ?_ ?_
  · refine x_aload_n hz dX9_track_17 rfl 0 rfl ?_
    refine x_iload_n hz dX9_track_18 rfl 1 rfl ?_
    refine x_bind (fun q19 hq19 => ?_)
    refine x_callV hz mv_X9_207 sx_0 (by decide) rfl rfl (kX9_think (n := (n + 2)) a1 M q19 hq19) rfl (av := [.int a1]) (rest := []) rfl rfl (Nat.le_of_ble_eq_true rfl) dX9_track_19 ?_
    refine x_aload_n hz dX9_track_22 rfl 0 rfl ?_
    refine x_getr hz sx_0 fl_X9_49 rfl rx_0_7 (by decide) dX9_track_23 ?_
    refine x_aload_n hz dX9_track_26 rfl 0 rfl ?_
    refine x_getr hz sx_0 fl_X9_49 rfl rx_0_7 (by decide) dX9_track_27 ?_
    refine x_getr hz sx_40 fl_X9_223 rfl rx_40_9 (by decide) dX9_track_30 ?_
    refine x_bind (fun q33 hq33 => ?_)
    refine x_callV hz mv_X9_226 sx_40 (by decide) rfl rfl (kX8_follow (n := n) 47 q19 q33 hq33) rfl (av := [.ref (h_b Z + 47)]) (rest := []) rfl rfl (Nat.le_of_ble_eq_true rfl) dX9_track_33 ?_
    refine x_iconst hz 0 dX9_track_36 rfl ?_
    refine x_istore_n hz [(3, .int 0), (0, .ref (h_b Z + 0)), (1, .int a1), (2, .int a2)] dX9_track_37 rfl rfl rfl ?_
    refine x_iconst hz 0 dX9_track_38 rfl ?_
    refine x_istore hz [(4, .int 0), (3, .int 0), (0, .ref (h_b Z + 0)), (1, .int a1), (2, .int a2)] dX9_track_39 rfl rfl ?_
    exact x_sub [2, 4, 1, 0] rfl (wX9_track_L41 hz a2 q33 h_FU (0, 0))
  refine x_iconst hz 0 dX9_track_15 rfl ?_
  exact x_iret hz rfl dX9_track_16
theorem kX9_track {l : Launch} {dd : hDD} {b n : Nat} (a1 : Int32) (a2 : Int32) (M : hMem) (r : Int32 × hMem) (h : fX9_track a1 a2 M = some r) : hC l hYx dd b yX9_track cX9_track 5 (some .int) (n + 5) [.ref (b + 0), .int a1, .int a2] M (some (.int r.1), r.2) :=
  h_met (av := fun b => [.ref (b + 0), .int a1, .int a2]) (rt := rtM) (by decide) (Nat.le_of_ble_eq_true rfl) (fun Z hz => wX9_track (n := n) hz a1 a2 M) r h
set_option maxRecDepth 10000 in
set_option maxHeartbeats 4000000 in
theorem wX9_over {Z : hZ} {n : Nat} (hz : hOK Z hYx cX9_over RX9 2 (n + 6) (some .int)) (a1 : Int32) (M : hMem) : hW Z rtM M 0 [(0, .ref (h_b Z + 0)), (1, .int a1)] [] (fX9_over a1 M) := by
  unfold fX9_over
  refine x_aload_n hz dX9_over_0 rfl 0 rfl ?_
  refine x_iload_n hz dX9_over_1 rfl 1 rfl ?_
  refine x_callV hz mv_X9_171 sx_0 (by decide) rfl rfl (kX9_isHat (n := (n + 5)) a1 M) rfl (av := [.int a1]) (rest := []) rfl rfl (Nat.le_of_ble_eq_true rfl) dX9_over_2 ?_
  refine x_if_ne hz dX9_over_5 ?_ ?_
  · refine x_aload_n hz dX9_over_11 rfl 0 rfl ?_
    refine x_iload_n hz dX9_over_12 rfl 1 rfl ?_
    refine x_bind (fun q13 hq13 => ?_)
    refine x_callV hz mv_X9_207 sx_0 (by decide) rfl rfl (kX9_think (n := (n + 3)) a1 M q13 hq13) rfl (av := [.int a1]) (rest := []) rfl rfl (Nat.le_of_ble_eq_true rfl) dX9_over_13 ?_
    refine x_aload_n hz dX9_over_16 rfl 0 rfl ?_
    refine x_getr hz sx_0 fl_X9_49 rfl rx_0_7 (by decide) dX9_over_17 ?_
    refine x_aload_n hz dX9_over_20 rfl 0 rfl ?_
    refine x_getr hz sx_0 fl_X9_49 rfl rx_0_7 (by decide) dX9_over_21 ?_
    refine x_geti hz sx_40 fl_X9_230 rfl dX9_over_24 ?_
    refine x_bind (fun q27 hq27 => ?_)
    refine x_callV hz mv_X9_220 sx_40 (by decide) rfl rfl (kX8_firstIn (n := n) (q13 40 1) q13 q27 hq27) rfl (av := [.int (q13 40 1)]) (rest := []) rfl rfl (Nat.le_of_ble_eq_true rfl) dX9_over_27 ?_
    exact x_iret hz rfl dX9_over_30
  refine x_bipush hz (-5) dX9_over_8 rfl ?_
  exact x_iret hz rfl dX9_over_10
theorem kX9_over {l : Launch} {dd : hDD} {b n : Nat} (a1 : Int32) (M : hMem) (r : Int32 × hMem) (h : fX9_over a1 M = some r) : hC l hYx dd b yX9_over cX9_over 2 (some .int) (n + 6) [.ref (b + 0), .int a1] M (some (.int r.1), r.2) :=
  h_met (av := fun b => [.ref (b + 0), .int a1]) (rt := rtM) (by decide) (Nat.le_of_ble_eq_true rfl) (fun Z hz => wX9_over (n := n) hz a1 M) r h
set_option maxRecDepth 10000 in
set_option maxHeartbeats 4000000 in
theorem wX9_round_L100 {Z : hZ} {n : Nat} (hz : hOK Z hYx cX9_round RX9 5 (n + 5) (some .int))  (v2 : Int32) (v3 : Int32) (v4 : Int32) (M : hMem)  : hW Z rtM M 100 [(0, .ref (h_b Z + 0)), (2, .int v2), (3, .int v3), (4, .int v4)] [] (fX9_round_L100 v2 v3 v4 M) := by
  unfold fX9_round_L100
  refine x_iload_n hz dX9_round_100 rfl 1 rfl ?_
  refine x_if_ne hz dX9_round_101 ?_ ?_
  · refine x_iload hz dX9_round_109 3 rfl ?_
    refine x_aload_n hz dX9_round_111 rfl 0 rfl ?_
    refine x_getr hz sx_0 fl_X9_60 rfl rx_0_9 (by decide) dX9_round_112 ?_
    refine x_iload_n hz dX9_round_115 rfl 2 rfl ?_
    refine x_iald hz sx_55 dX9_round_116 (fun hi116 => ?_)
    refine x_isub hz dX9_round_117 ?_
    exact x_iret hz rfl dX9_round_118
  refine x_iload hz dX9_round_104 3 rfl ?_
  refine x_goto hz dX9_round_106 ?_
  exact x_iret hz rfl dX9_round_118
set_option maxRecDepth 10000 in
set_option maxHeartbeats 4000000 in
theorem wX9_round_L58 {Z : hZ} {n : Nat} (hz : hOK Z hYx cX9_round RX9 5 (n + 5) (some .int))  (v2 : Int32)   : ∀ (i : Nat) (s : Int32 × Int32 × hMem), hW Z rtM s.2.2 58 [(0, .ref (h_b Z + 0)), (2, .int v2), (3, .int s.1), (4, .int s.2.1)] [] (h_lp (fX9_round_L58 v2) i s) := by
  refine x_loop (Ms := fun s : Int32 × Int32 × hMem => s.2.2) (Ls := fun s : Int32 × Int32 × hMem => [(0, .ref (h_b Z + 0)), (2, .int v2), (3, .int s.1), (4, .int s.2.1)]) ?_
  intro k58 hk58 s
  show hW Z rtM s.2.2 58 [(0, .ref (h_b Z + 0)), (2, .int v2), (3, .int s.1), (4, .int s.2.1)] [] (fX9_round_L58 v2 k58 s)
  unfold fX9_round_L58
  refine x_iload hz dX9_round_58 3 rfl ?_
  refine x_bipush hz 96 dX9_round_60 rfl ?_
  refine x_icmp_gt hz dX9_round_62 ?_ ?_
  · exact x_sub [0, 1, 2, 3] rfl (wX9_round_L100 hz v2 s.1 s.2.1 s.2.2)
  refine x_aload_n hz dX9_round_65 rfl 0 rfl ?_
  refine x_getr hz sx_0 fl_X9_60 rfl rx_0_9 (by decide) dX9_round_66 ?_
  refine x_iload_n hz dX9_round_69 rfl 2 rfl ?_
  refine x_iald hz sx_55 dX9_round_70 (fun hi70 => ?_)
  refine x_if_ge hz dX9_round_71 ?_ ?_
  · exact x_sub [0, 1, 2, 3] rfl (wX9_round_L100 hz v2 s.1 s.2.1 s.2.2)
  refine x_aload_n hz dX9_round_74 rfl 0 rfl ?_
  refine x_getr hz sx_0 fl_X9_60 rfl rx_0_9 (by decide) dX9_round_75 ?_
  refine x_iload_n hz dX9_round_78 rfl 2 rfl ?_
  refine x_iload hz dX9_round_79 3 rfl ?_
  refine x_iast hz sx_55 dX9_round_81 (fun hi81 => ?_)
  refine x_aload_n hz dX9_round_82 rfl 0 rfl ?_
  refine x_getr hz sx_0 fl_X9_49 rfl rx_0_7 (by decide) dX9_round_83 ?_
  refine x_iload_n hz dX9_round_86 rfl 2 rfl ?_
  refine x_iconst hz 0 dX9_round_87 rfl ?_
  refine x_bipush hz 24 dX9_round_88 rfl ?_
  refine x_bind (fun q90 hq90 => ?_)
  refine x_callV hz mv_X9_213 sx_40 (by decide) rfl rfl (kX8_later (n := n) s.1 0 24 (h_up s.2.2 55 s.1.toNatClampNeg s.2.1) q90 hq90) rfl (av := [.int s.1, .int 0, .int 24]) (rest := []) rfl rfl (Nat.le_of_ble_eq_true rfl) dX9_round_90 ?_
  refine x_istore_n hz [(3, .int q90.1), (0, .ref (h_b Z + 0)), (2, .int v2), (4, .int s.2.1)] dX9_round_93 rfl rfl rfl ?_
  refine x_iinc hz (s.2.1 + 1) [(4, .int (s.2.1 + 1)), (3, .int q90.1), (0, .ref (h_b Z + 0)), (2, .int v2)] dX9_round_94 3 rfl rfl rfl rfl ?_
  refine x_goto hz dX9_round_97 ?_
  exact x_sub [2, 3, 1, 0] rfl (hk58 (q90.1, s.2.1 + 1, q90.2))
set_option maxRecDepth 10000 in
set_option maxHeartbeats 4000000 in
theorem wX9_round_L28 {Z : hZ} {n : Nat} (hz : hOK Z hYx cX9_round RX9 5 (n + 5) (some .int))  (v2 : Int32)   : ∀ (i : Nat) (s : Int32 × hMem), hW Z rtM s.2 28 [(0, .ref (h_b Z + 0)), (2, .int v2), (3, .int s.1)] [] (h_lp (fX9_round_L28 v2) i s) := by
  refine x_loop (Ms := fun s : Int32 × hMem => s.2) (Ls := fun s : Int32 × hMem => [(0, .ref (h_b Z + 0)), (2, .int v2), (3, .int s.1)]) ?_
  intro k28 hk28 s
  show hW Z rtM s.2 28 [(0, .ref (h_b Z + 0)), (2, .int v2), (3, .int s.1)] [] (fX9_round_L28 v2 k28 s)
  unfold fX9_round_L28
  refine x_iload_n hz dX9_round_28 rfl 2 rfl ?_
  refine x_bipush hz 96 dX9_round_29 rfl ?_
  refine x_icmp_ge hz dX9_round_31 ?_ ?_
  · refine x_aload_n hz dX9_round_47 rfl 0 rfl ?_
    refine x_getr hz sx_0 fl_X9_49 rfl rx_0_7 (by decide) dX9_round_48 ?_
    refine x_geti hz sx_40 fl_X9_210 rfl dX9_round_51 ?_
    refine x_istore_n hz [(3, .int (s.2 40 5)), (0, .ref (h_b Z + 0)), (2, .int v2)] dX9_round_54 rfl rfl rfl ?_
    refine x_iconst hz 0 dX9_round_55 rfl ?_
    refine x_istore hz [(4, .int 0), (3, .int (s.2 40 5)), (0, .ref (h_b Z + 0)), (2, .int v2)] dX9_round_56 rfl rfl ?_
    exact x_sub [2, 3, 1, 0] rfl (wX9_round_L58 hz v2 h_FU (s.2 40 5, 0, s.2))
  refine x_aload_n hz dX9_round_34 rfl 0 rfl ?_
  refine x_getr hz sx_0 fl_X9_60 rfl rx_0_9 (by decide) dX9_round_35 ?_
  refine x_iload_n hz dX9_round_38 rfl 2 rfl ?_
  refine x_iconst hz (-1) dX9_round_39 rfl ?_
  refine x_iast hz sx_55 dX9_round_40 (fun hi40 => ?_)
  refine x_iinc hz (s.1 + 1) [(3, .int (s.1 + 1)), (0, .ref (h_b Z + 0)), (2, .int v2)] dX9_round_41 2 rfl rfl rfl rfl ?_
  refine x_goto hz dX9_round_44 ?_
  exact x_sub [1, 2, 0] rfl (hk28 (s.1 + 1, h_up s.2 55 s.1.toNatClampNeg (-1)))
set_option maxRecDepth 10000 in
set_option maxHeartbeats 4000000 in
theorem wX9_round {Z : hZ} {n : Nat} (hz : hOK Z hYx cX9_round RX9 5 (n + 5) (some .int)) (a1 : Int32) (a2 : Int32) (M : hMem) : hW Z rtM M 0 [(0, .ref (h_b Z + 0)), (1, .int a1), (2, .int a2)] [] (fX9_round a1 a2 M) := by
  unfold fX9_round
  refine x_aload_n hz dX9_round_0 rfl 0 rfl ?_
  refine x_iload_n hz dX9_round_1 rfl 1 rfl ?_
  refine x_callV hz mv_X9_171 sx_0 (by decide) rfl rfl (kX9_isHat (n := (n + 4)) a1 M) rfl (av := [.int a1]) (rest := []) rfl rfl (Nat.le_of_ble_eq_true rfl) dX9_round_2 ?_
  refine x_if_ne hz dX9_round_5 ?_ ?_
  · refine x_iload_n hz dX9_round_11 rfl 2 rfl ?_
    refine x_callS hz ms_X9_204 (kX9_isZeroOrOne (n := (n + 4)) a2 M) rfl (av := [.int a2]) (rest := []) rfl rfl (Nat.le_of_ble_eq_true rfl) dX9_round_12 ?_
    refine x_if_ne hz dX9_round_15 ?_ ?_
    · refine x_aload_n hz dX9_round_21 rfl 0 rfl ?_
      refine x_iload_n hz dX9_round_22 rfl 1 rfl ?_
      refine x_bind (fun q23 hq23 => ?_)
      refine x_callV hz mv_X9_207 sx_0 (by decide) rfl rfl (kX9_think (n := (n + 2)) a1 M q23 hq23) rfl (av := [.int a1]) (rest := []) rfl rfl (Nat.le_of_ble_eq_true rfl) dX9_round_23 ?_
      refine x_iconst hz 0 dX9_round_26 rfl ?_
      refine x_istore_n hz [(3, .int 0), (0, .ref (h_b Z + 0)), (1, .int a1), (2, .int a2)] dX9_round_27 rfl rfl rfl ?_
      exact x_sub [1, 3, 0] rfl (wX9_round_L28 hz a2 h_FU (0, q23))
    refine x_bipush hz (-7) dX9_round_18 rfl ?_
    exact x_iret hz rfl dX9_round_20
  refine x_bipush hz (-5) dX9_round_8 rfl ?_
  exact x_iret hz rfl dX9_round_10
theorem kX9_round {l : Launch} {dd : hDD} {b n : Nat} (a1 : Int32) (a2 : Int32) (M : hMem) (r : Int32 × hMem) (h : fX9_round a1 a2 M = some r) : hC l hYx dd b yX9_round cX9_round 5 (some .int) (n + 5) [.ref (b + 0), .int a1, .int a2] M (some (.int r.1), r.2) :=
  h_met (av := fun b => [.ref (b + 0), .int a1, .int a2]) (rt := rtM) (by decide) (Nat.le_of_ble_eq_true rfl) (fun Z hz => wX9_round (n := n) hz a1 a2 M) r h
set_option maxRecDepth 10000 in
set_option maxHeartbeats 4000000 in
theorem wX9_from_L35 {Z : hZ} {n : Nat} (hz : hOK Z hYx cX9_from RX9 6 (n + 5) (some .int))  (v2 : Int32) (v3 : Int32)   : ∀ (i : Nat) (s : Int32 × Int32 × hMem), hW Z rtM s.2.2 35 [(0, .ref (h_b Z + 0)), (2, .int v2), (3, .int v3), (4, .int s.1), (5, .int s.2.1)] [] (h_lp (fX9_from_L35 v2 v3) i s) := by
  refine x_loop (Ms := fun s : Int32 × Int32 × hMem => s.2.2) (Ls := fun s : Int32 × Int32 × hMem => [(0, .ref (h_b Z + 0)), (2, .int v2), (3, .int v3), (4, .int s.1), (5, .int s.2.1)]) ?_
  intro k35 hk35 s
  show hW Z rtM s.2.2 35 [(0, .ref (h_b Z + 0)), (2, .int v2), (3, .int v3), (4, .int s.1), (5, .int s.2.1)] [] (fX9_from_L35 v2 v3 k35 s)
  unfold fX9_from_L35
  refine x_iload hz dX9_from_35 4 rfl ?_
  refine x_bipush hz 32 dX9_from_37 rfl ?_
  refine x_icmp_ge hz dX9_from_39 ?_ ?_
  · refine x_iload hz dX9_from_97 3 rfl ?_
    exact x_iret hz rfl dX9_from_99
  refine x_aload_n hz dX9_from_42 rfl 0 rfl ?_
  refine x_iload hz dX9_from_43 4 rfl ?_
  refine x_callV hz mv_X9_154 sx_0 (by decide) rfl rfl (kX9_isOpen (n := (n + 3)) s.2.1 s.2.2) rfl (av := [.int s.2.1]) (rest := []) rfl rfl (Nat.le_of_ble_eq_true rfl) dX9_from_45 ?_
  refine x_if_eq hz dX9_from_48 ?_ ?_
  · refine x_iinc hz (s.2.1 + 1) [(5, .int (s.2.1 + 1)), (0, .ref (h_b Z + 0)), (2, .int v2), (3, .int v3), (4, .int s.1)] dX9_from_91 4 rfl rfl rfl rfl ?_
    refine x_goto hz dX9_from_94 ?_
    exact x_sub [1, 2, 3, 4, 0] rfl (hk35 (s.1, s.2.1 + 1, s.2.2))
  refine x_aload_n hz dX9_from_51 rfl 0 rfl ?_
  refine x_getr hz sx_0 fl_X9_49 rfl rx_0_7 (by decide) dX9_from_52 ?_
  refine x_iload hz dX9_from_55 4 rfl ?_
  refine x_aload_n hz dX9_from_57 rfl 0 rfl ?_
  refine x_getr hz sx_0 fl_X9_49 rfl rx_0_7 (by decide) dX9_from_58 ?_
  refine x_geti hz sx_40 fl_X9_210 rfl dX9_from_61 ?_
  refine x_callS hz ms_X9_177 (kX9_lieOf (n := (n + 4)) (s.2.2 40 5) s.2.2) rfl (av := [.int (s.2.2 40 5)]) (rest := [.int s.2.1, .ref (h_b Z + 40)]) rfl rfl (Nat.le_of_ble_eq_true rfl) dX9_from_64 ?_
  refine x_callS hz ms_X9_139 (kX9_stateOf (n := (n + 4)) s.2.1 (fX9_lieOf (s.2.2 40 5) s.2.2) s.2.2) rfl (av := [.int s.2.1, .int (fX9_lieOf (s.2.2 40 5) s.2.2)]) (rest := [.ref (h_b Z + 40)]) rfl rfl (Nat.le_of_ble_eq_true rfl) dX9_from_67 ?_
  refine x_iconst hz 0 dX9_from_70 rfl ?_
  refine x_iload_n hz dX9_from_71 rfl 1 rfl ?_
  refine x_bind (fun q72 hq72 => ?_)
  refine x_callV hz mv_X9_213 sx_40 (by decide) rfl rfl (kX8_later (n := n) (fX9_stateOf s.2.1 (fX9_lieOf (s.2.2 40 5) s.2.2) s.2.2) 0 v2 s.2.2 q72 hq72) rfl (av := [.int (fX9_stateOf s.2.1 (fX9_lieOf (s.2.2 40 5) s.2.2) s.2.2), .int 0, .int v2]) (rest := []) rfl rfl (Nat.le_of_ble_eq_true rfl) dX9_from_72 ?_
  refine x_callS hz ms_X9_174 (kX9_squareOf (n := (n + 4)) q72.1 q72.2) rfl (av := [.int q72.1]) (rest := []) rfl rfl (Nat.le_of_ble_eq_true rfl) dX9_from_75 ?_
  refine x_iload_n hz dX9_from_78 rfl 2 rfl ?_
  refine x_icmp_ne hz dX9_from_79 ?_ ?_
  · refine x_iinc hz (s.2.1 + 1) [(5, .int (s.2.1 + 1)), (0, .ref (h_b Z + 0)), (2, .int v2), (3, .int v3), (4, .int s.1)] dX9_from_91 4 rfl rfl rfl rfl ?_
    refine x_goto hz dX9_from_94 ?_
    exact x_sub [1, 2, 3, 4, 0] rfl (hk35 (s.1, s.2.1 + 1, q72.2))
  refine x_iload hz dX9_from_82 3 rfl ?_
  refine x_iconst hz 1 dX9_from_84 rfl ?_
  refine x_iload hz dX9_from_85 4 rfl ?_
  refine x_ishl hz dX9_from_87 ?_
  refine x_ior hz dX9_from_88 ?_
  refine x_istore hz [(4, .int (s.1 ||| (1 <<< (s.2.1 &&& 31)))), (0, .ref (h_b Z + 0)), (2, .int v2), (3, .int v3), (5, .int s.2.1)] dX9_from_89 rfl rfl ?_
  refine x_iinc hz (s.2.1 + 1) [(5, .int (s.2.1 + 1)), (4, .int (s.1 ||| (1 <<< (s.2.1 &&& 31)))), (0, .ref (h_b Z + 0)), (2, .int v2), (3, .int v3)] dX9_from_91 4 rfl rfl rfl rfl ?_
  refine x_goto hz dX9_from_94 ?_
  exact x_sub [2, 3, 4, 1, 0] rfl (hk35 (s.1 ||| (1 <<< (s.2.1 &&& 31)), s.2.1 + 1, q72.2))
set_option maxRecDepth 10000 in
set_option maxHeartbeats 4000000 in
theorem wX9_from {Z : hZ} {n : Nat} (hz : hOK Z hYx cX9_from RX9 6 (n + 5) (some .int)) (a1 : Int32) (a2 : Int32) (a3 : Int32) (M : hMem) : hW Z rtM M 0 [(0, .ref (h_b Z + 0)), (1, .int a1), (2, .int a2), (3, .int a3)] [] (fX9_from a1 a2 a3 M) := by
  unfold fX9_from
  refine x_aload_n hz dX9_from_0 rfl 0 rfl ?_
  refine x_iload_n hz dX9_from_1 rfl 1 rfl ?_
  refine x_callV hz mv_X9_171 sx_0 (by decide) rfl rfl (kX9_isHat (n := (n + 4)) a1 M) rfl (av := [.int a1]) (rest := []) rfl rfl (Nat.le_of_ble_eq_true rfl) dX9_from_2 ?_
  refine x_if_eq hz dX9_from_5 ?_ ?_
  · refine x_iconst hz 0 dX9_from_22 rfl ?_
    exact x_iret hz rfl dX9_from_23
  refine x_iload_n hz dX9_from_8 rfl 2 rfl ?_
  refine x_callS hz ms_X9_127 (kX9_isBehind (n := (n + 4)) a2 M) rfl (av := [.int a2]) (rest := []) rfl rfl (Nat.le_of_ble_eq_true rfl) dX9_from_9 ?_
  refine x_if_eq hz dX9_from_12 ?_ ?_
  · refine x_iconst hz 0 dX9_from_22 rfl ?_
    exact x_iret hz rfl dX9_from_23
  refine x_iload_n hz dX9_from_15 rfl 3 rfl ?_
  refine x_callS hz ms_X9_86 (kX9_isSquare (n := (n + 4)) a3 M) rfl (av := [.int a3]) (rest := []) rfl rfl (Nat.le_of_ble_eq_true rfl) dX9_from_16 ?_
  refine x_if_ne hz dX9_from_19 ?_ ?_
  · refine x_aload_n hz dX9_from_24 rfl 0 rfl ?_
    refine x_iload_n hz dX9_from_25 rfl 1 rfl ?_
    refine x_bind (fun q26 hq26 => ?_)
    refine x_callV hz mv_X9_207 sx_0 (by decide) rfl rfl (kX9_think (n := (n + 2)) a1 M q26 hq26) rfl (av := [.int a1]) (rest := []) rfl rfl (Nat.le_of_ble_eq_true rfl) dX9_from_26 ?_
    refine x_iconst hz 0 dX9_from_29 rfl ?_
    refine x_istore hz [(4, .int 0), (0, .ref (h_b Z + 0)), (1, .int a1), (2, .int a2), (3, .int a3)] dX9_from_30 rfl rfl ?_
    refine x_iconst hz 0 dX9_from_32 rfl ?_
    refine x_istore hz [(5, .int 0), (4, .int 0), (0, .ref (h_b Z + 0)), (1, .int a1), (2, .int a2), (3, .int a3)] dX9_from_33 rfl rfl ?_
    exact x_sub [2, 4, 5, 1, 0] rfl (wX9_from_L35 hz a2 a3 h_FU (0, 0, q26))
  refine x_iconst hz 0 dX9_from_22 rfl ?_
  exact x_iret hz rfl dX9_from_23
theorem kX9_from {l : Launch} {dd : hDD} {b n : Nat} (a1 : Int32) (a2 : Int32) (a3 : Int32) (M : hMem) (r : Int32 × hMem) (h : fX9_from a1 a2 a3 M = some r) : hC l hYx dd b yX9_from cX9_from 6 (some .int) (n + 5) [.ref (b + 0), .int a1, .int a2, .int a3] M (some (.int r.1), r.2) :=
  h_met (av := fun b => [.ref (b + 0), .int a1, .int a2, .int a3]) (rt := rtM) (by decide) (Nat.le_of_ble_eq_true rfl) (fun Z hz => wX9_from (n := n) hz a1 a2 a3 M) r h
set_option maxRecDepth 10000 in
set_option maxHeartbeats 4000000 in
theorem wX9_keeps_L127 {Z : hZ} {n : Nat} (hz : hOK Z hYx cX9_keeps RX9 7 (n + 5) (some .int))  (v3 : Int32) (M : hMem)  : ∀ (i : Nat) (s : Int32 × Int32 × Int32), hW Z rtM M 127 [(0, .ref (h_b Z + 0)), (3, .int v3), (4, .int s.1), (5, .int s.2.1), (6, .int s.2.2)] [] (h_lp (fX9_keeps_L127 v3 M) i s) := by
  refine x_loop (Ms := fun s : Int32 × Int32 × Int32 => M) (Ls := fun s : Int32 × Int32 × Int32 => [(0, .ref (h_b Z + 0)), (3, .int v3), (4, .int s.1), (5, .int s.2.1), (6, .int s.2.2)]) ?_
  intro k127 hk127 s
  show hW Z rtM M 127 [(0, .ref (h_b Z + 0)), (3, .int v3), (4, .int s.1), (5, .int s.2.1), (6, .int s.2.2)] [] (fX9_keeps_L127 v3 M k127 s)
  unfold fX9_keeps_L127
  refine x_iload hz dX9_keeps_127 4 rfl ?_
  refine x_bipush hz 32 dX9_keeps_129 rfl ?_
  refine x_icmp_ge hz dX9_keeps_131 ?_ ?_
  · refine x_iload_n hz dX9_keeps_165 rfl 1 rfl ?_
    refine x_if_ne hz dX9_keeps_166 ?_ ?_
    · refine x_iload hz dX9_keeps_174 3 rfl ?_
      exact x_iret hz rfl dX9_keeps_176
    refine x_iload hz dX9_keeps_169 2 rfl ?_
    refine x_goto hz dX9_keeps_171 ?_
    exact x_iret hz rfl dX9_keeps_176
  refine x_aload_n hz dX9_keeps_134 rfl 0 rfl ?_
  refine x_getr hz sx_0 fl_X9_60 rfl rx_0_9 (by decide) dX9_keeps_135 ?_
  refine x_iload hz dX9_keeps_138 4 rfl ?_
  refine x_iald hz sx_55 dX9_keeps_140 (fun hi140 => ?_)
  refine x_iload hz dX9_keeps_141 3 rfl ?_
  refine x_icmp_le hz dX9_keeps_143 ?_ ?_
  · refine x_iinc hz (s.2.2 + 1) [(6, .int (s.2.2 + 1)), (0, .ref (h_b Z + 0)), (3, .int v3), (4, .int s.1), (5, .int s.2.1)] dX9_keeps_159 4 rfl rfl rfl rfl ?_
    refine x_goto hz dX9_keeps_162 ?_
    exact x_sub [1, 2, 3, 4, 0] rfl (hk127 (s.1, s.2.1, s.2.2 + 1))
  refine x_aload_n hz dX9_keeps_146 rfl 0 rfl ?_
  refine x_getr hz sx_0 fl_X9_60 rfl rx_0_9 (by decide) dX9_keeps_147 ?_
  refine x_iload hz dX9_keeps_150 4 rfl ?_
  refine x_iald hz sx_55 dX9_keeps_152 (fun hi152 => ?_)
  refine x_istore hz [(5, .int (M 55 s.2.2.toNatClampNeg)), (0, .ref (h_b Z + 0)), (3, .int v3), (4, .int s.1), (6, .int s.2.2)] dX9_keeps_153 rfl rfl ?_
  refine x_iload hz dX9_keeps_155 4 rfl ?_
  refine x_istore hz [(4, .int s.2.2), (5, .int (M 55 s.2.2.toNatClampNeg)), (0, .ref (h_b Z + 0)), (3, .int v3), (6, .int s.2.2)] dX9_keeps_157 rfl rfl ?_
  refine x_iinc hz (s.2.2 + 1) [(6, .int (s.2.2 + 1)), (4, .int s.2.2), (5, .int (M 55 s.2.2.toNatClampNeg)), (0, .ref (h_b Z + 0)), (3, .int v3)] dX9_keeps_159 4 rfl rfl rfl rfl ?_
  refine x_goto hz dX9_keeps_162 ?_
  exact x_sub [3, 4, 1, 2, 0] rfl (hk127 (s.2.2, M 55 s.2.2.toNatClampNeg, s.2.2 + 1))
set_option maxRecDepth 10000 in
set_option maxHeartbeats 4000000 in
theorem wX9_keeps_L60 {Z : hZ} {n : Nat} (hz : hOK Z hYx cX9_keeps RX9 7 (n + 5) (some .int))  (v2 : Int32) (v3 : Int32)   : ∀ (i : Nat) (s : Int32 × hMem), hW Z rtM s.2 60 [(0, .ref (h_b Z + 0)), (2, .int v2), (3, .int v3), (4, .int s.1)] [] (h_lp (fX9_keeps_L60 v2 v3) i s) := by
  refine x_loop (Ms := fun s : Int32 × hMem => s.2) (Ls := fun s : Int32 × hMem => [(0, .ref (h_b Z + 0)), (2, .int v2), (3, .int v3), (4, .int s.1)]) ?_
  intro k60 hk60 s
  show hW Z rtM s.2 60 [(0, .ref (h_b Z + 0)), (2, .int v2), (3, .int v3), (4, .int s.1)] [] (fX9_keeps_L60 v2 v3 k60 s)
  unfold fX9_keeps_L60
  refine x_iload hz dX9_keeps_60 3 rfl ?_
  refine x_bipush hz 32 dX9_keeps_62 rfl ?_
  refine x_icmp_ge hz dX9_keeps_64 ?_ ?_
  · refine x_iconst hz (-1) dX9_keeps_118 rfl ?_
    refine x_istore hz [(4, .int (-1)), (0, .ref (h_b Z + 0)), (2, .int v2), (3, .int v3)] dX9_keeps_119 rfl rfl ?_
    refine x_iconst hz 0 dX9_keeps_121 rfl ?_
    refine x_istore hz [(5, .int 0), (4, .int (-1)), (0, .ref (h_b Z + 0)), (2, .int v2), (3, .int v3)] dX9_keeps_122 rfl rfl ?_
    refine x_iconst hz 0 dX9_keeps_124 rfl ?_
    refine x_istore hz [(6, .int 0), (5, .int 0), (4, .int (-1)), (0, .ref (h_b Z + 0)), (2, .int v2), (3, .int v3)] dX9_keeps_125 rfl rfl ?_
    exact x_sub [3, 5, 2, 1, 0] rfl (wX9_keeps_L127 hz v3 s.2 h_FU ((-1), 0, 0))
  refine x_aload_n hz dX9_keeps_67 rfl 0 rfl ?_
  refine x_iload hz dX9_keeps_68 3 rfl ?_
  refine x_callV hz mv_X9_154 sx_0 (by decide) rfl rfl (kX9_isOpen (n := (n + 3)) s.1 s.2) rfl (av := [.int s.1]) (rest := []) rfl rfl (Nat.le_of_ble_eq_true rfl) dX9_keeps_70 ?_
  refine x_if_eq hz dX9_keeps_73 ?_ ?_
  · refine x_iinc hz (s.1 + 1) [(4, .int (s.1 + 1)), (0, .ref (h_b Z + 0)), (2, .int v2), (3, .int v3)] dX9_keeps_112 3 rfl rfl rfl rfl ?_
    refine x_goto hz dX9_keeps_115 ?_
    exact x_sub [1, 2, 3, 0] rfl (hk60 (s.1 + 1, s.2))
  refine x_aload_n hz dX9_keeps_76 rfl 0 rfl ?_
  refine x_getr hz sx_0 fl_X9_60 rfl rx_0_9 (by decide) dX9_keeps_77 ?_
  refine x_aload_n hz dX9_keeps_80 rfl 0 rfl ?_
  refine x_getr hz sx_0 fl_X9_49 rfl rx_0_7 (by decide) dX9_keeps_81 ?_
  refine x_iload hz dX9_keeps_84 3 rfl ?_
  refine x_aload_n hz dX9_keeps_86 rfl 0 rfl ?_
  refine x_getr hz sx_0 fl_X9_49 rfl rx_0_7 (by decide) dX9_keeps_87 ?_
  refine x_geti hz sx_40 fl_X9_210 rfl dX9_keeps_90 ?_
  refine x_callS hz ms_X9_177 (kX9_lieOf (n := (n + 4)) (s.2 40 5) s.2) rfl (av := [.int (s.2 40 5)]) (rest := [.int s.1, .ref (h_b Z + 40), .ref (h_b Z + 55)]) rfl rfl (Nat.le_of_ble_eq_true rfl) dX9_keeps_93 ?_
  refine x_callS hz ms_X9_139 (kX9_stateOf (n := (n + 4)) s.1 (fX9_lieOf (s.2 40 5) s.2) s.2) rfl (av := [.int s.1, .int (fX9_lieOf (s.2 40 5) s.2)]) (rest := [.ref (h_b Z + 40), .ref (h_b Z + 55)]) rfl rfl (Nat.le_of_ble_eq_true rfl) dX9_keeps_96 ?_
  refine x_iconst hz 0 dX9_keeps_99 rfl ?_
  refine x_iload_n hz dX9_keeps_100 rfl 1 rfl ?_
  refine x_bind (fun q101 hq101 => ?_)
  refine x_callV hz mv_X9_213 sx_40 (by decide) rfl rfl (kX8_later (n := n) (fX9_stateOf s.1 (fX9_lieOf (s.2 40 5) s.2) s.2) 0 v2 s.2 q101 hq101) rfl (av := [.int (fX9_stateOf s.1 (fX9_lieOf (s.2 40 5) s.2) s.2), .int 0, .int v2]) (rest := [.ref (h_b Z + 55)]) rfl rfl (Nat.le_of_ble_eq_true rfl) dX9_keeps_101 ?_
  refine x_callS hz ms_X9_174 (kX9_squareOf (n := (n + 4)) q101.1 q101.2) rfl (av := [.int q101.1]) (rest := [.ref (h_b Z + 55)]) rfl rfl (Nat.le_of_ble_eq_true rfl) dX9_keeps_104 ?_
  refine x_dup2 hz dX9_keeps_107 rfl rfl ?_
  refine x_iald hz sx_55 dX9_keeps_108 (fun hi108 => ?_)
  refine x_iconst hz 1 dX9_keeps_109 rfl ?_
  refine x_iadd hz dX9_keeps_110 ?_
  refine x_iast hz sx_55 dX9_keeps_111 (fun hi111 => ?_)
  refine x_iinc hz (s.1 + 1) [(4, .int (s.1 + 1)), (0, .ref (h_b Z + 0)), (2, .int v2), (3, .int v3)] dX9_keeps_112 3 rfl rfl rfl rfl ?_
  refine x_goto hz dX9_keeps_115 ?_
  exact x_sub [1, 2, 3, 0] rfl (hk60 (s.1 + 1, h_up q101.2 55 (fX9_squareOf q101.1 q101.2).toNatClampNeg ((q101.2 55 (fX9_squareOf q101.1 q101.2).toNatClampNeg) + 1)))
set_option maxRecDepth 10000 in
set_option maxHeartbeats 4000000 in
theorem wX9_keeps_L36 {Z : hZ} {n : Nat} (hz : hOK Z hYx cX9_keeps RX9 7 (n + 5) (some .int))  (v2 : Int32) (v3 : Int32)   : ∀ (i : Nat) (s : Int32 × hMem), hW Z rtM s.2 36 [(0, .ref (h_b Z + 0)), (2, .int v2), (3, .int v3), (4, .int s.1)] [] (h_lp (fX9_keeps_L36 v2 v3) i s) := by
  refine x_loop (Ms := fun s : Int32 × hMem => s.2) (Ls := fun s : Int32 × hMem => [(0, .ref (h_b Z + 0)), (2, .int v2), (3, .int v3), (4, .int s.1)]) ?_
  intro k36 hk36 s
  show hW Z rtM s.2 36 [(0, .ref (h_b Z + 0)), (2, .int v2), (3, .int v3), (4, .int s.1)] [] (fX9_keeps_L36 v2 v3 k36 s)
  unfold fX9_keeps_L36
  refine x_iload hz dX9_keeps_36 3 rfl ?_
  refine x_bipush hz 32 dX9_keeps_38 rfl ?_
  refine x_icmp_ge hz dX9_keeps_40 ?_ ?_
  · refine x_iconst hz 0 dX9_keeps_57 rfl ?_
    refine x_istore hz [(4, .int 0), (0, .ref (h_b Z + 0)), (2, .int v2), (3, .int v3)] dX9_keeps_58 rfl rfl ?_
    exact x_sub [1, 2, 3, 0] rfl (wX9_keeps_L60 hz v2 v3 h_FU (0, s.2))
  refine x_aload_n hz dX9_keeps_43 rfl 0 rfl ?_
  refine x_getr hz sx_0 fl_X9_60 rfl rx_0_9 (by decide) dX9_keeps_44 ?_
  refine x_iload hz dX9_keeps_47 3 rfl ?_
  refine x_iconst hz 0 dX9_keeps_49 rfl ?_
  refine x_iast hz sx_55 dX9_keeps_50 (fun hi50 => ?_)
  refine x_iinc hz (s.1 + 1) [(4, .int (s.1 + 1)), (0, .ref (h_b Z + 0)), (2, .int v2), (3, .int v3)] dX9_keeps_51 3 rfl rfl rfl rfl ?_
  refine x_goto hz dX9_keeps_54 ?_
  exact x_sub [1, 2, 3, 0] rfl (hk36 (s.1 + 1, h_up s.2 55 s.1.toNatClampNeg 0))
set_option maxRecDepth 10000 in
set_option maxHeartbeats 4000000 in
theorem wX9_keeps {Z : hZ} {n : Nat} (hz : hOK Z hYx cX9_keeps RX9 7 (n + 5) (some .int)) (a1 : Int32) (a2 : Int32) (a3 : Int32) (M : hMem) : hW Z rtM M 0 [(0, .ref (h_b Z + 0)), (1, .int a1), (2, .int a2), (3, .int a3)] [] (fX9_keeps a1 a2 a3 M) := by
  unfold fX9_keeps
  refine x_aload_n hz dX9_keeps_0 rfl 0 rfl ?_
  refine x_iload_n hz dX9_keeps_1 rfl 1 rfl ?_
  refine x_callV hz mv_X9_171 sx_0 (by decide) rfl rfl (kX9_isHat (n := (n + 4)) a1 M) rfl (av := [.int a1]) (rest := []) rfl rfl (Nat.le_of_ble_eq_true rfl) dX9_keeps_2 ?_
  refine x_if_ne hz dX9_keeps_5 ?_ ?_
  · refine x_iload_n hz dX9_keeps_11 rfl 2 rfl ?_
    refine x_callS hz ms_X9_127 (kX9_isBehind (n := (n + 4)) a2 M) rfl (av := [.int a2]) (rest := []) rfl rfl (Nat.le_of_ble_eq_true rfl) dX9_keeps_12 ?_
    refine x_if_eq hz dX9_keeps_15 ?_ ?_
    · refine x_bipush hz (-7) dX9_keeps_25 rfl ?_
      exact x_iret hz rfl dX9_keeps_27
    refine x_iload_n hz dX9_keeps_18 rfl 3 rfl ?_
    refine x_callS hz ms_X9_204 (kX9_isZeroOrOne (n := (n + 4)) a3 M) rfl (av := [.int a3]) (rest := []) rfl rfl (Nat.le_of_ble_eq_true rfl) dX9_keeps_19 ?_
    refine x_if_ne hz dX9_keeps_22 ?_ ?_
    · refine x_aload_n hz dX9_keeps_28 rfl 0 rfl ?_
      refine x_iload_n hz dX9_keeps_29 rfl 1 rfl ?_
      refine x_bind (fun q30 hq30 => ?_)
      refine x_callV hz mv_X9_207 sx_0 (by decide) rfl rfl (kX9_think (n := (n + 2)) a1 M q30 hq30) rfl (av := [.int a1]) (rest := []) rfl rfl (Nat.le_of_ble_eq_true rfl) dX9_keeps_30 ?_
      refine x_iconst hz 0 dX9_keeps_33 rfl ?_
      refine x_istore hz [(4, .int 0), (0, .ref (h_b Z + 0)), (1, .int a1), (2, .int a2), (3, .int a3)] dX9_keeps_34 rfl rfl ?_
      exact x_sub [1, 3, 4, 0] rfl (wX9_keeps_L36 hz a2 a3 h_FU (0, q30))
    refine x_bipush hz (-7) dX9_keeps_25 rfl ?_
    exact x_iret hz rfl dX9_keeps_27
  refine x_bipush hz (-5) dX9_keeps_8 rfl ?_
  exact x_iret hz rfl dX9_keeps_10
theorem kX9_keeps {l : Launch} {dd : hDD} {b n : Nat} (a1 : Int32) (a2 : Int32) (a3 : Int32) (M : hMem) (r : Int32 × hMem) (h : fX9_keeps a1 a2 a3 M = some r) : hC l hYx dd b yX9_keeps cX9_keeps 7 (some .int) (n + 5) [.ref (b + 0), .int a1, .int a2, .int a3] M (some (.int r.1), r.2) :=
  h_met (av := fun b => [.ref (b + 0), .int a1, .int a2, .int a3]) (rt := rtM) (by decide) (Nat.le_of_ble_eq_true rfl) (fun Z hz => wX9_keeps (n := n) hz a1 a2 a3 M) r h
set_option maxRecDepth 10000 in
set_option maxHeartbeats 4000000 in
theorem wX8_spread_L5 {Z : hZ} {n : Nat} (hz : hOK Z hYx cX8_spread RX8 6 (n + 0) (some .int))  (v2 : Int32) (M : hMem)  : ∀ (i : Nat) (s : Int32 × Int32), hW Z (rtP M) M 5 [(0, .ref (h_b Z + 40)), (2, .int v2), (3, .int s.1), (4, .int s.2)] [] (h_lp (fX8_spread_L5 v2 M) i s) := by
  refine x_loop (Ms := fun s : Int32 × Int32 => M) (Ls := fun s : Int32 × Int32 => [(0, .ref (h_b Z + 40)), (2, .int v2), (3, .int s.1), (4, .int s.2)]) ?_
  intro k5 hk5 s
  show hW Z (rtP M) M 5 [(0, .ref (h_b Z + 40)), (2, .int v2), (3, .int s.1), (4, .int s.2)] [] (fX8_spread_L5 v2 M k5 s)
  unfold fX8_spread_L5
  refine x_iload hz dX8_spread_5 3 rfl ?_
  refine x_iload_n hz dX8_spread_7 rfl 1 rfl ?_
  refine x_icmp_ge hz dX8_spread_8 ?_ ?_
  · refine x_iload_n hz dX8_spread_54 rfl 2 rfl ?_
    exact x_iret hz rfl dX8_spread_55
  refine x_iload_n hz dX8_spread_11 rfl 2 rfl ?_
  refine x_bipush hz 8 dX8_spread_12 rfl ?_
  refine x_iushr hz dX8_spread_14 ?_
  refine x_iload_n hz dX8_spread_15 rfl 2 rfl ?_
  refine x_bipush hz 8 dX8_spread_16 rfl ?_
  refine x_ishl hz dX8_spread_18 ?_
  refine x_ior hz dX8_spread_19 ?_
  refine x_iload_n hz dX8_spread_20 rfl 2 rfl ?_
  refine x_ldc hz 2139062143 dX8_spread_21 kc_X8_151 ?_
  refine x_iand hz dX8_spread_23 ?_
  refine x_iconst hz 1 dX8_spread_24 rfl ?_
  refine x_ishl hz dX8_spread_25 ?_
  refine x_ior hz dX8_spread_26 ?_
  refine x_iload_n hz dX8_spread_27 rfl 2 rfl ?_
  refine x_ldc hz (-16843010) dX8_spread_28 kc_X8_152 ?_
  refine x_iand hz dX8_spread_30 ?_
  refine x_iconst hz 1 dX8_spread_31 rfl ?_
  refine x_iushr hz dX8_spread_32 ?_
  refine x_ior hz dX8_spread_33 ?_
  refine x_istore hz [(5, .int ((((h_ushr s.1 8) ||| (s.1 <<< (8 &&& 31))) ||| ((s.1 &&& 2139062143) <<< (1 &&& 31))) ||| (h_ushr (s.1 &&& (-16843010)) 1))), (0, .ref (h_b Z + 40)), (2, .int v2), (3, .int s.1), (4, .int s.2)] dX8_spread_34 rfl rfl ?_
  refine x_iload_n hz dX8_spread_36 rfl 3 rfl ?_
  refine x_iload hz dX8_spread_37 0 rfl ?_
  refine x_aload_n hz dX8_spread_39 rfl 1 rfl ?_
  refine x_geti hz sx_40 fl_X8_36 rfl dX8_spread_40 ?_
  refine x_iconst hz (-1) dX8_spread_43 rfl ?_
  refine x_ixor hz dX8_spread_44 ?_
  refine x_iand hz dX8_spread_45 ?_
  refine x_ior hz dX8_spread_46 ?_
  refine x_istore_n hz [(3, .int (s.1 ||| (((((h_ushr s.1 8) ||| (s.1 <<< (8 &&& 31))) ||| ((s.1 &&& 2139062143) <<< (1 &&& 31))) ||| (h_ushr (s.1 &&& (-16843010)) 1)) &&& ((M 40 0) ^^^ (-1))))), (5, .int ((((h_ushr s.1 8) ||| (s.1 <<< (8 &&& 31))) ||| ((s.1 &&& 2139062143) <<< (1 &&& 31))) ||| (h_ushr (s.1 &&& (-16843010)) 1))), (0, .ref (h_b Z + 40)), (2, .int v2), (4, .int s.2)] dX8_spread_47 rfl rfl rfl ?_
  refine x_iinc hz (s.2 + 1) [(4, .int (s.2 + 1)), (3, .int (s.1 ||| (((((h_ushr s.1 8) ||| (s.1 <<< (8 &&& 31))) ||| ((s.1 &&& 2139062143) <<< (1 &&& 31))) ||| (h_ushr (s.1 &&& (-16843010)) 1)) &&& ((M 40 0) ^^^ (-1))))), (5, .int ((((h_ushr s.1 8) ||| (s.1 <<< (8 &&& 31))) ||| ((s.1 &&& 2139062143) <<< (1 &&& 31))) ||| (h_ushr (s.1 &&& (-16843010)) 1))), (0, .ref (h_b Z + 40)), (2, .int v2)] dX8_spread_48 4 rfl rfl rfl rfl ?_
  refine x_goto hz dX8_spread_51 ?_
  exact x_sub [3, 4, 1, 0] rfl (hk5 (s.1 ||| (((((h_ushr s.1 8) ||| (s.1 <<< (8 &&& 31))) ||| ((s.1 &&& 2139062143) <<< (1 &&& 31))) ||| (h_ushr (s.1 &&& (-16843010)) 1)) &&& ((M 40 0) ^^^ (-1))), s.2 + 1))
set_option maxRecDepth 10000 in
set_option maxHeartbeats 4000000 in
theorem wX8_spread {Z : hZ} {n : Nat} (hz : hOK Z hYx cX8_spread RX8 6 (n + 0) (some .int)) (a1 : Int32) (a2 : Int32) (M : hMem) : hW Z (rtP M) M 0 [(0, .ref (h_b Z + 40)), (1, .int a1), (2, .int a2)] [] (fX8_spread a1 a2 M) := by
  unfold fX8_spread
  refine x_iload_n hz dX8_spread_0 rfl 1 rfl ?_
  refine x_istore_n hz [(3, .int a1), (0, .ref (h_b Z + 40)), (1, .int a1), (2, .int a2)] dX8_spread_1 rfl rfl rfl ?_
  refine x_iconst hz 0 dX8_spread_2 rfl ?_
  refine x_istore hz [(4, .int 0), (3, .int a1), (0, .ref (h_b Z + 40)), (1, .int a1), (2, .int a2)] dX8_spread_3 rfl rfl ?_
  exact x_sub [2, 4, 1, 0] rfl (wX8_spread_L5 hz a2 M h_FU (a1, 0))
theorem kX8_spread {l : Launch} {dd : hDD} {b n : Nat} (a1 : Int32) (a2 : Int32) (M : hMem) (r : Int32) (h : fX8_spread a1 a2 M = some r) : hC l hYx dd b yX8_spread cX8_spread 6 (some .int) (n + 0) [.ref (b + 40), .int a1, .int a2] M (some (.int r), M) :=
  h_met (av := fun b => [.ref (b + 40), .int a1, .int a2]) (rt := (rtP M)) (by decide) (Nat.le_of_ble_eq_true rfl) (fun Z hz => wX8_spread (n := n) hz a1 a2 M) r h
set_option maxRecDepth 10000 in
set_option maxHeartbeats 4000000 in
theorem wX8_had_L14 {Z : hZ} {n : Nat} (hz : hOK Z hYx cX8_had RX8 8 (n + 1) (some .int))  (v1 : Nat) (hv1 : h_is hYx v1 10 25) (v4 : Int32) (M : hMem)  : ∀ (i : Nat) (s : Int32 × Int32), hW Z (rtP M) M 14 [(0, .ref (h_b Z + 40)), (1, .ref (h_b Z + v1)), (4, .int v4), (6, .int s.1), (7, .int s.2)] [] (h_lp (fX8_had_L14 v1 v4 M) i s) := by
  refine x_loop (Ms := fun s : Int32 × Int32 => M) (Ls := fun s : Int32 × Int32 => [(0, .ref (h_b Z + 40)), (1, .ref (h_b Z + v1)), (4, .int v4), (6, .int s.1), (7, .int s.2)]) ?_
  intro k14 hk14 s
  show hW Z (rtP M) M 14 [(0, .ref (h_b Z + 40)), (1, .ref (h_b Z + v1)), (4, .int v4), (6, .int s.1), (7, .int s.2)] [] (fX8_had_L14 v1 v4 M k14 s)
  unfold fX8_had_L14
  refine x_iload hz dX8_had_14 4 rfl ?_
  refine x_bipush hz 24 dX8_had_16 rfl ?_
  refine x_icmp_gt hz dX8_had_18 ?_ ?_
  · refine x_iconst hz (-1) dX8_had_55 rfl ?_
    exact x_iret hz rfl dX8_had_56
  refine x_iload hz dX8_had_21 3 rfl ?_
  refine x_aload_n hz dX8_had_23 rfl 1 rfl ?_
  refine x_iload hz dX8_had_24 4 rfl ?_
  refine x_iald hz hv1 dX8_had_26 (fun hi26 => ?_)
  refine x_callN hz mn_X8_82 (kX9_squareOf (n := n) (M v1 s.2.toNatClampNeg) M) rfl (av := [.int (M v1 s.2.toNatClampNeg)]) (rest := [.int s.1]) rfl rfl (Nat.le_of_ble_eq_true rfl) dX8_had_27 ?_
  refine x_iushr hz dX8_had_30 ?_
  refine x_iconst hz 1 dX8_had_31 rfl ?_
  refine x_iand hz dX8_had_32 ?_
  refine x_if_eq hz dX8_had_33 ?_ ?_
  · refine x_aload_n hz dX8_had_39 rfl 0 rfl ?_
    refine x_iload hz dX8_had_40 3 rfl ?_
    refine x_iload hz dX8_had_42 2 rfl ?_
    refine x_bind (fun q44 hq44 => ?_)
    refine x_callV hz mv_X8_148 sx_40 (by decide) rfl rfl (kX8_spread (n := n) s.1 v4 M q44 hq44) rfl (av := [.int s.1, .int v4]) (rest := []) rfl rfl (Nat.le_of_ble_eq_true rfl) dX8_had_44 ?_
    refine x_istore hz [(6, .int q44), (0, .ref (h_b Z + 40)), (1, .ref (h_b Z + v1)), (4, .int v4), (7, .int s.2)] dX8_had_47 rfl rfl ?_
    refine x_iinc hz (s.2 + 1) [(7, .int (s.2 + 1)), (6, .int q44), (0, .ref (h_b Z + 40)), (1, .ref (h_b Z + v1)), (4, .int v4)] dX8_had_49 4 rfl rfl rfl rfl ?_
    refine x_goto hz dX8_had_52 ?_
    exact x_sub [2, 3, 4, 1, 0] rfl (hk14 (q44, s.2 + 1))
  refine x_iload hz dX8_had_36 4 rfl ?_
  exact x_iret hz rfl dX8_had_38
set_option maxRecDepth 10000 in
set_option maxHeartbeats 4000000 in
theorem wX8_had {Z : hZ} {n : Nat} (hz : hOK Z hYx cX8_had RX8 8 (n + 1) (some .int)) (a1 : Nat) (a2 : Int32) (a3 : Int32) (a4 : Int32) (a5 : Int32) (M : hMem) : hW Z (rtP M) M 0 [(0, .ref (h_b Z + 40)), (1, .ref (h_b Z + a1)), (2, .int a2), (3, .int a3), (4, .int a4), (5, .int a5)] [] (fX8_had a1 a2 a3 a4 a5 M) := by
  unfold fX8_had
  refine x_guard (fun hpa1 => ?_)
  refine x_aload_n hz dX8_had_0 rfl 0 rfl ?_
  refine x_iconst hz 1 dX8_had_1 rfl ?_
  refine x_iload_n hz dX8_had_2 rfl 2 rfl ?_
  refine x_ishl hz dX8_had_3 ?_
  refine x_iload hz dX8_had_4 5 rfl ?_
  refine x_bind (fun q6 hq6 => ?_)
  refine x_callV hz mv_X8_148 sx_40 (by decide) rfl rfl (kX8_spread (n := n) (1 <<< (a2 &&& 31)) a5 M q6 hq6) rfl (av := [.int (1 <<< (a2 &&& 31)), .int a5]) (rest := []) rfl rfl (Nat.le_of_ble_eq_true rfl) dX8_had_6 ?_
  refine x_istore hz [(6, .int q6), (0, .ref (h_b Z + 40)), (1, .ref (h_b Z + a1)), (2, .int a2), (3, .int a3), (4, .int a4), (5, .int a5)] dX8_had_9 rfl rfl ?_
  refine x_iload_n hz dX8_had_11 rfl 4 rfl ?_
  refine x_istore hz [(7, .int a3), (6, .int q6), (0, .ref (h_b Z + 40)), (1, .ref (h_b Z + a1)), (2, .int a2), (3, .int a3), (4, .int a4), (5, .int a5)] dX8_had_12 rfl rfl ?_
  exact x_sub [2, 3, 6, 1, 0] rfl (wX8_had_L14 hz a1 (h_isB_is hpa1) a4 M h_FU (q6, a3))
theorem kX8_had {l : Launch} {dd : hDD} {b n : Nat} (a1 : Nat) (a2 : Int32) (a3 : Int32) (a4 : Int32) (a5 : Int32) (M : hMem) (r : Int32) (h : fX8_had a1 a2 a3 a4 a5 M = some r) : hC l hYx dd b yX8_had cX8_had 8 (some .int) (n + 1) [.ref (b + 40), .ref (b + a1), .int a2, .int a3, .int a4, .int a5] M (some (.int r), M) :=
  h_met (av := fun b => [.ref (b + 40), .ref (b + a1), .int a2, .int a3, .int a4, .int a5]) (rt := (rtP M)) (by decide) (Nat.le_of_ble_eq_true rfl) (fun Z hz => wX8_had (n := n) hz a1 a2 a3 a4 a5 M) r h
set_option maxRecDepth 10000 in
set_option maxHeartbeats 4000000 in
theorem wX8_hadBy {Z : hZ} {n : Nat} (hz : hOK Z hYx cX8_hadBy RX8 2 (n + 5) (some .int)) (a1 : Nat) (M : hMem) : hW Z rtM M 0 [(0, .ref (h_b Z + 40)), (1, .ref (h_b Z + a1))] [] (fX8_hadBy a1 M) := by
  unfold fX8_hadBy
  refine x_guard (fun hpa1 => ?_)
  refine x_aload_n hz dX8_hadBy_0 rfl 0 rfl ?_
  refine x_aload_n hz dX8_hadBy_1 rfl 0 rfl ?_
  refine x_getr hz sx_40 fl_X8_25 rfl rx_40_9 (by decide) dX8_hadBy_2 ?_
  refine x_bind (fun q5 hq5 => ?_)
  refine x_callV hz mv_X8_129 sx_40 (by decide) rfl rfl (kX8_follow (n := n) 47 M q5 hq5) rfl (av := [.ref (h_b Z + 47)]) (rest := []) rfl rfl (Nat.le_of_ble_eq_true rfl) dX8_hadBy_5 ?_
  refine x_aload_n hz dX8_hadBy_8 rfl 0 rfl ?_
  refine x_aload_n hz dX8_hadBy_9 rfl 0 rfl ?_
  refine x_getr hz sx_40 fl_X8_25 rfl rx_40_9 (by decide) dX8_hadBy_10 ?_
  refine x_aload_n hz dX8_hadBy_13 rfl 1 rfl ?_
  refine x_geti hz (h_isB_is hpa1) fl_X8_133 rfl dX8_hadBy_14 ?_
  refine x_iconst hz 0 dX8_hadBy_17 rfl ?_
  refine x_aload_n hz dX8_hadBy_18 rfl 1 rfl ?_
  refine x_geti hz (h_isB_is hpa1) fl_X8_138 rfl dX8_hadBy_19 ?_
  refine x_aload_n hz dX8_hadBy_22 rfl 1 rfl ?_
  refine x_geti hz (h_isB_is hpa1) fl_X8_141 rfl dX8_hadBy_23 ?_
  refine x_bind (fun q26 hq26 => ?_)
  refine x_callV hz mv_X8_144 sx_40 (by decide) rfl rfl (kX8_had (n := (n + 3)) 47 (q5 a1 0) 0 (q5 a1 1) (q5 a1 2) q5 q26 hq26) rfl (av := [.ref (h_b Z + 47), .int (q5 a1 0), .int 0, .int (q5 a1 1), .int (q5 a1 2)]) (rest := []) rfl rfl (Nat.le_of_ble_eq_true rfl) dX8_hadBy_26 ?_
  exact x_iret hz rfl dX8_hadBy_29
theorem kX8_hadBy {l : Launch} {dd : hDD} {b n : Nat} (a1 : Nat) (M : hMem) (r : Int32 × hMem) (h : fX8_hadBy a1 M = some r) : hC l hYx dd b yX8_hadBy cX8_hadBy 2 (some .int) (n + 5) [.ref (b + 40), .ref (b + a1)] M (some (.int r.1), r.2) :=
  h_met (av := fun b => [.ref (b + 40), .ref (b + a1)]) (rt := rtM) (by decide) (Nat.le_of_ble_eq_true rfl) (fun Z hz => wX8_hadBy (n := n) hz a1 M) r h
set_option maxRecDepth 10000 in
set_option maxHeartbeats 4000000 in
theorem wX9_hadNow {Z : hZ} {n : Nat} (hz : hOK Z hYx cX9_hadNow RX9 3 (n + 6) (some .int)) (a1 : Int32) (a2 : Int32) (M : hMem) : hW Z rtM M 0 [(0, .ref (h_b Z + 0)), (1, .int a1), (2, .int a2)] [] (fX9_hadNow a1 a2 M) := by
  unfold fX9_hadNow
  refine x_aload_n hz dX9_hadNow_0 rfl 0 rfl ?_
  refine x_iload_n hz dX9_hadNow_1 rfl 1 rfl ?_
  refine x_bind (fun q2 hq2 => ?_)
  refine x_callV hz mv_X9_207 sx_0 (by decide) rfl rfl (kX9_think (n := (n + 3)) a1 M q2 hq2) rfl (av := [.int a1]) (rest := []) rfl rfl (Nat.le_of_ble_eq_true rfl) dX9_hadNow_2 ?_
  refine x_aload_n hz dX9_hadNow_5 rfl 0 rfl ?_
  refine x_getr hz sx_0 fl_X9_49 rfl rx_0_7 (by decide) dX9_hadNow_6 ?_
  refine x_aload_n hz dX9_hadNow_9 rfl 0 rfl ?_
  refine x_getr hz sx_0 fl_X9_12 rfl rx_0_0 (by decide) dX9_hadNow_10 ?_
  refine x_getr hz sx_1 fl_X9_186 rfl rx_1_4 (by decide) dX9_hadNow_13 ?_
  refine x_iload_n hz dX9_hadNow_16 rfl 2 rfl ?_
  refine x_guard (fun hi17 => ?_)
  refine x_aald0 hz (q := (11 + a2.toNatClampNeg)) 2 (fun _ => rfl) sx_6 (by decide) hi17 rfl (by omega) dX9_hadNow_17 ?_
  refine x_bind (fun q18 hq18 => ?_)
  refine x_callV hz mv_X9_276 sx_40 (by decide) rfl rfl (kX8_hadBy (n := n) (11 + a2.toNatClampNeg) q2 q18 hq18) rfl (av := [.ref (h_b Z + (11 + a2.toNatClampNeg))]) (rest := []) rfl rfl (Nat.le_of_ble_eq_true rfl) dX9_hadNow_18 ?_
  exact x_iret hz rfl dX9_hadNow_21
theorem kX9_hadNow {l : Launch} {dd : hDD} {b n : Nat} (a1 : Int32) (a2 : Int32) (M : hMem) (r : Int32 × hMem) (h : fX9_hadNow a1 a2 M = some r) : hC l hYx dd b yX9_hadNow cX9_hadNow 3 (some .int) (n + 6) [.ref (b + 0), .int a1, .int a2] M (some (.int r.1), r.2) :=
  h_met (av := fun b => [.ref (b + 0), .int a1, .int a2]) (rt := rtM) (by decide) (Nat.le_of_ble_eq_true rfl) (fun Z hz => wX9_hadNow (n := n) hz a1 a2 M) r h
set_option maxRecDepth 10000 in
set_option maxHeartbeats 4000000 in
theorem wX9_caught {Z : hZ} {n : Nat} (hz : hOK Z hYx cX9_caught RX9 3 (n + 7) (some .int)) (a1 : Int32) (a2 : Int32) (M : hMem) : hW Z rtM M 0 [(0, .ref (h_b Z + 0)), (1, .int a1), (2, .int a2)] [] (fX9_caught a1 a2 M) := by
  unfold fX9_caught
  refine x_aload_n hz dX9_caught_0 rfl 0 rfl ?_
  refine x_iload_n hz dX9_caught_1 rfl 1 rfl ?_
  refine x_callV hz mv_X9_171 sx_0 (by decide) rfl rfl (kX9_isHat (n := (n + 6)) a1 M) rfl (av := [.int a1]) (rest := []) rfl rfl (Nat.le_of_ble_eq_true rfl) dX9_caught_2 ?_
  refine x_if_eq hz dX9_caught_5 ?_ ?_
  · refine x_bipush hz (-5) dX9_caught_25 rfl ?_
    exact x_iret hz rfl dX9_caught_27
  refine x_aload_n hz dX9_caught_8 rfl 0 rfl ?_
  refine x_iload_n hz dX9_caught_9 rfl 2 rfl ?_
  refine x_callV hz mv_X9_201 sx_0 (by decide) rfl rfl (kX9_isCatcher (n := (n + 6)) a2 M) rfl (av := [.int a2]) (rest := []) rfl rfl (Nat.le_of_ble_eq_true rfl) dX9_caught_10 ?_
  refine x_if_eq hz dX9_caught_13 ?_ ?_
  · refine x_bipush hz (-5) dX9_caught_25 rfl ?_
    exact x_iret hz rfl dX9_caught_27
  refine x_aload_n hz dX9_caught_16 rfl 0 rfl ?_
  refine x_iload_n hz dX9_caught_17 rfl 1 rfl ?_
  refine x_iload_n hz dX9_caught_18 rfl 2 rfl ?_
  refine x_bind (fun q19 hq19 => ?_)
  refine x_callV hz mv_X9_233 sx_0 (by decide) rfl rfl (kX9_hadNow (n := n) a1 a2 M q19 hq19) rfl (av := [.int a1, .int a2]) (rest := []) rfl rfl (Nat.le_of_ble_eq_true rfl) dX9_caught_19 ?_
  refine x_goto hz dX9_caught_22 ?_
  exact x_iret hz rfl dX9_caught_27
theorem kX9_caught {l : Launch} {dd : hDD} {b n : Nat} (a1 : Int32) (a2 : Int32) (M : hMem) (r : Int32 × hMem) (h : fX9_caught a1 a2 M = some r) : hC l hYx dd b yX9_caught cX9_caught 3 (some .int) (n + 7) [.ref (b + 0), .int a1, .int a2] M (some (.int r.1), r.2) :=
  h_met (av := fun b => [.ref (b + 0), .int a1, .int a2]) (rt := rtM) (by decide) (Nat.le_of_ble_eq_true rfl) (fun Z hz => wX9_caught (n := n) hz a1 a2 M) r h
set_option maxRecDepth 10000 in
set_option maxHeartbeats 4000000 in
theorem wX9_isSooner {Z : hZ} {n : Nat} (hz : hOK Z hYx cX9_isSooner RX9 2 (n + 0) (some .boolean)) (a0 : Int32) (a1 : Int32) (M : hMem) : hW Z (rtP M) M 0 [(0, .int a0), (1, .int a1)] [] (some (fX9_isSooner a0 a1 M)) := by
  unfold fX9_isSooner
  refine x_iload_n hz dX9_isSooner_0 rfl 0 rfl ?_
  refine x_pull ?_
  refine x_if_lt hz dX9_isSooner_1 ?_ ?_
  · refine x_iconst hz 0 dX9_isSooner_17 rfl ?_
    exact x_zret hz rfl rfl dX9_isSooner_18
  refine x_iload_n hz dX9_isSooner_4 rfl 1 rfl ?_
  refine x_pull ?_
  refine x_if_lt hz dX9_isSooner_5 ?_ ?_
  · refine x_iconst hz 1 dX9_isSooner_13 rfl ?_
    refine x_goto hz dX9_isSooner_14 ?_
    exact x_zret hz rfl rfl dX9_isSooner_18
  refine x_iload_n hz dX9_isSooner_8 rfl 0 rfl ?_
  refine x_iload_n hz dX9_isSooner_9 rfl 1 rfl ?_
  refine x_pull ?_
  refine x_icmp_ge hz dX9_isSooner_10 ?_ ?_
  · refine x_iconst hz 0 dX9_isSooner_17 rfl ?_
    exact x_zret hz rfl rfl dX9_isSooner_18
  refine x_iconst hz 1 dX9_isSooner_13 rfl ?_
  refine x_goto hz dX9_isSooner_14 ?_
  exact x_zret hz rfl rfl dX9_isSooner_18
theorem bX9_isSooner (a0 : Int32) (a1 : Int32) (M : hMem) : narrow .boolean (.int (fX9_isSooner a0 a1 M)) = .int (fX9_isSooner a0 a1 M) := by
  unfold fX9_isSooner
  repeat (first | rfl | split)
theorem kX9_isSooner {l : Launch} {dd : hDD} {b n : Nat} (a0 : Int32) (a1 : Int32) (M : hMem) : hC l hYx dd b yX9_isSooner cX9_isSooner 2 (some .boolean) (n + 0) [.int a0, .int a1] M (some (.int (fX9_isSooner a0 a1 M)), M) :=
  h_met (av := fun b => [.int a0, .int a1]) (rt := (rtP M)) (by decide) (Nat.le_of_ble_eq_true rfl) (fun Z hz => wX9_isSooner (n := n) hz a0 a1 M) _ rfl
