set_option maxRecDepth 10000 in
set_option maxHeartbeats 4000000 in
theorem wX5_put {Z : hZ} {n : Nat} (hz : hOK Z hYx cX5_put RX5 2 (n + 0) none) (a1 : Int32) (M : hMem) : hW Z rtV M 0 [(0, .ref (h_b Z + 30)), (1, .int a1)] [] (fX5_put a1 M) := by
  unfold fX5_put
  refine x_aload_n hz dX5_put_0 rfl 0 rfl ?_
  refine x_geti hz sx_30 fl_X5_9 rfl dX5_put_1 ?_
  refine x_sipush hz 160 dX5_put_4 rfl ?_
  refine x_icmp_ge hz dX5_put_7 ?_ ?_
  · exact x_vret hz rfl dX5_put_30
  refine x_aload_n hz dX5_put_10 rfl 0 rfl ?_
  refine x_getr hz sx_30 fl_X5_15 rfl rx_30_1 (by decide) dX5_put_11 ?_
  refine x_aload_n hz dX5_put_14 rfl 0 rfl ?_
  refine x_geti hz sx_30 fl_X5_9 rfl dX5_put_15 ?_
  refine x_iload_n hz dX5_put_18 rfl 1 rfl ?_
  refine x_iast hz sx_31 dX5_put_19 (fun hi19 => ?_)
  refine x_aload_n hz dX5_put_20 rfl 0 rfl ?_
  refine x_dup hz dX5_put_21 rfl ?_
  refine x_geti hz sx_30 fl_X5_9 rfl dX5_put_22 ?_
  refine x_iconst hz 1 dX5_put_25 rfl ?_
  refine x_iadd hz dX5_put_26 ?_
  refine x_puti hz sx_30 fp_X5_9 rfl dX5_put_27 ?_
  exact x_vret hz rfl dX5_put_30
theorem kX5_put {l : Launch} {dd : hDD} {b n : Nat} (a1 : Int32) (M : hMem) (r : hMem) (h : fX5_put a1 M = some r) : hC l hYx dd b yX5_put cX5_put 2 none (n + 0) [.ref (b + 30), .int a1] M (none, r) :=
  h_met (av := fun b => [.ref (b + 30), .int a1]) (rt := rtV) (by decide) (Nat.le_of_ble_eq_true rfl) (fun Z hz => wX5_put (n := n) hz a1 M) r h
set_option maxRecDepth 10000 in
set_option maxHeartbeats 4000000 in
theorem wX4_clear {Z : hZ} {n : Nat} (hz : hOK Z hYx cX4_clear RX4 1 (n + 0) none) (a0 : Nat) (M : hMem) : hW Z rtV M 0 [(0, .ref (h_b Z + a0))] [] (fX4_clear a0 M) := by
  unfold fX4_clear
  refine x_guard (fun hpa0 => ?_)
  refine x_aload_n hz dX4_clear_0 rfl 0 rfl ?_
  refine x_iconst hz 0 dX4_clear_1 rfl ?_
  refine x_puti hz (h_isB_is hpa0) fp_X4_21 rfl dX4_clear_2 ?_
  exact x_vret hz rfl dX4_clear_5
theorem kX4_clear {l : Launch} {dd : hDD} {b n : Nat} (a0 : Nat) (M : hMem) (r : hMem) (h : fX4_clear a0 M = some r) : hC l hYx dd b yX4_clear cX4_clear 1 none (n + 0) [.ref (b + a0)] M (none, r) :=
  h_met (av := fun b => [.ref (b + a0)]) (rt := rtV) (by decide) (Nat.le_of_ble_eq_true rfl) (fun Z hz => wX4_clear (n := n) hz a0 M) r h
set_option maxRecDepth 10000 in
set_option maxHeartbeats 4000000 in
theorem wX5_advance {Z : hZ} {n : Nat} (hz : hOK Z hYx cX5_advance RX5 1 (n + 0) none)  (M : hMem) : hW Z rtV M 0 [(0, .ref (h_b Z + 30))] [] (fX5_advance M) := by
  unfold fX5_advance
  refine x_aload_n hz dX5_advance_0 rfl 0 rfl ?_
  refine x_geti hz sx_30 fl_X5_44 rfl dX5_advance_1 ?_
  refine x_sipush hz 160 dX5_advance_4 rfl ?_
  refine x_icmp_ge hz dX5_advance_7 ?_ ?_
  · refine x_aload_n hz dX5_advance_20 rfl 0 rfl ?_
    refine x_aload_n hz dX5_advance_21 rfl 0 rfl ?_
    refine x_getr hz sx_30 fl_X5_19 rfl rx_30_2 (by decide) dX5_advance_22 ?_
    refine x_aload_n hz dX5_advance_25 rfl 0 rfl ?_
    refine x_geti hz sx_30 fl_X5_44 rfl dX5_advance_26 ?_
    refine x_iald hz sx_32 dX5_advance_29 (fun hi29 => ?_)
    refine x_puti hz sx_30 fp_X5_47 rfl dX5_advance_30 ?_
    exact x_vret hz rfl dX5_advance_33
  refine x_aload_n hz dX5_advance_10 rfl 0 rfl ?_
  refine x_dup hz dX5_advance_11 rfl ?_
  refine x_geti hz sx_30 fl_X5_44 rfl dX5_advance_12 ?_
  refine x_iconst hz 1 dX5_advance_15 rfl ?_
  refine x_iadd hz dX5_advance_16 ?_
  refine x_puti hz sx_30 fp_X5_44 rfl dX5_advance_17 ?_
  refine x_aload_n hz dX5_advance_20 rfl 0 rfl ?_
  refine x_aload_n hz dX5_advance_21 rfl 0 rfl ?_
  refine x_getr hz sx_30 fl_X5_19 rfl rx_30_2 (by decide) dX5_advance_22 ?_
  refine x_aload_n hz dX5_advance_25 rfl 0 rfl ?_
  refine x_geti hz sx_30 fl_X5_44 rfl dX5_advance_26 ?_
  refine x_iald hz sx_32 dX5_advance_29 (fun hi29 => ?_)
  refine x_puti hz sx_30 fp_X5_47 rfl dX5_advance_30 ?_
  exact x_vret hz rfl dX5_advance_33
theorem kX5_advance {l : Launch} {dd : hDD} {b n : Nat}  (M : hMem) (r : hMem) (h : fX5_advance M = some r) : hC l hYx dd b yX5_advance cX5_advance 1 none (n + 0) [.ref (b + 30)] M (none, r) :=
  h_met (av := fun b => [.ref (b + 30)]) (rt := rtV) (by decide) (Nat.le_of_ble_eq_true rfl) (fun Z hz => wX5_advance (n := n) hz  M) r h
set_option maxRecDepth 10000 in
set_option maxHeartbeats 4000000 in
theorem wX5_refuse {Z : hZ} {n : Nat} (hz : hOK Z hYx cX5_refuse RX5 1 (n + 0) none)  (M : hMem) : hW Z rtV M 0 [(0, .ref (h_b Z + 30))] [] (fX5_refuse M) := by
  unfold fX5_refuse
  refine x_aload_n hz dX5_refuse_0 rfl 0 rfl ?_
  refine x_geti hz sx_30 fl_X5_38 rfl dX5_refuse_1 ?_
  refine x_if_ge hz dX5_refuse_4 ?_ ?_
  · refine x_aload_n hz dX5_refuse_20 rfl 0 rfl ?_
    refine x_iconst hz 1 dX5_refuse_21 rfl ?_
    refine x_puti hz sx_30 fp_X5_47 rfl dX5_refuse_22 ?_
    exact x_vret hz rfl dX5_refuse_25
  refine x_aload_n hz dX5_refuse_7 rfl 0 rfl ?_
  refine x_aload_n hz dX5_refuse_8 rfl 0 rfl ?_
  refine x_getr hz sx_30 fl_X5_22 rfl rx_30_3 (by decide) dX5_refuse_9 ?_
  refine x_aload_n hz dX5_refuse_12 rfl 0 rfl ?_
  refine x_geti hz sx_30 fl_X5_44 rfl dX5_refuse_13 ?_
  refine x_iald hz sx_33 dX5_refuse_16 (fun hi16 => ?_)
  refine x_puti hz sx_30 fp_X5_38 rfl dX5_refuse_17 ?_
  refine x_aload_n hz dX5_refuse_20 rfl 0 rfl ?_
  refine x_iconst hz 1 dX5_refuse_21 rfl ?_
  refine x_puti hz sx_30 fp_X5_47 rfl dX5_refuse_22 ?_
  exact x_vret hz rfl dX5_refuse_25
theorem kX5_refuse {l : Launch} {dd : hDD} {b n : Nat}  (M : hMem) (r : hMem) (h : fX5_refuse M = some r) : hC l hYx dd b yX5_refuse cX5_refuse 1 none (n + 0) [.ref (b + 30)] M (none, r) :=
  h_met (av := fun b => [.ref (b + 30)]) (rt := rtV) (by decide) (Nat.le_of_ble_eq_true rfl) (fun Z hz => wX5_refuse (n := n) hz  M) r h
set_option maxRecDepth 10000 in
set_option maxHeartbeats 4000000 in
theorem wX5_expect {Z : hZ} {n : Nat} (hz : hOK Z hYx cX5_expect RX5 2 (n + 1) none) (a1 : Int32) (M : hMem) : hW Z rtV M 0 [(0, .ref (h_b Z + 30)), (1, .int a1)] [] (fX5_expect a1 M) := by
  unfold fX5_expect
  refine x_aload_n hz dX5_expect_0 rfl 0 rfl ?_
  refine x_geti hz sx_30 fl_X5_47 rfl dX5_expect_1 ?_
  refine x_iload_n hz dX5_expect_4 rfl 1 rfl ?_
  refine x_icmp_ne hz dX5_expect_5 ?_ ?_
  · refine x_aload_n hz dX5_expect_15 rfl 0 rfl ?_
    refine x_bind (fun q16 hq16 => ?_)
    refine x_callV hz mv_X5_88 sx_30 (by decide) rfl rfl (kX5_refuse (n := n)  M q16 hq16) rfl (av := []) (rest := []) rfl rfl (Nat.le_of_ble_eq_true rfl) dX5_expect_16 ?_
    exact x_vret hz rfl dX5_expect_19
  refine x_aload_n hz dX5_expect_8 rfl 0 rfl ?_
  refine x_bind (fun q9 hq9 => ?_)
  refine x_callV hz mv_X5_67 sx_30 (by decide) rfl rfl (kX5_advance (n := n)  M q9 hq9) rfl (av := []) (rest := []) rfl rfl (Nat.le_of_ble_eq_true rfl) dX5_expect_9 ?_
  refine x_goto hz dX5_expect_12 ?_
  exact x_vret hz rfl dX5_expect_19
theorem kX5_expect {l : Launch} {dd : hDD} {b n : Nat} (a1 : Int32) (M : hMem) (r : hMem) (h : fX5_expect a1 M = some r) : hC l hYx dd b yX5_expect cX5_expect 2 none (n + 1) [.ref (b + 30), .int a1] M (none, r) :=
  h_met (av := fun b => [.ref (b + 30), .int a1]) (rt := rtV) (by decide) (Nat.le_of_ble_eq_true rfl) (fun Z hz => wX5_expect (n := n) hz a1 M) r h
set_option maxRecDepth 10000 in
set_option maxHeartbeats 4000000 in
theorem wX5_byteAt {Z : hZ} {n : Nat} (hz : hOK Z hYx cX5_byteAt RX5 2 (n + 0) (some .int)) (a1 : Int32) (M : hMem) : hW Z (rtP M) M 0 [(0, .ref (h_b Z + 30)), (1, .int a1)] [] (fX5_byteAt a1 M) := by
  unfold fX5_byteAt
  refine x_iload_n hz dX5_byteAt_0 rfl 1 rfl ?_
  refine x_if_lt hz dX5_byteAt_1 ?_ ?_
  · refine x_iconst hz (-1) dX5_byteAt_21 rfl ?_
    exact x_iret hz rfl dX5_byteAt_22
  refine x_iload_n hz dX5_byteAt_4 rfl 1 rfl ?_
  refine x_aload_n hz dX5_byteAt_5 rfl 0 rfl ?_
  refine x_geti hz sx_30 fl_X5_9 rfl dX5_byteAt_6 ?_
  refine x_icmp_ge hz dX5_byteAt_9 ?_ ?_
  · refine x_iconst hz (-1) dX5_byteAt_21 rfl ?_
    exact x_iret hz rfl dX5_byteAt_22
  refine x_aload_n hz dX5_byteAt_12 rfl 0 rfl ?_
  refine x_getr hz sx_30 fl_X5_15 rfl rx_30_1 (by decide) dX5_byteAt_13 ?_
  refine x_iload_n hz dX5_byteAt_16 rfl 1 rfl ?_
  refine x_iald hz sx_31 dX5_byteAt_17 (fun hi17 => ?_)
  refine x_goto hz dX5_byteAt_18 ?_
  exact x_iret hz rfl dX5_byteAt_22
theorem kX5_byteAt {l : Launch} {dd : hDD} {b n : Nat} (a1 : Int32) (M : hMem) (r : Int32) (h : fX5_byteAt a1 M = some r) : hC l hYx dd b yX5_byteAt cX5_byteAt 2 (some .int) (n + 0) [.ref (b + 30), .int a1] M (some (.int r), M) :=
  h_met (av := fun b => [.ref (b + 30), .int a1]) (rt := (rtP M)) (by decide) (Nat.le_of_ble_eq_true rfl) (fun Z hz => wX5_byteAt (n := n) hz a1 M) r h
set_option maxRecDepth 10000 in
set_option maxHeartbeats 4000000 in
theorem wX5_behindBlanks_L4 {Z : hZ} {n : Nat} (hz : hOK Z hYx cX5_behindBlanks RX5 4 (n + 1) (some .int))   (M : hMem)  : ∀ (i : Nat) (s : Int32 × Int32), hW Z (rtP M) M 4 [(0, .ref (h_b Z + 30)), (2, .int s.1), (3, .int s.2)] [] (h_lp (fX5_behindBlanks_L4 M) i s) := by
  refine x_loop (Ms := fun s : Int32 × Int32 => M) (Ls := fun s : Int32 × Int32 => [(0, .ref (h_b Z + 30)), (2, .int s.1), (3, .int s.2)]) ?_
  intro k4 hk4 s
  show hW Z (rtP M) M 4 [(0, .ref (h_b Z + 30)), (2, .int s.1), (3, .int s.2)] [] (fX5_behindBlanks_L4 M k4 s)
  unfold fX5_behindBlanks_L4
  refine x_iload_n hz dX5_behindBlanks_4 rfl 2 rfl ?_
  refine x_sipush hz 160 dX5_behindBlanks_5 rfl ?_
  refine x_icmp_ge hz dX5_behindBlanks_8 ?_ ?_
  · refine x_iload_n hz dX5_behindBlanks_40 rfl 1 rfl ?_
    exact x_iret hz rfl dX5_behindBlanks_41
  refine x_aload_n hz dX5_behindBlanks_11 rfl 0 rfl ?_
  refine x_iload_n hz dX5_behindBlanks_12 rfl 1 rfl ?_
  refine x_bind (fun q13 hq13 => ?_)
  refine x_callV hz mv_X5_106 sx_30 (by decide) rfl rfl (kX5_byteAt (n := n) s.1 M q13 hq13) rfl (av := [.int s.1]) (rest := []) rfl rfl (Nat.le_of_ble_eq_true rfl) dX5_behindBlanks_13 ?_
  refine x_bipush hz 32 dX5_behindBlanks_16 rfl ?_
  refine x_icmp_eq hz dX5_behindBlanks_18 ?_ ?_
  · refine x_iinc hz (s.1 + 1) [(2, .int (s.1 + 1)), (0, .ref (h_b Z + 30)), (3, .int s.2)] dX5_behindBlanks_31 1 rfl rfl rfl rfl ?_
    refine x_iinc hz (s.2 + 1) [(3, .int (s.2 + 1)), (2, .int (s.1 + 1)), (0, .ref (h_b Z + 30))] dX5_behindBlanks_34 2 rfl rfl rfl rfl ?_
    refine x_goto hz dX5_behindBlanks_37 ?_
    exact x_sub [2, 1, 0] rfl (hk4 (s.1 + 1, s.2 + 1))
  refine x_aload_n hz dX5_behindBlanks_21 rfl 0 rfl ?_
  refine x_iload_n hz dX5_behindBlanks_22 rfl 1 rfl ?_
  refine x_bind (fun q23 hq23 => ?_)
  refine x_callV hz mv_X5_106 sx_30 (by decide) rfl rfl (kX5_byteAt (n := n) s.1 M q23 hq23) rfl (av := [.int s.1]) (rest := []) rfl rfl (Nat.le_of_ble_eq_true rfl) dX5_behindBlanks_23 ?_
  refine x_bipush hz 10 dX5_behindBlanks_26 rfl ?_
  refine x_icmp_ne hz dX5_behindBlanks_28 ?_ ?_
  · refine x_iload_n hz dX5_behindBlanks_40 rfl 1 rfl ?_
    exact x_iret hz rfl dX5_behindBlanks_41
  refine x_iinc hz (s.1 + 1) [(2, .int (s.1 + 1)), (0, .ref (h_b Z + 30)), (3, .int s.2)] dX5_behindBlanks_31 1 rfl rfl rfl rfl ?_
  refine x_iinc hz (s.2 + 1) [(3, .int (s.2 + 1)), (2, .int (s.1 + 1)), (0, .ref (h_b Z + 30))] dX5_behindBlanks_34 2 rfl rfl rfl rfl ?_
  refine x_goto hz dX5_behindBlanks_37 ?_
  exact x_sub [2, 1, 0] rfl (hk4 (s.1 + 1, s.2 + 1))
set_option maxRecDepth 10000 in
set_option maxHeartbeats 4000000 in
theorem wX5_behindBlanks {Z : hZ} {n : Nat} (hz : hOK Z hYx cX5_behindBlanks RX5 4 (n + 1) (some .int)) (a1 : Int32) (M : hMem) : hW Z (rtP M) M 0 [(0, .ref (h_b Z + 30)), (1, .int a1)] [] (fX5_behindBlanks a1 M) := by
  unfold fX5_behindBlanks
  refine x_iload_n hz dX5_behindBlanks_0 rfl 1 rfl ?_
  refine x_istore_n hz [(2, .int a1), (0, .ref (h_b Z + 30)), (1, .int a1)] dX5_behindBlanks_1 rfl rfl rfl ?_
  refine x_iconst hz 0 dX5_behindBlanks_2 rfl ?_
  refine x_istore_n hz [(3, .int 0), (2, .int a1), (0, .ref (h_b Z + 30)), (1, .int a1)] dX5_behindBlanks_3 rfl rfl rfl ?_
  exact x_sub [2, 1, 0] rfl (wX5_behindBlanks_L4 hz M h_FU (a1, 0))
theorem kX5_behindBlanks {l : Launch} {dd : hDD} {b n : Nat} (a1 : Int32) (M : hMem) (r : Int32) (h : fX5_behindBlanks a1 M = some r) : hC l hYx dd b yX5_behindBlanks cX5_behindBlanks 4 (some .int) (n + 1) [.ref (b + 30), .int a1] M (some (.int r), M) :=
  h_met (av := fun b => [.ref (b + 30), .int a1]) (rt := (rtP M)) (by decide) (Nat.le_of_ble_eq_true rfl) (fun Z hz => wX5_behindBlanks (n := n) hz a1 M) r h
set_option maxRecDepth 10000 in
set_option maxHeartbeats 4000000 in
theorem wX5_isDigit {Z : hZ} {n : Nat} (hz : hOK Z hYx cX5_isDigit RX5 1 (n + 0) (some .boolean)) (a0 : Int32) (M : hMem) : hW Z (rtP M) M 0 [(0, .int a0)] [] (some (fX5_isDigit a0 M)) := by
  unfold fX5_isDigit
  refine x_iload_n hz dX5_isDigit_0 rfl 0 rfl ?_
  refine x_bipush hz 48 dX5_isDigit_1 rfl ?_
  refine x_pull ?_
  refine x_icmp_lt hz dX5_isDigit_3 ?_ ?_
  · refine x_iconst hz 0 dX5_isDigit_16 rfl ?_
    exact x_zret hz rfl rfl dX5_isDigit_17
  refine x_iload_n hz dX5_isDigit_6 rfl 0 rfl ?_
  refine x_bipush hz 57 dX5_isDigit_7 rfl ?_
  refine x_pull ?_
  refine x_icmp_gt hz dX5_isDigit_9 ?_ ?_
  · refine x_iconst hz 0 dX5_isDigit_16 rfl ?_
    exact x_zret hz rfl rfl dX5_isDigit_17
  refine x_iconst hz 1 dX5_isDigit_12 rfl ?_
  refine x_goto hz dX5_isDigit_13 ?_
  exact x_zret hz rfl rfl dX5_isDigit_17
theorem bX5_isDigit (a0 : Int32) (M : hMem) : narrow .boolean (.int (fX5_isDigit a0 M)) = .int (fX5_isDigit a0 M) := by
  unfold fX5_isDigit
  repeat (first | rfl | split)
theorem kX5_isDigit {l : Launch} {dd : hDD} {b n : Nat} (a0 : Int32) (M : hMem) : hC l hYx dd b yX5_isDigit cX5_isDigit 1 (some .boolean) (n + 0) [.int a0] M (some (.int (fX5_isDigit a0 M)), M) :=
  h_met (av := fun b => [.int a0]) (rt := (rtP M)) (by decide) (Nat.le_of_ble_eq_true rfl) (fun Z hz => wX5_isDigit (n := n) hz a0 M) _ rfl
set_option maxRecDepth 10000 in
set_option maxHeartbeats 4000000 in
theorem wX5_isLetter {Z : hZ} {n : Nat} (hz : hOK Z hYx cX5_isLetter RX5 1 (n + 0) (some .boolean)) (a0 : Int32) (M : hMem) : hW Z (rtP M) M 0 [(0, .int a0)] [] (some (fX5_isLetter a0 M)) := by
  unfold fX5_isLetter
  refine x_iload_n hz dX5_isLetter_0 rfl 0 rfl ?_
  refine x_bipush hz 97 dX5_isLetter_1 rfl ?_
  refine x_pull ?_
  refine x_icmp_lt hz dX5_isLetter_3 ?_ ?_
  · refine x_iconst hz 0 dX5_isLetter_16 rfl ?_
    exact x_zret hz rfl rfl dX5_isLetter_17
  refine x_iload_n hz dX5_isLetter_6 rfl 0 rfl ?_
  refine x_bipush hz 122 dX5_isLetter_7 rfl ?_
  refine x_pull ?_
  refine x_icmp_gt hz dX5_isLetter_9 ?_ ?_
  · refine x_iconst hz 0 dX5_isLetter_16 rfl ?_
    exact x_zret hz rfl rfl dX5_isLetter_17
  refine x_iconst hz 1 dX5_isLetter_12 rfl ?_
  refine x_goto hz dX5_isLetter_13 ?_
  exact x_zret hz rfl rfl dX5_isLetter_17
theorem bX5_isLetter (a0 : Int32) (M : hMem) : narrow .boolean (.int (fX5_isLetter a0 M)) = .int (fX5_isLetter a0 M) := by
  unfold fX5_isLetter
  repeat (first | rfl | split)
theorem kX5_isLetter {l : Launch} {dd : hDD} {b n : Nat} (a0 : Int32) (M : hMem) : hC l hYx dd b yX5_isLetter cX5_isLetter 1 (some .boolean) (n + 0) [.int a0] M (some (.int (fX5_isLetter a0 M)), M) :=
  h_met (av := fun b => [.int a0]) (rt := (rtP M)) (by decide) (Nat.le_of_ble_eq_true rfl) (fun Z hz => wX5_isLetter (n := n) hz a0 M) _ rfl
set_option maxRecDepth 10000 in
set_option maxHeartbeats 4000000 in
theorem wX5_isSign {Z : hZ} {n : Nat} (hz : hOK Z hYx cX5_isSign RX5 1 (n + 0) (some .boolean)) (a0 : Int32) (M : hMem) : hW Z (rtP M) M 0 [(0, .int a0)] [] (some (fX5_isSign a0 M)) := by
  unfold fX5_isSign
  refine x_iload_n hz dX5_isSign_0 rfl 0 rfl ?_
  refine x_bipush hz 40 dX5_isSign_1 rfl ?_
  refine x_pull ?_
  refine x_icmp_eq hz dX5_isSign_3 ?_ ?_
  · refine x_iconst hz 1 dX5_isSign_48 rfl ?_
    refine x_goto hz dX5_isSign_49 ?_
    exact x_zret hz rfl rfl dX5_isSign_53
  refine x_iload_n hz dX5_isSign_6 rfl 0 rfl ?_
  refine x_bipush hz 41 dX5_isSign_7 rfl ?_
  refine x_pull ?_
  refine x_icmp_eq hz dX5_isSign_9 ?_ ?_
  · refine x_iconst hz 1 dX5_isSign_48 rfl ?_
    refine x_goto hz dX5_isSign_49 ?_
    exact x_zret hz rfl rfl dX5_isSign_53
  refine x_iload_n hz dX5_isSign_12 rfl 0 rfl ?_
  refine x_bipush hz 59 dX5_isSign_13 rfl ?_
  refine x_pull ?_
  refine x_icmp_eq hz dX5_isSign_15 ?_ ?_
  · refine x_iconst hz 1 dX5_isSign_48 rfl ?_
    refine x_goto hz dX5_isSign_49 ?_
    exact x_zret hz rfl rfl dX5_isSign_53
  refine x_iload_n hz dX5_isSign_18 rfl 0 rfl ?_
  refine x_bipush hz 43 dX5_isSign_19 rfl ?_
  refine x_pull ?_
  refine x_icmp_eq hz dX5_isSign_21 ?_ ?_
  · refine x_iconst hz 1 dX5_isSign_48 rfl ?_
    refine x_goto hz dX5_isSign_49 ?_
    exact x_zret hz rfl rfl dX5_isSign_53
  refine x_iload_n hz dX5_isSign_24 rfl 0 rfl ?_
  refine x_bipush hz 45 dX5_isSign_25 rfl ?_
  refine x_pull ?_
  refine x_icmp_eq hz dX5_isSign_27 ?_ ?_
  · refine x_iconst hz 1 dX5_isSign_48 rfl ?_
    refine x_goto hz dX5_isSign_49 ?_
    exact x_zret hz rfl rfl dX5_isSign_53
  refine x_iload_n hz dX5_isSign_30 rfl 0 rfl ?_
  refine x_bipush hz 42 dX5_isSign_31 rfl ?_
  refine x_pull ?_
  refine x_icmp_eq hz dX5_isSign_33 ?_ ?_
  · refine x_iconst hz 1 dX5_isSign_48 rfl ?_
    refine x_goto hz dX5_isSign_49 ?_
    exact x_zret hz rfl rfl dX5_isSign_53
  refine x_iload_n hz dX5_isSign_36 rfl 0 rfl ?_
  refine x_bipush hz 60 dX5_isSign_37 rfl ?_
  refine x_pull ?_
  refine x_icmp_eq hz dX5_isSign_39 ?_ ?_
  · refine x_iconst hz 1 dX5_isSign_48 rfl ?_
    refine x_goto hz dX5_isSign_49 ?_
    exact x_zret hz rfl rfl dX5_isSign_53
  refine x_iload_n hz dX5_isSign_42 rfl 0 rfl ?_
  refine x_bipush hz 61 dX5_isSign_43 rfl ?_
  refine x_pull ?_
  refine x_icmp_ne hz dX5_isSign_45 ?_ ?_
  · refine x_iconst hz 0 dX5_isSign_52 rfl ?_
    exact x_zret hz rfl rfl dX5_isSign_53
  refine x_iconst hz 1 dX5_isSign_48 rfl ?_
  refine x_goto hz dX5_isSign_49 ?_
  exact x_zret hz rfl rfl dX5_isSign_53
theorem bX5_isSign (a0 : Int32) (M : hMem) : narrow .boolean (.int (fX5_isSign a0 M)) = .int (fX5_isSign a0 M) := by
  unfold fX5_isSign
  repeat (first | rfl | split)
theorem kX5_isSign {l : Launch} {dd : hDD} {b n : Nat} (a0 : Int32) (M : hMem) : hC l hYx dd b yX5_isSign cX5_isSign 1 (some .boolean) (n + 0) [.int a0] M (some (.int (fX5_isSign a0 M)), M) :=
  h_met (av := fun b => [.int a0]) (rt := (rtP M)) (by decide) (Nat.le_of_ble_eq_true rfl) (fun Z hz => wX5_isSign (n := n) hz a0 M) _ rfl
set_option maxRecDepth 10000 in
set_option maxHeartbeats 4000000 in
theorem wX5_isWord_L15 {Z : hZ} {n : Nat} (hz : hOK Z hYx cX5_isWord RX5 5 (n + 4) (some .boolean))  (v1 : Nat) (v2 : Int32) (M : hMem)  : ∀ (i : Nat) (s : Int32), hW Z (rtP M) M 15 [(0, .ref (h_b Z + 30)), (1, .ref ((h_d Z).2.2.2.1 v1)), (2, .int v2), (4, .int s)] [] (h_lp (fX5_isWord_L15 v1 v2 M) i s) := by
  refine x_loop (Ms := fun s : Int32 => M) (Ls := fun s : Int32 => [(0, .ref (h_b Z + 30)), (1, .ref ((h_d Z).2.2.2.1 v1)), (2, .int v2), (4, .int s)]) ?_
  intro k15 hk15 s
  show hW Z (rtP M) M 15 [(0, .ref (h_b Z + 30)), (1, .ref ((h_d Z).2.2.2.1 v1)), (2, .int v2), (4, .int s)] [] (fX5_isWord_L15 v1 v2 M k15 s)
  unfold fX5_isWord_L15
  refine x_iload hz dX5_isWord_15 3 rfl ?_
  refine x_aload_n hz dX5_isWord_17 rfl 1 rfl ?_
  refine x_slen (n := n + 2) hz mv_X5_158 rfl (Nat.le_of_ble_eq_true rfl) dX5_isWord_18 (fun hg18 => ?_)
  refine x_icmp_ge hz dX5_isWord_21 ?_ ?_
  · refine x_iconst hz 1 dX5_isWord_49 rfl ?_
    exact x_zret hz rfl rfl dX5_isWord_50
  refine x_aload_n hz dX5_isWord_24 rfl 0 rfl ?_
  refine x_iload_n hz dX5_isWord_25 rfl 2 rfl ?_
  refine x_iload hz dX5_isWord_26 3 rfl ?_
  refine x_iadd hz dX5_isWord_28 ?_
  refine x_bind (fun q29 hq29 => ?_)
  refine x_callV hz mv_X5_106 sx_30 (by decide) rfl rfl (kX5_byteAt (n := (n + 3)) (v2 + s) M q29 hq29) rfl (av := [.int (v2 + s)]) (rest := []) rfl rfl (Nat.le_of_ble_eq_true rfl) dX5_isWord_29 ?_
  refine x_aload_n hz dX5_isWord_32 rfl 1 rfl ?_
  refine x_iload hz dX5_isWord_33 3 rfl ?_
  refine x_schar (n := n + 0) hz mv_X5_164 rfl (Nat.le_of_ble_eq_true rfl) dX5_isWord_35 (fun hg35 => ?_)
  refine x_icmp_eq hz dX5_isWord_38 ?_ ?_
  · refine x_iinc hz (s + 1) [(4, .int (s + 1)), (0, .ref (h_b Z + 30)), (1, .ref ((h_d Z).2.2.2.1 v1)), (2, .int v2)] dX5_isWord_43 3 rfl rfl rfl rfl ?_
    refine x_goto hz dX5_isWord_46 ?_
    exact x_sub [1, 2, 3, 0] rfl (hk15 (s + 1))
  refine x_iconst hz 0 dX5_isWord_41 rfl ?_
  exact x_zret hz rfl rfl dX5_isWord_42
set_option maxRecDepth 10000 in
set_option maxHeartbeats 4000000 in
theorem wX5_isWord {Z : hZ} {n : Nat} (hz : hOK Z hYx cX5_isWord RX5 5 (n + 4) (some .boolean)) (a1 : Nat) (a2 : Int32) (a3 : Int32) (M : hMem) : hW Z (rtP M) M 0 [(0, .ref (h_b Z + 30)), (1, .ref ((h_d Z).2.2.2.1 a1)), (2, .int a2), (3, .int a3)] [] (fX5_isWord a1 a2 a3 M) := by
  unfold fX5_isWord
  refine x_iload_n hz dX5_isWord_0 rfl 3 rfl ?_
  refine x_iload_n hz dX5_isWord_1 rfl 2 rfl ?_
  refine x_isub hz dX5_isWord_2 ?_
  refine x_aload_n hz dX5_isWord_3 rfl 1 rfl ?_
  refine x_slen (n := n + 2) hz mv_X5_158 rfl (Nat.le_of_ble_eq_true rfl) dX5_isWord_4 (fun hg4 => ?_)
  refine x_icmp_eq hz dX5_isWord_7 ?_ ?_
  · refine x_iconst hz 0 dX5_isWord_12 rfl ?_
    refine x_istore hz [(4, .int 0), (0, .ref (h_b Z + 30)), (1, .ref ((h_d Z).2.2.2.1 a1)), (2, .int a2), (3, .int a3)] dX5_isWord_13 rfl rfl ?_
    exact x_sub [1, 2, 3, 0] rfl (wX5_isWord_L15 hz a1 a2 M h_FU 0)
  refine x_iconst hz 0 dX5_isWord_10 rfl ?_
  exact x_zret hz rfl rfl dX5_isWord_11
theorem kX5_isWord {l : Launch} {dd : hDD} {b n : Nat} (a1 : Nat) (a2 : Int32) (a3 : Int32) (M : hMem) (r : Int32) (h : fX5_isWord a1 a2 a3 M = some r) : hC l hYx dd b yX5_isWord cX5_isWord 5 (some .boolean) (n + 4) [.ref (b + 30), .ref (dd.2.2.2.1 a1), .int a2, .int a3] M (some (.int r), M) :=
  h_met2 (av := fun dd b => [.ref (b + 30), .ref (dd.2.2.2.1 a1), .int a2, .int a3]) (rt := (rtP M)) (by decide) (Nat.le_of_ble_eq_true rfl) (fun Z hz => wX5_isWord (n := n) hz a1 a2 a3 M) r h
set_option maxRecDepth 10000 in
set_option maxHeartbeats 4000000 in
theorem wX5_keyBetween {Z : hZ} {n : Nat} (hz : hOK Z hYx cX5_keyBetween RX5 3 (n + 5) (some .int)) (a1 : Int32) (a2 : Int32) (M : hMem) : hW Z (rtP M) M 0 [(0, .ref (h_b Z + 30)), (1, .int a1), (2, .int a2)] [] (fX5_keyBetween a1 a2 M) := by
  unfold fX5_keyBetween
  refine x_aload_n hz dX5_keyBetween_0 rfl 0 rfl ?_
  refine x_ldcs hz 7 dX5_keyBetween_1 rfl ?_
  refine x_iload_n hz dX5_keyBetween_3 rfl 1 rfl ?_
  refine x_iload_n hz dX5_keyBetween_4 rfl 2 rfl ?_
  refine x_bind (fun q5 hq5 => ?_)
  refine x_callV hz mv_X5_132 sx_30 (by decide) rfl rfl (kX5_isWord (n := n) 7 a1 a2 M q5 hq5) rfl (av := [.ref ((h_d Z).2.2.2.1 7), .int a1, .int a2]) (rest := []) rfl rfl (Nat.le_of_ble_eq_true rfl) dX5_keyBetween_5 ?_
  refine x_if_eq hz dX5_keyBetween_8 ?_ ?_
  · refine x_aload_n hz dX5_keyBetween_15 rfl 0 rfl ?_
    refine x_ldcs hz 8 dX5_keyBetween_16 rfl ?_
    refine x_iload_n hz dX5_keyBetween_18 rfl 1 rfl ?_
    refine x_iload_n hz dX5_keyBetween_19 rfl 2 rfl ?_
    refine x_bind (fun q20 hq20 => ?_)
    refine x_callV hz mv_X5_132 sx_30 (by decide) rfl rfl (kX5_isWord (n := n) 8 a1 a2 M q20 hq20) rfl (av := [.ref ((h_d Z).2.2.2.1 8), .int a1, .int a2]) (rest := []) rfl rfl (Nat.le_of_ble_eq_true rfl) dX5_keyBetween_20 ?_
    refine x_if_eq hz dX5_keyBetween_23 ?_ ?_
    · refine x_aload_n hz dX5_keyBetween_30 rfl 0 rfl ?_
      refine x_ldcs hz 9 dX5_keyBetween_31 rfl ?_
      refine x_iload_n hz dX5_keyBetween_33 rfl 1 rfl ?_
      refine x_iload_n hz dX5_keyBetween_34 rfl 2 rfl ?_
      refine x_bind (fun q35 hq35 => ?_)
      refine x_callV hz mv_X5_132 sx_30 (by decide) rfl rfl (kX5_isWord (n := n) 9 a1 a2 M q35 hq35) rfl (av := [.ref ((h_d Z).2.2.2.1 9), .int a1, .int a2]) (rest := []) rfl rfl (Nat.le_of_ble_eq_true rfl) dX5_keyBetween_35 ?_
      refine x_if_eq hz dX5_keyBetween_38 ?_ ?_
      · refine x_aload_n hz dX5_keyBetween_46 rfl 0 rfl ?_
        refine x_ldcs hz 10 dX5_keyBetween_47 rfl ?_
        refine x_iload_n hz dX5_keyBetween_49 rfl 1 rfl ?_
        refine x_iload_n hz dX5_keyBetween_50 rfl 2 rfl ?_
        refine x_bind (fun q51 hq51 => ?_)
        refine x_callV hz mv_X5_132 sx_30 (by decide) rfl rfl (kX5_isWord (n := n) 10 a1 a2 M q51 hq51) rfl (av := [.ref ((h_d Z).2.2.2.1 10), .int a1, .int a2]) (rest := []) rfl rfl (Nat.le_of_ble_eq_true rfl) dX5_keyBetween_51 ?_
        refine x_if_eq hz dX5_keyBetween_54 ?_ ?_
        · refine x_aload_n hz dX5_keyBetween_62 rfl 0 rfl ?_
          refine x_ldcs hz 11 dX5_keyBetween_63 rfl ?_
          refine x_iload_n hz dX5_keyBetween_65 rfl 1 rfl ?_
          refine x_iload_n hz dX5_keyBetween_66 rfl 2 rfl ?_
          refine x_bind (fun q67 hq67 => ?_)
          refine x_callV hz mv_X5_132 sx_30 (by decide) rfl rfl (kX5_isWord (n := n) 11 a1 a2 M q67 hq67) rfl (av := [.ref ((h_d Z).2.2.2.1 11), .int a1, .int a2]) (rest := []) rfl rfl (Nat.le_of_ble_eq_true rfl) dX5_keyBetween_67 ?_
          refine x_if_eq hz dX5_keyBetween_70 ?_ ?_
          · refine x_aload_n hz dX5_keyBetween_78 rfl 0 rfl ?_
            refine x_ldcs hz 12 dX5_keyBetween_79 rfl ?_
            refine x_iload_n hz dX5_keyBetween_81 rfl 1 rfl ?_
            refine x_iload_n hz dX5_keyBetween_82 rfl 2 rfl ?_
            refine x_bind (fun q83 hq83 => ?_)
            refine x_callV hz mv_X5_132 sx_30 (by decide) rfl rfl (kX5_isWord (n := n) 12 a1 a2 M q83 hq83) rfl (av := [.ref ((h_d Z).2.2.2.1 12), .int a1, .int a2]) (rest := []) rfl rfl (Nat.le_of_ble_eq_true rfl) dX5_keyBetween_83 ?_
            refine x_if_eq hz dX5_keyBetween_86 ?_ ?_
            · refine x_iconst hz 1 dX5_keyBetween_94 rfl ?_
              exact x_iret hz rfl dX5_keyBetween_95
            refine x_bipush hz 9 dX5_keyBetween_89 rfl ?_
            refine x_goto hz dX5_keyBetween_91 ?_
            exact x_iret hz rfl dX5_keyBetween_95
          refine x_bipush hz 8 dX5_keyBetween_73 rfl ?_
          refine x_goto hz dX5_keyBetween_75 ?_
          exact x_iret hz rfl dX5_keyBetween_95
        refine x_bipush hz 7 dX5_keyBetween_57 rfl ?_
        refine x_goto hz dX5_keyBetween_59 ?_
        exact x_iret hz rfl dX5_keyBetween_95
      refine x_bipush hz 6 dX5_keyBetween_41 rfl ?_
      refine x_goto hz dX5_keyBetween_43 ?_
      exact x_iret hz rfl dX5_keyBetween_95
    refine x_iconst hz 5 dX5_keyBetween_26 rfl ?_
    refine x_goto hz dX5_keyBetween_27 ?_
    exact x_iret hz rfl dX5_keyBetween_95
  refine x_iconst hz 4 dX5_keyBetween_11 rfl ?_
  refine x_goto hz dX5_keyBetween_12 ?_
  exact x_iret hz rfl dX5_keyBetween_95
theorem kX5_keyBetween {l : Launch} {dd : hDD} {b n : Nat} (a1 : Int32) (a2 : Int32) (M : hMem) (r : Int32) (h : fX5_keyBetween a1 a2 M = some r) : hC l hYx dd b yX5_keyBetween cX5_keyBetween 3 (some .int) (n + 5) [.ref (b + 30), .int a1, .int a2] M (some (.int r), M) :=
  h_met (av := fun b => [.ref (b + 30), .int a1, .int a2]) (rt := (rtP M)) (by decide) (Nat.le_of_ble_eq_true rfl) (fun Z hz => wX5_keyBetween (n := n) hz a1 a2 M) r h
set_option maxRecDepth 10000 in
set_option maxHeartbeats 4000000 in
theorem wX5_nameBetween {Z : hZ} {n : Nat} (hz : hOK Z hYx cX5_nameBetween RX5 3 (n + 5) (some .int)) (a1 : Int32) (a2 : Int32) (M : hMem) : hW Z (rtP M) M 0 [(0, .ref (h_b Z + 30)), (1, .int a1), (2, .int a2)] [] (fX5_nameBetween a1 a2 M) := by
  unfold fX5_nameBetween
  refine x_aload_n hz dX5_nameBetween_0 rfl 0 rfl ?_
  refine x_ldcs hz 1 dX5_nameBetween_1 rfl ?_
  refine x_iload_n hz dX5_nameBetween_3 rfl 1 rfl ?_
  refine x_iload_n hz dX5_nameBetween_4 rfl 2 rfl ?_
  refine x_bind (fun q5 hq5 => ?_)
  refine x_callV hz mv_X5_132 sx_30 (by decide) rfl rfl (kX5_isWord (n := n) 1 a1 a2 M q5 hq5) rfl (av := [.ref ((h_d Z).2.2.2.1 1), .int a1, .int a2]) (rest := []) rfl rfl (Nat.le_of_ble_eq_true rfl) dX5_nameBetween_5 ?_
  refine x_if_eq hz dX5_nameBetween_8 ?_ ?_
  · refine x_aload_n hz dX5_nameBetween_15 rfl 0 rfl ?_
    refine x_ldcs hz 2 dX5_nameBetween_16 rfl ?_
    refine x_iload_n hz dX5_nameBetween_18 rfl 1 rfl ?_
    refine x_iload_n hz dX5_nameBetween_19 rfl 2 rfl ?_
    refine x_bind (fun q20 hq20 => ?_)
    refine x_callV hz mv_X5_132 sx_30 (by decide) rfl rfl (kX5_isWord (n := n) 2 a1 a2 M q20 hq20) rfl (av := [.ref ((h_d Z).2.2.2.1 2), .int a1, .int a2]) (rest := []) rfl rfl (Nat.le_of_ble_eq_true rfl) dX5_nameBetween_20 ?_
    refine x_if_eq hz dX5_nameBetween_23 ?_ ?_
    · refine x_aload_n hz dX5_nameBetween_30 rfl 0 rfl ?_
      refine x_ldcs hz 3 dX5_nameBetween_31 rfl ?_
      refine x_iload_n hz dX5_nameBetween_33 rfl 1 rfl ?_
      refine x_iload_n hz dX5_nameBetween_34 rfl 2 rfl ?_
      refine x_bind (fun q35 hq35 => ?_)
      refine x_callV hz mv_X5_132 sx_30 (by decide) rfl rfl (kX5_isWord (n := n) 3 a1 a2 M q35 hq35) rfl (av := [.ref ((h_d Z).2.2.2.1 3), .int a1, .int a2]) (rest := []) rfl rfl (Nat.le_of_ble_eq_true rfl) dX5_nameBetween_35 ?_
      refine x_if_eq hz dX5_nameBetween_38 ?_ ?_
      · refine x_aload_n hz dX5_nameBetween_45 rfl 0 rfl ?_
        refine x_ldcs hz 4 dX5_nameBetween_46 rfl ?_
        refine x_iload_n hz dX5_nameBetween_48 rfl 1 rfl ?_
        refine x_iload_n hz dX5_nameBetween_49 rfl 2 rfl ?_
        refine x_bind (fun q50 hq50 => ?_)
        refine x_callV hz mv_X5_132 sx_30 (by decide) rfl rfl (kX5_isWord (n := n) 4 a1 a2 M q50 hq50) rfl (av := [.ref ((h_d Z).2.2.2.1 4), .int a1, .int a2]) (rest := []) rfl rfl (Nat.le_of_ble_eq_true rfl) dX5_nameBetween_50 ?_
        refine x_if_eq hz dX5_nameBetween_53 ?_ ?_
        · refine x_aload_n hz dX5_nameBetween_60 rfl 0 rfl ?_
          refine x_ldcs hz 5 dX5_nameBetween_61 rfl ?_
          refine x_iload_n hz dX5_nameBetween_63 rfl 1 rfl ?_
          refine x_iload_n hz dX5_nameBetween_64 rfl 2 rfl ?_
          refine x_bind (fun q65 hq65 => ?_)
          refine x_callV hz mv_X5_132 sx_30 (by decide) rfl rfl (kX5_isWord (n := n) 5 a1 a2 M q65 hq65) rfl (av := [.ref ((h_d Z).2.2.2.1 5), .int a1, .int a2]) (rest := []) rfl rfl (Nat.le_of_ble_eq_true rfl) dX5_nameBetween_65 ?_
          refine x_if_eq hz dX5_nameBetween_68 ?_ ?_
          · refine x_aload_n hz dX5_nameBetween_75 rfl 0 rfl ?_
            refine x_ldcs hz 6 dX5_nameBetween_76 rfl ?_
            refine x_iload_n hz dX5_nameBetween_78 rfl 1 rfl ?_
            refine x_iload_n hz dX5_nameBetween_79 rfl 2 rfl ?_
            refine x_bind (fun q80 hq80 => ?_)
            refine x_callV hz mv_X5_132 sx_30 (by decide) rfl rfl (kX5_isWord (n := n) 6 a1 a2 M q80 hq80) rfl (av := [.ref ((h_d Z).2.2.2.1 6), .int a1, .int a2]) (rest := []) rfl rfl (Nat.le_of_ble_eq_true rfl) dX5_nameBetween_80 ?_
            refine x_if_eq hz dX5_nameBetween_83 ?_ ?_
            · refine x_iconst hz (-1) dX5_nameBetween_90 rfl ?_
              exact x_iret hz rfl dX5_nameBetween_91
            refine x_iconst hz 5 dX5_nameBetween_86 rfl ?_
            refine x_goto hz dX5_nameBetween_87 ?_
            exact x_iret hz rfl dX5_nameBetween_91
          refine x_iconst hz 4 dX5_nameBetween_71 rfl ?_
          refine x_goto hz dX5_nameBetween_72 ?_
          exact x_iret hz rfl dX5_nameBetween_91
        refine x_iconst hz 3 dX5_nameBetween_56 rfl ?_
        refine x_goto hz dX5_nameBetween_57 ?_
        exact x_iret hz rfl dX5_nameBetween_91
      refine x_iconst hz 2 dX5_nameBetween_41 rfl ?_
      refine x_goto hz dX5_nameBetween_42 ?_
      exact x_iret hz rfl dX5_nameBetween_91
    refine x_iconst hz 1 dX5_nameBetween_26 rfl ?_
    refine x_goto hz dX5_nameBetween_27 ?_
    exact x_iret hz rfl dX5_nameBetween_91
  refine x_iconst hz 0 dX5_nameBetween_11 rfl ?_
  refine x_goto hz dX5_nameBetween_12 ?_
  exact x_iret hz rfl dX5_nameBetween_91
theorem kX5_nameBetween {l : Launch} {dd : hDD} {b n : Nat} (a1 : Int32) (a2 : Int32) (M : hMem) (r : Int32) (h : fX5_nameBetween a1 a2 M = some r) : hC l hYx dd b yX5_nameBetween cX5_nameBetween 3 (some .int) (n + 5) [.ref (b + 30), .int a1, .int a2] M (some (.int r), M) :=
  h_met (av := fun b => [.ref (b + 30), .int a1, .int a2]) (rt := (rtP M)) (by decide) (Nat.le_of_ble_eq_true rfl) (fun Z hz => wX5_nameBetween (n := n) hz a1 a2 M) r h
set_option maxRecDepth 10000 in
set_option maxHeartbeats 4000000 in
theorem wX5_tokenBetween {Z : hZ} {n : Nat} (hz : hOK Z hYx cX5_tokenBetween RX5 4 (n + 6) (some .int)) (a1 : Int32) (a2 : Int32) (M : hMem) : hW Z (rtP M) M 0 [(0, .ref (h_b Z + 30)), (1, .int a1), (2, .int a2)] [] (fX5_tokenBetween a1 a2 M) := by
  unfold fX5_tokenBetween
  refine x_aload_n hz dX5_tokenBetween_0 rfl 0 rfl ?_
  refine x_iload_n hz dX5_tokenBetween_1 rfl 1 rfl ?_
  refine x_bind (fun q2 hq2 => ?_)
  refine x_callV hz mv_X5_106 sx_30 (by decide) rfl rfl (kX5_byteAt (n := (n + 5)) a1 M q2 hq2) rfl (av := [.int a1]) (rest := []) rfl rfl (Nat.le_of_ble_eq_true rfl) dX5_tokenBetween_2 ?_
  refine x_istore_n hz [(3, .int q2), (0, .ref (h_b Z + 30)), (1, .int a1), (2, .int a2)] dX5_tokenBetween_5 rfl rfl rfl ?_
  refine x_iload_n hz dX5_tokenBetween_6 rfl 0 rfl ?_
  refine x_if_ge hz dX5_tokenBetween_7 ?_ ?_
  · refine x_iload_n hz dX5_tokenBetween_12 rfl 0 rfl ?_
    refine x_callS hz ms_X5_118 (kX5_isDigit (n := (n + 5)) q2 M) rfl (av := [.int q2]) (rest := []) rfl rfl (Nat.le_of_ble_eq_true rfl) dX5_tokenBetween_13 ?_
    refine x_if_eq hz dX5_tokenBetween_16 ?_ ?_
    · refine x_iload_n hz dX5_tokenBetween_32 rfl 0 rfl ?_
      refine x_callS hz ms_X5_114 (kX5_isLetter (n := (n + 5)) q2 M) rfl (av := [.int q2]) (rest := []) rfl rfl (Nat.le_of_ble_eq_true rfl) dX5_tokenBetween_33 ?_
      refine x_if_eq hz dX5_tokenBetween_36 ?_ ?_
      · refine x_iload_n hz dX5_tokenBetween_59 rfl 0 rfl ?_
        refine x_callS hz ms_X5_127 (kX5_isSign (n := (n + 5)) q2 M) rfl (av := [.int q2]) (rest := []) rfl rfl (Nat.le_of_ble_eq_true rfl) dX5_tokenBetween_60 ?_
        refine x_if_eq hz dX5_tokenBetween_63 ?_ ?_
        · refine x_iconst hz 1 dX5_tokenBetween_70 rfl ?_
          exact x_iret hz rfl dX5_tokenBetween_71
        refine x_iload_n hz dX5_tokenBetween_66 rfl 0 rfl ?_
        refine x_goto hz dX5_tokenBetween_67 ?_
        exact x_iret hz rfl dX5_tokenBetween_71
      refine x_aload_n hz dX5_tokenBetween_39 rfl 1 rfl ?_
      refine x_iload_n hz dX5_tokenBetween_40 rfl 2 rfl ?_
      refine x_iload_n hz dX5_tokenBetween_41 rfl 3 rfl ?_
      refine x_bind (fun q42 hq42 => ?_)
      refine x_callV hz mv_X5_121 sx_30 (by decide) rfl rfl (kX5_nameBetween (n := n) a1 a2 M q42 hq42) rfl (av := [.int a1, .int a2]) (rest := []) rfl rfl (Nat.le_of_ble_eq_true rfl) dX5_tokenBetween_42 ?_
      refine x_if_lt hz dX5_tokenBetween_45 ?_ ?_
      · refine x_aload_n hz dX5_tokenBetween_52 rfl 1 rfl ?_
        refine x_iload_n hz dX5_tokenBetween_53 rfl 2 rfl ?_
        refine x_iload_n hz dX5_tokenBetween_54 rfl 3 rfl ?_
        refine x_bind (fun q55 hq55 => ?_)
        refine x_callV hz mv_X5_124 sx_30 (by decide) rfl rfl (kX5_keyBetween (n := n) a1 a2 M q55 hq55) rfl (av := [.int a1, .int a2]) (rest := []) rfl rfl (Nat.le_of_ble_eq_true rfl) dX5_tokenBetween_55 ?_
        exact x_iret hz rfl dX5_tokenBetween_58
      refine x_iconst hz 3 dX5_tokenBetween_48 rfl ?_
      refine x_goto hz dX5_tokenBetween_49 ?_
      exact x_iret hz rfl dX5_tokenBetween_58
    refine x_iload_n hz dX5_tokenBetween_19 rfl 3 rfl ?_
    refine x_iload_n hz dX5_tokenBetween_20 rfl 2 rfl ?_
    refine x_isub hz dX5_tokenBetween_21 ?_
    refine x_iconst hz 4 dX5_tokenBetween_22 rfl ?_
    refine x_icmp_le hz dX5_tokenBetween_23 ?_ ?_
    · refine x_iconst hz 2 dX5_tokenBetween_30 rfl ?_
      exact x_iret hz rfl dX5_tokenBetween_31
    refine x_iconst hz 1 dX5_tokenBetween_26 rfl ?_
    refine x_goto hz dX5_tokenBetween_27 ?_
    exact x_iret hz rfl dX5_tokenBetween_31
  refine x_iconst hz 0 dX5_tokenBetween_10 rfl ?_
  exact x_iret hz rfl dX5_tokenBetween_11
theorem kX5_tokenBetween {l : Launch} {dd : hDD} {b n : Nat} (a1 : Int32) (a2 : Int32) (M : hMem) (r : Int32) (h : fX5_tokenBetween a1 a2 M = some r) : hC l hYx dd b yX5_tokenBetween cX5_tokenBetween 4 (some .int) (n + 6) [.ref (b + 30), .int a1, .int a2] M (some (.int r), M) :=
  h_met (av := fun b => [.ref (b + 30), .int a1, .int a2]) (rt := (rtP M)) (by decide) (Nat.le_of_ble_eq_true rfl) (fun Z hz => wX5_tokenBetween (n := n) hz a1 a2 M) r h
set_option maxRecDepth 10000 in
set_option maxHeartbeats 4000000 in
theorem wJ9_min_7cf53 {Z : hZ} {n : Nat} (hz : hOK Z hYx cJ9_min_7cf53 RJ9 2 (n + 0) (some .int)) (a0 : Int32) (a1 : Int32) (M : hMem) : hW Z (rtP M) M 0 [(0, .int a0), (1, .int a1)] [] (some (fJ9_min_7cf53 a0 a1 M)) := by
  unfold fJ9_min_7cf53
  refine x_iload_n hz dJ9_min_7cf53_0 rfl 0 rfl ?_
  refine x_iload_n hz dJ9_min_7cf53_1 rfl 1 rfl ?_
  refine x_pull ?_
  refine x_icmp_gt hz dJ9_min_7cf53_2 ?_ ?_
  · refine x_iload_n hz dJ9_min_7cf53_9 rfl 1 rfl ?_
    exact x_iret hz rfl dJ9_min_7cf53_10
  refine x_iload_n hz dJ9_min_7cf53_5 rfl 0 rfl ?_
  refine x_goto hz dJ9_min_7cf53_6 ?_
  exact x_iret hz rfl dJ9_min_7cf53_10
theorem kJ9_min_7cf53 {l : Launch} {dd : hDD} {b n : Nat} (a0 : Int32) (a1 : Int32) (M : hMem) : hC l hYx dd b yJ9_min_7cf53 cJ9_min_7cf53 2 (some .int) (n + 0) [.int a0, .int a1] M (some (.int (fJ9_min_7cf53 a0 a1 M)), M) :=
  h_met (av := fun b => [.int a0, .int a1]) (rt := (rtP M)) (by decide +kernel) (Nat.le_of_ble_eq_true rfl) (fun Z hz => wJ9_min_7cf53 (n := n) hz a0 a1 M) _ rfl
set_option maxRecDepth 10000 in
set_option maxHeartbeats 4000000 in
theorem wX5_tokenEnd_L38 {Z : hZ} {n : Nat} (hz : hOK Z hYx cX5_tokenEnd RX5 5 (n + 1) (some .int))  (v3 : Int32) (M : hMem)  : ∀ (i : Nat) (s : Int32 × Int32), hW Z (rtP M) M 38 [(0, .ref (h_b Z + 30)), (2, .int s.1), (3, .int v3), (4, .int s.2)] [] (h_lp (fX5_tokenEnd_L38 v3 M) i s) := by
  refine x_loop (Ms := fun s : Int32 × Int32 => M) (Ls := fun s : Int32 × Int32 => [(0, .ref (h_b Z + 30)), (2, .int s.1), (3, .int v3), (4, .int s.2)]) ?_
  intro k38 hk38 s
  show hW Z (rtP M) M 38 [(0, .ref (h_b Z + 30)), (2, .int s.1), (3, .int v3), (4, .int s.2)] [] (fX5_tokenEnd_L38 v3 M k38 s)
  unfold fX5_tokenEnd_L38
  refine x_iload hz dX5_tokenEnd_38 3 rfl ?_
  refine x_sipush hz 160 dX5_tokenEnd_40 rfl ?_
  refine x_icmp_ge hz dX5_tokenEnd_43 ?_ ?_
  · refine x_iload_n hz dX5_tokenEnd_84 rfl 1 rfl ?_
    exact x_iret hz rfl dX5_tokenEnd_85
  refine x_iload_n hz dX5_tokenEnd_46 rfl 2 rfl ?_
  refine x_if_eq hz dX5_tokenEnd_47 ?_ ?_
  · refine x_aload_n hz dX5_tokenEnd_64 rfl 0 rfl ?_
    refine x_iload_n hz dX5_tokenEnd_65 rfl 1 rfl ?_
    refine x_bind (fun q66 hq66 => ?_)
    refine x_callV hz mv_X5_106 sx_30 (by decide) rfl rfl (kX5_byteAt (n := n) s.1 M q66 hq66) rfl (av := [.int s.1]) (rest := []) rfl rfl (Nat.le_of_ble_eq_true rfl) dX5_tokenEnd_66 ?_
    refine x_callS hz ms_X5_118 (kX5_isDigit (n := n) q66 M) rfl (av := [.int q66]) (rest := []) rfl rfl (Nat.le_of_ble_eq_true rfl) dX5_tokenEnd_69 ?_
    refine x_if_eq hz dX5_tokenEnd_72 ?_ ?_
    · refine x_iload_n hz dX5_tokenEnd_84 rfl 1 rfl ?_
      exact x_iret hz rfl dX5_tokenEnd_85
    refine x_iinc hz (s.1 + 1) [(2, .int (s.1 + 1)), (0, .ref (h_b Z + 30)), (3, .int v3), (4, .int s.2)] dX5_tokenEnd_75 1 rfl rfl rfl rfl ?_
    refine x_iinc hz (s.2 + 1) [(4, .int (s.2 + 1)), (2, .int (s.1 + 1)), (0, .ref (h_b Z + 30)), (3, .int v3)] dX5_tokenEnd_78 3 rfl rfl rfl rfl ?_
    refine x_goto hz dX5_tokenEnd_81 ?_
    exact x_sub [2, 1, 3, 0] rfl (hk38 (s.1 + 1, s.2 + 1))
  refine x_aload_n hz dX5_tokenEnd_50 rfl 0 rfl ?_
  refine x_iload_n hz dX5_tokenEnd_51 rfl 1 rfl ?_
  refine x_bind (fun q52 hq52 => ?_)
  refine x_callV hz mv_X5_106 sx_30 (by decide) rfl rfl (kX5_byteAt (n := n) s.1 M q52 hq52) rfl (av := [.int s.1]) (rest := []) rfl rfl (Nat.le_of_ble_eq_true rfl) dX5_tokenEnd_52 ?_
  refine x_callS hz ms_X5_114 (kX5_isLetter (n := n) q52 M) rfl (av := [.int q52]) (rest := []) rfl rfl (Nat.le_of_ble_eq_true rfl) dX5_tokenEnd_55 ?_
  refine x_if_eq hz dX5_tokenEnd_58 ?_ ?_
  · refine x_iload_n hz dX5_tokenEnd_84 rfl 1 rfl ?_
    exact x_iret hz rfl dX5_tokenEnd_85
  refine x_goto hz dX5_tokenEnd_61 ?_
  refine x_iinc hz (s.1 + 1) [(2, .int (s.1 + 1)), (0, .ref (h_b Z + 30)), (3, .int v3), (4, .int s.2)] dX5_tokenEnd_75 1 rfl rfl rfl rfl ?_
  refine x_iinc hz (s.2 + 1) [(4, .int (s.2 + 1)), (2, .int (s.1 + 1)), (0, .ref (h_b Z + 30)), (3, .int v3)] dX5_tokenEnd_78 3 rfl rfl rfl rfl ?_
  refine x_goto hz dX5_tokenEnd_81 ?_
  exact x_sub [2, 1, 3, 0] rfl (hk38 (s.1 + 1, s.2 + 1))
set_option maxRecDepth 10000 in
set_option maxHeartbeats 4000000 in
theorem wX5_tokenEnd {Z : hZ} {n : Nat} (hz : hOK Z hYx cX5_tokenEnd RX5 5 (n + 1) (some .int)) (a1 : Int32) (M : hMem) : hW Z (rtP M) M 0 [(0, .ref (h_b Z + 30)), (1, .int a1)] [] (fX5_tokenEnd a1 M) := by
  unfold fX5_tokenEnd
  refine x_iload_n hz dX5_tokenEnd_0 rfl 1 rfl ?_
  refine x_iconst hz 1 dX5_tokenEnd_1 rfl ?_
  refine x_iadd hz dX5_tokenEnd_2 ?_
  refine x_aload_n hz dX5_tokenEnd_3 rfl 0 rfl ?_
  refine x_geti hz sx_30 fl_X5_9 rfl dX5_tokenEnd_4 ?_
  refine x_callS hz ms_X5_109 (kJ9_min_7cf53 (n := n) (a1 + 1) (M 30 0) M) rfl (av := [.int (a1 + 1), .int (M 30 0)]) (rest := []) rfl rfl (Nat.le_of_ble_eq_true rfl) dX5_tokenEnd_7 ?_
  refine x_istore_n hz [(2, .int (fJ9_min_7cf53 (a1 + 1) (M 30 0) M)), (0, .ref (h_b Z + 30)), (1, .int a1)] dX5_tokenEnd_10 rfl rfl rfl ?_
  refine x_aload_n hz dX5_tokenEnd_11 rfl 1 rfl ?_
  refine x_iload_n hz dX5_tokenEnd_12 rfl 2 rfl ?_
  refine x_bind (fun q13 hq13 => ?_)
  refine x_callV hz mv_X5_106 sx_30 (by decide) rfl rfl (kX5_byteAt (n := n) a1 M q13 hq13) rfl (av := [.int a1]) (rest := []) rfl rfl (Nat.le_of_ble_eq_true rfl) dX5_tokenEnd_13 ?_
  refine x_callS hz ms_X5_114 (kX5_isLetter (n := n) q13 M) rfl (av := [.int q13]) (rest := []) rfl rfl (Nat.le_of_ble_eq_true rfl) dX5_tokenEnd_16 ?_
  refine x_istore_n hz [(3, .int (fX5_isLetter q13 M)), (2, .int (fJ9_min_7cf53 (a1 + 1) (M 30 0) M)), (0, .ref (h_b Z + 30)), (1, .int a1)] dX5_tokenEnd_19 rfl rfl rfl ?_
  refine x_iload_n hz dX5_tokenEnd_20 rfl 0 rfl ?_
  refine x_if_ne hz dX5_tokenEnd_21 ?_ ?_
  · refine x_iconst hz 0 dX5_tokenEnd_35 rfl ?_
    refine x_istore hz [(4, .int 0), (3, .int (fX5_isLetter q13 M)), (2, .int (fJ9_min_7cf53 (a1 + 1) (M 30 0) M)), (0, .ref (h_b Z + 30)), (1, .int a1)] dX5_tokenEnd_36 rfl rfl ?_
    exact x_sub [3, 2, 1, 0] rfl (wX5_tokenEnd_L38 hz (fX5_isLetter q13 M) M h_FU (fJ9_min_7cf53 (a1 + 1) (M 30 0) M, 0))
  refine x_aload_n hz dX5_tokenEnd_24 rfl 2 rfl ?_
  refine x_iload_n hz dX5_tokenEnd_25 rfl 3 rfl ?_
  refine x_bind (fun q26 hq26 => ?_)
  refine x_callV hz mv_X5_106 sx_30 (by decide) rfl rfl (kX5_byteAt (n := n) a1 M q26 hq26) rfl (av := [.int a1]) (rest := []) rfl rfl (Nat.le_of_ble_eq_true rfl) dX5_tokenEnd_26 ?_
  refine x_callS hz ms_X5_118 (kX5_isDigit (n := n) q26 M) rfl (av := [.int q26]) (rest := []) rfl rfl (Nat.le_of_ble_eq_true rfl) dX5_tokenEnd_29 ?_
  refine x_if_eq hz dX5_tokenEnd_32 ?_ ?_
  · refine x_iload_n hz dX5_tokenEnd_84 rfl 1 rfl ?_
    exact x_iret hz rfl dX5_tokenEnd_85
  refine x_iconst hz 0 dX5_tokenEnd_35 rfl ?_
  refine x_istore hz [(4, .int 0), (3, .int (fX5_isLetter q13 M)), (2, .int (fJ9_min_7cf53 (a1 + 1) (M 30 0) M)), (0, .ref (h_b Z + 30)), (1, .int a1)] dX5_tokenEnd_36 rfl rfl ?_
  exact x_sub [3, 2, 1, 0] rfl (wX5_tokenEnd_L38 hz (fX5_isLetter q13 M) M h_FU (fJ9_min_7cf53 (a1 + 1) (M 30 0) M, 0))
theorem kX5_tokenEnd {l : Launch} {dd : hDD} {b n : Nat} (a1 : Int32) (M : hMem) (r : Int32) (h : fX5_tokenEnd a1 M = some r) : hC l hYx dd b yX5_tokenEnd cX5_tokenEnd 5 (some .int) (n + 1) [.ref (b + 30), .int a1] M (some (.int r), M) :=
  h_met (av := fun b => [.ref (b + 30), .int a1]) (rt := (rtP M)) (by decide) (Nat.le_of_ble_eq_true rfl) (fun Z hz => wX5_tokenEnd (n := n) hz a1 M) r h
set_option maxRecDepth 10000 in
set_option maxHeartbeats 4000000 in
theorem wX5_valueOf_L18 {Z : hZ} {n : Nat} (hz : hOK Z hYx cX5_valueOf RX5 6 (n + 6) (some .int))  (v1 : Int32) (v3 : Int32) (M : hMem)  : ∀ (i : Nat) (s : Int32 × Int32), hW Z (rtP M) M 18 [(0, .ref (h_b Z + 30)), (1, .int v1), (3, .int v3), (4, .int s.1), (5, .int s.2)] [] (h_lp (fX5_valueOf_L18 v1 v3 M) i s) := by
  refine x_loop (Ms := fun s : Int32 × Int32 => M) (Ls := fun s : Int32 × Int32 => [(0, .ref (h_b Z + 30)), (1, .int v1), (3, .int v3), (4, .int s.1), (5, .int s.2)]) ?_
  intro k18 hk18 s
  show hW Z (rtP M) M 18 [(0, .ref (h_b Z + 30)), (1, .int v1), (3, .int v3), (4, .int s.1), (5, .int s.2)] [] (fX5_valueOf_L18 v1 v3 M k18 s)
  unfold fX5_valueOf_L18
  refine x_iload hz dX5_valueOf_18 4 rfl ?_
  refine x_iload_n hz dX5_valueOf_20 rfl 2 rfl ?_
  refine x_icmp_ge hz dX5_valueOf_21 ?_ ?_
  · refine x_iload hz dX5_valueOf_52 3 rfl ?_
    exact x_iret hz rfl dX5_valueOf_54
  refine x_iload_n hz dX5_valueOf_24 rfl 1 rfl ?_
  refine x_iconst hz 2 dX5_valueOf_25 rfl ?_
  refine x_icmp_ne hz dX5_valueOf_26 ?_ ?_
  · refine x_iload hz dX5_valueOf_52 3 rfl ?_
    exact x_iret hz rfl dX5_valueOf_54
  refine x_bipush hz 10 dX5_valueOf_29 rfl ?_
  refine x_iload hz dX5_valueOf_31 3 rfl ?_
  refine x_imul hz dX5_valueOf_33 ?_
  refine x_aload_n hz dX5_valueOf_34 rfl 0 rfl ?_
  refine x_iload hz dX5_valueOf_35 4 rfl ?_
  refine x_bind (fun q37 hq37 => ?_)
  refine x_callV hz mv_X5_106 sx_30 (by decide) rfl rfl (kX5_byteAt (n := (n + 5)) s.2 M q37 hq37) rfl (av := [.int s.2]) (rest := [.int (10 * s.1)]) rfl rfl (Nat.le_of_ble_eq_true rfl) dX5_valueOf_37 ?_
  refine x_iadd hz dX5_valueOf_40 ?_
  refine x_bipush hz 48 dX5_valueOf_41 rfl ?_
  refine x_isub hz dX5_valueOf_43 ?_
  refine x_istore hz [(4, .int (((10 * s.1) + q37) - 48)), (0, .ref (h_b Z + 30)), (1, .int v1), (3, .int v3), (5, .int s.2)] dX5_valueOf_44 rfl rfl ?_
  refine x_iinc hz (s.2 + 1) [(5, .int (s.2 + 1)), (4, .int (((10 * s.1) + q37) - 48)), (0, .ref (h_b Z + 30)), (1, .int v1), (3, .int v3)] dX5_valueOf_46 4 rfl rfl rfl rfl ?_
  refine x_goto hz dX5_valueOf_49 ?_
  exact x_sub [2, 3, 4, 1, 0] rfl (hk18 (((10 * s.1) + q37) - 48, s.2 + 1))
set_option maxRecDepth 10000 in
set_option maxHeartbeats 4000000 in
theorem wX5_valueOf {Z : hZ} {n : Nat} (hz : hOK Z hYx cX5_valueOf RX5 6 (n + 6) (some .int)) (a1 : Int32) (a2 : Int32) (a3 : Int32) (M : hMem) : hW Z (rtP M) M 0 [(0, .ref (h_b Z + 30)), (1, .int a1), (2, .int a2), (3, .int a3)] [] (fX5_valueOf a1 a2 a3 M) := by
  unfold fX5_valueOf
  refine x_iload_n hz dX5_valueOf_0 rfl 1 rfl ?_
  refine x_iconst hz 3 dX5_valueOf_1 rfl ?_
  refine x_icmp_ne hz dX5_valueOf_2 ?_ ?_
  · refine x_iconst hz 0 dX5_valueOf_12 rfl ?_
    refine x_istore hz [(4, .int 0), (0, .ref (h_b Z + 30)), (1, .int a1), (2, .int a2), (3, .int a3)] dX5_valueOf_13 rfl rfl ?_
    refine x_iload_n hz dX5_valueOf_15 rfl 3 rfl ?_
    refine x_istore hz [(5, .int a2), (4, .int 0), (0, .ref (h_b Z + 30)), (1, .int a1), (2, .int a2), (3, .int a3)] dX5_valueOf_16 rfl rfl ?_
    exact x_sub [2, 3, 5, 1, 0] rfl (wX5_valueOf_L18 hz a1 a3 M h_FU (0, a2))
  refine x_aload_n hz dX5_valueOf_5 rfl 0 rfl ?_
  refine x_iload_n hz dX5_valueOf_6 rfl 2 rfl ?_
  refine x_iload_n hz dX5_valueOf_7 rfl 3 rfl ?_
  refine x_bind (fun q8 hq8 => ?_)
  refine x_callV hz mv_X5_121 sx_30 (by decide) rfl rfl (kX5_nameBetween (n := n) a2 a3 M q8 hq8) rfl (av := [.int a2, .int a3]) (rest := []) rfl rfl (Nat.le_of_ble_eq_true rfl) dX5_valueOf_8 ?_
  exact x_iret hz rfl dX5_valueOf_11
theorem kX5_valueOf {l : Launch} {dd : hDD} {b n : Nat} (a1 : Int32) (a2 : Int32) (a3 : Int32) (M : hMem) (r : Int32) (h : fX5_valueOf a1 a2 a3 M = some r) : hC l hYx dd b yX5_valueOf cX5_valueOf 6 (some .int) (n + 6) [.ref (b + 30), .int a1, .int a2, .int a3] M (some (.int r), M) :=
  h_met (av := fun b => [.ref (b + 30), .int a1, .int a2, .int a3]) (rt := (rtP M)) (by decide) (Nat.le_of_ble_eq_true rfl) (fun Z hz => wX5_valueOf (n := n) hz a1 a2 a3 M) r h
set_option maxRecDepth 10000 in
set_option maxHeartbeats 4000000 in
theorem wX5_partTokens_L6 {Z : hZ} {n : Nat} (hz : hOK Z hYx cX5_partTokens RX5 5 (n + 7) none)     : ∀ (i : Nat) (s : Int32 × Int32 × Int32 × hMem), hW Z rtV s.2.2.2 6 [(0, .ref (h_b Z + 30)), (1, .int s.1), (2, .int s.2.1), (3, .int s.2.2.1)] [] (h_lp (fX5_partTokens_L6) i s) := by
  refine x_loop (Ms := fun s : Int32 × Int32 × Int32 × hMem => s.2.2.2) (Ls := fun s : Int32 × Int32 × Int32 × hMem => [(0, .ref (h_b Z + 30)), (1, .int s.1), (2, .int s.2.1), (3, .int s.2.2.1)]) ?_
  intro k6 hk6 s
  show hW Z rtV s.2.2.2 6 [(0, .ref (h_b Z + 30)), (1, .int s.1), (2, .int s.2.1), (3, .int s.2.2.1)] [] (fX5_partTokens_L6 k6 s)
  unfold fX5_partTokens_L6
  refine x_iload_n hz dX5_partTokens_6 rfl 2 rfl ?_
  refine x_sipush hz 160 dX5_partTokens_7 rfl ?_
  refine x_icmp_gt hz dX5_partTokens_10 ?_ ?_
  · exact x_vret hz rfl dX5_partTokens_80
  refine x_iload_n hz dX5_partTokens_13 rfl 3 rfl ?_
  refine x_if_eq hz dX5_partTokens_14 ?_ ?_
  · exact x_vret hz rfl dX5_partTokens_80
  refine x_iload_n hz dX5_partTokens_17 rfl 3 rfl ?_
  refine x_iconst hz 1 dX5_partTokens_18 rfl ?_
  refine x_icmp_eq hz dX5_partTokens_19 ?_ ?_
  · exact x_vret hz rfl dX5_partTokens_80
  refine x_aload_n hz dX5_partTokens_22 rfl 0 rfl ?_
  refine x_iload_n hz dX5_partTokens_23 rfl 1 rfl ?_
  refine x_bind (fun q24 hq24 => ?_)
  refine x_callV hz mv_X5_91 sx_30 (by decide) rfl rfl (kX5_behindBlanks (n := (n + 5)) s.1 s.2.2.2 q24 hq24) rfl (av := [.int s.1]) (rest := []) rfl rfl (Nat.le_of_ble_eq_true rfl) dX5_partTokens_24 ?_
  refine x_istore_n hz [(1, .int q24), (0, .ref (h_b Z + 30)), (2, .int s.2.1), (3, .int s.2.2.1)] dX5_partTokens_27 rfl rfl rfl ?_
  refine x_aload_n hz dX5_partTokens_28 rfl 1 rfl ?_
  refine x_iload_n hz dX5_partTokens_29 rfl 0 rfl ?_
  refine x_bind (fun q30 hq30 => ?_)
  refine x_callV hz mv_X5_95 sx_30 (by decide) rfl rfl (kX5_tokenEnd (n := (n + 5)) q24 s.2.2.2 q30 hq30) rfl (av := [.int q24]) (rest := []) rfl rfl (Nat.le_of_ble_eq_true rfl) dX5_partTokens_30 ?_
  refine x_istore hz [(4, .int q30), (1, .int q24), (0, .ref (h_b Z + 30)), (2, .int s.2.1), (3, .int s.2.2.1)] dX5_partTokens_33 rfl rfl ?_
  refine x_aload_n hz dX5_partTokens_35 rfl 2 rfl ?_
  refine x_iload_n hz dX5_partTokens_36 rfl 1 rfl ?_
  refine x_iload hz dX5_partTokens_37 0 rfl ?_
  refine x_bind (fun q39 hq39 => ?_)
  refine x_callV hz mv_X5_98 sx_30 (by decide) rfl rfl (kX5_tokenBetween (n := n) q24 q30 s.2.2.2 q39 hq39) rfl (av := [.int q24, .int q30]) (rest := []) rfl rfl (Nat.le_of_ble_eq_true rfl) dX5_partTokens_39 ?_
  refine x_istore_n hz [(3, .int q39), (4, .int q30), (1, .int q24), (0, .ref (h_b Z + 30)), (2, .int s.2.1)] dX5_partTokens_42 rfl rfl rfl ?_
  refine x_aload_n hz dX5_partTokens_43 rfl 3 rfl ?_
  refine x_getr hz sx_30 fl_X5_19 rfl rx_30_2 (by decide) dX5_partTokens_44 ?_
  refine x_iload_n hz dX5_partTokens_47 rfl 4 rfl ?_
  refine x_iload_n hz dX5_partTokens_48 rfl 0 rfl ?_
  refine x_iast hz sx_32 dX5_partTokens_49 (fun hi49 => ?_)
  refine x_aload_n hz dX5_partTokens_50 rfl 3 rfl ?_
  refine x_getr hz sx_30 fl_X5_22 rfl rx_30_3 (by decide) dX5_partTokens_51 ?_
  refine x_iload_n hz dX5_partTokens_54 rfl 4 rfl ?_
  refine x_iload_n hz dX5_partTokens_55 rfl 2 rfl ?_
  refine x_iast hz sx_33 dX5_partTokens_56 (fun hi56 => ?_)
  refine x_aload_n hz dX5_partTokens_57 rfl 3 rfl ?_
  refine x_getr hz sx_30 fl_X5_25 rfl rx_30_4 (by decide) dX5_partTokens_58 ?_
  refine x_iload_n hz dX5_partTokens_61 rfl 4 rfl ?_
  refine x_aload_n hz dX5_partTokens_62 rfl 3 rfl ?_
  refine x_iload_n hz dX5_partTokens_63 rfl 0 rfl ?_
  refine x_iload_n hz dX5_partTokens_64 rfl 2 rfl ?_
  refine x_iload hz dX5_partTokens_65 1 rfl ?_
  refine x_bind (fun q67 hq67 => ?_)
  refine x_callV hz mv_X5_102 sx_30 (by decide) rfl rfl (kX5_valueOf (n := n) q39 q24 q30 (h_up (h_up s.2.2.2 32 s.2.1.toNatClampNeg q39) 33 s.2.1.toNatClampNeg q24) q67 hq67) rfl (av := [.int q39, .int q24, .int q30]) (rest := [.int s.2.1, .ref (h_b Z + 34)]) rfl rfl (Nat.le_of_ble_eq_true rfl) dX5_partTokens_67 ?_
  refine x_iast hz sx_34 dX5_partTokens_70 (fun hi70 => ?_)
  refine x_iinc hz (s.2.1 + 1) [(2, .int (s.2.1 + 1)), (3, .int q39), (4, .int q30), (1, .int q24), (0, .ref (h_b Z + 30))] dX5_partTokens_71 4 rfl rfl rfl rfl ?_
  refine x_iload hz dX5_partTokens_74 2 rfl ?_
  refine x_istore_n hz [(1, .int q30), (2, .int (s.2.1 + 1)), (3, .int q39), (4, .int q30), (0, .ref (h_b Z + 30))] dX5_partTokens_76 rfl rfl rfl ?_
  refine x_goto hz dX5_partTokens_77 ?_
  exact x_sub [4, 0, 1, 2] rfl (hk6 (q30, s.2.1 + 1, q39, h_up (h_up (h_up s.2.2.2 32 s.2.1.toNatClampNeg q39) 33 s.2.1.toNatClampNeg q24) 34 s.2.1.toNatClampNeg q67))
set_option maxRecDepth 10000 in
set_option maxHeartbeats 4000000 in
theorem wX5_partTokens {Z : hZ} {n : Nat} (hz : hOK Z hYx cX5_partTokens RX5 5 (n + 7) none)  (M : hMem) : hW Z rtV M 0 [(0, .ref (h_b Z + 30))] [] (fX5_partTokens M) := by
  unfold fX5_partTokens
  refine x_iconst hz 0 dX5_partTokens_0 rfl ?_
  refine x_istore_n hz [(1, .int 0), (0, .ref (h_b Z + 30))] dX5_partTokens_1 rfl rfl rfl ?_
  refine x_iconst hz 0 dX5_partTokens_2 rfl ?_
  refine x_istore_n hz [(2, .int 0), (1, .int 0), (0, .ref (h_b Z + 30))] dX5_partTokens_3 rfl rfl rfl ?_
  refine x_iconst hz (-1) dX5_partTokens_4 rfl ?_
  refine x_istore_n hz [(3, .int (-1)), (2, .int 0), (1, .int 0), (0, .ref (h_b Z + 30))] dX5_partTokens_5 rfl rfl rfl ?_
  exact x_sub [3, 2, 1, 0] rfl (wX5_partTokens_L6 hz h_FU (0, 0, (-1), M))
theorem kX5_partTokens {l : Launch} {dd : hDD} {b n : Nat}  (M : hMem) (r : hMem) (h : fX5_partTokens M = some r) : hC l hYx dd b yX5_partTokens cX5_partTokens 5 none (n + 7) [.ref (b + 30)] M (none, r) :=
  h_met (av := fun b => [.ref (b + 30)]) (rt := rtV) (by decide) (Nat.le_of_ble_eq_true rfl) (fun Z hz => wX5_partTokens (n := n) hz  M) r h
set_option maxRecDepth 10000 in
set_option maxHeartbeats 4000000 in
theorem wX4_endPart {Z : hZ} {n : Nat} (hz : hOK Z hYx cX4_endPart RX4 2 (n + 0) none) (a0 : Nat) (a1 : Int32) (M : hMem) : hW Z rtV M 0 [(0, .ref (h_b Z + a0)), (1, .int a1)] [] (fX4_endPart a0 a1 M) := by
  unfold fX4_endPart
  refine x_guard (fun hpa0 => ?_)
  refine x_iload_n hz dX4_endPart_0 rfl 1 rfl ?_
  refine x_if_lt hz dX4_endPart_1 ?_ ?_
  · exact x_vret hz rfl dX4_endPart_19
  refine x_iload_n hz dX4_endPart_4 rfl 1 rfl ?_
  refine x_iconst hz 3 dX4_endPart_5 rfl ?_
  refine x_icmp_ge hz dX4_endPart_6 ?_ ?_
  · exact x_vret hz rfl dX4_endPart_19
  refine x_aload_n hz dX4_endPart_9 rfl 0 rfl ?_
  refine x_getr hz (h_isB_is hpa0) fl_X4_15 rfl (gv_3_1 (h_isB_is hpa0)) (Nat.succ_ne_zero _) dX4_endPart_10 ?_
  refine x_iload_n hz dX4_endPart_13 rfl 1 rfl ?_
  refine x_aload_n hz dX4_endPart_14 rfl 0 rfl ?_
  refine x_geti hz (h_isB_is hpa0) fl_X4_21 rfl dX4_endPart_15 ?_
  refine x_iast hz (gs_3_1 (h_isB_is hpa0)) dX4_endPart_18 (fun hi18 => ?_)
  exact x_vret hz rfl dX4_endPart_19
theorem kX4_endPart {l : Launch} {dd : hDD} {b n : Nat} (a0 : Nat) (a1 : Int32) (M : hMem) (r : hMem) (h : fX4_endPart a0 a1 M = some r) : hC l hYx dd b yX4_endPart cX4_endPart 2 none (n + 0) [.ref (b + a0), .int a1] M (none, r) :=
  h_met (av := fun b => [.ref (b + a0), .int a1]) (rt := rtV) (by decide) (Nat.le_of_ble_eq_true rfl) (fun Z hz => wX4_endPart (n := n) hz a0 a1 M) r h
set_option maxRecDepth 10000 in
set_option maxHeartbeats 4000000 in
theorem wX4_add {Z : hZ} {n : Nat} (hz : hOK Z hYx cX4_add RX4 2 (n + 0) none) (a0 : Nat) (a1 : Int32) (M : hMem) : hW Z rtV M 0 [(0, .ref (h_b Z + a0)), (1, .int a1)] [] (fX4_add a0 a1 M) := by
  unfold fX4_add
  refine x_guard (fun hpa0 => ?_)
  refine x_aload_n hz dX4_add_0 rfl 0 rfl ?_
  refine x_geti hz (h_isB_is hpa0) fl_X4_21 rfl dX4_add_1 ?_
  refine x_sipush hz 160 dX4_add_4 rfl ?_
  refine x_icmp_ge hz dX4_add_7 ?_ ?_
  · exact x_vret hz rfl dX4_add_30
  refine x_aload_n hz dX4_add_10 rfl 0 rfl ?_
  refine x_getr hz (h_isB_is hpa0) fl_X4_9 rfl (gv_3_0 (h_isB_is hpa0)) (Nat.succ_ne_zero _) dX4_add_11 ?_
  refine x_aload_n hz dX4_add_14 rfl 0 rfl ?_
  refine x_geti hz (h_isB_is hpa0) fl_X4_21 rfl dX4_add_15 ?_
  refine x_iload_n hz dX4_add_18 rfl 1 rfl ?_
  refine x_iast hz (gs_3_0 (h_isB_is hpa0)) dX4_add_19 (fun hi19 => ?_)
  refine x_aload_n hz dX4_add_20 rfl 0 rfl ?_
  refine x_dup hz dX4_add_21 rfl ?_
  refine x_geti hz (h_isB_is hpa0) fl_X4_21 rfl dX4_add_22 ?_
  refine x_iconst hz 1 dX4_add_25 rfl ?_
  refine x_iadd hz dX4_add_26 ?_
  refine x_puti hz (h_isB_is hpa0) fp_X4_21 rfl dX4_add_27 ?_
  exact x_vret hz rfl dX4_add_30
theorem kX4_add {l : Launch} {dd : hDD} {b n : Nat} (a0 : Nat) (a1 : Int32) (M : hMem) (r : hMem) (h : fX4_add a0 a1 M = some r) : hC l hYx dd b yX4_add cX4_add 2 none (n + 0) [.ref (b + a0), .int a1] M (none, r) :=
  h_met (av := fun b => [.ref (b + a0), .int a1]) (rt := rtV) (by decide) (Nat.le_of_ble_eq_true rfl) (fun Z hz => wX4_add (n := n) hz a0 a1 M) r h
set_option maxRecDepth 10000 in
set_option maxHeartbeats 4000000 in
theorem wX4_addName {Z : hZ} {n : Nat} (hz : hOK Z hYx cX4_addName RX4 2 (n + 1) none) (a0 : Nat) (a1 : Int32) (M : hMem) : hW Z rtV M 0 [(0, .ref (h_b Z + a0)), (1, .int a1)] [] (fX4_addName a0 a1 M) := by
  unfold fX4_addName
  refine x_guard (fun hpa0 => ?_)
  refine x_aload_n hz dX4_addName_0 rfl 0 rfl ?_
  refine x_iconst hz (-1) dX4_addName_1 rfl ?_
  refine x_iload_n hz dX4_addName_2 rfl 1 rfl ?_
  refine x_isub hz dX4_addName_3 ?_
  refine x_bind (fun q4 hq4 => ?_)
  refine x_callV hz mv_X4_25 (h_isB_is hpa0) (by decide) rfl rfl (kX4_add (n := n) a0 ((-1) - a1) M q4 hq4) rfl (av := [.int ((-1) - a1)]) (rest := []) rfl rfl (Nat.le_of_ble_eq_true rfl) dX4_addName_4 ?_
  exact x_vret hz rfl dX4_addName_7
theorem kX4_addName {l : Launch} {dd : hDD} {b n : Nat} (a0 : Nat) (a1 : Int32) (M : hMem) (r : hMem) (h : fX4_addName a0 a1 M = some r) : hC l hYx dd b yX4_addName cX4_addName 2 none (n + 1) [.ref (b + a0), .int a1] M (none, r) :=
  h_met (av := fun b => [.ref (b + a0), .int a1]) (rt := rtV) (by decide) (Nat.le_of_ble_eq_true rfl) (fun Z hz => wX4_addName (n := n) hz a0 a1 M) r h
def hRC_read (l : Launch) (dd : hDD) (b : Nat) (rc : Nat → Int32 → hMem → Option hMem) (d : Nat) : Prop := (∀ (o0 : Int32) (M r : hMem), rc 0 o0 M = some r → hC l hYx dd b yX5_readOr cX5_readOr 3 none d [.ref (b + 30), .int o0] M (none, r)) ∧ (∀ (o0 : Int32) (M r : hMem), rc 1 o0 M = some r → hC l hYx dd b yX5_readAnd cX5_readAnd 3 none d [.ref (b + 30), .int o0] M (none, r)) ∧ (∀ (o0 : Int32) (M r : hMem), rc 2 o0 M = some r → hC l hYx dd b yX5_readNot cX5_readNot 3 none d [.ref (b + 30), .int o0] M (none, r)) ∧ (∀ (o0 : Int32) (M r : hMem), rc 3 o0 M = some r → hC l hYx dd b yX5_readSum cX5_readSum 4 none d [.ref (b + 30), .int o0] M (none, r)) ∧ (∀ (o0 : Int32) (M r : hMem), rc 4 o0 M = some r → hC l hYx dd b yX5_readTerm cX5_readTerm 3 none d [.ref (b + 30), .int o0] M (none, r)) ∧ (∀ (o0 : Int32) (M r : hMem), rc 5 o0 M = some r → hC l hYx dd b yX5_readOne cX5_readOne 2 none d [.ref (b + 30), .int o0] M (none, r))
set_option maxRecDepth 10000 in
set_option maxHeartbeats 4000000 in
theorem wX5_readOr_L7 {Z : hZ} {n : Nat} (hz : hOK Z hYx cX5_readOr RX5 3 (n + 2) none) {rc : Nat → Int32 → hMem → Option hMem} (hrc : hRC_read (h_l Z) (h_d Z) (h_b Z) rc (n + 1))  (v1 : Int32)   : ∀ (i : Nat) (s : Int32 × hMem), hW Z rtV s.2 7 [(0, .ref (h_b Z + 30)), (1, .int v1), (2, .int s.1)] [] (h_lp (fX5_readOr_L7 rc v1) i s) := by
  refine x_loop (Ms := fun s : Int32 × hMem => s.2) (Ls := fun s : Int32 × hMem => [(0, .ref (h_b Z + 30)), (1, .int v1), (2, .int s.1)]) ?_
  intro k7 hk7 s
  show hW Z rtV s.2 7 [(0, .ref (h_b Z + 30)), (1, .int v1), (2, .int s.1)] [] (fX5_readOr_L7 rc v1 k7 s)
  unfold fX5_readOr_L7
  refine x_iload_n hz dX5_readOr_7 rfl 2 rfl ?_
  refine x_sipush hz 160 dX5_readOr_8 rfl ?_
  refine x_icmp_ge hz dX5_readOr_11 ?_ ?_
  · exact x_vret hz rfl dX5_readOr_47
  refine x_aload_n hz dX5_readOr_14 rfl 0 rfl ?_
  refine x_geti hz sx_30 fl_X5_47 rfl dX5_readOr_15 ?_
  refine x_bipush hz 7 dX5_readOr_18 rfl ?_
  refine x_icmp_ne hz dX5_readOr_20 ?_ ?_
  · exact x_vret hz rfl dX5_readOr_47
  refine x_aload_n hz dX5_readOr_23 rfl 0 rfl ?_
  refine x_bind (fun q24 hq24 => ?_)
  refine x_callV hz mv_X5_67 sx_30 (by decide) rfl rfl (kX5_advance (n := (n + 1))  s.2 q24 hq24) rfl (av := []) (rest := []) rfl rfl (Nat.le_of_ble_eq_true rfl) dX5_readOr_24 ?_
  refine x_aload_n hz dX5_readOr_27 rfl 0 rfl ?_
  refine x_iload_n hz dX5_readOr_28 rfl 1 rfl ?_
  refine x_bind (fun q29 hq29 => ?_)
  refine x_callV hz mv_X5_64 sx_30 (by decide) rfl rfl (hrc.2.1 v1 q24 q29 hq29) rfl (av := [.int v1]) (rest := []) rfl rfl (Nat.le_of_ble_eq_true rfl) dX5_readOr_29 ?_
  refine x_aload_n hz dX5_readOr_32 rfl 0 rfl ?_
  refine x_getd hz sx_30 fl_X5_31 rfl (t := 3) (n2 := 0) rfl dX5_readOr_33 (fun hg33 => ?_)
  refine x_bipush hz (-11) dX5_readOr_36 rfl ?_
  refine x_bind (fun q38 hq38 => ?_)
  refine x_callV hz mv_X5_70 (h_isB_is hg33) (by decide) rfl rfl (kX4_add (n := (n + 1)) ((q29 30 8).toNatClampNeg) (-11) q29 q38 hq38) rfl (av := [.int (-11)]) (rest := []) rfl rfl (Nat.le_of_ble_eq_true rfl) dX5_readOr_38 ?_
  refine x_iinc hz (s.1 + 1) [(2, .int (s.1 + 1)), (0, .ref (h_b Z + 30)), (1, .int v1)] dX5_readOr_41 2 rfl rfl rfl rfl ?_
  refine x_goto hz dX5_readOr_44 ?_
  exact x_sub [1, 2, 0] rfl (hk7 (s.1 + 1, q38))
set_option maxRecDepth 10000 in
set_option maxHeartbeats 4000000 in
theorem wX5_readOr {Z : hZ} {n : Nat} (hz : hOK Z hYx cX5_readOr RX5 3 (n + 2) none) {rc : Nat → Int32 → hMem → Option hMem} (hrc : hRC_read (h_l Z) (h_d Z) (h_b Z) rc (n + 1)) (a1 : Int32) (M : hMem) : hW Z rtV M 0 [(0, .ref (h_b Z + 30)), (1, .int a1)] [] (fX5_readOr rc a1 M) := by
  unfold fX5_readOr
  refine x_aload_n hz dX5_readOr_0 rfl 0 rfl ?_
  refine x_iload_n hz dX5_readOr_1 rfl 1 rfl ?_
  refine x_bind (fun q2 hq2 => ?_)
  refine x_callV hz mv_X5_64 sx_30 (by decide) rfl rfl (hrc.2.1 a1 M q2 hq2) rfl (av := [.int a1]) (rest := []) rfl rfl (Nat.le_of_ble_eq_true rfl) dX5_readOr_2 ?_
  refine x_iconst hz 0 dX5_readOr_5 rfl ?_
  refine x_istore_n hz [(2, .int 0), (0, .ref (h_b Z + 30)), (1, .int a1)] dX5_readOr_6 rfl rfl rfl ?_
  exact x_sub [1, 2, 0] rfl (wX5_readOr_L7 hz hrc a1 h_FU (0, q2))
set_option maxRecDepth 10000 in
set_option maxHeartbeats 4000000 in
theorem wX5_readAnd_L7 {Z : hZ} {n : Nat} (hz : hOK Z hYx cX5_readAnd RX5 3 (n + 2) none) {rc : Nat → Int32 → hMem → Option hMem} (hrc : hRC_read (h_l Z) (h_d Z) (h_b Z) rc (n + 1))  (v1 : Int32)   : ∀ (i : Nat) (s : Int32 × hMem), hW Z rtV s.2 7 [(0, .ref (h_b Z + 30)), (1, .int v1), (2, .int s.1)] [] (h_lp (fX5_readAnd_L7 rc v1) i s) := by
  refine x_loop (Ms := fun s : Int32 × hMem => s.2) (Ls := fun s : Int32 × hMem => [(0, .ref (h_b Z + 30)), (1, .int v1), (2, .int s.1)]) ?_
  intro k7 hk7 s
  show hW Z rtV s.2 7 [(0, .ref (h_b Z + 30)), (1, .int v1), (2, .int s.1)] [] (fX5_readAnd_L7 rc v1 k7 s)
  unfold fX5_readAnd_L7
  refine x_iload_n hz dX5_readAnd_7 rfl 2 rfl ?_
  refine x_sipush hz 160 dX5_readAnd_8 rfl ?_
  refine x_icmp_ge hz dX5_readAnd_11 ?_ ?_
  · exact x_vret hz rfl dX5_readAnd_47
  refine x_aload_n hz dX5_readAnd_14 rfl 0 rfl ?_
  refine x_geti hz sx_30 fl_X5_47 rfl dX5_readAnd_15 ?_
  refine x_bipush hz 8 dX5_readAnd_18 rfl ?_
  refine x_icmp_ne hz dX5_readAnd_20 ?_ ?_
  · exact x_vret hz rfl dX5_readAnd_47
  refine x_aload_n hz dX5_readAnd_23 rfl 0 rfl ?_
  refine x_bind (fun q24 hq24 => ?_)
  refine x_callV hz mv_X5_67 sx_30 (by decide) rfl rfl (kX5_advance (n := (n + 1))  s.2 q24 hq24) rfl (av := []) (rest := []) rfl rfl (Nat.le_of_ble_eq_true rfl) dX5_readAnd_24 ?_
  refine x_aload_n hz dX5_readAnd_27 rfl 0 rfl ?_
  refine x_iload_n hz dX5_readAnd_28 rfl 1 rfl ?_
  refine x_bind (fun q29 hq29 => ?_)
  refine x_callV hz mv_X5_73 sx_30 (by decide) rfl rfl (hrc.2.2.1 v1 q24 q29 hq29) rfl (av := [.int v1]) (rest := []) rfl rfl (Nat.le_of_ble_eq_true rfl) dX5_readAnd_29 ?_
  refine x_aload_n hz dX5_readAnd_32 rfl 0 rfl ?_
  refine x_getd hz sx_30 fl_X5_31 rfl (t := 3) (n2 := 0) rfl dX5_readAnd_33 (fun hg33 => ?_)
  refine x_bipush hz (-12) dX5_readAnd_36 rfl ?_
  refine x_bind (fun q38 hq38 => ?_)
  refine x_callV hz mv_X5_70 (h_isB_is hg33) (by decide) rfl rfl (kX4_add (n := (n + 1)) ((q29 30 8).toNatClampNeg) (-12) q29 q38 hq38) rfl (av := [.int (-12)]) (rest := []) rfl rfl (Nat.le_of_ble_eq_true rfl) dX5_readAnd_38 ?_
  refine x_iinc hz (s.1 + 1) [(2, .int (s.1 + 1)), (0, .ref (h_b Z + 30)), (1, .int v1)] dX5_readAnd_41 2 rfl rfl rfl rfl ?_
  refine x_goto hz dX5_readAnd_44 ?_
  exact x_sub [1, 2, 0] rfl (hk7 (s.1 + 1, q38))
set_option maxRecDepth 10000 in
set_option maxHeartbeats 4000000 in
theorem wX5_readAnd {Z : hZ} {n : Nat} (hz : hOK Z hYx cX5_readAnd RX5 3 (n + 2) none) {rc : Nat → Int32 → hMem → Option hMem} (hrc : hRC_read (h_l Z) (h_d Z) (h_b Z) rc (n + 1)) (a1 : Int32) (M : hMem) : hW Z rtV M 0 [(0, .ref (h_b Z + 30)), (1, .int a1)] [] (fX5_readAnd rc a1 M) := by
  unfold fX5_readAnd
  refine x_aload_n hz dX5_readAnd_0 rfl 0 rfl ?_
  refine x_iload_n hz dX5_readAnd_1 rfl 1 rfl ?_
  refine x_bind (fun q2 hq2 => ?_)
  refine x_callV hz mv_X5_73 sx_30 (by decide) rfl rfl (hrc.2.2.1 a1 M q2 hq2) rfl (av := [.int a1]) (rest := []) rfl rfl (Nat.le_of_ble_eq_true rfl) dX5_readAnd_2 ?_
  refine x_iconst hz 0 dX5_readAnd_5 rfl ?_
  refine x_istore_n hz [(2, .int 0), (0, .ref (h_b Z + 30)), (1, .int a1)] dX5_readAnd_6 rfl rfl rfl ?_
  exact x_sub [1, 2, 0] rfl (wX5_readAnd_L7 hz hrc a1 h_FU (0, q2))
set_option maxRecDepth 10000 in
set_option maxHeartbeats 4000000 in
theorem wX5_readNot_L74 {Z : hZ} {n : Nat} (hz : hOK Z hYx cX5_readNot RX5 3 (n + 2) none) {rc : Nat → Int32 → hMem → Option hMem} (hrc : hRC_read (h_l Z) (h_d Z) (h_b Z) rc (n + 1))  (v1 : Int32) (t0 : Int32) (M : hMem)  : hW Z rtV M 74 [(0, .ref (h_b Z + 30)), (1, .int v1)] [.int t0] (fX5_readNot_L74 rc v1 t0 M) := by
  unfold fX5_readNot_L74
  refine x_istore_n hz [(2, .int t0), (0, .ref (h_b Z + 30)), (1, .int v1)] dX5_readNot_74 rfl rfl rfl ?_
  refine x_aload_n hz dX5_readNot_75 rfl 1 rfl ?_
  refine x_bind (fun q76 hq76 => ?_)
  refine x_callV hz mv_X5_67 sx_30 (by decide) rfl rfl (kX5_advance (n := (n + 1))  M q76 hq76) rfl (av := []) (rest := []) rfl rfl (Nat.le_of_ble_eq_true rfl) dX5_readNot_76 ?_
  refine x_aload_n hz dX5_readNot_79 rfl 1 rfl ?_
  refine x_iload_n hz dX5_readNot_80 rfl 2 rfl ?_
  refine x_bind (fun q81 hq81 => ?_)
  refine x_callV hz mv_X5_76 sx_30 (by decide) rfl rfl (hrc.2.2.2.1 v1 q76 q81 hq81) rfl (av := [.int v1]) (rest := []) rfl rfl (Nat.le_of_ble_eq_true rfl) dX5_readNot_81 ?_
  refine x_aload_n hz dX5_readNot_84 rfl 1 rfl ?_
  refine x_getd hz sx_30 fl_X5_31 rfl (t := 3) (n2 := 0) rfl dX5_readNot_85 (fun hg85 => ?_)
  refine x_iload_n hz dX5_readNot_88 rfl 0 rfl ?_
  refine x_bind (fun q89 hq89 => ?_)
  refine x_callV hz mv_X5_70 (h_isB_is hg85) (by decide) rfl rfl (kX4_add (n := (n + 1)) ((q81 30 8).toNatClampNeg) t0 q81 q89 hq89) rfl (av := [.int t0]) (rest := []) rfl rfl (Nat.le_of_ble_eq_true rfl) dX5_readNot_89 ?_
  exact x_vret hz rfl dX5_readNot_92
set_option maxRecDepth 10000 in
set_option maxHeartbeats 4000000 in
theorem wX5_readNot_L58 {Z : hZ} {n : Nat} (hz : hOK Z hYx cX5_readNot RX5 3 (n + 2) none) {rc : Nat → Int32 → hMem → Option hMem} (hrc : hRC_read (h_l Z) (h_d Z) (h_b Z) rc (n + 1))  (v1 : Int32) (M : hMem)  : hW Z rtV M 58 [(0, .ref (h_b Z + 30)), (1, .int v1)] [] (fX5_readNot_L58 rc v1 M) := by
  unfold fX5_readNot_L58
  refine x_aload_n hz dX5_readNot_58 rfl 0 rfl ?_
  refine x_geti hz sx_30 fl_X5_47 rfl dX5_readNot_59 ?_
  refine x_bipush hz 60 dX5_readNot_62 rfl ?_
  refine x_icmp_ne hz dX5_readNot_64 ?_ ?_
  · refine x_bipush hz (-15) dX5_readNot_72 rfl ?_
    exact x_sub [0, 1] rfl (wX5_readNot_L74 hz hrc v1 (-15) M)
  refine x_bipush hz (-14) dX5_readNot_67 rfl ?_
  refine x_goto hz dX5_readNot_69 ?_
  exact x_sub [0, 1] rfl (wX5_readNot_L74 hz hrc v1 (-14) M)
set_option maxRecDepth 10000 in
set_option maxHeartbeats 4000000 in
theorem wX5_readNot_L35 {Z : hZ} {n : Nat} (hz : hOK Z hYx cX5_readNot RX5 3 (n + 2) none) {rc : Nat → Int32 → hMem → Option hMem} (hrc : hRC_read (h_l Z) (h_d Z) (h_b Z) rc (n + 1))  (v1 : Int32) (M : hMem)  : hW Z rtV M 35 [(0, .ref (h_b Z + 30)), (1, .int v1)] [] (fX5_readNot_L35 rc v1 M) := by
  unfold fX5_readNot_L35
  refine x_aload_n hz dX5_readNot_35 rfl 0 rfl ?_
  refine x_iload_n hz dX5_readNot_36 rfl 1 rfl ?_
  refine x_bind (fun q37 hq37 => ?_)
  refine x_callV hz mv_X5_76 sx_30 (by decide) rfl rfl (hrc.2.2.2.1 v1 M q37 hq37) rfl (av := [.int v1]) (rest := []) rfl rfl (Nat.le_of_ble_eq_true rfl) dX5_readNot_37 ?_
  refine x_aload_n hz dX5_readNot_40 rfl 0 rfl ?_
  refine x_geti hz sx_30 fl_X5_47 rfl dX5_readNot_41 ?_
  refine x_bipush hz 60 dX5_readNot_44 rfl ?_
  refine x_icmp_eq hz dX5_readNot_46 ?_ ?_
  · exact x_sub [0, 1] rfl (wX5_readNot_L58 hz hrc v1 q37)
  refine x_aload_n hz dX5_readNot_49 rfl 0 rfl ?_
  refine x_geti hz sx_30 fl_X5_47 rfl dX5_readNot_50 ?_
  refine x_bipush hz 61 dX5_readNot_53 rfl ?_
  refine x_icmp_ne hz dX5_readNot_55 ?_ ?_
  · exact x_vret hz rfl dX5_readNot_92
  exact x_sub [0, 1] rfl (wX5_readNot_L58 hz hrc v1 q37)
set_option maxRecDepth 10000 in
set_option maxHeartbeats 4000000 in
theorem wX5_readNot {Z : hZ} {n : Nat} (hz : hOK Z hYx cX5_readNot RX5 3 (n + 2) none) {rc : Nat → Int32 → hMem → Option hMem} (hrc : hRC_read (h_l Z) (h_d Z) (h_b Z) rc (n + 1)) (a1 : Int32) (M : hMem) : hW Z rtV M 0 [(0, .ref (h_b Z + 30)), (1, .int a1)] [] (fX5_readNot rc a1 M) := by
  unfold fX5_readNot
  refine x_aload_n hz dX5_readNot_0 rfl 0 rfl ?_
  refine x_geti hz sx_30 fl_X5_47 rfl dX5_readNot_1 ?_
  refine x_bipush hz 9 dX5_readNot_4 rfl ?_
  refine x_icmp_ne hz dX5_readNot_6 ?_ ?_
  · exact x_sub [0, 1] rfl (wX5_readNot_L35 hz hrc a1 M)
  refine x_iload_n hz dX5_readNot_9 rfl 1 rfl ?_
  refine x_iconst hz 5 dX5_readNot_10 rfl ?_
  refine x_icmp_ge hz dX5_readNot_11 ?_ ?_
  · exact x_sub [0, 1] rfl (wX5_readNot_L35 hz hrc a1 M)
  refine x_aload_n hz dX5_readNot_14 rfl 0 rfl ?_
  refine x_bind (fun q15 hq15 => ?_)
  refine x_callV hz mv_X5_67 sx_30 (by decide) rfl rfl (kX5_advance (n := (n + 1))  M q15 hq15) rfl (av := []) (rest := []) rfl rfl (Nat.le_of_ble_eq_true rfl) dX5_readNot_15 ?_
  refine x_aload_n hz dX5_readNot_18 rfl 0 rfl ?_
  refine x_iload_n hz dX5_readNot_19 rfl 1 rfl ?_
  refine x_iconst hz 1 dX5_readNot_20 rfl ?_
  refine x_iadd hz dX5_readNot_21 ?_
  refine x_bind (fun q22 hq22 => ?_)
  refine x_callV hz mv_X5_73 sx_30 (by decide) rfl rfl (hrc.2.2.1 (a1 + 1) q15 q22 hq22) rfl (av := [.int (a1 + 1)]) (rest := []) rfl rfl (Nat.le_of_ble_eq_true rfl) dX5_readNot_22 ?_
  refine x_aload_n hz dX5_readNot_25 rfl 0 rfl ?_
  refine x_getd hz sx_30 fl_X5_31 rfl (t := 3) (n2 := 0) rfl dX5_readNot_26 (fun hg26 => ?_)
  refine x_bipush hz (-13) dX5_readNot_29 rfl ?_
  refine x_bind (fun q31 hq31 => ?_)
  refine x_callV hz mv_X5_70 (h_isB_is hg26) (by decide) rfl rfl (kX4_add (n := (n + 1)) ((q22 30 8).toNatClampNeg) (-13) q22 q31 hq31) rfl (av := [.int (-13)]) (rest := []) rfl rfl (Nat.le_of_ble_eq_true rfl) dX5_readNot_31 ?_
  exact x_vret hz rfl dX5_readNot_34
set_option maxRecDepth 10000 in
set_option maxHeartbeats 4000000 in
theorem wX5_readSum_L48 {Z : hZ} {n : Nat} (hz : hOK Z hYx cX5_readSum RX5 4 (n + 2) none) {rc : Nat → Int32 → hMem → Option hMem} (hrc : hRC_read (h_l Z) (h_d Z) (h_b Z) rc (n + 1))  (v1 : Int32) (v2 : Int32) (t0 : Int32) (M : hMem) {k7 : (Int32 × hMem) → Option hMem} (hk7 : ∀ s, hW Z rtV s.2 7 [(0, .ref (h_b Z + 30)), (1, .int v1), (2, .int s.1)] [] (k7 s)) : hW Z rtV M 48 [(0, .ref (h_b Z + 30)), (1, .int v1), (2, .int v2)] [.int t0] (fX5_readSum_L48 rc k7 v1 v2 t0 M) := by
  unfold fX5_readSum_L48
  refine x_istore_n hz [(3, .int t0), (0, .ref (h_b Z + 30)), (1, .int v1), (2, .int v2)] dX5_readSum_48 rfl rfl rfl ?_
  refine x_aload_n hz dX5_readSum_49 rfl 1 rfl ?_
  refine x_bind (fun q50 hq50 => ?_)
  refine x_callV hz mv_X5_67 sx_30 (by decide) rfl rfl (kX5_advance (n := (n + 1))  M q50 hq50) rfl (av := []) (rest := []) rfl rfl (Nat.le_of_ble_eq_true rfl) dX5_readSum_50 ?_
  refine x_aload_n hz dX5_readSum_53 rfl 1 rfl ?_
  refine x_iload_n hz dX5_readSum_54 rfl 2 rfl ?_
  refine x_bind (fun q55 hq55 => ?_)
  refine x_callV hz mv_X5_79 sx_30 (by decide) rfl rfl (hrc.2.2.2.2.1 v1 q50 q55 hq55) rfl (av := [.int v1]) (rest := []) rfl rfl (Nat.le_of_ble_eq_true rfl) dX5_readSum_55 ?_
  refine x_aload_n hz dX5_readSum_58 rfl 1 rfl ?_
  refine x_getd hz sx_30 fl_X5_31 rfl (t := 3) (n2 := 0) rfl dX5_readSum_59 (fun hg59 => ?_)
  refine x_iload_n hz dX5_readSum_62 rfl 0 rfl ?_
  refine x_bind (fun q63 hq63 => ?_)
  refine x_callV hz mv_X5_70 (h_isB_is hg59) (by decide) rfl rfl (kX4_add (n := (n + 1)) ((q55 30 8).toNatClampNeg) t0 q55 q63 hq63) rfl (av := [.int t0]) (rest := []) rfl rfl (Nat.le_of_ble_eq_true rfl) dX5_readSum_63 ?_
  refine x_iinc hz (v2 + 1) [(2, .int (v2 + 1)), (3, .int t0), (0, .ref (h_b Z + 30)), (1, .int v1)] dX5_readSum_66 3 rfl rfl rfl rfl ?_
  refine x_goto hz dX5_readSum_69 ?_
  exact x_sub [2, 3, 0] rfl (hk7 (v2 + 1, q63))
set_option maxRecDepth 10000 in
set_option maxHeartbeats 4000000 in
theorem wX5_readSum_L32 {Z : hZ} {n : Nat} (hz : hOK Z hYx cX5_readSum RX5 4 (n + 2) none) {rc : Nat → Int32 → hMem → Option hMem} (hrc : hRC_read (h_l Z) (h_d Z) (h_b Z) rc (n + 1))  (v1 : Int32) (v2 : Int32) (M : hMem) {k7 : (Int32 × hMem) → Option hMem} (hk7 : ∀ s, hW Z rtV s.2 7 [(0, .ref (h_b Z + 30)), (1, .int v1), (2, .int s.1)] [] (k7 s)) : hW Z rtV M 32 [(0, .ref (h_b Z + 30)), (1, .int v1), (2, .int v2)] [] (fX5_readSum_L32 rc k7 v1 v2 M) := by
  unfold fX5_readSum_L32
  refine x_aload_n hz dX5_readSum_32 rfl 0 rfl ?_
  refine x_geti hz sx_30 fl_X5_47 rfl dX5_readSum_33 ?_
  refine x_bipush hz 43 dX5_readSum_36 rfl ?_
  refine x_icmp_ne hz dX5_readSum_38 ?_ ?_
  · refine x_bipush hz (-17) dX5_readSum_46 rfl ?_
    exact x_sub [0, 1, 2] rfl (wX5_readSum_L48 hz hrc v1 v2 (-17) M hk7)
  refine x_bipush hz (-16) dX5_readSum_41 rfl ?_
  refine x_goto hz dX5_readSum_43 ?_
  exact x_sub [0, 1, 2] rfl (wX5_readSum_L48 hz hrc v1 v2 (-16) M hk7)
set_option maxRecDepth 10000 in
set_option maxHeartbeats 4000000 in
theorem wX5_readSum_L7 {Z : hZ} {n : Nat} (hz : hOK Z hYx cX5_readSum RX5 4 (n + 2) none) {rc : Nat → Int32 → hMem → Option hMem} (hrc : hRC_read (h_l Z) (h_d Z) (h_b Z) rc (n + 1))  (v1 : Int32)   : ∀ (i : Nat) (s : Int32 × hMem), hW Z rtV s.2 7 [(0, .ref (h_b Z + 30)), (1, .int v1), (2, .int s.1)] [] (h_lp (fX5_readSum_L7 rc v1) i s) := by
  refine x_loop (Ms := fun s : Int32 × hMem => s.2) (Ls := fun s : Int32 × hMem => [(0, .ref (h_b Z + 30)), (1, .int v1), (2, .int s.1)]) ?_
  intro k7 hk7 s
  show hW Z rtV s.2 7 [(0, .ref (h_b Z + 30)), (1, .int v1), (2, .int s.1)] [] (fX5_readSum_L7 rc v1 k7 s)
  unfold fX5_readSum_L7
  refine x_iload_n hz dX5_readSum_7 rfl 2 rfl ?_
  refine x_sipush hz 160 dX5_readSum_8 rfl ?_
  refine x_icmp_ge hz dX5_readSum_11 ?_ ?_
  · exact x_vret hz rfl dX5_readSum_72
  refine x_aload_n hz dX5_readSum_14 rfl 0 rfl ?_
  refine x_geti hz sx_30 fl_X5_47 rfl dX5_readSum_15 ?_
  refine x_bipush hz 43 dX5_readSum_18 rfl ?_
  refine x_icmp_eq hz dX5_readSum_20 ?_ ?_
  · exact x_sub [0, 1, 2] rfl (wX5_readSum_L32 hz hrc v1 s.1 s.2 hk7)
  refine x_aload_n hz dX5_readSum_23 rfl 0 rfl ?_
  refine x_geti hz sx_30 fl_X5_47 rfl dX5_readSum_24 ?_
  refine x_bipush hz 45 dX5_readSum_27 rfl ?_
  refine x_icmp_ne hz dX5_readSum_29 ?_ ?_
  · exact x_vret hz rfl dX5_readSum_72
  exact x_sub [0, 1, 2] rfl (wX5_readSum_L32 hz hrc v1 s.1 s.2 hk7)
set_option maxRecDepth 10000 in
set_option maxHeartbeats 4000000 in
theorem wX5_readSum {Z : hZ} {n : Nat} (hz : hOK Z hYx cX5_readSum RX5 4 (n + 2) none) {rc : Nat → Int32 → hMem → Option hMem} (hrc : hRC_read (h_l Z) (h_d Z) (h_b Z) rc (n + 1)) (a1 : Int32) (M : hMem) : hW Z rtV M 0 [(0, .ref (h_b Z + 30)), (1, .int a1)] [] (fX5_readSum rc a1 M) := by
  unfold fX5_readSum
  refine x_aload_n hz dX5_readSum_0 rfl 0 rfl ?_
  refine x_iload_n hz dX5_readSum_1 rfl 1 rfl ?_
  refine x_bind (fun q2 hq2 => ?_)
  refine x_callV hz mv_X5_79 sx_30 (by decide) rfl rfl (hrc.2.2.2.2.1 a1 M q2 hq2) rfl (av := [.int a1]) (rest := []) rfl rfl (Nat.le_of_ble_eq_true rfl) dX5_readSum_2 ?_
  refine x_iconst hz 0 dX5_readSum_5 rfl ?_
  refine x_istore_n hz [(2, .int 0), (0, .ref (h_b Z + 30)), (1, .int a1)] dX5_readSum_6 rfl rfl rfl ?_
  exact x_sub [1, 2, 0] rfl (wX5_readSum_L7 hz hrc a1 h_FU (0, q2))
set_option maxRecDepth 10000 in
set_option maxHeartbeats 4000000 in
theorem wX5_readTerm_L7 {Z : hZ} {n : Nat} (hz : hOK Z hYx cX5_readTerm RX5 3 (n + 2) none) {rc : Nat → Int32 → hMem → Option hMem} (hrc : hRC_read (h_l Z) (h_d Z) (h_b Z) rc (n + 1))  (v1 : Int32)   : ∀ (i : Nat) (s : Int32 × hMem), hW Z rtV s.2 7 [(0, .ref (h_b Z + 30)), (1, .int v1), (2, .int s.1)] [] (h_lp (fX5_readTerm_L7 rc v1) i s) := by
  refine x_loop (Ms := fun s : Int32 × hMem => s.2) (Ls := fun s : Int32 × hMem => [(0, .ref (h_b Z + 30)), (1, .int v1), (2, .int s.1)]) ?_
  intro k7 hk7 s
  show hW Z rtV s.2 7 [(0, .ref (h_b Z + 30)), (1, .int v1), (2, .int s.1)] [] (fX5_readTerm_L7 rc v1 k7 s)
  unfold fX5_readTerm_L7
  refine x_iload_n hz dX5_readTerm_7 rfl 2 rfl ?_
  refine x_sipush hz 160 dX5_readTerm_8 rfl ?_
  refine x_icmp_ge hz dX5_readTerm_11 ?_ ?_
  · exact x_vret hz rfl dX5_readTerm_47
  refine x_aload_n hz dX5_readTerm_14 rfl 0 rfl ?_
  refine x_geti hz sx_30 fl_X5_47 rfl dX5_readTerm_15 ?_
  refine x_bipush hz 42 dX5_readTerm_18 rfl ?_
  refine x_icmp_ne hz dX5_readTerm_20 ?_ ?_
  · exact x_vret hz rfl dX5_readTerm_47
  refine x_aload_n hz dX5_readTerm_23 rfl 0 rfl ?_
  refine x_bind (fun q24 hq24 => ?_)
  refine x_callV hz mv_X5_67 sx_30 (by decide) rfl rfl (kX5_advance (n := (n + 1))  s.2 q24 hq24) rfl (av := []) (rest := []) rfl rfl (Nat.le_of_ble_eq_true rfl) dX5_readTerm_24 ?_
  refine x_aload_n hz dX5_readTerm_27 rfl 0 rfl ?_
  refine x_iload_n hz dX5_readTerm_28 rfl 1 rfl ?_
  refine x_bind (fun q29 hq29 => ?_)
  refine x_callV hz mv_X5_82 sx_30 (by decide) rfl rfl (hrc.2.2.2.2.2 v1 q24 q29 hq29) rfl (av := [.int v1]) (rest := []) rfl rfl (Nat.le_of_ble_eq_true rfl) dX5_readTerm_29 ?_
  refine x_aload_n hz dX5_readTerm_32 rfl 0 rfl ?_
  refine x_getd hz sx_30 fl_X5_31 rfl (t := 3) (n2 := 0) rfl dX5_readTerm_33 (fun hg33 => ?_)
  refine x_bipush hz (-18) dX5_readTerm_36 rfl ?_
  refine x_bind (fun q38 hq38 => ?_)
  refine x_callV hz mv_X5_70 (h_isB_is hg33) (by decide) rfl rfl (kX4_add (n := (n + 1)) ((q29 30 8).toNatClampNeg) (-18) q29 q38 hq38) rfl (av := [.int (-18)]) (rest := []) rfl rfl (Nat.le_of_ble_eq_true rfl) dX5_readTerm_38 ?_
  refine x_iinc hz (s.1 + 1) [(2, .int (s.1 + 1)), (0, .ref (h_b Z + 30)), (1, .int v1)] dX5_readTerm_41 2 rfl rfl rfl rfl ?_
  refine x_goto hz dX5_readTerm_44 ?_
  exact x_sub [1, 2, 0] rfl (hk7 (s.1 + 1, q38))
set_option maxRecDepth 10000 in
set_option maxHeartbeats 4000000 in
theorem wX5_readTerm {Z : hZ} {n : Nat} (hz : hOK Z hYx cX5_readTerm RX5 3 (n + 2) none) {rc : Nat → Int32 → hMem → Option hMem} (hrc : hRC_read (h_l Z) (h_d Z) (h_b Z) rc (n + 1)) (a1 : Int32) (M : hMem) : hW Z rtV M 0 [(0, .ref (h_b Z + 30)), (1, .int a1)] [] (fX5_readTerm rc a1 M) := by
  unfold fX5_readTerm
  refine x_aload_n hz dX5_readTerm_0 rfl 0 rfl ?_
  refine x_iload_n hz dX5_readTerm_1 rfl 1 rfl ?_
  refine x_bind (fun q2 hq2 => ?_)
  refine x_callV hz mv_X5_82 sx_30 (by decide) rfl rfl (hrc.2.2.2.2.2 a1 M q2 hq2) rfl (av := [.int a1]) (rest := []) rfl rfl (Nat.le_of_ble_eq_true rfl) dX5_readTerm_2 ?_
  refine x_iconst hz 0 dX5_readTerm_5 rfl ?_
  refine x_istore_n hz [(2, .int 0), (0, .ref (h_b Z + 30)), (1, .int a1)] dX5_readTerm_6 rfl rfl rfl ?_
  exact x_sub [1, 2, 0] rfl (wX5_readTerm_L7 hz hrc a1 h_FU (0, q2))
set_option maxRecDepth 10000 in
set_option maxHeartbeats 4000000 in
theorem wX5_readOne_L99 {Z : hZ} {n : Nat} (hz : hOK Z hYx cX5_readOne RX5 2 (n + 2) none) {rc : Nat → Int32 → hMem → Option hMem} (hrc : hRC_read (h_l Z) (h_d Z) (h_b Z) rc (n + 1))  (v1 : Int32) (M : hMem)  : hW Z rtV M 99 [(0, .ref (h_b Z + 30)), (1, .int v1)] [] (fX5_readOne_L99 rc v1 M) := by
  unfold fX5_readOne_L99
  refine x_aload_n hz dX5_readOne_99 rfl 0 rfl ?_
  refine x_geti hz sx_30 fl_X5_47 rfl dX5_readOne_100 ?_
  refine x_bipush hz 40 dX5_readOne_103 rfl ?_
  refine x_icmp_ne hz dX5_readOne_105 ?_ ?_
  · refine x_aload_n hz dX5_readOne_133 rfl 0 rfl ?_
    refine x_bind (fun q134 hq134 => ?_)
    refine x_callV hz mv_X5_88 sx_30 (by decide) rfl rfl (kX5_refuse (n := (n + 1))  M q134 hq134) rfl (av := []) (rest := []) rfl rfl (Nat.le_of_ble_eq_true rfl) dX5_readOne_134 ?_
    exact x_vret hz rfl dX5_readOne_137
  refine x_iload_n hz dX5_readOne_108 rfl 1 rfl ?_
  refine x_iconst hz 5 dX5_readOne_109 rfl ?_
  refine x_icmp_ge hz dX5_readOne_110 ?_ ?_
  · refine x_aload_n hz dX5_readOne_133 rfl 0 rfl ?_
    refine x_bind (fun q134 hq134 => ?_)
    refine x_callV hz mv_X5_88 sx_30 (by decide) rfl rfl (kX5_refuse (n := (n + 1))  M q134 hq134) rfl (av := []) (rest := []) rfl rfl (Nat.le_of_ble_eq_true rfl) dX5_readOne_134 ?_
    exact x_vret hz rfl dX5_readOne_137
  refine x_aload_n hz dX5_readOne_113 rfl 0 rfl ?_
  refine x_bind (fun q114 hq114 => ?_)
  refine x_callV hz mv_X5_67 sx_30 (by decide) rfl rfl (kX5_advance (n := (n + 1))  M q114 hq114) rfl (av := []) (rest := []) rfl rfl (Nat.le_of_ble_eq_true rfl) dX5_readOne_114 ?_
  refine x_aload_n hz dX5_readOne_117 rfl 0 rfl ?_
  refine x_iload_n hz dX5_readOne_118 rfl 1 rfl ?_
  refine x_iconst hz 1 dX5_readOne_119 rfl ?_
  refine x_iadd hz dX5_readOne_120 ?_
  refine x_bind (fun q121 hq121 => ?_)
  refine x_callV hz mv_X5_58 sx_30 (by decide) rfl rfl (hrc.1 (v1 + 1) q114 q121 hq121) rfl (av := [.int (v1 + 1)]) (rest := []) rfl rfl (Nat.le_of_ble_eq_true rfl) dX5_readOne_121 ?_
  refine x_aload_n hz dX5_readOne_124 rfl 0 rfl ?_
  refine x_bipush hz 41 dX5_readOne_125 rfl ?_
  refine x_bind (fun q127 hq127 => ?_)
  refine x_callV hz mv_X5_54 sx_30 (by decide) rfl rfl (kX5_expect (n := n) 41 q121 q127 hq127) rfl (av := [.int 41]) (rest := []) rfl rfl (Nat.le_of_ble_eq_true rfl) dX5_readOne_127 ?_
  refine x_goto hz dX5_readOne_130 ?_
  exact x_vret hz rfl dX5_readOne_137
set_option maxRecDepth 10000 in
set_option maxHeartbeats 4000000 in
theorem wX5_readOne {Z : hZ} {n : Nat} (hz : hOK Z hYx cX5_readOne RX5 2 (n + 2) none) {rc : Nat → Int32 → hMem → Option hMem} (hrc : hRC_read (h_l Z) (h_d Z) (h_b Z) rc (n + 1)) (a1 : Int32) (M : hMem) : hW Z rtV M 0 [(0, .ref (h_b Z + 30)), (1, .int a1)] [] (fX5_readOne rc a1 M) := by
  unfold fX5_readOne
  refine x_aload_n hz dX5_readOne_0 rfl 0 rfl ?_
  refine x_geti hz sx_30 fl_X5_47 rfl dX5_readOne_1 ?_
  refine x_iconst hz 2 dX5_readOne_4 rfl ?_
  refine x_icmp_ne hz dX5_readOne_5 ?_ ?_
  · refine x_aload_n hz dX5_readOne_31 rfl 0 rfl ?_
    refine x_geti hz sx_30 fl_X5_47 rfl dX5_readOne_32 ?_
    refine x_iconst hz 3 dX5_readOne_35 rfl ?_
    refine x_icmp_ne hz dX5_readOne_36 ?_ ?_
    · refine x_aload_n hz dX5_readOne_62 rfl 0 rfl ?_
      refine x_geti hz sx_30 fl_X5_47 rfl dX5_readOne_63 ?_
      refine x_bipush hz 45 dX5_readOne_66 rfl ?_
      refine x_icmp_ne hz dX5_readOne_68 ?_ ?_
      · exact x_sub [0, 1] rfl (wX5_readOne_L99 hz hrc a1 M)
      refine x_iload_n hz dX5_readOne_71 rfl 1 rfl ?_
      refine x_iconst hz 5 dX5_readOne_72 rfl ?_
      refine x_icmp_ge hz dX5_readOne_73 ?_ ?_
      · exact x_sub [0, 1] rfl (wX5_readOne_L99 hz hrc a1 M)
      refine x_aload_n hz dX5_readOne_76 rfl 0 rfl ?_
      refine x_bind (fun q77 hq77 => ?_)
      refine x_callV hz mv_X5_67 sx_30 (by decide) rfl rfl (kX5_advance (n := (n + 1))  M q77 hq77) rfl (av := []) (rest := []) rfl rfl (Nat.le_of_ble_eq_true rfl) dX5_readOne_77 ?_
      refine x_aload_n hz dX5_readOne_80 rfl 0 rfl ?_
      refine x_iload_n hz dX5_readOne_81 rfl 1 rfl ?_
      refine x_iconst hz 1 dX5_readOne_82 rfl ?_
      refine x_iadd hz dX5_readOne_83 ?_
      refine x_bind (fun q84 hq84 => ?_)
      refine x_callV hz mv_X5_82 sx_30 (by decide) rfl rfl (hrc.2.2.2.2.2 (a1 + 1) q77 q84 hq84) rfl (av := [.int (a1 + 1)]) (rest := []) rfl rfl (Nat.le_of_ble_eq_true rfl) dX5_readOne_84 ?_
      refine x_aload_n hz dX5_readOne_87 rfl 0 rfl ?_
      refine x_getd hz sx_30 fl_X5_31 rfl (t := 3) (n2 := 0) rfl dX5_readOne_88 (fun hg88 => ?_)
      refine x_bipush hz (-19) dX5_readOne_91 rfl ?_
      refine x_bind (fun q93 hq93 => ?_)
      refine x_callV hz mv_X5_70 (h_isB_is hg88) (by decide) rfl rfl (kX4_add (n := (n + 1)) ((q84 30 8).toNatClampNeg) (-19) q84 q93 hq93) rfl (av := [.int (-19)]) (rest := []) rfl rfl (Nat.le_of_ble_eq_true rfl) dX5_readOne_93 ?_
      refine x_goto hz dX5_readOne_96 ?_
      exact x_vret hz rfl dX5_readOne_137
    refine x_aload_n hz dX5_readOne_39 rfl 0 rfl ?_
    refine x_getd hz sx_30 fl_X5_31 rfl (t := 3) (n2 := 0) rfl dX5_readOne_40 (fun hg40 => ?_)
    refine x_aload_n hz dX5_readOne_43 rfl 0 rfl ?_
    refine x_getr hz sx_30 fl_X5_25 rfl rx_30_4 (by decide) dX5_readOne_44 ?_
    refine x_aload_n hz dX5_readOne_47 rfl 0 rfl ?_
    refine x_geti hz sx_30 fl_X5_44 rfl dX5_readOne_48 ?_
    refine x_iald hz sx_34 dX5_readOne_51 (fun hi51 => ?_)
    refine x_bind (fun q52 hq52 => ?_)
    refine x_callV hz mv_X5_85 (h_isB_is hg40) (by decide) rfl rfl (kX4_addName (n := n) ((M 30 8).toNatClampNeg) (M 34 (M 30 5).toNatClampNeg) M q52 hq52) rfl (av := [.int (M 34 (M 30 5).toNatClampNeg)]) (rest := []) rfl rfl (Nat.le_of_ble_eq_true rfl) dX5_readOne_52 ?_
    refine x_aload_n hz dX5_readOne_55 rfl 0 rfl ?_
    refine x_bind (fun q56 hq56 => ?_)
    refine x_callV hz mv_X5_67 sx_30 (by decide) rfl rfl (kX5_advance (n := (n + 1))  q52 q56 hq56) rfl (av := []) (rest := []) rfl rfl (Nat.le_of_ble_eq_true rfl) dX5_readOne_56 ?_
    refine x_goto hz dX5_readOne_59 ?_
    exact x_vret hz rfl dX5_readOne_137
  refine x_aload_n hz dX5_readOne_8 rfl 0 rfl ?_
  refine x_getd hz sx_30 fl_X5_31 rfl (t := 3) (n2 := 0) rfl dX5_readOne_9 (fun hg9 => ?_)
  refine x_aload_n hz dX5_readOne_12 rfl 0 rfl ?_
  refine x_getr hz sx_30 fl_X5_25 rfl rx_30_4 (by decide) dX5_readOne_13 ?_
  refine x_aload_n hz dX5_readOne_16 rfl 0 rfl ?_
  refine x_geti hz sx_30 fl_X5_44 rfl dX5_readOne_17 ?_
  refine x_iald hz sx_34 dX5_readOne_20 (fun hi20 => ?_)
  refine x_bind (fun q21 hq21 => ?_)
  refine x_callV hz mv_X5_70 (h_isB_is hg9) (by decide) rfl rfl (kX4_add (n := (n + 1)) ((M 30 8).toNatClampNeg) (M 34 (M 30 5).toNatClampNeg) M q21 hq21) rfl (av := [.int (M 34 (M 30 5).toNatClampNeg)]) (rest := []) rfl rfl (Nat.le_of_ble_eq_true rfl) dX5_readOne_21 ?_
  refine x_aload_n hz dX5_readOne_24 rfl 0 rfl ?_
  refine x_bind (fun q25 hq25 => ?_)
  refine x_callV hz mv_X5_67 sx_30 (by decide) rfl rfl (kX5_advance (n := (n + 1))  q21 q25 hq25) rfl (av := []) (rest := []) rfl rfl (Nat.le_of_ble_eq_true rfl) dX5_readOne_25 ?_
  refine x_goto hz dX5_readOne_28 ?_
  exact x_vret hz rfl dX5_readOne_137
theorem kRR_read : ∀ (m n : Nat) (l : Launch) (dd : hDD) (b : Nat), hRC_read l dd b (fRR_read m) (n + m + 1)
  | 0, n, l, dd, b => ⟨fun o0 M r h => (by cases h), fun o0 M r h => (by cases h), fun o0 M r h => (by cases h), fun o0 M r h => (by cases h), fun o0 M r h => (by cases h), fun o0 M r h => (by cases h)⟩
  | m + 1, n, l, dd, b => by
    have ih := kRR_read m
    exact ⟨fun o0 M r h => h_met (av := fun b => [.ref (b + 30), .int o0]) (rt := rtV) (by decide) (Nat.le_of_ble_eq_true rfl) (fun Z hz => wX5_readOr (n := n + m) hz (ih n (h_l Z) (h_d Z) (h_b Z)) o0 M) r h, fun o0 M r h => h_met (av := fun b => [.ref (b + 30), .int o0]) (rt := rtV) (by decide) (Nat.le_of_ble_eq_true rfl) (fun Z hz => wX5_readAnd (n := n + m) hz (ih n (h_l Z) (h_d Z) (h_b Z)) o0 M) r h, fun o0 M r h => h_met (av := fun b => [.ref (b + 30), .int o0]) (rt := rtV) (by decide) (Nat.le_of_ble_eq_true rfl) (fun Z hz => wX5_readNot (n := n + m) hz (ih n (h_l Z) (h_d Z) (h_b Z)) o0 M) r h, fun o0 M r h => h_met (av := fun b => [.ref (b + 30), .int o0]) (rt := rtV) (by decide) (Nat.le_of_ble_eq_true rfl) (fun Z hz => wX5_readSum (n := n + m) hz (ih n (h_l Z) (h_d Z) (h_b Z)) o0 M) r h, fun o0 M r h => h_met (av := fun b => [.ref (b + 30), .int o0]) (rt := rtV) (by decide) (Nat.le_of_ble_eq_true rfl) (fun Z hz => wX5_readTerm (n := n + m) hz (ih n (h_l Z) (h_d Z) (h_b Z)) o0 M) r h, fun o0 M r h => h_met (av := fun b => [.ref (b + 30), .int o0]) (rt := rtV) (by decide) (Nat.le_of_ble_eq_true rfl) (fun Z hz => wX5_readOne (n := n + m) hz (ih n (h_l Z) (h_d Z) (h_b Z)) o0 M) r h⟩
theorem kX5_readOr {l : Launch} {dd : hDD} {b n : Nat} (o0 : Int32) (M r : hMem) (h : gX5_readOr o0 M = some r) : hC l hYx dd b yX5_readOr cX5_readOr 3 none (n + 41) [.ref (b + 30), .int o0] M (none, r) := (kRR_read 40 n l dd b).1 o0 M r h
theorem kX5_readAnd {l : Launch} {dd : hDD} {b n : Nat} (o0 : Int32) (M r : hMem) (h : gX5_readAnd o0 M = some r) : hC l hYx dd b yX5_readAnd cX5_readAnd 3 none (n + 41) [.ref (b + 30), .int o0] M (none, r) := (kRR_read 40 n l dd b).2.1 o0 M r h
theorem kX5_readNot {l : Launch} {dd : hDD} {b n : Nat} (o0 : Int32) (M r : hMem) (h : gX5_readNot o0 M = some r) : hC l hYx dd b yX5_readNot cX5_readNot 3 none (n + 41) [.ref (b + 30), .int o0] M (none, r) := (kRR_read 40 n l dd b).2.2.1 o0 M r h
theorem kX5_readSum {l : Launch} {dd : hDD} {b n : Nat} (o0 : Int32) (M r : hMem) (h : gX5_readSum o0 M = some r) : hC l hYx dd b yX5_readSum cX5_readSum 4 none (n + 41) [.ref (b + 30), .int o0] M (none, r) := (kRR_read 40 n l dd b).2.2.2.1 o0 M r h
theorem kX5_readTerm {l : Launch} {dd : hDD} {b n : Nat} (o0 : Int32) (M r : hMem) (h : gX5_readTerm o0 M = some r) : hC l hYx dd b yX5_readTerm cX5_readTerm 3 none (n + 41) [.ref (b + 30), .int o0] M (none, r) := (kRR_read 40 n l dd b).2.2.2.2.1 o0 M r h
theorem kX5_readOne {l : Launch} {dd : hDD} {b n : Nat} (o0 : Int32) (M r : hMem) (h : gX5_readOne o0 M = some r) : hC l hYx dd b yX5_readOne cX5_readOne 2 none (n + 41) [.ref (b + 30), .int o0] M (none, r) := (kRR_read 40 n l dd b).2.2.2.2.2 o0 M r h
set_option maxRecDepth 10000 in
set_option maxHeartbeats 4000000 in
theorem wX5_readPart {Z : hZ} {n : Nat} (hz : hOK Z hYx cX5_readPart RX5 3 (n + 42) none) (a1 : Int32) (a2 : Int32) (M : hMem) : hW Z rtV M 0 [(0, .ref (h_b Z + 30)), (1, .int a1), (2, .int a2)] [] (fX5_readPart a1 a2 M) := by
  unfold fX5_readPart
  refine x_aload_n hz dX5_readPart_0 rfl 0 rfl ?_
  refine x_iload_n hz dX5_readPart_1 rfl 1 rfl ?_
  refine x_bind (fun q2 hq2 => ?_)
  refine x_callV hz mv_X5_54 sx_30 (by decide) rfl rfl (kX5_expect (n := (n + 40)) a1 M q2 hq2) rfl (av := [.int a1]) (rest := []) rfl rfl (Nat.le_of_ble_eq_true rfl) dX5_readPart_2 ?_
  refine x_aload_n hz dX5_readPart_5 rfl 0 rfl ?_
  refine x_iconst hz 0 dX5_readPart_6 rfl ?_
  refine x_bind (fun q7 hq7 => ?_)
  refine x_callV hz mv_X5_58 sx_30 (by decide) rfl rfl (kX5_readOr (n := n) 0 q2 q7 hq7) rfl (av := [.int 0]) (rest := []) rfl rfl (Nat.le_of_ble_eq_true rfl) dX5_readPart_7 ?_
  refine x_aload_n hz dX5_readPart_10 rfl 0 rfl ?_
  refine x_bipush hz 59 dX5_readPart_11 rfl ?_
  refine x_bind (fun q13 hq13 => ?_)
  refine x_callV hz mv_X5_54 sx_30 (by decide) rfl rfl (kX5_expect (n := (n + 40)) 59 q7 q13 hq13) rfl (av := [.int 59]) (rest := []) rfl rfl (Nat.le_of_ble_eq_true rfl) dX5_readPart_13 ?_
  refine x_aload_n hz dX5_readPart_16 rfl 0 rfl ?_
  refine x_getd hz sx_30 fl_X5_31 rfl (t := 3) (n2 := 0) rfl dX5_readPart_17 (fun hg17 => ?_)
  refine x_iload_n hz dX5_readPart_20 rfl 2 rfl ?_
  refine x_bind (fun q21 hq21 => ?_)
  refine x_callV hz mv_X5_61 (h_isB_is hg17) (by decide) rfl rfl (kX4_endPart (n := (n + 41)) ((q13 30 8).toNatClampNeg) a2 q13 q21 hq21) rfl (av := [.int a2]) (rest := []) rfl rfl (Nat.le_of_ble_eq_true rfl) dX5_readPart_21 ?_
  exact x_vret hz rfl dX5_readPart_24
theorem kX5_readPart {l : Launch} {dd : hDD} {b n : Nat} (a1 : Int32) (a2 : Int32) (M : hMem) (r : hMem) (h : fX5_readPart a1 a2 M = some r) : hC l hYx dd b yX5_readPart cX5_readPart 3 none (n + 42) [.ref (b + 30), .int a1, .int a2] M (none, r) :=
  h_met (av := fun b => [.ref (b + 30), .int a1, .int a2]) (rt := rtV) (by decide) (Nat.le_of_ble_eq_true rfl) (fun Z hz => wX5_readPart (n := n) hz a1 a2 M) r h
set_option maxRecDepth 10000 in
set_option maxHeartbeats 4000000 in
theorem wX5_readInto {Z : hZ} {n : Nat} (hz : hOK Z hYx cX5_readInto RX5 2 (n + 43) (some .int)) (a1 : Nat) (M : hMem) : hW Z rtM M 0 [(0, .ref (h_b Z + 30)), (1, .ref (h_b Z + a1))] [] (fX5_readInto a1 M) := by
  unfold fX5_readInto
  refine x_guard (fun hpa1 => ?_)
  refine x_aload_n hz dX5_readInto_0 rfl 0 rfl ?_
  refine x_bind (fun q1 hq1 => ?_)
  refine x_callV hz mv_X5_35 sx_30 (by decide) rfl rfl (kX5_partTokens (n := (n + 35))  M q1 hq1) rfl (av := []) (rest := []) rfl rfl (Nat.le_of_ble_eq_true rfl) dX5_readInto_1 ?_
  refine x_aload_n hz dX5_readInto_4 rfl 0 rfl ?_
  refine x_iconst hz 0 dX5_readInto_5 rfl ?_
  refine x_puti hz sx_30 fp_X5_9 rfl dX5_readInto_6 ?_
  refine x_aload_n hz dX5_readInto_9 rfl 0 rfl ?_
  refine x_iconst hz (-1) dX5_readInto_10 rfl ?_
  refine x_puti hz sx_30 fp_X5_38 rfl dX5_readInto_11 ?_
  refine x_aload_n hz dX5_readInto_14 rfl 0 rfl ?_
  refine x_aload_n hz dX5_readInto_15 rfl 1 rfl ?_
  refine x_putd hz sx_30 fp_X5_31 rfl (gl_3 (h_isB_is hpa1)) dX5_readInto_16 ?_
  refine x_aload_n hz dX5_readInto_19 rfl 0 rfl ?_
  refine x_getd hz sx_30 fl_X5_31 rfl (t := 3) (n2 := 0) rfl dX5_readInto_20 (fun hg20 => ?_)
  refine x_bind (fun q23 hq23 => ?_)
  refine x_callV hz mv_X5_41 (h_isB_is hg20) (by decide) rfl rfl (kX4_clear (n := (n + 42)) (((h_up (h_up (h_up q1 30 0 0) 30 7 (-1)) 30 8 (nI a1)) 30 8).toNatClampNeg) (h_up (h_up (h_up q1 30 0 0) 30 7 (-1)) 30 8 (nI a1)) q23 hq23) rfl (av := []) (rest := []) rfl rfl (Nat.le_of_ble_eq_true rfl) dX5_readInto_23 ?_
  refine x_aload_n hz dX5_readInto_26 rfl 0 rfl ?_
  refine x_iconst hz 0 dX5_readInto_27 rfl ?_
  refine x_puti hz sx_30 fp_X5_44 rfl dX5_readInto_28 ?_
  refine x_aload_n hz dX5_readInto_31 rfl 0 rfl ?_
  refine x_aload_n hz dX5_readInto_32 rfl 0 rfl ?_
  refine x_getr hz sx_30 fl_X5_19 rfl rx_30_2 (by decide) dX5_readInto_33 ?_
  refine x_iconst hz 0 dX5_readInto_36 rfl ?_
  refine x_iald0 hz sx_32 (by decide) (v := (h_up q23 30 5 0) 32 0) rfl dX5_readInto_37 ?_
  refine x_puti hz sx_30 fp_X5_47 rfl dX5_readInto_38 ?_
  refine x_aload_n hz dX5_readInto_41 rfl 0 rfl ?_
  refine x_iconst hz 4 dX5_readInto_42 rfl ?_
  refine x_iconst hz 0 dX5_readInto_43 rfl ?_
  refine x_bind (fun q44 hq44 => ?_)
  refine x_callV hz mv_X5_50 sx_30 (by decide) rfl rfl (kX5_readPart (n := n) 4 0 (h_up (h_up q23 30 5 0) 30 6 ((h_up q23 30 5 0) 32 0)) q44 hq44) rfl (av := [.int 4, .int 0]) (rest := []) rfl rfl (Nat.le_of_ble_eq_true rfl) dX5_readInto_44 ?_
  refine x_aload_n hz dX5_readInto_47 rfl 0 rfl ?_
  refine x_iconst hz 5 dX5_readInto_48 rfl ?_
  refine x_iconst hz 1 dX5_readInto_49 rfl ?_
  refine x_bind (fun q50 hq50 => ?_)
  refine x_callV hz mv_X5_50 sx_30 (by decide) rfl rfl (kX5_readPart (n := n) 5 1 q44 q50 hq50) rfl (av := [.int 5, .int 1]) (rest := []) rfl rfl (Nat.le_of_ble_eq_true rfl) dX5_readInto_50 ?_
  refine x_aload_n hz dX5_readInto_53 rfl 0 rfl ?_
  refine x_bipush hz 6 dX5_readInto_54 rfl ?_
  refine x_iconst hz 2 dX5_readInto_56 rfl ?_
  refine x_bind (fun q57 hq57 => ?_)
  refine x_callV hz mv_X5_50 sx_30 (by decide) rfl rfl (kX5_readPart (n := n) 6 2 q50 q57 hq57) rfl (av := [.int 6, .int 2]) (rest := []) rfl rfl (Nat.le_of_ble_eq_true rfl) dX5_readInto_57 ?_
  refine x_aload_n hz dX5_readInto_60 rfl 0 rfl ?_
  refine x_iconst hz 0 dX5_readInto_61 rfl ?_
  refine x_bind (fun q62 hq62 => ?_)
  refine x_callV hz mv_X5_54 sx_30 (by decide) rfl rfl (kX5_expect (n := (n + 41)) 0 q57 q62 hq62) rfl (av := [.int 0]) (rest := []) rfl rfl (Nat.le_of_ble_eq_true rfl) dX5_readInto_62 ?_
  refine x_aload_n hz dX5_readInto_65 rfl 0 rfl ?_
  refine x_geti hz sx_30 fl_X5_38 rfl dX5_readInto_66 ?_
  exact x_iret hz rfl dX5_readInto_69
theorem kX5_readInto {l : Launch} {dd : hDD} {b n : Nat} (a1 : Nat) (M : hMem) (r : Int32 × hMem) (h : fX5_readInto a1 M = some r) : hC l hYx dd b yX5_readInto cX5_readInto 2 (some .int) (n + 43) [.ref (b + 30), .ref (b + a1)] M (some (.int r.1), r.2) :=
  h_met (av := fun b => [.ref (b + 30), .ref (b + a1)]) (rt := rtM) (by decide) (Nat.le_of_ble_eq_true rfl) (fun Z hz => wX5_readInto (n := n) hz a1 M) r h
set_option maxRecDepth 10000 in
set_option maxHeartbeats 4000000 in
theorem wX9_isSquare {Z : hZ} {n : Nat} (hz : hOK Z hYx cX9_isSquare RX9 1 (n + 0) (some .boolean)) (a0 : Int32) (M : hMem) : hW Z (rtP M) M 0 [(0, .int a0)] [] (some (fX9_isSquare a0 M)) := by
  unfold fX9_isSquare
  refine x_iload_n hz dX9_isSquare_0 rfl 0 rfl ?_
  refine x_pull ?_
  refine x_if_lt hz dX9_isSquare_1 ?_ ?_
  · refine x_iconst hz 0 dX9_isSquare_14 rfl ?_
    exact x_zret hz rfl rfl dX9_isSquare_15
  refine x_iload_n hz dX9_isSquare_4 rfl 0 rfl ?_
  refine x_bipush hz 32 dX9_isSquare_5 rfl ?_
  refine x_pull ?_
  refine x_icmp_ge hz dX9_isSquare_7 ?_ ?_
  · refine x_iconst hz 0 dX9_isSquare_14 rfl ?_
    exact x_zret hz rfl rfl dX9_isSquare_15
  refine x_iconst hz 1 dX9_isSquare_10 rfl ?_
  refine x_goto hz dX9_isSquare_11 ?_
  exact x_zret hz rfl rfl dX9_isSquare_15
theorem bX9_isSquare (a0 : Int32) (M : hMem) : narrow .boolean (.int (fX9_isSquare a0 M)) = .int (fX9_isSquare a0 M) := by
  unfold fX9_isSquare
  repeat (first | rfl | split)
theorem kX9_isSquare {l : Launch} {dd : hDD} {b n : Nat} (a0 : Int32) (M : hMem) : hC l hYx dd b yX9_isSquare cX9_isSquare 1 (some .boolean) (n + 0) [.int a0] M (some (.int (fX9_isSquare a0 M)), M) :=
  h_met (av := fun b => [.int a0]) (rt := (rtP M)) (by decide) (Nat.le_of_ble_eq_true rfl) (fun Z hz => wX9_isSquare (n := n) hz a0 M) _ rfl
set_option maxRecDepth 10000 in
set_option maxHeartbeats 4000000 in
theorem wX7_catcherSquares_L4 {Z : hZ} {n : Nat} (hz : hOK Z hYx cX7_catcherSquares RX7 3 (n + 0) (some .int))   (M : hMem)  : ∀ (i : Nat) (s : Int32 × Int32), hW Z (rtP M) M 4 [(0, .ref (h_b Z + 1)), (1, .int s.1), (2, .int s.2)] [] (h_lp (fX7_catcherSquares_L4 M) i s) := by
  refine x_loop (Ms := fun s : Int32 × Int32 => M) (Ls := fun s : Int32 × Int32 => [(0, .ref (h_b Z + 1)), (1, .int s.1), (2, .int s.2)]) ?_
  intro k4 hk4 s
  show hW Z (rtP M) M 4 [(0, .ref (h_b Z + 1)), (1, .int s.1), (2, .int s.2)] [] (fX7_catcherSquares_L4 M k4 s)
  unfold fX7_catcherSquares_L4
  refine x_iload_n hz dX7_catcherSquares_4 rfl 2 rfl ?_
  refine x_aload_n hz dX7_catcherSquares_5 rfl 0 rfl ?_
  refine x_geti hz sx_1 fl_X7_52 rfl dX7_catcherSquares_6 ?_
  refine x_icmp_ge hz dX7_catcherSquares_9 ?_ ?_
  · refine x_iload_n hz dX7_catcherSquares_32 rfl 1 rfl ?_
    exact x_iret hz rfl dX7_catcherSquares_33
  refine x_iload_n hz dX7_catcherSquares_12 rfl 1 rfl ?_
  refine x_iconst hz 1 dX7_catcherSquares_13 rfl ?_
  refine x_aload_n hz dX7_catcherSquares_14 rfl 0 rfl ?_
  refine x_getr hz sx_1 fl_X7_29 rfl rx_1_4 (by decide) dX7_catcherSquares_15 ?_
  refine x_iload_n hz dX7_catcherSquares_18 rfl 2 rfl ?_
  refine x_guard (fun hi19 => ?_)
  refine x_aald0 hz (q := (11 + s.2.toNatClampNeg)) 2 (fun _ => rfl) sx_6 (by decide) hi19 rfl (by omega) dX7_catcherSquares_19 ?_
  refine x_geti hz (ge_6 hi19) fl_X7_65 rfl dX7_catcherSquares_20 ?_
  refine x_ishl hz dX7_catcherSquares_23 ?_
  refine x_ior hz dX7_catcherSquares_24 ?_
  refine x_istore_n hz [(1, .int (s.1 ||| (1 <<< ((M (11 + s.2.toNatClampNeg) 0) &&& 31)))), (0, .ref (h_b Z + 1)), (2, .int s.2)] dX7_catcherSquares_25 rfl rfl rfl ?_
  refine x_iinc hz (s.2 + 1) [(2, .int (s.2 + 1)), (1, .int (s.1 ||| (1 <<< ((M (11 + s.2.toNatClampNeg) 0) &&& 31)))), (0, .ref (h_b Z + 1))] dX7_catcherSquares_26 2 rfl rfl rfl rfl ?_
  refine x_goto hz dX7_catcherSquares_29 ?_
  exact x_sub [2, 1, 0] rfl (hk4 (s.1 ||| (1 <<< ((M (11 + s.2.toNatClampNeg) 0) &&& 31)), s.2 + 1))
set_option maxRecDepth 10000 in
set_option maxHeartbeats 4000000 in
theorem wX7_catcherSquares {Z : hZ} {n : Nat} (hz : hOK Z hYx cX7_catcherSquares RX7 3 (n + 0) (some .int))  (M : hMem) : hW Z (rtP M) M 0 [(0, .ref (h_b Z + 1))] [] (fX7_catcherSquares M) := by
  unfold fX7_catcherSquares
  refine x_iconst hz 0 dX7_catcherSquares_0 rfl ?_
  refine x_istore_n hz [(1, .int 0), (0, .ref (h_b Z + 1))] dX7_catcherSquares_1 rfl rfl rfl ?_
  refine x_iconst hz 0 dX7_catcherSquares_2 rfl ?_
  refine x_istore_n hz [(2, .int 0), (1, .int 0), (0, .ref (h_b Z + 1))] dX7_catcherSquares_3 rfl rfl rfl ?_
  exact x_sub [2, 1, 0] rfl (wX7_catcherSquares_L4 hz M h_FU (0, 0))
theorem kX7_catcherSquares {l : Launch} {dd : hDD} {b n : Nat}  (M : hMem) (r : Int32) (h : fX7_catcherSquares M = some r) : hC l hYx dd b yX7_catcherSquares cX7_catcherSquares 3 (some .int) (n + 0) [.ref (b + 1)] M (some (.int r), M) :=
  h_met (av := fun b => [.ref (b + 1)]) (rt := (rtP M)) (by decide) (Nat.le_of_ble_eq_true rfl) (fun Z hz => wX7_catcherSquares (n := n) hz  M) r h
set_option maxRecDepth 10000 in
set_option maxHeartbeats 4000000 in
theorem wX9_squareOf {Z : hZ} {n : Nat} (hz : hOK Z hYx cX9_squareOf RX9 1 (n + 0) (some .int)) (a0 : Int32) (M : hMem) : hW Z (rtP M) M 0 [(0, .int a0)] [] (some (fX9_squareOf a0 M)) := by
  unfold fX9_squareOf
  refine x_iload_n hz dX9_squareOf_0 rfl 0 rfl ?_
  refine x_bipush hz 32 dX9_squareOf_1 rfl ?_
  refine x_irem hz dX9_squareOf_3 (by decide) ?_
  exact x_iret hz rfl dX9_squareOf_4
theorem kX9_squareOf {l : Launch} {dd : hDD} {b n : Nat} (a0 : Int32) (M : hMem) : hC l hYx dd b yX9_squareOf cX9_squareOf 1 (some .int) (n + 0) [.int a0] M (some (.int (fX9_squareOf a0 M)), M) :=
  h_met (av := fun b => [.int a0]) (rt := (rtP M)) (by decide) (Nat.le_of_ble_eq_true rfl) (fun Z hz => wX9_squareOf (n := n) hz a0 M) _ rfl
set_option maxRecDepth 10000 in
set_option maxHeartbeats 4000000 in
theorem wX7_hatSquares_L4 {Z : hZ} {n : Nat} (hz : hOK Z hYx cX7_hatSquares RX7 3 (n + 1) (some .int))   (M : hMem)  : ∀ (i : Nat) (s : Int32 × Int32), hW Z (rtP M) M 4 [(0, .ref (h_b Z + 1)), (1, .int s.1), (2, .int s.2)] [] (h_lp (fX7_hatSquares_L4 M) i s) := by
  refine x_loop (Ms := fun s : Int32 × Int32 => M) (Ls := fun s : Int32 × Int32 => [(0, .ref (h_b Z + 1)), (1, .int s.1), (2, .int s.2)]) ?_
  intro k4 hk4 s
  show hW Z (rtP M) M 4 [(0, .ref (h_b Z + 1)), (1, .int s.1), (2, .int s.2)] [] (fX7_hatSquares_L4 M k4 s)
  unfold fX7_hatSquares_L4
  refine x_iload_n hz dX7_hatSquares_4 rfl 2 rfl ?_
  refine x_aload_n hz dX7_hatSquares_5 rfl 0 rfl ?_
  refine x_geti hz sx_1 fl_X7_48 rfl dX7_hatSquares_6 ?_
  refine x_icmp_ge hz dX7_hatSquares_9 ?_ ?_
  · refine x_iload_n hz dX7_hatSquares_35 rfl 1 rfl ?_
    exact x_iret hz rfl dX7_hatSquares_36
  refine x_iload_n hz dX7_hatSquares_12 rfl 1 rfl ?_
  refine x_iconst hz 1 dX7_hatSquares_13 rfl ?_
  refine x_aload_n hz dX7_hatSquares_14 rfl 0 rfl ?_
  refine x_getr hz sx_1 fl_X7_23 rfl rx_1_3 (by decide) dX7_hatSquares_15 ?_
  refine x_iload_n hz dX7_hatSquares_18 rfl 2 rfl ?_
  refine x_guard (fun hi19 => ?_)
  refine x_aald0 hz (q := (7 + s.2.toNatClampNeg)) 1 (fun _ => rfl) sx_5 (by decide) hi19 rfl (by omega) dX7_hatSquares_19 ?_
  refine x_geti hz (ge_5 hi19) fl_X7_58 rfl dX7_hatSquares_20 ?_
  refine x_callN hz mn_X7_61 (kX9_squareOf (n := n) (M (7 + s.2.toNatClampNeg) 2) M) rfl (av := [.int (M (7 + s.2.toNatClampNeg) 2)]) (rest := [.int 1, .int s.1]) rfl rfl (Nat.le_of_ble_eq_true rfl) dX7_hatSquares_23 ?_
  refine x_ishl hz dX7_hatSquares_26 ?_
  refine x_ior hz dX7_hatSquares_27 ?_
  refine x_istore_n hz [(1, .int (s.1 ||| (1 <<< ((fX9_squareOf (M (7 + s.2.toNatClampNeg) 2) M) &&& 31)))), (0, .ref (h_b Z + 1)), (2, .int s.2)] dX7_hatSquares_28 rfl rfl rfl ?_
  refine x_iinc hz (s.2 + 1) [(2, .int (s.2 + 1)), (1, .int (s.1 ||| (1 <<< ((fX9_squareOf (M (7 + s.2.toNatClampNeg) 2) M) &&& 31)))), (0, .ref (h_b Z + 1))] dX7_hatSquares_29 2 rfl rfl rfl rfl ?_
  refine x_goto hz dX7_hatSquares_32 ?_
  exact x_sub [2, 1, 0] rfl (hk4 (s.1 ||| (1 <<< ((fX9_squareOf (M (7 + s.2.toNatClampNeg) 2) M) &&& 31)), s.2 + 1))
set_option maxRecDepth 10000 in
set_option maxHeartbeats 4000000 in
theorem wX7_hatSquares {Z : hZ} {n : Nat} (hz : hOK Z hYx cX7_hatSquares RX7 3 (n + 1) (some .int))  (M : hMem) : hW Z (rtP M) M 0 [(0, .ref (h_b Z + 1))] [] (fX7_hatSquares M) := by
  unfold fX7_hatSquares
  refine x_iconst hz 0 dX7_hatSquares_0 rfl ?_
  refine x_istore_n hz [(1, .int 0), (0, .ref (h_b Z + 1))] dX7_hatSquares_1 rfl rfl rfl ?_
  refine x_iconst hz 0 dX7_hatSquares_2 rfl ?_
  refine x_istore_n hz [(2, .int 0), (1, .int 0), (0, .ref (h_b Z + 1))] dX7_hatSquares_3 rfl rfl rfl ?_
  exact x_sub [2, 1, 0] rfl (wX7_hatSquares_L4 hz M h_FU (0, 0))
theorem kX7_hatSquares {l : Launch} {dd : hDD} {b n : Nat}  (M : hMem) (r : Int32) (h : fX7_hatSquares M = some r) : hC l hYx dd b yX7_hatSquares cX7_hatSquares 3 (some .int) (n + 1) [.ref (b + 1)] M (some (.int r), M) :=
  h_met (av := fun b => [.ref (b + 1)]) (rt := (rtP M)) (by decide) (Nat.le_of_ble_eq_true rfl) (fun Z hz => wX7_hatSquares (n := n) hz  M) r h
set_option maxRecDepth 10000 in
set_option maxHeartbeats 4000000 in
theorem wX9_street_L64 {Z : hZ} {n : Nat} (hz : hOK Z hYx cX9_street RX9 5 (n + 2) (some .int))  (v1 : Int32) (v2 : Int32) (v3 : Int32) (M : hMem)  : hW Z rtM M 64 [(0, .ref (h_b Z + 0)), (1, .int v1), (2, .int v2), (3, .int v3)] [] (fX9_street_L64 v1 v2 v3 M) := by
  unfold fX9_street_L64
  refine x_aload_n hz dX9_street_64 rfl 0 rfl ?_
  refine x_getr hz sx_0 fl_X9_12 rfl rx_0_0 (by decide) dX9_street_65 ?_
  refine x_getr hz sx_1 fl_X9_96 rfl rx_1_0 (by decide) dX9_street_68 ?_
  refine x_iload_n hz dX9_street_71 rfl 1 rfl ?_
  refine x_iald hz sx_2 dX9_street_72 (fun hi72 => ?_)
  refine x_iload_n hz dX9_street_73 rfl 2 rfl ?_
  refine x_iushr hz dX9_street_74 ?_
  refine x_iconst hz 1 dX9_street_75 rfl ?_
  refine x_iand hz dX9_street_76 ?_
  refine x_istore hz [(4, .int ((h_ushr (M 2 v1.toNatClampNeg) v2) &&& 1)), (0, .ref (h_b Z + 0)), (1, .int v1), (2, .int v2), (3, .int v3)] dX9_street_77 rfl rfl ?_
  refine x_aload_n hz dX9_street_79 rfl 1 rfl ?_
  refine x_getr hz sx_0 fl_X9_12 rfl rx_0_0 (by decide) dX9_street_80 ?_
  refine x_getr hz sx_1 fl_X9_96 rfl rx_1_0 (by decide) dX9_street_83 ?_
  refine x_iload_n hz dX9_street_86 rfl 2 rfl ?_
  refine x_aload_n hz dX9_street_87 rfl 1 rfl ?_
  refine x_getr hz sx_0 fl_X9_12 rfl rx_0_0 (by decide) dX9_street_88 ?_
  refine x_getr hz sx_1 fl_X9_96 rfl rx_1_0 (by decide) dX9_street_91 ?_
  refine x_iload_n hz dX9_street_94 rfl 2 rfl ?_
  refine x_iald hz sx_2 dX9_street_95 (fun hi95 => ?_)
  refine x_iconst hz 1 dX9_street_96 rfl ?_
  refine x_iload_n hz dX9_street_97 rfl 3 rfl ?_
  refine x_ishl hz dX9_street_98 ?_
  refine x_iconst hz (-1) dX9_street_99 rfl ?_
  refine x_ixor hz dX9_street_100 ?_
  refine x_iand hz dX9_street_101 ?_
  refine x_iload_n hz dX9_street_102 rfl 4 rfl ?_
  refine x_iload_n hz dX9_street_103 rfl 3 rfl ?_
  refine x_ishl hz dX9_street_104 ?_
  refine x_ior hz dX9_street_105 ?_
  refine x_iast hz sx_2 dX9_street_106 (fun hi106 => ?_)
  refine x_iload hz dX9_street_107 0 rfl ?_
  exact x_iret hz rfl dX9_street_109
set_option maxRecDepth 10000 in
set_option maxHeartbeats 4000000 in
theorem wX9_street {Z : hZ} {n : Nat} (hz : hOK Z hYx cX9_street RX9 5 (n + 2) (some .int)) (a1 : Int32) (a2 : Int32) (a3 : Int32) (M : hMem) : hW Z rtM M 0 [(0, .ref (h_b Z + 0)), (1, .int a1), (2, .int a2), (3, .int a3)] [] (fX9_street a1 a2 a3 M) := by
  unfold fX9_street
  refine x_iload_n hz dX9_street_0 rfl 1 rfl ?_
  refine x_if_lt hz dX9_street_1 ?_ ?_
  · refine x_iconst hz (-1) dX9_street_9 rfl ?_
    exact x_iret hz rfl dX9_street_10
  refine x_iload_n hz dX9_street_4 rfl 1 rfl ?_
  refine x_iconst hz 3 dX9_street_5 rfl ?_
  refine x_icmp_lt hz dX9_street_6 ?_ ?_
  · refine x_iload_n hz dX9_street_11 rfl 2 rfl ?_
    refine x_callS hz ms_X9_86 (kX9_isSquare (n := (n + 1)) a2 M) rfl (av := [.int a2]) (rest := []) rfl rfl (Nat.le_of_ble_eq_true rfl) dX9_street_12 ?_
    refine x_if_eq hz dX9_street_15 ?_ ?_
    · refine x_bipush hz (-2) dX9_street_27 rfl ?_
      exact x_iret hz rfl dX9_street_29
    refine x_iload_n hz dX9_street_18 rfl 3 rfl ?_
    refine x_if_lt hz dX9_street_19 ?_ ?_
    · refine x_bipush hz (-2) dX9_street_27 rfl ?_
      exact x_iret hz rfl dX9_street_29
    refine x_iload_n hz dX9_street_22 rfl 3 rfl ?_
    refine x_iconst hz 1 dX9_street_23 rfl ?_
    refine x_icmp_le hz dX9_street_24 ?_ ?_
    · refine x_iload_n hz dX9_street_30 rfl 1 rfl ?_
      refine x_if_ne hz dX9_street_31 ?_ ?_
      · exact x_sub [0, 1, 2, 3] rfl (wX9_street_L64 hz a1 a2 a3 M)
      refine x_iload_n hz dX9_street_34 rfl 3 rfl ?_
      refine x_iconst hz 1 dX9_street_35 rfl ?_
      refine x_icmp_ne hz dX9_street_36 ?_ ?_
      · exact x_sub [0, 1, 2, 3] rfl (wX9_street_L64 hz a1 a2 a3 M)
      refine x_aload_n hz dX9_street_39 rfl 0 rfl ?_
      refine x_getr hz sx_0 fl_X9_12 rfl rx_0_0 (by decide) dX9_street_40 ?_
      refine x_bind (fun q43 hq43 => ?_)
      refine x_callV hz mv_X9_90 sx_1 (by decide) rfl rfl (kX7_hatSquares (n := n)  M q43 hq43) rfl (av := []) (rest := []) rfl rfl (Nat.le_of_ble_eq_true rfl) dX9_street_43 ?_
      refine x_aload_n hz dX9_street_46 rfl 0 rfl ?_
      refine x_getr hz sx_0 fl_X9_12 rfl rx_0_0 (by decide) dX9_street_47 ?_
      refine x_bind (fun q50 hq50 => ?_)
      refine x_callV hz mv_X9_93 sx_1 (by decide) rfl rfl (kX7_catcherSquares (n := (n + 1))  M q50 hq50) rfl (av := []) (rest := [.int q43]) rfl rfl (Nat.le_of_ble_eq_true rfl) dX9_street_50 ?_
      refine x_ior hz dX9_street_53 ?_
      refine x_iload_n hz dX9_street_54 rfl 2 rfl ?_
      refine x_iushr hz dX9_street_55 ?_
      refine x_iconst hz 1 dX9_street_56 rfl ?_
      refine x_iand hz dX9_street_57 ?_
      refine x_if_eq hz dX9_street_58 ?_ ?_
      · exact x_sub [0, 1, 2, 3] rfl (wX9_street_L64 hz a1 a2 a3 M)
      refine x_bipush hz (-3) dX9_street_61 rfl ?_
      exact x_iret hz rfl dX9_street_63
    refine x_bipush hz (-2) dX9_street_27 rfl ?_
    exact x_iret hz rfl dX9_street_29
  refine x_iconst hz (-1) dX9_street_9 rfl ?_
  exact x_iret hz rfl dX9_street_10
theorem kX9_street {l : Launch} {dd : hDD} {b n : Nat} (a1 : Int32) (a2 : Int32) (a3 : Int32) (M : hMem) (r : Int32 × hMem) (h : fX9_street a1 a2 a3 M = some r) : hC l hYx dd b yX9_street cX9_street 5 (some .int) (n + 2) [.ref (b + 0), .int a1, .int a2, .int a3] M (some (.int r.1), r.2) :=
  h_met (av := fun b => [.ref (b + 0), .int a1, .int a2, .int a3]) (rt := rtM) (by decide) (Nat.le_of_ble_eq_true rfl) (fun Z hz => wX9_street (n := n) hz a1 a2 a3 M) r h
set_option maxRecDepth 10000 in
set_option maxHeartbeats 4000000 in
theorem wX9_isSecond {Z : hZ} {n : Nat} (hz : hOK Z hYx cX9_isSecond RX9 1 (n + 0) (some .boolean)) (a0 : Int32) (M : hMem) : hW Z (rtP M) M 0 [(0, .int a0)] [] (some (fX9_isSecond a0 M)) := by
  unfold fX9_isSecond
  refine x_iload_n hz dX9_isSecond_0 rfl 0 rfl ?_
  refine x_pull ?_
  refine x_if_lt hz dX9_isSecond_1 ?_ ?_
  · refine x_iconst hz 0 dX9_isSecond_14 rfl ?_
    exact x_zret hz rfl rfl dX9_isSecond_15
  refine x_iload_n hz dX9_isSecond_4 rfl 0 rfl ?_
  refine x_bipush hz 24 dX9_isSecond_5 rfl ?_
  refine x_pull ?_
  refine x_icmp_ge hz dX9_isSecond_7 ?_ ?_
  · refine x_iconst hz 0 dX9_isSecond_14 rfl ?_
    exact x_zret hz rfl rfl dX9_isSecond_15
  refine x_iconst hz 1 dX9_isSecond_10 rfl ?_
  refine x_goto hz dX9_isSecond_11 ?_
  exact x_zret hz rfl rfl dX9_isSecond_15
theorem bX9_isSecond (a0 : Int32) (M : hMem) : narrow .boolean (.int (fX9_isSecond a0 M)) = .int (fX9_isSecond a0 M) := by
  unfold fX9_isSecond
  repeat (first | rfl | split)
theorem kX9_isSecond {l : Launch} {dd : hDD} {b n : Nat} (a0 : Int32) (M : hMem) : hC l hYx dd b yX9_isSecond cX9_isSecond 1 (some .boolean) (n + 0) [.int a0] M (some (.int (fX9_isSecond a0 M)), M) :=
  h_met (av := fun b => [.int a0]) (rt := (rtP M)) (by decide) (Nat.le_of_ble_eq_true rfl) (fun Z hz => wX9_isSecond (n := n) hz a0 M) _ rfl
