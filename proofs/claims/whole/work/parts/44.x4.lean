set_option maxRecDepth 10000 in
set_option maxHeartbeats 4000000 in
theorem wX9_isSheet {Z : hZ} {n : Nat} (hz : hOK Z hYx cX9_isSheet RX9 1 (n + 0) (some .boolean)) (a0 : Int32) (M : hMem) : hW Z (rtP M) M 0 [(0, .int a0)] [] (some (fX9_isSheet a0 M)) := by
  unfold fX9_isSheet
  refine x_iload_n hz dX9_isSheet_0 rfl 0 rfl ?_
  refine x_pull ?_
  refine x_if_lt hz dX9_isSheet_1 ?_ ?_
  · refine x_iconst hz 0 dX9_isSheet_13 rfl ?_
    exact x_zret hz rfl rfl dX9_isSheet_14
  refine x_iload_n hz dX9_isSheet_4 rfl 0 rfl ?_
  refine x_iconst hz 4 dX9_isSheet_5 rfl ?_
  refine x_pull ?_
  refine x_icmp_ge hz dX9_isSheet_6 ?_ ?_
  · refine x_iconst hz 0 dX9_isSheet_13 rfl ?_
    exact x_zret hz rfl rfl dX9_isSheet_14
  refine x_iconst hz 1 dX9_isSheet_9 rfl ?_
  refine x_goto hz dX9_isSheet_10 ?_
  exact x_zret hz rfl rfl dX9_isSheet_14
theorem bX9_isSheet (a0 : Int32) (M : hMem) : narrow .boolean (.int (fX9_isSheet a0 M)) = .int (fX9_isSheet a0 M) := by
  unfold fX9_isSheet
  repeat (first | rfl | split)
theorem kX9_isSheet {l : Launch} {dd : hDD} {b n : Nat} (a0 : Int32) (M : hMem) : hC l hYx dd b yX9_isSheet cX9_isSheet 1 (some .boolean) (n + 0) [.int a0] M (some (.int (fX9_isSheet a0 M)), M) :=
  h_met (av := fun b => [.int a0]) (rt := (rtP M)) (by decide) (Nat.le_of_ble_eq_true rfl) (fun Z hz => wX9_isSheet (n := n) hz a0 M) _ rfl
set_option maxRecDepth 10000 in
set_option maxHeartbeats 4000000 in
theorem wX9_refusalOfTold {Z : hZ} {n : Nat} (hz : hOK Z hYx cX9_refusalOfTold RX9 2 (n + 1) (some .int)) (a1 : Int32) (M : hMem) : hW Z (rtP M) M 0 [(0, .ref (h_b Z + 0)), (1, .int a1)] [] (fX9_refusalOfTold a1 M) := by
  unfold fX9_refusalOfTold
  refine x_iload_n hz dX9_refusalOfTold_0 rfl 1 rfl ?_
  refine x_callS hz ms_X9_293 (kX9_isSheet (n := n) a1 M) rfl (av := [.int a1]) (rest := []) rfl rfl (Nat.le_of_ble_eq_true rfl) dX9_refusalOfTold_1 ?_
  refine x_if_ne hz dX9_refusalOfTold_4 ?_ ?_
  · refine x_aload_n hz dX9_refusalOfTold_10 rfl 0 rfl ?_
    refine x_getr hz sx_0 fl_X9_42 rfl rx_0_6 (by decide) dX9_refusalOfTold_11 ?_
    refine x_iload_n hz dX9_refusalOfTold_14 rfl 1 rfl ?_
    refine x_guard (fun hi15 => ?_)
    refine x_aald0 hz (q := (80 + 2 * a1.toNatClampNeg)) 4 (fun _ => rfl) sx_39 (by decide) hi15 rfl (by omega) dX9_refusalOfTold_15 ?_
    refine x_geti hz (ge_39 hi15) fl_X9_317 rfl dX9_refusalOfTold_16 ?_
    refine x_iconst hz (-1) dX9_refusalOfTold_19 rfl ?_
    refine x_icmp_ne hz dX9_refusalOfTold_20 ?_ ?_
    · refine x_aload_n hz dX9_refusalOfTold_26 rfl 0 rfl ?_
      refine x_getr hz sx_0 fl_X9_42 rfl rx_0_6 (by decide) dX9_refusalOfTold_27 ?_
      refine x_iload_n hz dX9_refusalOfTold_30 rfl 1 rfl ?_
      refine x_guard (fun hi31 => ?_)
      refine x_aald0 hz (q := (80 + 2 * a1.toNatClampNeg)) 4 (fun _ => rfl) sx_39 (by decide) hi31 rfl (by omega) dX9_refusalOfTold_31 ?_
      refine x_geti hz (ge_39 hi31) fl_X9_320 rfl dX9_refusalOfTold_32 ?_
      refine x_bipush hz 25 dX9_refusalOfTold_35 rfl ?_
      refine x_icmp_le hz dX9_refusalOfTold_37 ?_ ?_
      · refine x_iconst hz 0 dX9_refusalOfTold_45 rfl ?_
        exact x_iret hz rfl dX9_refusalOfTold_46
      refine x_bipush hz (-2) dX9_refusalOfTold_40 rfl ?_
      refine x_goto hz dX9_refusalOfTold_42 ?_
      exact x_iret hz rfl dX9_refusalOfTold_46
    refine x_bipush hz (-11) dX9_refusalOfTold_23 rfl ?_
    exact x_iret hz rfl dX9_refusalOfTold_25
  refine x_bipush hz (-2) dX9_refusalOfTold_7 rfl ?_
  exact x_iret hz rfl dX9_refusalOfTold_9
theorem kX9_refusalOfTold {l : Launch} {dd : hDD} {b n : Nat} (a1 : Int32) (M : hMem) (r : Int32) (h : fX9_refusalOfTold a1 M = some r) : hC l hYx dd b yX9_refusalOfTold cX9_refusalOfTold 2 (some .int) (n + 1) [.ref (b + 0), .int a1] M (some (.int r), M) :=
  h_met (av := fun b => [.ref (b + 0), .int a1]) (rt := (rtP M)) (by decide) (Nat.le_of_ble_eq_true rfl) (fun Z hz => wX9_refusalOfTold (n := n) hz a1 M) r h
set_option maxRecDepth 10000 in
set_option maxHeartbeats 4000000 in
theorem wX9_refusalOfWay {Z : hZ} {n : Nat} (hz : hOK Z hYx cX9_refusalOfWay RX9 4 (n + 2) (some .int)) (a1 : Int32) (a2 : Int32) (M : hMem) : hW Z (rtP M) M 0 [(0, .ref (h_b Z + 0)), (1, .int a1), (2, .int a2)] [] (fX9_refusalOfWay a1 a2 M) := by
  unfold fX9_refusalOfWay
  refine x_aload_n hz dX9_refusalOfWay_0 rfl 0 rfl ?_
  refine x_iload_n hz dX9_refusalOfWay_1 rfl 1 rfl ?_
  refine x_bind (fun q2 hq2 => ?_)
  refine x_callV hz mv_X9_290 sx_0 (by decide) rfl rfl (kX9_refusalOfTold (n := n) a1 M q2 hq2) rfl (av := [.int a1]) (rest := []) rfl rfl (Nat.le_of_ble_eq_true rfl) dX9_refusalOfWay_2 ?_
  refine x_istore_n hz [(3, .int q2), (0, .ref (h_b Z + 0)), (1, .int a1), (2, .int a2)] dX9_refusalOfWay_5 rfl rfl rfl ?_
  refine x_iload_n hz dX9_refusalOfWay_6 rfl 0 rfl ?_
  refine x_if_ne hz dX9_refusalOfWay_7 ?_ ?_
  · refine x_iload_n hz dX9_refusalOfWay_23 rfl 0 rfl ?_
    exact x_iret hz rfl dX9_refusalOfWay_24
  refine x_aload_n hz dX9_refusalOfWay_10 rfl 1 rfl ?_
  refine x_iload_n hz dX9_refusalOfWay_11 rfl 3 rfl ?_
  refine x_callV hz mv_X9_171 sx_0 (by decide) rfl rfl (kX9_isHat (n := (n + 1)) a2 M) rfl (av := [.int a2]) (rest := []) rfl rfl (Nat.le_of_ble_eq_true rfl) dX9_refusalOfWay_12 ?_
  refine x_if_ne hz dX9_refusalOfWay_15 ?_ ?_
  · refine x_iload_n hz dX9_refusalOfWay_23 rfl 0 rfl ?_
    exact x_iret hz rfl dX9_refusalOfWay_24
  refine x_bipush hz (-5) dX9_refusalOfWay_18 rfl ?_
  refine x_goto hz dX9_refusalOfWay_20 ?_
  exact x_iret hz rfl dX9_refusalOfWay_24
theorem kX9_refusalOfWay {l : Launch} {dd : hDD} {b n : Nat} (a1 : Int32) (a2 : Int32) (M : hMem) (r : Int32) (h : fX9_refusalOfWay a1 a2 M = some r) : hC l hYx dd b yX9_refusalOfWay cX9_refusalOfWay 4 (some .int) (n + 2) [.ref (b + 0), .int a1, .int a2] M (some (.int r), M) :=
  h_met (av := fun b => [.ref (b + 0), .int a1, .int a2]) (rt := (rtP M)) (by decide) (Nat.le_of_ble_eq_true rfl) (fun Z hz => wX9_refusalOfWay (n := n) hz a1 a2 M) r h
set_option maxRecDepth 10000 in
set_option maxHeartbeats 4000000 in
theorem wX8_elsewhere_L5 {Z : hZ} {n : Nat} (hz : hOK Z hYx cX8_elsewhere RX8 5 (n + 4) (some .int))  (v1 : Nat) (hv1 : h_is hYx v1 5 0)   : ∀ (i : Nat) (s : Int32 × Int32 × hMem), hW Z rtM s.2.2 5 [(0, .ref (h_b Z + 40)), (1, .ref (h_b Z + v1)), (3, .int s.1), (4, .int s.2.1)] [] (h_lp (fX8_elsewhere_L5 v1) i s) := by
  refine x_loop (Ms := fun s : Int32 × Int32 × hMem => s.2.2) (Ls := fun s : Int32 × Int32 × hMem => [(0, .ref (h_b Z + 40)), (1, .ref (h_b Z + v1)), (3, .int s.1), (4, .int s.2.1)]) ?_
  intro k5 hk5 s
  show hW Z rtM s.2.2 5 [(0, .ref (h_b Z + 40)), (1, .ref (h_b Z + v1)), (3, .int s.1), (4, .int s.2.1)] [] (fX8_elsewhere_L5 v1 k5 s)
  unfold fX8_elsewhere_L5
  refine x_iload hz dX8_elsewhere_5 3 rfl ?_
  refine x_aload_n hz dX8_elsewhere_7 rfl 1 rfl ?_
  refine x_geti hz hv1 fl_X8_153 rfl dX8_elsewhere_8 ?_
  refine x_icmp_ge hz dX8_elsewhere_11 ?_ ?_
  · refine x_iconst hz (-1) dX8_elsewhere_45 rfl ?_
    exact x_iret hz rfl dX8_elsewhere_46
  refine x_aload_n hz dX8_elsewhere_14 rfl 1 rfl ?_
  refine x_getr hz hv1 fl_X8_158 rfl (gv_5_2 hv1) (Nat.succ_ne_zero _) dX8_elsewhere_15 ?_
  refine x_iload hz dX8_elsewhere_18 3 rfl ?_
  refine x_iald hz (gs_5_2 hv1) dX8_elsewhere_20 (fun hi20 => ?_)
  refine x_iload_n hz dX8_elsewhere_21 rfl 2 rfl ?_
  refine x_callN hz mn_X8_82 (kX9_squareOf (n := (n + 3)) s.1 s.2.2) rfl (av := [.int s.1]) (rest := [.int (s.2.2 (v1 + 1) s.2.1.toNatClampNeg)]) rfl rfl (Nat.le_of_ble_eq_true rfl) dX8_elsewhere_22 ?_
  refine x_icmp_eq hz dX8_elsewhere_25 ?_ ?_
  · refine x_aload_n hz dX8_elsewhere_31 rfl 0 rfl ?_
    refine x_iload hz dX8_elsewhere_32 3 rfl ?_
    refine x_iload_n hz dX8_elsewhere_34 rfl 2 rfl ?_
    refine x_bind (fun q35 hq35 => ?_)
    refine x_callV hz mv_X8_85 sx_40 (by decide) rfl rfl (kX8_next (n := n) s.2.1 s.1 s.2.2 q35 hq35) rfl (av := [.int s.2.1, .int s.1]) (rest := []) rfl rfl (Nat.le_of_ble_eq_true rfl) dX8_elsewhere_35 ?_
    refine x_istore_n hz [(3, .int q35.1), (0, .ref (h_b Z + 40)), (1, .ref (h_b Z + v1)), (4, .int s.2.1)] dX8_elsewhere_38 rfl rfl rfl ?_
    refine x_iinc hz (s.2.1 + 1) [(4, .int (s.2.1 + 1)), (3, .int q35.1), (0, .ref (h_b Z + 40)), (1, .ref (h_b Z + v1))] dX8_elsewhere_39 3 rfl rfl rfl rfl ?_
    refine x_goto hz dX8_elsewhere_42 ?_
    exact x_sub [2, 3, 1, 0] rfl (hk5 (q35.1, s.2.1 + 1, q35.2))
  refine x_iload hz dX8_elsewhere_28 3 rfl ?_
  exact x_iret hz rfl dX8_elsewhere_30
set_option maxRecDepth 10000 in
set_option maxHeartbeats 4000000 in
theorem wX8_elsewhere {Z : hZ} {n : Nat} (hz : hOK Z hYx cX8_elsewhere RX8 5 (n + 4) (some .int)) (a1 : Nat) (a2 : Int32) (M : hMem) : hW Z rtM M 0 [(0, .ref (h_b Z + 40)), (1, .ref (h_b Z + a1)), (2, .int a2)] [] (fX8_elsewhere a1 a2 M) := by
  unfold fX8_elsewhere
  refine x_guard (fun hpa1 => ?_)
  refine x_iload_n hz dX8_elsewhere_0 rfl 2 rfl ?_
  refine x_istore_n hz [(3, .int a2), (0, .ref (h_b Z + 40)), (1, .ref (h_b Z + a1)), (2, .int a2)] dX8_elsewhere_1 rfl rfl rfl ?_
  refine x_iconst hz 0 dX8_elsewhere_2 rfl ?_
  refine x_istore hz [(4, .int 0), (3, .int a2), (0, .ref (h_b Z + 40)), (1, .ref (h_b Z + a1)), (2, .int a2)] dX8_elsewhere_3 rfl rfl ?_
  exact x_sub [2, 3, 1, 0] rfl (wX8_elsewhere_L5 hz a1 (h_isB_is hpa1) h_FU (a2, 0, M))
theorem kX8_elsewhere {l : Launch} {dd : hDD} {b n : Nat} (a1 : Nat) (a2 : Int32) (M : hMem) (r : Int32 × hMem) (h : fX8_elsewhere a1 a2 M = some r) : hC l hYx dd b yX8_elsewhere cX8_elsewhere 5 (some .int) (n + 4) [.ref (b + 40), .ref (b + a1), .int a2] M (some (.int r.1), r.2) :=
  h_met (av := fun b => [.ref (b + 40), .ref (b + a1), .int a2]) (rt := rtM) (by decide) (Nat.le_of_ble_eq_true rfl) (fun Z hz => wX8_elsewhere (n := n) hz a1 a2 M) r h
set_option maxRecDepth 10000 in
set_option maxHeartbeats 4000000 in
theorem wX9_judge {Z : hZ} {n : Nat} (hz : hOK Z hYx cX9_judge RX9 4 (n + 5) (some .int)) (a1 : Int32) (a2 : Int32) (M : hMem) : hW Z rtM M 0 [(0, .ref (h_b Z + 0)), (1, .int a1), (2, .int a2)] [] (fX9_judge a1 a2 M) := by
  unfold fX9_judge
  refine x_aload_n hz dX9_judge_0 rfl 0 rfl ?_
  refine x_iload_n hz dX9_judge_1 rfl 1 rfl ?_
  refine x_iload_n hz dX9_judge_2 rfl 2 rfl ?_
  refine x_bind (fun q3 hq3 => ?_)
  refine x_callV hz mv_X9_283 sx_0 (by decide) rfl rfl (kX9_refusalOfWay (n := (n + 2)) a1 a2 M q3 hq3) rfl (av := [.int a1, .int a2]) (rest := []) rfl rfl (Nat.le_of_ble_eq_true rfl) dX9_judge_3 ?_
  refine x_istore_n hz [(3, .int q3), (0, .ref (h_b Z + 0)), (1, .int a1), (2, .int a2)] dX9_judge_6 rfl rfl rfl ?_
  refine x_iload_n hz dX9_judge_7 rfl 0 rfl ?_
  refine x_if_eq hz dX9_judge_8 ?_ ?_
  · refine x_aload_n hz dX9_judge_13 rfl 1 rfl ?_
    refine x_iload_n hz dX9_judge_14 rfl 3 rfl ?_
    refine x_bind (fun q15 hq15 => ?_)
    refine x_callV hz mv_X9_207 sx_0 (by decide) rfl rfl (kX9_think (n := (n + 2)) a2 M q15 hq15) rfl (av := [.int a2]) (rest := []) rfl rfl (Nat.le_of_ble_eq_true rfl) dX9_judge_15 ?_
    refine x_aload_n hz dX9_judge_18 rfl 1 rfl ?_
    refine x_getr hz sx_0 fl_X9_49 rfl rx_0_7 (by decide) dX9_judge_19 ?_
    refine x_aload_n hz dX9_judge_22 rfl 1 rfl ?_
    refine x_getr hz sx_0 fl_X9_42 rfl rx_0_6 (by decide) dX9_judge_23 ?_
    refine x_iload_n hz dX9_judge_26 rfl 2 rfl ?_
    refine x_guard (fun hi27 => ?_)
    refine x_aald0 hz (q := (80 + 2 * a1.toNatClampNeg)) 4 (fun _ => rfl) sx_39 (by decide) hi27 rfl (by omega) dX9_judge_27 ?_
    refine x_aload_n hz dX9_judge_28 rfl 1 rfl ?_
    refine x_getr hz sx_0 fl_X9_49 rfl rx_0_7 (by decide) dX9_judge_29 ?_
    refine x_geti hz sx_40 fl_X9_210 rfl dX9_judge_32 ?_
    refine x_bind (fun q35 hq35 => ?_)
    refine x_callV hz mv_X9_286 sx_40 (by decide) rfl rfl (kX8_elsewhere (n := n) (80 + 2 * a1.toNatClampNeg) (q15 40 5) q15 q35 hq35) rfl (av := [.ref (h_b Z + (80 + 2 * a1.toNatClampNeg)), .int (q15 40 5)]) (rest := []) rfl rfl (Nat.le_of_ble_eq_true rfl) dX9_judge_35 ?_
    exact x_iret hz rfl dX9_judge_38
  refine x_iload_n hz dX9_judge_11 rfl 0 rfl ?_
  exact x_iret hz rfl dX9_judge_12
theorem kX9_judge {l : Launch} {dd : hDD} {b n : Nat} (a1 : Int32) (a2 : Int32) (M : hMem) (r : Int32 × hMem) (h : fX9_judge a1 a2 M = some r) : hC l hYx dd b yX9_judge cX9_judge 4 (some .int) (n + 5) [.ref (b + 0), .int a1, .int a2] M (some (.int r.1), r.2) :=
  h_met (av := fun b => [.ref (b + 0), .int a1, .int a2]) (rt := rtM) (by decide) (Nat.le_of_ble_eq_true rfl) (fun Z hz => wX9_judge (n := n) hz a1 a2 M) r h
set_option maxRecDepth 10000 in
set_option maxHeartbeats 4000000 in
theorem wX9_whose_L17 {Z : hZ} {n : Nat} (hz : hOK Z hYx cX9_whose RX9 5 (n + 5) (some .int))  (v1 : Int32)   : ∀ (i : Nat) (s : Int32 × Int32 × hMem), hW Z rtM s.2.2 17 [(0, .ref (h_b Z + 0)), (1, .int v1), (3, .int s.1), (4, .int s.2.1)] [] (h_lp (fX9_whose_L17 v1) i s) := by
  refine x_loop (Ms := fun s : Int32 × Int32 × hMem => s.2.2) (Ls := fun s : Int32 × Int32 × hMem => [(0, .ref (h_b Z + 0)), (1, .int v1), (3, .int s.1), (4, .int s.2.1)]) ?_
  intro k17 hk17 s
  show hW Z rtM s.2.2 17 [(0, .ref (h_b Z + 0)), (1, .int v1), (3, .int s.1), (4, .int s.2.1)] [] (fX9_whose_L17 v1 k17 s)
  unfold fX9_whose_L17
  refine x_iload hz dX9_whose_17 3 rfl ?_
  refine x_aload_n hz dX9_whose_19 rfl 0 rfl ?_
  refine x_getr hz sx_0 fl_X9_12 rfl rx_0_0 (by decide) dX9_whose_20 ?_
  refine x_geti hz sx_1 fl_X9_112 rfl dX9_whose_23 ?_
  refine x_icmp_ge hz dX9_whose_26 ?_ ?_
  · refine x_iload_n hz dX9_whose_71 rfl 2 rfl ?_
    exact x_iret hz rfl dX9_whose_72
  refine x_aload_n hz dX9_whose_29 rfl 0 rfl ?_
  refine x_iload hz dX9_whose_30 3 rfl ?_
  refine x_bind (fun q32 hq32 => ?_)
  refine x_callV hz mv_X9_207 sx_0 (by decide) rfl rfl (kX9_think (n := (n + 2)) s.2.1 s.2.2 q32 hq32) rfl (av := [.int s.2.1]) (rest := []) rfl rfl (Nat.le_of_ble_eq_true rfl) dX9_whose_32 ?_
  refine x_aload_n hz dX9_whose_35 rfl 0 rfl ?_
  refine x_getr hz sx_0 fl_X9_49 rfl rx_0_7 (by decide) dX9_whose_36 ?_
  refine x_aload_n hz dX9_whose_39 rfl 0 rfl ?_
  refine x_getr hz sx_0 fl_X9_42 rfl rx_0_6 (by decide) dX9_whose_40 ?_
  refine x_iload_n hz dX9_whose_43 rfl 1 rfl ?_
  refine x_guard (fun hi44 => ?_)
  refine x_aald0 hz (q := (80 + 2 * v1.toNatClampNeg)) 4 (fun _ => rfl) sx_39 (by decide) hi44 rfl (by omega) dX9_whose_44 ?_
  refine x_aload_n hz dX9_whose_45 rfl 0 rfl ?_
  refine x_getr hz sx_0 fl_X9_49 rfl rx_0_7 (by decide) dX9_whose_46 ?_
  refine x_geti hz sx_40 fl_X9_210 rfl dX9_whose_49 ?_
  refine x_bind (fun q52 hq52 => ?_)
  refine x_callV hz mv_X9_286 sx_40 (by decide) rfl rfl (kX8_elsewhere (n := n) (80 + 2 * v1.toNatClampNeg) (q32 40 5) q32 q52 hq52) rfl (av := [.ref (h_b Z + (80 + 2 * v1.toNatClampNeg)), .int (q32 40 5)]) (rest := []) rfl rfl (Nat.le_of_ble_eq_true rfl) dX9_whose_52 ?_
  refine x_if_ge hz dX9_whose_55 ?_ ?_
  · refine x_iinc hz (s.2.1 + 1) [(4, .int (s.2.1 + 1)), (0, .ref (h_b Z + 0)), (1, .int v1), (3, .int s.1)] dX9_whose_65 3 rfl rfl rfl rfl ?_
    refine x_goto hz dX9_whose_68 ?_
    exact x_sub [1, 2, 3, 0] rfl (hk17 (s.1, s.2.1 + 1, q52.2))
  refine x_iload_n hz dX9_whose_58 rfl 2 rfl ?_
  refine x_iconst hz 1 dX9_whose_59 rfl ?_
  refine x_iload hz dX9_whose_60 3 rfl ?_
  refine x_ishl hz dX9_whose_62 ?_
  refine x_ior hz dX9_whose_63 ?_
  refine x_istore_n hz [(3, .int (s.1 ||| (1 <<< (s.2.1 &&& 31)))), (0, .ref (h_b Z + 0)), (1, .int v1), (4, .int s.2.1)] dX9_whose_64 rfl rfl rfl ?_
  refine x_iinc hz (s.2.1 + 1) [(4, .int (s.2.1 + 1)), (3, .int (s.1 ||| (1 <<< (s.2.1 &&& 31)))), (0, .ref (h_b Z + 0)), (1, .int v1)] dX9_whose_65 3 rfl rfl rfl rfl ?_
  refine x_goto hz dX9_whose_68 ?_
  exact x_sub [2, 3, 1, 0] rfl (hk17 (s.1 ||| (1 <<< (s.2.1 &&& 31)), s.2.1 + 1, q52.2))
set_option maxRecDepth 10000 in
set_option maxHeartbeats 4000000 in
theorem wX9_whose {Z : hZ} {n : Nat} (hz : hOK Z hYx cX9_whose RX9 5 (n + 5) (some .int)) (a1 : Int32) (M : hMem) : hW Z rtM M 0 [(0, .ref (h_b Z + 0)), (1, .int a1)] [] (fX9_whose a1 M) := by
  unfold fX9_whose
  refine x_aload_n hz dX9_whose_0 rfl 0 rfl ?_
  refine x_iload_n hz dX9_whose_1 rfl 1 rfl ?_
  refine x_bind (fun q2 hq2 => ?_)
  refine x_callV hz mv_X9_290 sx_0 (by decide) rfl rfl (kX9_refusalOfTold (n := (n + 3)) a1 M q2 hq2) rfl (av := [.int a1]) (rest := []) rfl rfl (Nat.le_of_ble_eq_true rfl) dX9_whose_2 ?_
  refine x_istore_n hz [(2, .int q2), (0, .ref (h_b Z + 0)), (1, .int a1)] dX9_whose_5 rfl rfl rfl ?_
  refine x_iload_n hz dX9_whose_6 rfl 0 rfl ?_
  refine x_if_eq hz dX9_whose_7 ?_ ?_
  · refine x_iconst hz 0 dX9_whose_12 rfl ?_
    refine x_istore_n hz [(3, .int 0), (2, .int q2), (0, .ref (h_b Z + 0)), (1, .int a1)] dX9_whose_13 rfl rfl rfl ?_
    refine x_iconst hz 0 dX9_whose_14 rfl ?_
    refine x_istore hz [(4, .int 0), (3, .int 0), (2, .int q2), (0, .ref (h_b Z + 0)), (1, .int a1)] dX9_whose_15 rfl rfl ?_
    exact x_sub [3, 4, 1, 0] rfl (wX9_whose_L17 hz a1 h_FU (0, 0, M))
  refine x_iload_n hz dX9_whose_10 rfl 0 rfl ?_
  exact x_iret hz rfl dX9_whose_11
theorem kX9_whose {l : Launch} {dd : hDD} {b n : Nat} (a1 : Int32) (M : hMem) (r : Int32 × hMem) (h : fX9_whose a1 M = some r) : hC l hYx dd b yX9_whose cX9_whose 5 (some .int) (n + 5) [.ref (b + 0), .int a1] M (some (.int r.1), r.2) :=
  h_met (av := fun b => [.ref (b + 0), .int a1]) (rt := rtM) (by decide) (Nat.le_of_ble_eq_true rfl) (fun Z hz => wX9_whose (n := n) hz a1 M) r h
set_option maxRecDepth 10000 in
set_option maxHeartbeats 4000000 in
theorem wX9_lay_L33 {Z : hZ} {n : Nat} (hz : hOK Z hYx cX9_lay RX9 7 (n + 5) (some .int))  (v1 : Int32) (v5 : Int32)  {k24 : (Int32 × Int32 × hMem) → Option (Int32 × hMem)} (hk24 : ∀ s, hW Z rtM s.2.2 24 [(0, .ref (h_b Z + 0)), (1, .int v1), (4, .int s.1), (5, .int s.2.1)] [] (k24 s)) : ∀ (i : Nat) (s : Int32 × Int32 × hMem), hW Z rtM s.2.2 33 [(0, .ref (h_b Z + 0)), (1, .int v1), (4, .int s.1), (5, .int v5), (6, .int s.2.1)] [] (h_lp (fX9_lay_L33 k24 v1 v5) i s) := by
  refine x_loop (Ms := fun s : Int32 × Int32 × hMem => s.2.2) (Ls := fun s : Int32 × Int32 × hMem => [(0, .ref (h_b Z + 0)), (1, .int v1), (4, .int s.1), (5, .int v5), (6, .int s.2.1)]) ?_
  intro k33 hk33 s
  show hW Z rtM s.2.2 33 [(0, .ref (h_b Z + 0)), (1, .int v1), (4, .int s.1), (5, .int v5), (6, .int s.2.1)] [] (fX9_lay_L33 k24 v1 v5 k33 s)
  unfold fX9_lay_L33
  refine x_iload hz dX9_lay_33 4 rfl ?_
  refine x_bipush hz 32 dX9_lay_35 rfl ?_
  refine x_icmp_ge hz dX9_lay_37 ?_ ?_
  · refine x_iinc hz (v5 + 1) [(5, .int (v5 + 1)), (0, .ref (h_b Z + 0)), (1, .int v1), (4, .int s.1), (6, .int s.2.1)] dX9_lay_87 3 rfl rfl rfl rfl ?_
    refine x_goto hz dX9_lay_90 ?_
    exact x_sub [1, 2, 3, 0] rfl (hk24 (s.1, v5 + 1, s.2.2))
  refine x_aload_n hz dX9_lay_40 rfl 0 rfl ?_
  refine x_iload hz dX9_lay_41 4 rfl ?_
  refine x_callV hz mv_X9_154 sx_0 (by decide) rfl rfl (kX9_isOpen (n := (n + 3)) s.2.1 s.2.2) rfl (av := [.int s.2.1]) (rest := []) rfl rfl (Nat.le_of_ble_eq_true rfl) dX9_lay_43 ?_
  refine x_if_eq hz dX9_lay_46 ?_ ?_
  · refine x_iinc hz (s.2.1 + 1) [(6, .int (s.2.1 + 1)), (0, .ref (h_b Z + 0)), (1, .int v1), (4, .int s.1), (5, .int v5)] dX9_lay_81 4 rfl rfl rfl rfl ?_
    refine x_goto hz dX9_lay_84 ?_
    exact x_sub [1, 2, 3, 4, 0] rfl (hk33 (s.1, s.2.1 + 1, s.2.2))
  refine x_aload_n hz dX9_lay_49 rfl 0 rfl ?_
  refine x_getr hz sx_0 fl_X9_49 rfl rx_0_7 (by decide) dX9_lay_50 ?_
  refine x_aload_n hz dX9_lay_53 rfl 0 rfl ?_
  refine x_getr hz sx_0 fl_X9_42 rfl rx_0_6 (by decide) dX9_lay_54 ?_
  refine x_iload_n hz dX9_lay_57 rfl 1 rfl ?_
  refine x_guard (fun hi58 => ?_)
  refine x_aald0 hz (q := (80 + 2 * v1.toNatClampNeg)) 4 (fun _ => rfl) sx_39 (by decide) hi58 rfl (by omega) dX9_lay_58 ?_
  refine x_iload hz dX9_lay_59 4 rfl ?_
  refine x_iload hz dX9_lay_61 3 rfl ?_
  refine x_callS hz ms_X9_139 (kX9_stateOf (n := (n + 4)) s.2.1 v5 s.2.2) rfl (av := [.int s.2.1, .int v5]) (rest := [.ref (h_b Z + (80 + 2 * v1.toNatClampNeg)), .ref (h_b Z + 40)]) rfl rfl (Nat.le_of_ble_eq_true rfl) dX9_lay_63 ?_
  refine x_bind (fun q66 hq66 => ?_)
  refine x_callV hz mv_X9_286 sx_40 (by decide) rfl rfl (kX8_elsewhere (n := n) (80 + 2 * v1.toNatClampNeg) (fX9_stateOf s.2.1 v5 s.2.2) s.2.2 q66 hq66) rfl (av := [.ref (h_b Z + (80 + 2 * v1.toNatClampNeg)), .int (fX9_stateOf s.2.1 v5 s.2.2)]) (rest := []) rfl rfl (Nat.le_of_ble_eq_true rfl) dX9_lay_66 ?_
  refine x_if_ge hz dX9_lay_69 ?_ ?_
  · refine x_iinc hz (s.2.1 + 1) [(6, .int (s.2.1 + 1)), (0, .ref (h_b Z + 0)), (1, .int v1), (4, .int s.1), (5, .int v5)] dX9_lay_81 4 rfl rfl rfl rfl ?_
    refine x_goto hz dX9_lay_84 ?_
    exact x_sub [1, 2, 3, 4, 0] rfl (hk33 (s.1, s.2.1 + 1, q66.2))
  refine x_iload hz dX9_lay_72 2 rfl ?_
  refine x_iconst hz 1 dX9_lay_74 rfl ?_
  refine x_iload hz dX9_lay_75 3 rfl ?_
  refine x_ishl hz dX9_lay_77 ?_
  refine x_ior hz dX9_lay_78 ?_
  refine x_istore hz [(4, .int (s.1 ||| (1 <<< (v5 &&& 31)))), (0, .ref (h_b Z + 0)), (1, .int v1), (5, .int v5), (6, .int s.2.1)] dX9_lay_79 rfl rfl ?_
  refine x_iinc hz (s.2.1 + 1) [(6, .int (s.2.1 + 1)), (4, .int (s.1 ||| (1 <<< (v5 &&& 31)))), (0, .ref (h_b Z + 0)), (1, .int v1), (5, .int v5)] dX9_lay_81 4 rfl rfl rfl rfl ?_
  refine x_goto hz dX9_lay_84 ?_
  exact x_sub [2, 3, 1, 4, 0] rfl (hk33 (s.1 ||| (1 <<< (v5 &&& 31)), s.2.1 + 1, q66.2))
set_option maxRecDepth 10000 in
set_option maxHeartbeats 4000000 in
theorem wX9_lay_L24 {Z : hZ} {n : Nat} (hz : hOK Z hYx cX9_lay RX9 7 (n + 5) (some .int))  (v1 : Int32)   : ∀ (i : Nat) (s : Int32 × Int32 × hMem), hW Z rtM s.2.2 24 [(0, .ref (h_b Z + 0)), (1, .int v1), (4, .int s.1), (5, .int s.2.1)] [] (h_lp (fX9_lay_L24 v1) i s) := by
  refine x_loop (Ms := fun s : Int32 × Int32 × hMem => s.2.2) (Ls := fun s : Int32 × Int32 × hMem => [(0, .ref (h_b Z + 0)), (1, .int v1), (4, .int s.1), (5, .int s.2.1)]) ?_
  intro k24 hk24 s
  show hW Z rtM s.2.2 24 [(0, .ref (h_b Z + 0)), (1, .int v1), (4, .int s.1), (5, .int s.2.1)] [] (fX9_lay_L24 v1 k24 s)
  unfold fX9_lay_L24
  refine x_iload hz dX9_lay_24 3 rfl ?_
  refine x_iconst hz 3 dX9_lay_26 rfl ?_
  refine x_icmp_ge hz dX9_lay_27 ?_ ?_
  · refine x_iload hz dX9_lay_93 2 rfl ?_
    exact x_iret hz rfl dX9_lay_95
  refine x_iconst hz 0 dX9_lay_30 rfl ?_
  refine x_istore hz [(6, .int 0), (0, .ref (h_b Z + 0)), (1, .int v1), (4, .int s.1), (5, .int s.2.1)] dX9_lay_31 rfl rfl ?_
  exact x_sub [1, 2, 3, 4, 0] rfl (wX9_lay_L33 hz v1 s.2.1 hk24 h_FU (s.1, 0, s.2.2))
set_option maxRecDepth 10000 in
set_option maxHeartbeats 4000000 in
theorem wX9_lay {Z : hZ} {n : Nat} (hz : hOK Z hYx cX9_lay RX9 7 (n + 5) (some .int)) (a1 : Int32) (a2 : Int32) (M : hMem) : hW Z rtM M 0 [(0, .ref (h_b Z + 0)), (1, .int a1), (2, .int a2)] [] (fX9_lay a1 a2 M) := by
  unfold fX9_lay
  refine x_aload_n hz dX9_lay_0 rfl 0 rfl ?_
  refine x_iload_n hz dX9_lay_1 rfl 1 rfl ?_
  refine x_iload_n hz dX9_lay_2 rfl 2 rfl ?_
  refine x_bind (fun q3 hq3 => ?_)
  refine x_callV hz mv_X9_283 sx_0 (by decide) rfl rfl (kX9_refusalOfWay (n := (n + 2)) a1 a2 M q3 hq3) rfl (av := [.int a1, .int a2]) (rest := []) rfl rfl (Nat.le_of_ble_eq_true rfl) dX9_lay_3 ?_
  refine x_istore_n hz [(3, .int q3), (0, .ref (h_b Z + 0)), (1, .int a1), (2, .int a2)] dX9_lay_6 rfl rfl rfl ?_
  refine x_iload_n hz dX9_lay_7 rfl 0 rfl ?_
  refine x_if_eq hz dX9_lay_8 ?_ ?_
  · refine x_aload_n hz dX9_lay_13 rfl 1 rfl ?_
    refine x_iload_n hz dX9_lay_14 rfl 3 rfl ?_
    refine x_bind (fun q15 hq15 => ?_)
    refine x_callV hz mv_X9_207 sx_0 (by decide) rfl rfl (kX9_think (n := (n + 2)) a2 M q15 hq15) rfl (av := [.int a2]) (rest := []) rfl rfl (Nat.le_of_ble_eq_true rfl) dX9_lay_15 ?_
    refine x_iconst hz 0 dX9_lay_18 rfl ?_
    refine x_istore hz [(4, .int 0), (3, .int q3), (0, .ref (h_b Z + 0)), (1, .int a1), (2, .int a2)] dX9_lay_19 rfl rfl ?_
    refine x_iconst hz 0 dX9_lay_21 rfl ?_
    refine x_istore hz [(5, .int 0), (4, .int 0), (3, .int q3), (0, .ref (h_b Z + 0)), (1, .int a1), (2, .int a2)] dX9_lay_22 rfl rfl ?_
    exact x_sub [3, 4, 1, 0] rfl (wX9_lay_L24 hz a1 h_FU (0, 0, q15))
  refine x_iload_n hz dX9_lay_11 rfl 0 rfl ?_
  exact x_iret hz rfl dX9_lay_12
theorem kX9_lay {l : Launch} {dd : hDD} {b n : Nat} (a1 : Int32) (a2 : Int32) (M : hMem) (r : Int32 × hMem) (h : fX9_lay a1 a2 M = some r) : hC l hYx dd b yX9_lay cX9_lay 7 (some .int) (n + 5) [.ref (b + 0), .int a1, .int a2] M (some (.int r.1), r.2) :=
  h_met (av := fun b => [.ref (b + 0), .int a1, .int a2]) (rt := rtM) (by decide) (Nat.le_of_ble_eq_true rfl) (fun Z hz => wX9_lay (n := n) hz a1 a2 M) r h
set_option maxRecDepth 10000 in
set_option maxHeartbeats 4000000 in
theorem wX9_kinds_L82 {Z : hZ} {n : Nat} (hz : hOK Z hYx cX9_kinds RX9 8 (n + 5) (some .int))  (v1 : Int32) (v3 : Int32) (v5 : Int32) (v6 : Int32) (v7 : Int32) (M : hMem) {k50 : (Int32 × Int32 × hMem) → Option (Int32 × hMem)} (hk50 : ∀ s, hW Z rtM s.2.2 50 [(0, .ref (h_b Z + 0)), (1, .int v1), (3, .int v3), (5, .int s.1), (6, .int v6), (7, .int s.2.1)] [] (k50 s)) : hW Z rtM M 82 [(0, .ref (h_b Z + 0)), (1, .int v1), (3, .int v3), (5, .int v5), (6, .int v6), (7, .int v7)] [] (fX9_kinds_L82 k50 v1 v3 v5 v6 v7 M) := by
  unfold fX9_kinds_L82
  refine x_aload_n hz dX9_kinds_82 rfl 0 rfl ?_
  refine x_getr hz sx_0 fl_X9_49 rfl rx_0_7 (by decide) dX9_kinds_83 ?_
  refine x_aload_n hz dX9_kinds_86 rfl 0 rfl ?_
  refine x_getr hz sx_0 fl_X9_42 rfl rx_0_6 (by decide) dX9_kinds_87 ?_
  refine x_iload_n hz dX9_kinds_90 rfl 1 rfl ?_
  refine x_guard (fun hi91 => ?_)
  refine x_aald0 hz (q := (80 + 2 * v1.toNatClampNeg)) 4 (fun _ => rfl) sx_39 (by decide) hi91 rfl (by omega) dX9_kinds_91 ?_
  refine x_aload_n hz dX9_kinds_92 rfl 0 rfl ?_
  refine x_getr hz sx_0 fl_X9_49 rfl rx_0_7 (by decide) dX9_kinds_93 ?_
  refine x_geti hz sx_40 fl_X9_210 rfl dX9_kinds_96 ?_
  refine x_bind (fun q99 hq99 => ?_)
  refine x_callV hz mv_X9_286 sx_40 (by decide) rfl rfl (kX8_elsewhere (n := n) (80 + 2 * v1.toNatClampNeg) (M 40 5) M q99 hq99) rfl (av := [.ref (h_b Z + (80 + 2 * v1.toNatClampNeg)), .int (M 40 5)]) (rest := []) rfl rfl (Nat.le_of_ble_eq_true rfl) dX9_kinds_99 ?_
  refine x_if_ge hz dX9_kinds_102 ?_ ?_
  · refine x_iinc hz (v7 + 1) [(7, .int (v7 + 1)), (0, .ref (h_b Z + 0)), (1, .int v1), (3, .int v3), (5, .int v5), (6, .int v6)] dX9_kinds_114 5 rfl rfl rfl rfl ?_
    refine x_goto hz dX9_kinds_117 ?_
    exact x_sub [1, 2, 3, 4, 5, 0] rfl (hk50 (v5, v7 + 1, q99.2))
  refine x_iload hz dX9_kinds_105 3 rfl ?_
  refine x_iconst hz 1 dX9_kinds_107 rfl ?_
  refine x_iload hz dX9_kinds_108 5 rfl ?_
  refine x_ishl hz dX9_kinds_110 ?_
  refine x_ior hz dX9_kinds_111 ?_
  refine x_istore hz [(5, .int (v5 ||| (1 <<< (v7 &&& 31)))), (0, .ref (h_b Z + 0)), (1, .int v1), (3, .int v3), (6, .int v6), (7, .int v7)] dX9_kinds_112 rfl rfl ?_
  refine x_iinc hz (v7 + 1) [(7, .int (v7 + 1)), (5, .int (v5 ||| (1 <<< (v7 &&& 31)))), (0, .ref (h_b Z + 0)), (1, .int v1), (3, .int v3), (6, .int v6)] dX9_kinds_114 5 rfl rfl rfl rfl ?_
  refine x_goto hz dX9_kinds_117 ?_
  exact x_sub [2, 3, 4, 1, 5, 0] rfl (hk50 (v5 ||| (1 <<< (v7 &&& 31)), v7 + 1, q99.2))
set_option maxRecDepth 10000 in
set_option maxHeartbeats 4000000 in
theorem wX9_kinds_L50 {Z : hZ} {n : Nat} (hz : hOK Z hYx cX9_kinds RX9 8 (n + 5) (some .int))  (v1 : Int32) (v3 : Int32) (v6 : Int32)   : ∀ (i : Nat) (s : Int32 × Int32 × hMem), hW Z rtM s.2.2 50 [(0, .ref (h_b Z + 0)), (1, .int v1), (3, .int v3), (5, .int s.1), (6, .int v6), (7, .int s.2.1)] [] (h_lp (fX9_kinds_L50 v1 v3 v6) i s) := by
  refine x_loop (Ms := fun s : Int32 × Int32 × hMem => s.2.2) (Ls := fun s : Int32 × Int32 × hMem => [(0, .ref (h_b Z + 0)), (1, .int v1), (3, .int v3), (5, .int s.1), (6, .int v6), (7, .int s.2.1)]) ?_
  intro k50 hk50 s
  show hW Z rtM s.2.2 50 [(0, .ref (h_b Z + 0)), (1, .int v1), (3, .int v3), (5, .int s.1), (6, .int v6), (7, .int s.2.1)] [] (fX9_kinds_L50 v1 v3 v6 k50 s)
  unfold fX9_kinds_L50
  refine x_iload hz dX9_kinds_50 5 rfl ?_
  refine x_iload hz dX9_kinds_52 4 rfl ?_
  refine x_icmp_ge hz dX9_kinds_54 ?_ ?_
  · refine x_iload hz dX9_kinds_120 3 rfl ?_
    exact x_iret hz rfl dX9_kinds_122
  refine x_iload_n hz dX9_kinds_57 rfl 2 rfl ?_
  refine x_if_ne hz dX9_kinds_58 ?_ ?_
  · refine x_aload_n hz dX9_kinds_73 rfl 0 rfl ?_
    refine x_getr hz sx_0 fl_X9_49 rfl rx_0_7 (by decide) dX9_kinds_74 ?_
    refine x_iload hz dX9_kinds_77 5 rfl ?_
    refine x_puti hz sx_40 fp_X9_136 rfl dX9_kinds_79 ?_
    exact x_sub [0, 1, 2, 3, 4, 5] rfl (wX9_kinds_L82 hz v1 v3 s.1 v6 s.2.1 (h_up s.2.2 40 4 s.2.1) hk50)
  refine x_aload_n hz dX9_kinds_61 rfl 0 rfl ?_
  refine x_getr hz sx_0 fl_X9_49 rfl rx_0_7 (by decide) dX9_kinds_62 ?_
  refine x_iload hz dX9_kinds_65 5 rfl ?_
  refine x_puti hz sx_40 fp_X9_133 rfl dX9_kinds_67 ?_
  refine x_goto hz dX9_kinds_70 ?_
  exact x_sub [0, 1, 2, 3, 4, 5] rfl (wX9_kinds_L82 hz v1 v3 s.1 v6 s.2.1 (h_up s.2.2 40 3 s.2.1) hk50)
set_option maxRecDepth 10000 in
set_option maxHeartbeats 4000000 in
theorem wX9_kinds {Z : hZ} {n : Nat} (hz : hOK Z hYx cX9_kinds RX9 8 (n + 5) (some .int)) (a1 : Int32) (a2 : Int32) (a3 : Int32) (M : hMem) : hW Z rtM M 0 [(0, .ref (h_b Z + 0)), (1, .int a1), (2, .int a2), (3, .int a3)] [] (fX9_kinds a1 a2 a3 M) := by
  unfold fX9_kinds
  refine x_aload_n hz dX9_kinds_0 rfl 0 rfl ?_
  refine x_iload_n hz dX9_kinds_1 rfl 1 rfl ?_
  refine x_iload_n hz dX9_kinds_2 rfl 2 rfl ?_
  refine x_bind (fun q3 hq3 => ?_)
  refine x_callV hz mv_X9_283 sx_0 (by decide) rfl rfl (kX9_refusalOfWay (n := (n + 2)) a1 a2 M q3 hq3) rfl (av := [.int a1, .int a2]) (rest := []) rfl rfl (Nat.le_of_ble_eq_true rfl) dX9_kinds_3 ?_
  refine x_istore hz [(4, .int q3), (0, .ref (h_b Z + 0)), (1, .int a1), (2, .int a2), (3, .int a3)] dX9_kinds_6 rfl rfl ?_
  refine x_iload hz dX9_kinds_8 0 rfl ?_
  refine x_if_eq hz dX9_kinds_10 ?_ ?_
  · refine x_iload_n hz dX9_kinds_16 rfl 4 rfl ?_
    refine x_callS hz ms_X9_204 (kX9_isZeroOrOne (n := (n + 4)) a3 M) rfl (av := [.int a3]) (rest := []) rfl rfl (Nat.le_of_ble_eq_true rfl) dX9_kinds_17 ?_
    refine x_if_ne hz dX9_kinds_20 ?_ ?_
    · refine x_aload_n hz dX9_kinds_26 rfl 1 rfl ?_
      refine x_iload_n hz dX9_kinds_27 rfl 3 rfl ?_
      refine x_bind (fun q28 hq28 => ?_)
      refine x_callV hz mv_X9_207 sx_0 (by decide) rfl rfl (kX9_think (n := (n + 2)) a2 M q28 hq28) rfl (av := [.int a2]) (rest := []) rfl rfl (Nat.le_of_ble_eq_true rfl) dX9_kinds_28 ?_
      refine x_iconst hz 0 dX9_kinds_31 rfl ?_
      refine x_istore hz [(5, .int 0), (4, .int q3), (0, .ref (h_b Z + 0)), (1, .int a1), (2, .int a2), (3, .int a3)] dX9_kinds_32 rfl rfl ?_
      refine x_iload_n hz dX9_kinds_34 rfl 5 rfl ?_
      refine x_if_ne hz dX9_kinds_35 ?_ ?_
      · refine x_bipush hz 10 dX9_kinds_43 rfl ?_
        refine x_istore hz [(6, .int 10), (5, .int 0), (4, .int q3), (0, .ref (h_b Z + 0)), (1, .int a1), (2, .int a2), (3, .int a3)] dX9_kinds_45 rfl rfl ?_
        refine x_iconst hz 0 dX9_kinds_47 rfl ?_
        refine x_istore hz [(7, .int 0), (6, .int 10), (5, .int 0), (4, .int q3), (0, .ref (h_b Z + 0)), (1, .int a1), (2, .int a2), (3, .int a3)] dX9_kinds_48 rfl rfl ?_
        exact x_sub [4, 5, 7, 2, 1, 0] rfl (wX9_kinds_L50 hz a1 a3 10 h_FU (0, 0, q28))
      refine x_bipush hz 6 dX9_kinds_38 rfl ?_
      refine x_goto hz dX9_kinds_40 ?_
      refine x_istore hz [(6, .int 6), (5, .int 0), (4, .int q3), (0, .ref (h_b Z + 0)), (1, .int a1), (2, .int a2), (3, .int a3)] dX9_kinds_45 rfl rfl ?_
      refine x_iconst hz 0 dX9_kinds_47 rfl ?_
      refine x_istore hz [(7, .int 0), (6, .int 6), (5, .int 0), (4, .int q3), (0, .ref (h_b Z + 0)), (1, .int a1), (2, .int a2), (3, .int a3)] dX9_kinds_48 rfl rfl ?_
      exact x_sub [4, 5, 7, 2, 1, 0] rfl (wX9_kinds_L50 hz a1 a3 6 h_FU (0, 0, q28))
    refine x_bipush hz (-7) dX9_kinds_23 rfl ?_
    exact x_iret hz rfl dX9_kinds_25
  refine x_iload hz dX9_kinds_13 0 rfl ?_
  exact x_iret hz rfl dX9_kinds_15
theorem kX9_kinds {l : Launch} {dd : hDD} {b n : Nat} (a1 : Int32) (a2 : Int32) (a3 : Int32) (M : hMem) (r : Int32 × hMem) (h : fX9_kinds a1 a2 a3 M = some r) : hC l hYx dd b yX9_kinds cX9_kinds 8 (some .int) (n + 5) [.ref (b + 0), .int a1, .int a2, .int a3] M (some (.int r.1), r.2) :=
  h_met (av := fun b => [.ref (b + 0), .int a1, .int a2, .int a3]) (rt := rtM) (by decide) (Nat.le_of_ble_eq_true rfl) (fun Z hz => wX9_kinds (n := n) hz a1 a2 a3 M) r h
set_option maxRecDepth 10000 in
set_option maxHeartbeats 4000000 in
theorem wX9_laws_L24 {Z : hZ} {n : Nat} (hz : hOK Z hYx cX9_laws RX9 6 (n + 5) (some .int))  (v1 : Int32)   : ∀ (i : Nat) (s : Int32 × Int32 × hMem), hW Z rtM s.2.2 24 [(0, .ref (h_b Z + 0)), (1, .int v1), (4, .int s.1), (5, .int s.2.1)] [] (h_lp (fX9_laws_L24 v1) i s) := by
  refine x_loop (Ms := fun s : Int32 × Int32 × hMem => s.2.2) (Ls := fun s : Int32 × Int32 × hMem => [(0, .ref (h_b Z + 0)), (1, .int v1), (4, .int s.1), (5, .int s.2.1)]) ?_
  intro k24 hk24 s
  show hW Z rtM s.2.2 24 [(0, .ref (h_b Z + 0)), (1, .int v1), (4, .int s.1), (5, .int s.2.1)] [] (fX9_laws_L24 v1 k24 s)
  unfold fX9_laws_L24
  refine x_iload hz dX9_laws_24 3 rfl ?_
  refine x_aload_n hz dX9_laws_26 rfl 0 rfl ?_
  refine x_geti hz sx_0 fl_X9_29 rfl dX9_laws_27 ?_
  refine x_icmp_ge hz dX9_laws_30 ?_ ?_
  · refine x_iload hz dX9_laws_85 2 rfl ?_
    exact x_iret hz rfl dX9_laws_87
  refine x_aload_n hz dX9_laws_33 rfl 0 rfl ?_
  refine x_getr hz sx_0 fl_X9_49 rfl rx_0_7 (by decide) dX9_laws_34 ?_
  refine x_aload_n hz dX9_laws_37 rfl 0 rfl ?_
  refine x_getr hz sx_0 fl_X9_25 rfl rx_0_3 (by decide) dX9_laws_38 ?_
  refine x_iload hz dX9_laws_41 3 rfl ?_
  refine x_guard (fun hi43 => ?_)
  refine x_aald0 hz (q := (56 + 4 * s.2.1.toNatClampNeg)) 3 (fun _ => rfl) sx_29 (by decide) hi43 rfl (by omega) dX9_laws_43 ?_
  refine x_putd hz sx_40 fp_X9_130 rfl (gl_3 (ge_29 hi43)) dX9_laws_44 ?_
  refine x_aload_n hz dX9_laws_47 rfl 0 rfl ?_
  refine x_getr hz sx_0 fl_X9_49 rfl rx_0_7 (by decide) dX9_laws_48 ?_
  refine x_aload_n hz dX9_laws_51 rfl 0 rfl ?_
  refine x_getr hz sx_0 fl_X9_42 rfl rx_0_6 (by decide) dX9_laws_52 ?_
  refine x_iload_n hz dX9_laws_55 rfl 1 rfl ?_
  refine x_guard (fun hi56 => ?_)
  refine x_aald0 hz (q := (80 + 2 * v1.toNatClampNeg)) 4 (fun _ => rfl) sx_39 (by decide) hi56 rfl (by omega) dX9_laws_56 ?_
  refine x_aload_n hz dX9_laws_57 rfl 0 rfl ?_
  refine x_getr hz sx_0 fl_X9_49 rfl rx_0_7 (by decide) dX9_laws_58 ?_
  refine x_geti hz sx_40 fl_X9_210 rfl dX9_laws_61 ?_
  refine x_bind (fun q64 hq64 => ?_)
  refine x_callV hz mv_X9_286 sx_40 (by decide) rfl rfl (kX8_elsewhere (n := n) (80 + 2 * v1.toNatClampNeg) ((h_up s.2.2 40 6 (nI (56 + 4 * s.2.1.toNatClampNeg))) 40 5) (h_up s.2.2 40 6 (nI (56 + 4 * s.2.1.toNatClampNeg))) q64 hq64) rfl (av := [.ref (h_b Z + (80 + 2 * v1.toNatClampNeg)), .int ((h_up s.2.2 40 6 (nI (56 + 4 * s.2.1.toNatClampNeg))) 40 5)]) (rest := []) rfl rfl (Nat.le_of_ble_eq_true rfl) dX9_laws_64 ?_
  refine x_if_ge hz dX9_laws_67 ?_ ?_
  · refine x_iinc hz (s.2.1 + 1) [(5, .int (s.2.1 + 1)), (0, .ref (h_b Z + 0)), (1, .int v1), (4, .int s.1)] dX9_laws_79 3 rfl rfl rfl rfl ?_
    refine x_goto hz dX9_laws_82 ?_
    exact x_sub [1, 2, 3, 0] rfl (hk24 (s.1, s.2.1 + 1, q64.2))
  refine x_iload hz dX9_laws_70 2 rfl ?_
  refine x_iconst hz 1 dX9_laws_72 rfl ?_
  refine x_iload hz dX9_laws_73 3 rfl ?_
  refine x_ishl hz dX9_laws_75 ?_
  refine x_ior hz dX9_laws_76 ?_
  refine x_istore hz [(4, .int (s.1 ||| (1 <<< (s.2.1 &&& 31)))), (0, .ref (h_b Z + 0)), (1, .int v1), (5, .int s.2.1)] dX9_laws_77 rfl rfl ?_
  refine x_iinc hz (s.2.1 + 1) [(5, .int (s.2.1 + 1)), (4, .int (s.1 ||| (1 <<< (s.2.1 &&& 31)))), (0, .ref (h_b Z + 0)), (1, .int v1)] dX9_laws_79 3 rfl rfl rfl rfl ?_
  refine x_goto hz dX9_laws_82 ?_
  exact x_sub [2, 3, 1, 0] rfl (hk24 (s.1 ||| (1 <<< (s.2.1 &&& 31)), s.2.1 + 1, q64.2))
set_option maxRecDepth 10000 in
set_option maxHeartbeats 4000000 in
theorem wX9_laws {Z : hZ} {n : Nat} (hz : hOK Z hYx cX9_laws RX9 6 (n + 5) (some .int)) (a1 : Int32) (a2 : Int32) (M : hMem) : hW Z rtM M 0 [(0, .ref (h_b Z + 0)), (1, .int a1), (2, .int a2)] [] (fX9_laws a1 a2 M) := by
  unfold fX9_laws
  refine x_aload_n hz dX9_laws_0 rfl 0 rfl ?_
  refine x_iload_n hz dX9_laws_1 rfl 1 rfl ?_
  refine x_iload_n hz dX9_laws_2 rfl 2 rfl ?_
  refine x_bind (fun q3 hq3 => ?_)
  refine x_callV hz mv_X9_283 sx_0 (by decide) rfl rfl (kX9_refusalOfWay (n := (n + 2)) a1 a2 M q3 hq3) rfl (av := [.int a1, .int a2]) (rest := []) rfl rfl (Nat.le_of_ble_eq_true rfl) dX9_laws_3 ?_
  refine x_istore_n hz [(3, .int q3), (0, .ref (h_b Z + 0)), (1, .int a1), (2, .int a2)] dX9_laws_6 rfl rfl rfl ?_
  refine x_iload_n hz dX9_laws_7 rfl 0 rfl ?_
  refine x_if_eq hz dX9_laws_8 ?_ ?_
  · refine x_aload_n hz dX9_laws_13 rfl 1 rfl ?_
    refine x_iload_n hz dX9_laws_14 rfl 3 rfl ?_
    refine x_bind (fun q15 hq15 => ?_)
    refine x_callV hz mv_X9_207 sx_0 (by decide) rfl rfl (kX9_think (n := (n + 2)) a2 M q15 hq15) rfl (av := [.int a2]) (rest := []) rfl rfl (Nat.le_of_ble_eq_true rfl) dX9_laws_15 ?_
    refine x_iconst hz 0 dX9_laws_18 rfl ?_
    refine x_istore hz [(4, .int 0), (3, .int q3), (0, .ref (h_b Z + 0)), (1, .int a1), (2, .int a2)] dX9_laws_19 rfl rfl ?_
    refine x_iconst hz 0 dX9_laws_21 rfl ?_
    refine x_istore hz [(5, .int 0), (4, .int 0), (3, .int q3), (0, .ref (h_b Z + 0)), (1, .int a1), (2, .int a2)] dX9_laws_22 rfl rfl ?_
    exact x_sub [3, 4, 1, 0] rfl (wX9_laws_L24 hz a1 h_FU (0, 0, q15))
  refine x_iload_n hz dX9_laws_11 rfl 0 rfl ?_
  exact x_iret hz rfl dX9_laws_12
theorem kX9_laws {l : Launch} {dd : hDD} {b n : Nat} (a1 : Int32) (a2 : Int32) (M : hMem) (r : Int32 × hMem) (h : fX9_laws a1 a2 M = some r) : hC l hYx dd b yX9_laws cX9_laws 6 (some .int) (n + 5) [.ref (b + 0), .int a1, .int a2] M (some (.int r.1), r.2) :=
  h_met (av := fun b => [.ref (b + 0), .int a1, .int a2]) (rt := rtM) (by decide) (Nat.le_of_ble_eq_true rfl) (fun Z hz => wX9_laws (n := n) hz a1 a2 M) r h
set_option maxRecDepth 10000 in
set_option maxHeartbeats 4000000 in
theorem wX6_becomeEmpty_L12 {Z : hZ} {n : Nat} (hz : hOK Z hYx cX6_becomeEmpty RX6 4 (n + 0) none)  (v0 : Nat) (hv0 : h_is hYx v0 5 0)   : ∀ (i : Nat) (s : Int32 × hMem), hW Z rtV s.2 12 [(0, .ref (h_b Z + v0)), (3, .int s.1)] [] (h_lp (fX6_becomeEmpty_L12 v0) i s) := by
  refine x_loop (Ms := fun s : Int32 × hMem => s.2) (Ls := fun s : Int32 × hMem => [(0, .ref (h_b Z + v0)), (3, .int s.1)]) ?_
  intro k12 hk12 s
  show hW Z rtV s.2 12 [(0, .ref (h_b Z + v0)), (3, .int s.1)] [] (fX6_becomeEmpty_L12 v0 k12 s)
  unfold fX6_becomeEmpty_L12
  refine x_iload_n hz dX6_becomeEmpty_12 rfl 1 rfl ?_
  refine x_bipush hz 40 dX6_becomeEmpty_13 rfl ?_
  refine x_icmp_ge hz dX6_becomeEmpty_15 ?_ ?_
  · exact x_vret hz rfl dX6_becomeEmpty_31
  refine x_aload_n hz dX6_becomeEmpty_18 rfl 0 rfl ?_
  refine x_getr hz hv0 fl_X6_18 rfl (gv_5_2 hv0) (Nat.succ_ne_zero _) dX6_becomeEmpty_19 ?_
  refine x_iload_n hz dX6_becomeEmpty_22 rfl 1 rfl ?_
  refine x_iconst hz 0 dX6_becomeEmpty_23 rfl ?_
  refine x_iast hz (gs_5_2 hv0) dX6_becomeEmpty_24 (fun hi24 => ?_)
  refine x_iinc hz (s.1 + 1) [(3, .int (s.1 + 1)), (0, .ref (h_b Z + v0))] dX6_becomeEmpty_25 1 rfl rfl rfl rfl ?_
  refine x_goto hz dX6_becomeEmpty_28 ?_
  exact x_sub [1, 0] rfl (hk12 (s.1 + 1, h_up s.2 (v0 + 1) s.1.toNatClampNeg 0))
set_option maxRecDepth 10000 in
set_option maxHeartbeats 4000000 in
theorem wX6_becomeEmpty {Z : hZ} {n : Nat} (hz : hOK Z hYx cX6_becomeEmpty RX6 4 (n + 0) none) (a0 : Nat) (a1 : Int32) (a2 : Int32) (M : hMem) : hW Z rtV M 0 [(0, .ref (h_b Z + a0)), (1, .int a1), (2, .int a2)] [] (fX6_becomeEmpty a0 a1 a2 M) := by
  unfold fX6_becomeEmpty
  refine x_guard (fun hpa0 => ?_)
  refine x_aload_n hz dX6_becomeEmpty_0 rfl 0 rfl ?_
  refine x_iload_n hz dX6_becomeEmpty_1 rfl 1 rfl ?_
  refine x_puti hz (h_isB_is hpa0) fp_X6_9 rfl dX6_becomeEmpty_2 ?_
  refine x_aload_n hz dX6_becomeEmpty_5 rfl 0 rfl ?_
  refine x_iload_n hz dX6_becomeEmpty_6 rfl 2 rfl ?_
  refine x_puti hz (h_isB_is hpa0) fp_X6_15 rfl dX6_becomeEmpty_7 ?_
  refine x_iconst hz 0 dX6_becomeEmpty_10 rfl ?_
  refine x_istore_n hz [(3, .int 0), (0, .ref (h_b Z + a0)), (1, .int a1), (2, .int a2)] dX6_becomeEmpty_11 rfl rfl rfl ?_
  exact x_sub [1, 0] rfl (wX6_becomeEmpty_L12 hz a0 (h_isB_is hpa0) h_FU (0, h_up (h_up M a0 0 a1) a0 1 a2))
theorem kX6_becomeEmpty {l : Launch} {dd : hDD} {b n : Nat} (a0 : Nat) (a1 : Int32) (a2 : Int32) (M : hMem) (r : hMem) (h : fX6_becomeEmpty a0 a1 a2 M = some r) : hC l hYx dd b yX6_becomeEmpty cX6_becomeEmpty 4 none (n + 0) [.ref (b + a0), .int a1, .int a2] M (none, r) :=
  h_met (av := fun b => [.ref (b + a0), .int a1, .int a2]) (rt := rtV) (by decide) (Nat.le_of_ble_eq_true rfl) (fun Z hz => wX6_becomeEmpty (n := n) hz a0 a1 a2 M) r h
set_option maxRecDepth 10000 in
set_option maxHeartbeats 4000000 in
theorem wX6_put {Z : hZ} {n : Nat} (hz : hOK Z hYx cX6_put RX6 3 (n + 0) none) (a0 : Nat) (a1 : Int32) (a2 : Int32) (M : hMem) : hW Z rtV M 0 [(0, .ref (h_b Z + a0)), (1, .int a1), (2, .int a2)] [] (fX6_put a0 a1 a2 M) := by
  unfold fX6_put
  refine x_guard (fun hpa0 => ?_)
  refine x_iload_n hz dX6_put_0 rfl 1 rfl ?_
  refine x_if_lt hz dX6_put_1 ?_ ?_
  · exact x_vret hz rfl dX6_put_12
  refine x_iload_n hz dX6_put_4 rfl 1 rfl ?_
  refine x_aload_n hz dX6_put_5 rfl 0 rfl ?_
  refine x_geti hz (h_isB_is hpa0) fl_X6_15 rfl dX6_put_6 ?_
  refine x_icmp_lt hz dX6_put_9 ?_ ?_
  · refine x_aload_n hz dX6_put_13 rfl 0 rfl ?_
    refine x_getr hz (h_isB_is hpa0) fl_X6_18 rfl (gv_5_2 (h_isB_is hpa0)) (Nat.succ_ne_zero _) dX6_put_14 ?_
    refine x_iload_n hz dX6_put_17 rfl 1 rfl ?_
    refine x_aload_n hz dX6_put_18 rfl 0 rfl ?_
    refine x_geti hz (h_isB_is hpa0) fl_X6_9 rfl dX6_put_19 ?_
    refine x_if_ne hz dX6_put_22 ?_ ?_
    · refine x_aload_n hz dX6_put_30 rfl 0 rfl ?_
      refine x_geti hz (h_isB_is hpa0) fl_X6_9 rfl dX6_put_31 ?_
      refine x_iconst hz 1 dX6_put_34 rfl ?_
      refine x_icmp_ne hz dX6_put_35 ?_ ?_
      · refine x_iload_n hz dX6_put_43 rfl 2 rfl ?_
        refine x_iast hz (gs_5_2 (h_isB_is hpa0)) dX6_put_44 (fun hi44 => ?_)
        exact x_vret hz rfl dX6_put_45
      refine x_iload_n hz dX6_put_38 rfl 2 rfl ?_
      refine x_i2s hz dX6_put_39 ?_
      refine x_goto hz dX6_put_40 ?_
      refine x_iast hz (gs_5_2 (h_isB_is hpa0)) dX6_put_44 (fun hi44 => ?_)
      exact x_vret hz rfl dX6_put_45
    refine x_iload_n hz dX6_put_25 rfl 2 rfl ?_
    refine x_i2b hz dX6_put_26 ?_
    refine x_goto hz dX6_put_27 ?_
    refine x_iast hz (gs_5_2 (h_isB_is hpa0)) dX6_put_44 (fun hi44 => ?_)
    exact x_vret hz rfl dX6_put_45
  exact x_vret hz rfl dX6_put_12
theorem kX6_put {l : Launch} {dd : hDD} {b n : Nat} (a0 : Nat) (a1 : Int32) (a2 : Int32) (M : hMem) (r : hMem) (h : fX6_put a0 a1 a2 M = some r) : hC l hYx dd b yX6_put cX6_put 3 none (n + 0) [.ref (b + a0), .int a1, .int a2] M (none, r) :=
  h_met (av := fun b => [.ref (b + a0), .int a1, .int a2]) (rt := rtV) (by decide) (Nat.le_of_ble_eq_true rfl) (fun Z hz => wX6_put (n := n) hz a0 a1 a2 M) r h
set_option maxRecDepth 10000 in
set_option maxHeartbeats 4000000 in
theorem wX9_film_L67 {Z : hZ} {n : Nat} (hz : hOK Z hYx cX9_film RX9 5 (n + 5) (some .int))  (v1 : Int32) (v3 : Int32)   : ∀ (i : Nat) (s : Int32 × hMem), hW Z rtM s.2 67 [(0, .ref (h_b Z + 0)), (1, .int v1), (3, .int v3), (4, .int s.1)] [] (h_lp (fX9_film_L67 v1 v3) i s) := by
  refine x_loop (Ms := fun s : Int32 × hMem => s.2) (Ls := fun s : Int32 × hMem => [(0, .ref (h_b Z + 0)), (1, .int v1), (3, .int v3), (4, .int s.1)]) ?_
  intro k67 hk67 s
  show hW Z rtM s.2 67 [(0, .ref (h_b Z + 0)), (1, .int v1), (3, .int v3), (4, .int s.1)] [] (fX9_film_L67 v1 v3 k67 s)
  unfold fX9_film_L67
  refine x_iload hz dX9_film_67 3 rfl ?_
  refine x_iload_n hz dX9_film_69 rfl 2 rfl ?_
  refine x_icmp_ge hz dX9_film_70 ?_ ?_
  · refine x_iload_n hz dX9_film_103 rfl 2 rfl ?_
    exact x_iret hz rfl dX9_film_104
  refine x_aload_n hz dX9_film_73 rfl 0 rfl ?_
  refine x_getr hz sx_0 fl_X9_42 rfl rx_0_6 (by decide) dX9_film_74 ?_
  refine x_iload_n hz dX9_film_77 rfl 1 rfl ?_
  refine x_guard (fun hi78 => ?_)
  refine x_aald0 hz (q := (80 + 2 * v1.toNatClampNeg)) 4 (fun _ => rfl) sx_39 (by decide) hi78 rfl (by omega) dX9_film_78 ?_
  refine x_iload hz dX9_film_79 3 rfl ?_
  refine x_aload_n hz dX9_film_81 rfl 0 rfl ?_
  refine x_getr hz sx_0 fl_X9_49 rfl rx_0_7 (by decide) dX9_film_82 ?_
  refine x_getr hz sx_40 fl_X9_223 rfl rx_40_9 (by decide) dX9_film_85 ?_
  refine x_iload hz dX9_film_88 3 rfl ?_
  refine x_iald hz sx_47 dX9_film_90 (fun hi90 => ?_)
  refine x_callS hz ms_X9_174 (kX9_squareOf (n := (n + 4)) (s.2 47 s.1.toNatClampNeg) s.2) rfl (av := [.int (s.2 47 s.1.toNatClampNeg)]) (rest := [.int s.1, .ref (h_b Z + (80 + 2 * v1.toNatClampNeg))]) rfl rfl (Nat.le_of_ble_eq_true rfl) dX9_film_91 ?_
  refine x_bind (fun q94 hq94 => ?_)
  refine x_callV hz mv_X9_300 (ge_39 hi78) (by decide) rfl rfl (kX6_put (n := (n + 4)) (80 + 2 * v1.toNatClampNeg) s.1 (fX9_squareOf (s.2 47 s.1.toNatClampNeg) s.2) s.2 q94 hq94) rfl (av := [.int s.1, .int (fX9_squareOf (s.2 47 s.1.toNatClampNeg) s.2)]) (rest := []) rfl rfl (Nat.le_of_ble_eq_true rfl) dX9_film_94 ?_
  refine x_iinc hz (s.1 + 1) [(4, .int (s.1 + 1)), (0, .ref (h_b Z + 0)), (1, .int v1), (3, .int v3)] dX9_film_97 3 rfl rfl rfl rfl ?_
  refine x_goto hz dX9_film_100 ?_
  exact x_sub [1, 2, 3, 0] rfl (hk67 (s.1 + 1, q94))
set_option maxRecDepth 10000 in
set_option maxHeartbeats 4000000 in
theorem wX9_film {Z : hZ} {n : Nat} (hz : hOK Z hYx cX9_film RX9 5 (n + 5) (some .int)) (a1 : Int32) (a2 : Int32) (a3 : Int32) (M : hMem) : hW Z rtM M 0 [(0, .ref (h_b Z + 0)), (1, .int a1), (2, .int a2), (3, .int a3)] [] (fX9_film a1 a2 a3 M) := by
  unfold fX9_film
  refine x_iload_n hz dX9_film_0 rfl 1 rfl ?_
  refine x_callS hz ms_X9_293 (kX9_isSheet (n := (n + 4)) a1 M) rfl (av := [.int a1]) (rest := []) rfl rfl (Nat.le_of_ble_eq_true rfl) dX9_film_1 ?_
  refine x_if_ne hz dX9_film_4 ?_ ?_
  · refine x_aload_n hz dX9_film_10 rfl 0 rfl ?_
    refine x_iload_n hz dX9_film_11 rfl 2 rfl ?_
    refine x_callV hz mv_X9_171 sx_0 (by decide) rfl rfl (kX9_isHat (n := (n + 4)) a2 M) rfl (av := [.int a2]) (rest := []) rfl rfl (Nat.le_of_ble_eq_true rfl) dX9_film_12 ?_
    refine x_if_ne hz dX9_film_15 ?_ ?_
    · refine x_iload_n hz dX9_film_21 rfl 3 rfl ?_
      refine x_if_lt hz dX9_film_22 ?_ ?_
      · refine x_bipush hz (-7) dX9_film_31 rfl ?_
        exact x_iret hz rfl dX9_film_33
      refine x_iload_n hz dX9_film_25 rfl 3 rfl ?_
      refine x_bipush hz 25 dX9_film_26 rfl ?_
      refine x_icmp_le hz dX9_film_28 ?_ ?_
      · refine x_aload_n hz dX9_film_34 rfl 0 rfl ?_
        refine x_iload_n hz dX9_film_35 rfl 2 rfl ?_
        refine x_bind (fun q36 hq36 => ?_)
        refine x_callV hz mv_X9_207 sx_0 (by decide) rfl rfl (kX9_think (n := (n + 2)) a2 M q36 hq36) rfl (av := [.int a2]) (rest := []) rfl rfl (Nat.le_of_ble_eq_true rfl) dX9_film_36 ?_
        refine x_aload_n hz dX9_film_39 rfl 0 rfl ?_
        refine x_getr hz sx_0 fl_X9_49 rfl rx_0_7 (by decide) dX9_film_40 ?_
        refine x_aload_n hz dX9_film_43 rfl 0 rfl ?_
        refine x_getr hz sx_0 fl_X9_49 rfl rx_0_7 (by decide) dX9_film_44 ?_
        refine x_getr hz sx_40 fl_X9_223 rfl rx_40_9 (by decide) dX9_film_47 ?_
        refine x_bind (fun q50 hq50 => ?_)
        refine x_callV hz mv_X9_226 sx_40 (by decide) rfl rfl (kX8_follow (n := n) 47 q36 q50 hq50) rfl (av := [.ref (h_b Z + 47)]) (rest := []) rfl rfl (Nat.le_of_ble_eq_true rfl) dX9_film_50 ?_
        refine x_aload_n hz dX9_film_53 rfl 0 rfl ?_
        refine x_getr hz sx_0 fl_X9_42 rfl rx_0_6 (by decide) dX9_film_54 ?_
        refine x_iload_n hz dX9_film_57 rfl 1 rfl ?_
        refine x_guard (fun hi58 => ?_)
        refine x_aald0 hz (q := (80 + 2 * a1.toNatClampNeg)) 4 (fun _ => rfl) sx_39 (by decide) hi58 rfl (by omega) dX9_film_58 ?_
        refine x_iconst hz 2 dX9_film_59 rfl ?_
        refine x_iload_n hz dX9_film_60 rfl 3 rfl ?_
        refine x_bind (fun q61 hq61 => ?_)
        refine x_callV hz mv_X9_296 (ge_39 hi58) (by decide) rfl rfl (kX6_becomeEmpty (n := (n + 4)) (80 + 2 * a1.toNatClampNeg) 2 a3 q50 q61 hq61) rfl (av := [.int 2, .int a3]) (rest := []) rfl rfl (Nat.le_of_ble_eq_true rfl) dX9_film_61 ?_
        refine x_iconst hz 0 dX9_film_64 rfl ?_
        refine x_istore hz [(4, .int 0), (0, .ref (h_b Z + 0)), (1, .int a1), (2, .int a2), (3, .int a3)] dX9_film_65 rfl rfl ?_
        exact x_sub [1, 2, 4, 0] rfl (wX9_film_L67 hz a1 a3 h_FU (0, q61))
      refine x_bipush hz (-7) dX9_film_31 rfl ?_
      exact x_iret hz rfl dX9_film_33
    refine x_bipush hz (-5) dX9_film_18 rfl ?_
    exact x_iret hz rfl dX9_film_20
  refine x_bipush hz (-2) dX9_film_7 rfl ?_
  exact x_iret hz rfl dX9_film_9
theorem kX9_film {l : Launch} {dd : hDD} {b n : Nat} (a1 : Int32) (a2 : Int32) (a3 : Int32) (M : hMem) (r : Int32 × hMem) (h : fX9_film a1 a2 a3 M = some r) : hC l hYx dd b yX9_film cX9_film 5 (some .int) (n + 5) [.ref (b + 0), .int a1, .int a2, .int a3] M (some (.int r.1), r.2) :=
  h_met (av := fun b => [.ref (b + 0), .int a1, .int a2, .int a3]) (rt := rtM) (by decide) (Nat.le_of_ble_eq_true rfl) (fun Z hz => wX9_film (n := n) hz a1 a2 a3 M) r h
set_option maxRecDepth 10000 in
set_option maxHeartbeats 4000000 in
theorem wX9_isSeed {Z : hZ} {n : Nat} (hz : hOK Z hYx cX9_isSeed RX9 1 (n + 0) (some .boolean)) (a0 : Int32) (M : hMem) : hW Z (rtP M) M 0 [(0, .int a0)] [] (some (fX9_isSeed a0 M)) := by
  unfold fX9_isSeed
  refine x_iload_n hz dX9_isSeed_0 rfl 0 rfl ?_
  refine x_pull ?_
  refine x_if_lt hz dX9_isSeed_1 ?_ ?_
  · refine x_iconst hz 0 dX9_isSeed_15 rfl ?_
    exact x_zret hz rfl rfl dX9_isSeed_16
  refine x_iload_n hz dX9_isSeed_4 rfl 0 rfl ?_
  refine x_ldcw hz 99999 dX9_isSeed_5 kc_X9_340 ?_
  refine x_pull ?_
  refine x_icmp_gt hz dX9_isSeed_8 ?_ ?_
  · refine x_iconst hz 0 dX9_isSeed_15 rfl ?_
    exact x_zret hz rfl rfl dX9_isSeed_16
  refine x_iconst hz 1 dX9_isSeed_11 rfl ?_
  refine x_goto hz dX9_isSeed_12 ?_
  exact x_zret hz rfl rfl dX9_isSeed_16
theorem bX9_isSeed (a0 : Int32) (M : hMem) : narrow .boolean (.int (fX9_isSeed a0 M)) = .int (fX9_isSeed a0 M) := by
  unfold fX9_isSeed
  repeat (first | rfl | split)
theorem kX9_isSeed {l : Launch} {dd : hDD} {b n : Nat} (a0 : Int32) (M : hMem) : hC l hYx dd b yX9_isSeed cX9_isSeed 1 (some .boolean) (n + 0) [.int a0] M (some (.int (fX9_isSeed a0 M)), M) :=
  h_met (av := fun b => [.int a0]) (rt := (rtP M)) (by decide) (Nat.le_of_ble_eq_true rfl) (fun Z hz => wX9_isSeed (n := n) hz a0 M) _ rfl
set_option maxRecDepth 10000 in
set_option maxHeartbeats 4000000 in
theorem wX8_drawGusts_L8 {Z : hZ} {n : Nat} (hz : hOK Z hYx cX8_drawGusts RX8 5 (n + 0) none)     : ∀ (i : Nat) (s : Int64 × Int32 × hMem), hW Z rtV s.2.2 8 [(0, .ref (h_b Z + 40)), (2, .long s.1), (4, .int s.2.1)] [] (h_lp (fX8_drawGusts_L8) i s) := by
  refine x_loop (Ms := fun s : Int64 × Int32 × hMem => s.2.2) (Ls := fun s : Int64 × Int32 × hMem => [(0, .ref (h_b Z + 40)), (2, .long s.1), (4, .int s.2.1)]) ?_
  intro k8 hk8 s
  show hW Z rtV s.2.2 8 [(0, .ref (h_b Z + 40)), (2, .long s.1), (4, .int s.2.1)] [] (fX8_drawGusts_L8 k8 s)
  unfold fX8_drawGusts_L8
  refine x_iload hz dX8_drawGusts_8 2 rfl ?_
  refine x_bipush hz 24 dX8_drawGusts_10 rfl ?_
  refine x_icmp_ge hz dX8_drawGusts_12 ?_ ?_
  · exact x_vret hz rfl dX8_drawGusts_61
  refine x_lload_n hz dX8_drawGusts_15 rfl 1 rfl ?_
  refine x_ldc2 hz 48271 dX8_drawGusts_16 kc_X8_70 ?_
  refine x_lmul hz dX8_drawGusts_19 ?_
  refine x_ldc2 hz 2147483647 dX8_drawGusts_20 kc_X8_72 ?_
  refine x_lrem hz dX8_drawGusts_23 (by decide) ?_
  refine x_lstore_n hz [(2, .long (h_lrem (s.1 * 48271) 2147483647)), (0, .ref (h_b Z + 40)), (4, .int s.2.1)] dX8_drawGusts_24 rfl rfl rfl ?_
  refine x_aload_n hz dX8_drawGusts_25 rfl 1 rfl ?_
  refine x_getr hz sx_40 fl_X8_18 rfl rx_40_7 (by decide) dX8_drawGusts_26 ?_
  refine x_iload hz dX8_drawGusts_29 2 rfl ?_
  refine x_lload_n hz dX8_drawGusts_31 rfl 0 rfl ?_
  refine x_ldc2 hz 5 dX8_drawGusts_32 kc_X8_74 ?_
  refine x_lrem hz dX8_drawGusts_35 (by decide) ?_
  refine x_l2i hz dX8_drawGusts_36 ?_
  refine x_iast hz sx_45 dX8_drawGusts_37 (fun hi37 => ?_)
  refine x_aload_n hz dX8_drawGusts_38 rfl 1 rfl ?_
  refine x_getr hz sx_40 fl_X8_22 rfl rx_40_8 (by decide) dX8_drawGusts_39 ?_
  refine x_iload hz dX8_drawGusts_42 2 rfl ?_
  refine x_lload_n hz dX8_drawGusts_44 rfl 0 rfl ?_
  refine x_ldc2 hz 5 dX8_drawGusts_45 kc_X8_74 ?_
  refine x_ldiv hz dX8_drawGusts_48 (by decide) ?_
  refine x_ldc2 hz 10 dX8_drawGusts_49 kc_X8_76 ?_
  refine x_lrem hz dX8_drawGusts_52 (by decide) ?_
  refine x_l2i hz dX8_drawGusts_53 ?_
  refine x_iast hz sx_46 dX8_drawGusts_54 (fun hi54 => ?_)
  refine x_iinc hz (s.2.1 + 1) [(4, .int (s.2.1 + 1)), (2, .long (h_lrem (s.1 * 48271) 2147483647)), (0, .ref (h_b Z + 40))] dX8_drawGusts_55 2 rfl rfl rfl rfl ?_
  refine x_goto hz dX8_drawGusts_58 ?_
  exact x_sub [2, 1, 0] rfl (hk8 (h_lrem (s.1 * 48271) 2147483647, s.2.1 + 1, h_up (h_up s.2.2 45 s.2.1.toNatClampNeg ((h_lrem (h_lrem (s.1 * 48271) 2147483647) 5).toInt32)) 46 s.2.1.toNatClampNeg ((h_lrem ((h_lrem (s.1 * 48271) 2147483647) / 5) 10).toInt32)))
set_option maxRecDepth 10000 in
set_option maxHeartbeats 4000000 in
theorem wX8_drawGusts {Z : hZ} {n : Nat} (hz : hOK Z hYx cX8_drawGusts RX8 5 (n + 0) none) (a1 : Int32) (M : hMem) : hW Z rtV M 0 [(0, .ref (h_b Z + 40)), (1, .int a1)] [] (fX8_drawGusts a1 M) := by
  unfold fX8_drawGusts
  refine x_iload_n hz dX8_drawGusts_0 rfl 1 rfl ?_
  refine x_iconst hz 1 dX8_drawGusts_1 rfl ?_
  refine x_iadd hz dX8_drawGusts_2 ?_
  refine x_i2l hz dX8_drawGusts_3 ?_
  refine x_lstore_n hz [(2, .long ((a1 + 1).toInt64)), (0, .ref (h_b Z + 40)), (1, .int a1)] dX8_drawGusts_4 rfl rfl rfl ?_
  refine x_iconst hz 0 dX8_drawGusts_5 rfl ?_
  refine x_istore hz [(4, .int 0), (2, .long ((a1 + 1).toInt64)), (0, .ref (h_b Z + 40)), (1, .int a1)] dX8_drawGusts_6 rfl rfl ?_
  exact x_sub [2, 1, 0] rfl (wX8_drawGusts_L8 hz h_FU ((a1 + 1).toInt64, 0, M))
theorem kX8_drawGusts {l : Launch} {dd : hDD} {b n : Nat} (a1 : Int32) (M : hMem) (r : hMem) (h : fX8_drawGusts a1 M = some r) : hC l hYx dd b yX8_drawGusts cX8_drawGusts 5 none (n + 0) [.ref (b + 40), .int a1] M (none, r) :=
  h_met (av := fun b => [.ref (b + 40), .int a1]) (rt := rtV) (by decide) (Nat.le_of_ble_eq_true rfl) (fun Z hz => wX8_drawGusts (n := n) hz a1 M) r h
set_option maxRecDepth 10000 in
set_option maxHeartbeats 4000000 in
theorem wX9_drawn {Z : hZ} {n : Nat} (hz : hOK Z hYx cX9_drawn RX9 4 (n + 5) (some .int)) (a1 : Int32) (a2 : Int32) (a3 : Int32) (M : hMem) : hW Z rtM M 0 [(0, .ref (h_b Z + 0)), (1, .int a1), (2, .int a2), (3, .int a3)] [] (fX9_drawn a1 a2 a3 M) := by
  unfold fX9_drawn
  refine x_aload_n hz dX9_drawn_0 rfl 0 rfl ?_
  refine x_iload_n hz dX9_drawn_1 rfl 2 rfl ?_
  refine x_callV hz mv_X9_171 sx_0 (by decide) rfl rfl (kX9_isHat (n := (n + 4)) a2 M) rfl (av := [.int a2]) (rest := []) rfl rfl (Nat.le_of_ble_eq_true rfl) dX9_drawn_2 ?_
  refine x_if_ne hz dX9_drawn_5 ?_ ?_
  · refine x_iload_n hz dX9_drawn_11 rfl 1 rfl ?_
    refine x_callS hz ms_X9_302 (kX9_isSeed (n := (n + 4)) a1 M) rfl (av := [.int a1]) (rest := []) rfl rfl (Nat.le_of_ble_eq_true rfl) dX9_drawn_12 ?_
    refine x_if_eq hz dX9_drawn_15 ?_ ?_
    · refine x_bipush hz (-7) dX9_drawn_25 rfl ?_
      exact x_iret hz rfl dX9_drawn_27
    refine x_iload_n hz dX9_drawn_18 rfl 3 rfl ?_
    refine x_callS hz ms_X9_127 (kX9_isBehind (n := (n + 4)) a3 M) rfl (av := [.int a3]) (rest := []) rfl rfl (Nat.le_of_ble_eq_true rfl) dX9_drawn_19 ?_
    refine x_if_ne hz dX9_drawn_22 ?_ ?_
    · refine x_aload_n hz dX9_drawn_28 rfl 0 rfl ?_
      refine x_iload_n hz dX9_drawn_29 rfl 2 rfl ?_
      refine x_bind (fun q30 hq30 => ?_)
      refine x_callV hz mv_X9_207 sx_0 (by decide) rfl rfl (kX9_think (n := (n + 2)) a2 M q30 hq30) rfl (av := [.int a2]) (rest := []) rfl rfl (Nat.le_of_ble_eq_true rfl) dX9_drawn_30 ?_
      refine x_aload_n hz dX9_drawn_33 rfl 0 rfl ?_
      refine x_getr hz sx_0 fl_X9_49 rfl rx_0_7 (by decide) dX9_drawn_34 ?_
      refine x_iload_n hz dX9_drawn_37 rfl 1 rfl ?_
      refine x_bind (fun q38 hq38 => ?_)
      refine x_callV hz mv_X9_305 sx_40 (by decide) rfl rfl (kX8_drawGusts (n := (n + 4)) a1 q30 q38 hq38) rfl (av := [.int a1]) (rest := []) rfl rfl (Nat.le_of_ble_eq_true rfl) dX9_drawn_38 ?_
      refine x_aload_n hz dX9_drawn_41 rfl 0 rfl ?_
      refine x_getr hz sx_0 fl_X9_49 rfl rx_0_7 (by decide) dX9_drawn_42 ?_
      refine x_aload_n hz dX9_drawn_45 rfl 0 rfl ?_
      refine x_getr hz sx_0 fl_X9_49 rfl rx_0_7 (by decide) dX9_drawn_46 ?_
      refine x_geti hz sx_40 fl_X9_210 rfl dX9_drawn_49 ?_
      refine x_iconst hz 0 dX9_drawn_52 rfl ?_
      refine x_iload_n hz dX9_drawn_53 rfl 3 rfl ?_
      refine x_bind (fun q54 hq54 => ?_)
      refine x_callV hz mv_X9_213 sx_40 (by decide) rfl rfl (kX8_later (n := n) (q38 40 5) 0 a3 q38 q54 hq54) rfl (av := [.int (q38 40 5), .int 0, .int a3]) (rest := []) rfl rfl (Nat.le_of_ble_eq_true rfl) dX9_drawn_54 ?_
      refine x_callS hz ms_X9_174 (kX9_squareOf (n := (n + 4)) q54.1 q54.2) rfl (av := [.int q54.1]) (rest := []) rfl rfl (Nat.le_of_ble_eq_true rfl) dX9_drawn_57 ?_
      exact x_iret hz rfl dX9_drawn_60
    refine x_bipush hz (-7) dX9_drawn_25 rfl ?_
    exact x_iret hz rfl dX9_drawn_27
  refine x_bipush hz (-5) dX9_drawn_8 rfl ?_
  exact x_iret hz rfl dX9_drawn_10
theorem kX9_drawn {l : Launch} {dd : hDD} {b n : Nat} (a1 : Int32) (a2 : Int32) (a3 : Int32) (M : hMem) (r : Int32 × hMem) (h : fX9_drawn a1 a2 a3 M = some r) : hC l hYx dd b yX9_drawn cX9_drawn 4 (some .int) (n + 5) [.ref (b + 0), .int a1, .int a2, .int a3] M (some (.int r.1), r.2) :=
  h_met (av := fun b => [.ref (b + 0), .int a1, .int a2, .int a3]) (rt := rtM) (by decide) (Nat.le_of_ble_eq_true rfl) (fun Z hz => wX9_drawn (n := n) hz a1 a2 a3 M) r h
set_option maxRecDepth 10000 in
set_option maxHeartbeats 4000000 in
theorem wJ9_max_7cf53 {Z : hZ} {n : Nat} (hz : hOK Z hYx cJ9_max_7cf53 RJ9 2 (n + 0) (some .int)) (a0 : Int32) (a1 : Int32) (M : hMem) : hW Z (rtP M) M 0 [(0, .int a0), (1, .int a1)] [] (some (fJ9_max_7cf53 a0 a1 M)) := by
  unfold fJ9_max_7cf53
  refine x_iload_n hz dJ9_max_7cf53_0 rfl 0 rfl ?_
  refine x_iload_n hz dJ9_max_7cf53_1 rfl 1 rfl ?_
  refine x_pull ?_
  refine x_icmp_lt hz dJ9_max_7cf53_2 ?_ ?_
  · refine x_iload_n hz dJ9_max_7cf53_9 rfl 1 rfl ?_
    exact x_iret hz rfl dJ9_max_7cf53_10
  refine x_iload_n hz dJ9_max_7cf53_5 rfl 0 rfl ?_
  refine x_goto hz dJ9_max_7cf53_6 ?_
  exact x_iret hz rfl dJ9_max_7cf53_10
theorem kJ9_max_7cf53 {l : Launch} {dd : hDD} {b n : Nat} (a0 : Int32) (a1 : Int32) (M : hMem) : hC l hYx dd b yJ9_max_7cf53 cJ9_max_7cf53 2 (some .int) (n + 0) [.int a0, .int a1] M (some (.int (fJ9_max_7cf53 a0 a1 M)), M) :=
  h_met (av := fun b => [.int a0, .int a1]) (rt := (rtP M)) (by decide +kernel) (Nat.le_of_ble_eq_true rfl) (fun Z hz => wJ9_max_7cf53 (n := n) hz a0 a1 M) _ rfl
set_option maxRecDepth 10000 in
set_option maxHeartbeats 4000000 in
theorem wX9_commonDivisor_L6 {Z : hZ} {n : Nat} (hz : hOK Z hYx cX9_commonDivisor RX9 3 (n + 1) (some .int))  (v0 : Int32) (v1 : Int32) (M : hMem)  : ∀ (i : Nat) (s : Int32), hW Z (rtP M) M 6 [(0, .int v0), (1, .int v1), (2, .int s)] [] (h_lp (fX9_commonDivisor_L6 v0 v1 M) i s) := by
  refine x_loop (Ms := fun s : Int32 => M) (Ls := fun s : Int32 => [(0, .int v0), (1, .int v1), (2, .int s)]) ?_
  intro k6 hk6 s
  show hW Z (rtP M) M 6 [(0, .int v0), (1, .int v1), (2, .int s)] [] (fX9_commonDivisor_L6 v0 v1 M k6 s)
  unfold fX9_commonDivisor_L6
  refine x_iload_n hz dX9_commonDivisor_6 rfl 2 rfl ?_
  refine x_iconst hz 1 dX9_commonDivisor_7 rfl ?_
  refine x_icmp_le hz dX9_commonDivisor_8 ?_ ?_
  · refine x_iconst hz 1 dX9_commonDivisor_31 rfl ?_
    exact x_iret hz rfl dX9_commonDivisor_32
  refine x_iload_n hz dX9_commonDivisor_11 rfl 0 rfl ?_
  refine x_iload_n hz dX9_commonDivisor_12 rfl 2 rfl ?_
  refine x_case (fun hn13 => x_none) (fun hn13 => ?_)
  refine x_irem hz dX9_commonDivisor_13 hn13 ?_
  refine x_if_ne hz dX9_commonDivisor_14 ?_ ?_
  · refine x_iinc hz (s + (-1)) [(2, .int (s + (-1))), (0, .int v0), (1, .int v1)] dX9_commonDivisor_25 2 rfl rfl rfl rfl ?_
    refine x_goto hz dX9_commonDivisor_28 ?_
    exact x_sub [1, 2, 0] rfl (hk6 (s + (-1)))
  refine x_iload_n hz dX9_commonDivisor_17 rfl 1 rfl ?_
  refine x_iload_n hz dX9_commonDivisor_18 rfl 2 rfl ?_
  refine x_case (fun hn19 => x_none) (fun hn19 => ?_)
  refine x_irem hz dX9_commonDivisor_19 hn19 ?_
  refine x_if_ne hz dX9_commonDivisor_20 ?_ ?_
  · refine x_iinc hz (s + (-1)) [(2, .int (s + (-1))), (0, .int v0), (1, .int v1)] dX9_commonDivisor_25 2 rfl rfl rfl rfl ?_
    refine x_goto hz dX9_commonDivisor_28 ?_
    exact x_sub [1, 2, 0] rfl (hk6 (s + (-1)))
  refine x_iload_n hz dX9_commonDivisor_23 rfl 2 rfl ?_
  exact x_iret hz rfl dX9_commonDivisor_24
set_option maxRecDepth 10000 in
set_option maxHeartbeats 4000000 in
theorem wX9_commonDivisor {Z : hZ} {n : Nat} (hz : hOK Z hYx cX9_commonDivisor RX9 3 (n + 1) (some .int)) (a0 : Int32) (a1 : Int32) (M : hMem) : hW Z (rtP M) M 0 [(0, .int a0), (1, .int a1)] [] (fX9_commonDivisor a0 a1 M) := by
  unfold fX9_commonDivisor
  refine x_iload_n hz dX9_commonDivisor_0 rfl 0 rfl ?_
  refine x_iload_n hz dX9_commonDivisor_1 rfl 1 rfl ?_
  refine x_callS hz ms_X9_341 (kJ9_max_7cf53 (n := n) a0 a1 M) rfl (av := [.int a0, .int a1]) (rest := []) rfl rfl (Nat.le_of_ble_eq_true rfl) dX9_commonDivisor_2 ?_
  refine x_istore_n hz [(2, .int (fJ9_max_7cf53 a0 a1 M)), (0, .int a0), (1, .int a1)] dX9_commonDivisor_5 rfl rfl rfl ?_
  exact x_sub [1, 2, 0] rfl (wX9_commonDivisor_L6 hz a0 a1 M h_FU (fJ9_max_7cf53 a0 a1 M))
theorem kX9_commonDivisor {l : Launch} {dd : hDD} {b n : Nat} (a0 : Int32) (a1 : Int32) (M : hMem) (r : Int32) (h : fX9_commonDivisor a0 a1 M = some r) : hC l hYx dd b yX9_commonDivisor cX9_commonDivisor 3 (some .int) (n + 1) [.int a0, .int a1] M (some (.int r), M) :=
  h_met (av := fun b => [.int a0, .int a1]) (rt := (rtP M)) (by decide) (Nat.le_of_ble_eq_true rfl) (fun Z hz => wX9_commonDivisor (n := n) hz a0 a1 M) r h
set_option maxRecDepth 10000 in
set_option maxHeartbeats 4000000 in
theorem wX9_odds_L74 {Z : hZ} {n : Nat} (hz : hOK Z hYx cX9_odds RX9 7 (n + 6) (some .long))  (v1 : Int32) (v2 : Int32) (v3 : Int32) (v4 : Int32)   : ∀ (i : Nat) (s : Int32 × Int32 × hMem), hW Z rtLM s.2.2 74 [(0, .ref (h_b Z + 0)), (1, .int v1), (2, .int v2), (3, .int v3), (4, .int v4), (5, .int s.1), (6, .int s.2.1)] [] (h_lp (fX9_odds_L74 v1 v2 v3 v4) i s) := by
  refine x_loop (Ms := fun s : Int32 × Int32 × hMem => s.2.2) (Ls := fun s : Int32 × Int32 × hMem => [(0, .ref (h_b Z + 0)), (1, .int v1), (2, .int v2), (3, .int v3), (4, .int v4), (5, .int s.1), (6, .int s.2.1)]) ?_
  intro k74 hk74 s
  show hW Z rtLM s.2.2 74 [(0, .ref (h_b Z + 0)), (1, .int v1), (2, .int v2), (3, .int v3), (4, .int v4), (5, .int s.1), (6, .int s.2.1)] [] (fX9_odds_L74 v1 v2 v3 v4 k74 s)
  unfold fX9_odds_L74
  refine x_iload hz dX9_odds_74 6 rfl ?_
  refine x_iload_n hz dX9_odds_76 rfl 2 rfl ?_
  refine x_icmp_ge hz dX9_odds_77 ?_ ?_
  · refine x_iload hz dX9_odds_122 5 rfl ?_
    refine x_iload_n hz dX9_odds_124 rfl 2 rfl ?_
    refine x_bind (fun q125 hq125 => ?_)
    refine x_callS hz ms_X9_310 (kX9_commonDivisor (n := (n + 4)) s.1 v2 s.2.2 q125 hq125) rfl (av := [.int s.1, .int v2]) (rest := []) rfl rfl (Nat.le_of_ble_eq_true rfl) dX9_odds_125 ?_
    refine x_istore hz [(6, .int q125), (0, .ref (h_b Z + 0)), (1, .int v1), (2, .int v2), (3, .int v3), (4, .int v4), (5, .int s.1)] dX9_odds_128 rfl rfl ?_
    refine x_iload hz dX9_odds_130 5 rfl ?_
    refine x_if_ne hz dX9_odds_132 ?_ ?_
    · refine x_iload_n hz dX9_odds_144 rfl 3 rfl ?_
      refine x_iload hz dX9_odds_145 0 rfl ?_
      refine x_case (fun hn147 => x_none) (fun hn147 => ?_)
      refine x_idiv hz dX9_odds_147 hn147 ?_
      refine x_i2l hz dX9_odds_148 ?_
      exact x_lret hz rfl dX9_odds_149
    refine x_iload hz dX9_odds_135 6 rfl ?_
    refine x_iload hz dX9_odds_137 0 rfl ?_
    refine x_case (fun hn139 => x_none) (fun hn139 => ?_)
    refine x_idiv hz dX9_odds_139 hn139 ?_
    refine x_i2l hz dX9_odds_140 ?_
    refine x_goto hz dX9_odds_141 ?_
    exact x_lret hz rfl dX9_odds_149
  refine x_aload_n hz dX9_odds_80 rfl 0 rfl ?_
  refine x_getr hz sx_0 fl_X9_49 rfl rx_0_7 (by decide) dX9_odds_81 ?_
  refine x_iload_n hz dX9_odds_84 rfl 1 rfl ?_
  refine x_iload hz dX9_odds_85 6 rfl ?_
  refine x_iadd hz dX9_odds_87 ?_
  refine x_bind (fun q88 hq88 => ?_)
  refine x_callV hz mv_X9_305 sx_40 (by decide) rfl rfl (kX8_drawGusts (n := (n + 5)) (v1 + s.2.1) s.2.2 q88 hq88) rfl (av := [.int (v1 + s.2.1)]) (rest := []) rfl rfl (Nat.le_of_ble_eq_true rfl) dX9_odds_88 ?_
  refine x_aload_n hz dX9_odds_91 rfl 0 rfl ?_
  refine x_getr hz sx_0 fl_X9_49 rfl rx_0_7 (by decide) dX9_odds_92 ?_
  refine x_aload_n hz dX9_odds_95 rfl 0 rfl ?_
  refine x_getr hz sx_0 fl_X9_12 rfl rx_0_0 (by decide) dX9_odds_96 ?_
  refine x_getr hz sx_1 fl_X9_186 rfl rx_1_4 (by decide) dX9_odds_99 ?_
  refine x_iload_n hz dX9_odds_102 rfl 3 rfl ?_
  refine x_bipush hz 10 dX9_odds_103 rfl ?_
  refine x_irem hz dX9_odds_105 (by decide) ?_
  refine x_guard (fun hi106 => ?_)
  refine x_aald0 hz (q := (11 + (h_rem v3 10).toNatClampNeg)) 2 (fun _ => rfl) sx_6 (by decide) hi106 rfl (by omega) dX9_odds_106 ?_
  refine x_bind (fun q107 hq107 => ?_)
  refine x_callV hz mv_X9_276 sx_40 (by decide) rfl rfl (kX8_hadBy (n := n) (11 + (h_rem v3 10).toNatClampNeg) q88 q107 hq107) rfl (av := [.ref (h_b Z + (11 + (h_rem v3 10).toNatClampNeg))]) (rest := []) rfl rfl (Nat.le_of_ble_eq_true rfl) dX9_odds_107 ?_
  refine x_if_lt hz dX9_odds_110 ?_ ?_
  · refine x_iinc hz (s.2.1 + 1) [(6, .int (s.2.1 + 1)), (0, .ref (h_b Z + 0)), (1, .int v1), (2, .int v2), (3, .int v3), (4, .int v4), (5, .int s.1)] dX9_odds_116 6 rfl rfl rfl rfl ?_
    refine x_goto hz dX9_odds_119 ?_
    exact x_sub [1, 2, 3, 4, 5, 6, 0] rfl (hk74 (s.1, s.2.1 + 1, q107.2))
  refine x_iinc hz (s.1 + 1) [(5, .int (s.1 + 1)), (0, .ref (h_b Z + 0)), (1, .int v1), (2, .int v2), (3, .int v3), (4, .int v4), (6, .int s.2.1)] dX9_odds_113 5 rfl rfl rfl rfl ?_
  refine x_iinc hz (s.2.1 + 1) [(6, .int (s.2.1 + 1)), (5, .int (s.1 + 1)), (0, .ref (h_b Z + 0)), (1, .int v1), (2, .int v2), (3, .int v3), (4, .int v4)] dX9_odds_116 6 rfl rfl rfl rfl ?_
  refine x_goto hz dX9_odds_119 ?_
  exact x_sub [2, 3, 4, 5, 6, 1, 0] rfl (hk74 (s.1 + 1, s.2.1 + 1, q107.2))
set_option maxRecDepth 10000 in
set_option maxHeartbeats 4000000 in
theorem wX9_odds {Z : hZ} {n : Nat} (hz : hOK Z hYx cX9_odds RX9 7 (n + 6) (some .long)) (a1 : Int32) (a2 : Int32) (a3 : Int32) (a4 : Int32) (M : hMem) : hW Z rtLM M 0 [(0, .ref (h_b Z + 0)), (1, .int a1), (2, .int a2), (3, .int a3), (4, .int a4)] [] (fX9_odds a1 a2 a3 a4 M) := by
  unfold fX9_odds
  refine x_iload_n hz dX9_odds_0 rfl 1 rfl ?_
  refine x_callS hz ms_X9_302 (kX9_isSeed (n := (n + 5)) a1 M) rfl (av := [.int a1]) (rest := []) rfl rfl (Nat.le_of_ble_eq_true rfl) dX9_odds_1 ?_
  refine x_if_eq hz dX9_odds_4 ?_ ?_
  · refine x_ldc2 hz (-4611686018427387904) dX9_odds_26 kc_X9_308 ?_
    exact x_lret hz rfl dX9_odds_29
  refine x_iload_n hz dX9_odds_7 rfl 2 rfl ?_
  refine x_iconst hz 1 dX9_odds_8 rfl ?_
  refine x_icmp_lt hz dX9_odds_9 ?_ ?_
  · refine x_ldc2 hz (-4611686018427387904) dX9_odds_26 kc_X9_308 ?_
    exact x_lret hz rfl dX9_odds_29
  refine x_iload_n hz dX9_odds_12 rfl 2 rfl ?_
  refine x_bipush hz 30 dX9_odds_13 rfl ?_
  refine x_icmp_gt hz dX9_odds_15 ?_ ?_
  · refine x_ldc2 hz (-4611686018427387904) dX9_odds_26 kc_X9_308 ?_
    exact x_lret hz rfl dX9_odds_29
  refine x_iload hz dX9_odds_18 4 rfl ?_
  refine x_callS hz ms_X9_204 (kX9_isZeroOrOne (n := (n + 5)) a4 M) rfl (av := [.int a4]) (rest := []) rfl rfl (Nat.le_of_ble_eq_true rfl) dX9_odds_20 ?_
  refine x_if_ne hz dX9_odds_23 ?_ ?_
  · refine x_iload_n hz dX9_odds_30 rfl 3 rfl ?_
    refine x_if_lt hz dX9_odds_31 ?_ ?_
    · refine x_ldc2 hz (-4611686018427387904) dX9_odds_56 kc_X9_308 ?_
      exact x_lret hz rfl dX9_odds_59
    refine x_aload_n hz dX9_odds_34 rfl 0 rfl ?_
    refine x_iload_n hz dX9_odds_35 rfl 3 rfl ?_
    refine x_bipush hz 10 dX9_odds_36 rfl ?_
    refine x_idiv hz dX9_odds_38 (by decide) ?_
    refine x_callV hz mv_X9_171 sx_0 (by decide) rfl rfl (kX9_isHat (n := (n + 5)) (a3 / 10) M) rfl (av := [.int (a3 / 10)]) (rest := []) rfl rfl (Nat.le_of_ble_eq_true rfl) dX9_odds_39 ?_
    refine x_if_eq hz dX9_odds_42 ?_ ?_
    · refine x_ldc2 hz (-4611686018427387904) dX9_odds_56 kc_X9_308 ?_
      exact x_lret hz rfl dX9_odds_59
    refine x_aload_n hz dX9_odds_45 rfl 0 rfl ?_
    refine x_iload_n hz dX9_odds_46 rfl 3 rfl ?_
    refine x_bipush hz 10 dX9_odds_47 rfl ?_
    refine x_irem hz dX9_odds_49 (by decide) ?_
    refine x_callV hz mv_X9_201 sx_0 (by decide) rfl rfl (kX9_isCatcher (n := (n + 5)) (h_rem a3 10) M) rfl (av := [.int (h_rem a3 10)]) (rest := []) rfl rfl (Nat.le_of_ble_eq_true rfl) dX9_odds_50 ?_
    refine x_if_ne hz dX9_odds_53 ?_ ?_
    · refine x_aload_n hz dX9_odds_60 rfl 0 rfl ?_
      refine x_iload_n hz dX9_odds_61 rfl 3 rfl ?_
      refine x_bipush hz 10 dX9_odds_62 rfl ?_
      refine x_idiv hz dX9_odds_64 (by decide) ?_
      refine x_bind (fun q65 hq65 => ?_)
      refine x_callV hz mv_X9_207 sx_0 (by decide) rfl rfl (kX9_think (n := (n + 3)) (a3 / 10) M q65 hq65) rfl (av := [.int (a3 / 10)]) (rest := []) rfl rfl (Nat.le_of_ble_eq_true rfl) dX9_odds_65 ?_
      refine x_iconst hz 0 dX9_odds_68 rfl ?_
      refine x_istore hz [(5, .int 0), (0, .ref (h_b Z + 0)), (1, .int a1), (2, .int a2), (3, .int a3), (4, .int a4)] dX9_odds_69 rfl rfl ?_
      refine x_iconst hz 0 dX9_odds_71 rfl ?_
      refine x_istore hz [(6, .int 0), (5, .int 0), (0, .ref (h_b Z + 0)), (1, .int a1), (2, .int a2), (3, .int a3), (4, .int a4)] dX9_odds_72 rfl rfl ?_
      exact x_sub [2, 3, 4, 5, 6, 1, 0] rfl (wX9_odds_L74 hz a1 a2 a3 a4 h_FU (0, 0, q65))
    refine x_ldc2 hz (-4611686018427387904) dX9_odds_56 kc_X9_308 ?_
    exact x_lret hz rfl dX9_odds_59
  refine x_ldc2 hz (-4611686018427387904) dX9_odds_26 kc_X9_308 ?_
  exact x_lret hz rfl dX9_odds_29
theorem kX9_odds {l : Launch} {dd : hDD} {b n : Nat} (a1 : Int32) (a2 : Int32) (a3 : Int32) (a4 : Int32) (M : hMem) (r : Int64 × hMem) (h : fX9_odds a1 a2 a3 a4 M = some r) : hC l hYx dd b yX9_odds cX9_odds 7 (some .long) (n + 6) [.ref (b + 0), .int a1, .int a2, .int a3, .int a4] M (some (.long r.1), r.2) :=
  h_met (av := fun b => [.ref (b + 0), .int a1, .int a2, .int a3, .int a4]) (rt := rtLM) (by decide) (Nat.le_of_ble_eq_true rfl) (fun Z hz => wX9_odds (n := n) hz a1 a2 a3 a4 M) r h
set_option maxRecDepth 10000 in
set_option maxHeartbeats 4000000 in
theorem wX0_become {Z : hZ} {n : Nat} (hz : hOK Z hYx cX0_become RX0 2 (n + 0) none) (a0 : Nat) (a1 : Nat) (M : hMem) : hW Z rtV M 0 [(0, .ref (h_b Z + a0)), (1, .ref (h_b Z + a1))] [] (fX0_become a0 a1 M) := by
  unfold fX0_become
  refine x_guard (fun hpa0 => ?_)
  refine x_guard (fun hpa1 => ?_)
  refine x_aload_n hz dX0_become_0 rfl 0 rfl ?_
  refine x_aload_n hz dX0_become_1 rfl 1 rfl ?_
  refine x_geti hz (h_isB_is hpa1) fl_X0_7 rfl dX0_become_2 ?_
  refine x_puti hz (h_isB_is hpa0) fp_X0_7 rfl dX0_become_5 ?_
  refine x_aload_n hz dX0_become_8 rfl 0 rfl ?_
  refine x_aload_n hz dX0_become_9 rfl 1 rfl ?_
  refine x_geti hz (h_isB_is hpa1) fl_X0_13 rfl dX0_become_10 ?_
  refine x_puti hz (h_isB_is hpa0) fp_X0_13 rfl dX0_become_13 ?_
  refine x_aload_n hz dX0_become_16 rfl 0 rfl ?_
  refine x_aload_n hz dX0_become_17 rfl 1 rfl ?_
  refine x_geti hz (h_isB_is hpa1) fl_X0_16 rfl dX0_become_18 ?_
  refine x_puti hz (h_isB_is hpa0) fp_X0_16 rfl dX0_become_21 ?_
  exact x_vret hz rfl dX0_become_24
theorem kX0_become {l : Launch} {dd : hDD} {b n : Nat} (a0 : Nat) (a1 : Nat) (M : hMem) (r : hMem) (h : fX0_become a0 a1 M = some r) : hC l hYx dd b yX0_become cX0_become 2 none (n + 0) [.ref (b + a0), .ref (b + a1)] M (none, r) :=
  h_met (av := fun b => [.ref (b + a0), .ref (b + a1)]) (rt := rtV) (by decide) (Nat.le_of_ble_eq_true rfl) (fun Z hz => wX0_become (n := n) hz a0 a1 M) r h
set_option maxRecDepth 10000 in
set_option maxHeartbeats 4000000 in
theorem wX7_become_L74 {Z : hZ} {n : Nat} (hz : hOK Z hYx cX7_become RX7 3 (n + 1) none)  (v0 : Nat) (hv0 : h_is hYx v0 6 0) (v1 : Nat) (hv1 : h_is hYx v1 6 0)   : ∀ (i : Nat) (s : Int32 × hMem), hW Z rtV s.2 74 [(0, .ref (h_b Z + v0)), (1, .ref (h_b Z + v1)), (2, .int s.1)] [] (h_lp (fX7_become_L74 v0 v1) i s) := by
  refine x_loop (Ms := fun s : Int32 × hMem => s.2) (Ls := fun s : Int32 × hMem => [(0, .ref (h_b Z + v0)), (1, .ref (h_b Z + v1)), (2, .int s.1)]) ?_
  intro k74 hk74 s
  show hW Z rtV s.2 74 [(0, .ref (h_b Z + v0)), (1, .ref (h_b Z + v1)), (2, .int s.1)] [] (fX7_become_L74 v0 v1 k74 s)
  unfold fX7_become_L74
  refine x_iload_n hz dX7_become_74 rfl 2 rfl ?_
  refine x_iconst hz 4 dX7_become_75 rfl ?_
  refine x_icmp_ge hz dX7_become_76 ?_ ?_
  · refine x_aload_n hz dX7_become_100 rfl 0 rfl ?_
    refine x_aload_n hz dX7_become_101 rfl 1 rfl ?_
    refine x_geti hz hv1 fl_X7_48 rfl dX7_become_102 ?_
    refine x_puti hz hv0 fp_X7_48 rfl dX7_become_105 ?_
    refine x_aload_n hz dX7_become_108 rfl 0 rfl ?_
    refine x_aload_n hz dX7_become_109 rfl 1 rfl ?_
    refine x_geti hz hv1 fl_X7_52 rfl dX7_become_110 ?_
    refine x_puti hz hv0 fp_X7_52 rfl dX7_become_113 ?_
    refine x_aload_n hz dX7_become_116 rfl 0 rfl ?_
    refine x_aload_n hz dX7_become_117 rfl 1 rfl ?_
    refine x_geti hz hv1 fl_X7_55 rfl dX7_become_118 ?_
    refine x_puti hz hv0 fp_X7_55 rfl dX7_become_121 ?_
    exact x_vret hz rfl dX7_become_124
  refine x_aload_n hz dX7_become_79 rfl 0 rfl ?_
  refine x_getr hz hv0 fl_X7_29 rfl (gv_6_4 hv0) (Nat.succ_ne_zero _) dX7_become_80 ?_
  refine x_iload_n hz dX7_become_83 rfl 2 rfl ?_
  refine x_guard (fun hi84 => ?_)
  refine x_aald0 hz (q := (v0 + 10 + s.1.toNatClampNeg)) 2 (fun _ => rfl) (gs_6_4 hv0) (by decide) hi84 (gq_12 hv0 _) (by omega) dX7_become_84 ?_
  refine x_aload_n hz dX7_become_85 rfl 1 rfl ?_
  refine x_getr hz hv1 fl_X7_29 rfl (gv_6_4 hv1) (Nat.succ_ne_zero _) dX7_become_86 ?_
  refine x_iload_n hz dX7_become_89 rfl 2 rfl ?_
  refine x_guard (fun hi90 => ?_)
  refine x_aald0 hz (q := (v1 + 10 + s.1.toNatClampNeg)) 2 (fun _ => rfl) (gs_6_4 hv1) (by decide) hi90 (gq_12 hv1 _) (by omega) dX7_become_90 ?_
  refine x_bind (fun q91 hq91 => ?_)
  refine x_callV hz mv_X7_45 (gh_12 hv0 hi84) (by decide) rfl rfl (kX0_become (n := n) (v0 + 10 + s.1.toNatClampNeg) (v1 + 10 + s.1.toNatClampNeg) s.2 q91 hq91) rfl (av := [.ref (h_b Z + (v1 + 10 + s.1.toNatClampNeg))]) (rest := []) rfl rfl (Nat.le_of_ble_eq_true rfl) dX7_become_91 ?_
  refine x_iinc hz (s.1 + 1) [(2, .int (s.1 + 1)), (0, .ref (h_b Z + v0)), (1, .ref (h_b Z + v1))] dX7_become_94 2 rfl rfl rfl rfl ?_
  refine x_goto hz dX7_become_97 ?_
  exact x_sub [1, 2, 0] rfl (hk74 (s.1 + 1, q91))
set_option maxRecDepth 10000 in
set_option maxHeartbeats 4000000 in
theorem wX7_become_L46 {Z : hZ} {n : Nat} (hz : hOK Z hYx cX7_become RX7 3 (n + 1) none)  (v0 : Nat) (hv0 : h_is hYx v0 6 0) (v1 : Nat) (hv1 : h_is hYx v1 6 0)   : ∀ (i : Nat) (s : Int32 × hMem), hW Z rtV s.2 46 [(0, .ref (h_b Z + v0)), (1, .ref (h_b Z + v1)), (2, .int s.1)] [] (h_lp (fX7_become_L46 v0 v1) i s) := by
  refine x_loop (Ms := fun s : Int32 × hMem => s.2) (Ls := fun s : Int32 × hMem => [(0, .ref (h_b Z + v0)), (1, .ref (h_b Z + v1)), (2, .int s.1)]) ?_
  intro k46 hk46 s
  show hW Z rtV s.2 46 [(0, .ref (h_b Z + v0)), (1, .ref (h_b Z + v1)), (2, .int s.1)] [] (fX7_become_L46 v0 v1 k46 s)
  unfold fX7_become_L46
  refine x_iload_n hz dX7_become_46 rfl 2 rfl ?_
  refine x_iconst hz 4 dX7_become_47 rfl ?_
  refine x_icmp_ge hz dX7_become_48 ?_ ?_
  · refine x_iconst hz 0 dX7_become_72 rfl ?_
    refine x_istore_n hz [(2, .int 0), (0, .ref (h_b Z + v0)), (1, .ref (h_b Z + v1))] dX7_become_73 rfl rfl rfl ?_
    exact x_sub [1, 2, 0] rfl (wX7_become_L74 hz v0 hv0 v1 hv1 h_FU (0, s.2))
  refine x_aload_n hz dX7_become_51 rfl 0 rfl ?_
  refine x_getr hz hv0 fl_X7_23 rfl (gv_6_3 hv0) (Nat.succ_ne_zero _) dX7_become_52 ?_
  refine x_iload_n hz dX7_become_55 rfl 2 rfl ?_
  refine x_guard (fun hi56 => ?_)
  refine x_aald0 hz (q := (v0 + 6 + s.1.toNatClampNeg)) 1 (fun _ => rfl) (gs_6_3 hv0) (by decide) hi56 (gq_11 hv0 _) (by omega) dX7_become_56 ?_
  refine x_aload_n hz dX7_become_57 rfl 1 rfl ?_
  refine x_getr hz hv1 fl_X7_23 rfl (gv_6_3 hv1) (Nat.succ_ne_zero _) dX7_become_58 ?_
  refine x_iload_n hz dX7_become_61 rfl 2 rfl ?_
  refine x_guard (fun hi62 => ?_)
  refine x_aald0 hz (q := (v1 + 6 + s.1.toNatClampNeg)) 1 (fun _ => rfl) (gs_6_3 hv1) (by decide) hi62 (gq_11 hv1 _) (by omega) dX7_become_62 ?_
  refine x_bind (fun q63 hq63 => ?_)
  refine x_callV hz mv_X7_41 (gh_11 hv0 hi56) (by decide) rfl rfl (kX2_become (n := n) (v0 + 6 + s.1.toNatClampNeg) (v1 + 6 + s.1.toNatClampNeg) s.2 q63 hq63) rfl (av := [.ref (h_b Z + (v1 + 6 + s.1.toNatClampNeg))]) (rest := []) rfl rfl (Nat.le_of_ble_eq_true rfl) dX7_become_63 ?_
  refine x_iinc hz (s.1 + 1) [(2, .int (s.1 + 1)), (0, .ref (h_b Z + v0)), (1, .ref (h_b Z + v1))] dX7_become_66 2 rfl rfl rfl rfl ?_
  refine x_goto hz dX7_become_69 ?_
  exact x_sub [1, 2, 0] rfl (hk46 (s.1 + 1, q63))
set_option maxRecDepth 10000 in
set_option maxHeartbeats 4000000 in
theorem wX7_become {Z : hZ} {n : Nat} (hz : hOK Z hYx cX7_become RX7 3 (n + 1) none) (a0 : Nat) (a1 : Nat) (M : hMem) : hW Z rtV M 0 [(0, .ref (h_b Z + a0)), (1, .ref (h_b Z + a1))] [] (fX7_become a0 a1 M) := by
  unfold fX7_become
  refine x_guard (fun hpa0 => ?_)
  refine x_guard (fun hpa1 => ?_)
  refine x_aload_n hz dX7_become_0 rfl 1 rfl ?_
  refine x_getr hz (h_isB_is hpa1) fl_X7_9 rfl (gv_6_0 (h_isB_is hpa1)) (Nat.succ_ne_zero _) dX7_become_1 ?_
  refine x_iconst hz 0 dX7_become_4 rfl ?_
  refine x_aload_n hz dX7_become_5 rfl 0 rfl ?_
  refine x_getr hz (h_isB_is hpa0) fl_X7_9 rfl (gv_6_0 (h_isB_is hpa0)) (Nat.succ_ne_zero _) dX7_become_6 ?_
  refine x_iconst hz 0 dX7_become_9 rfl ?_
  refine x_iconst hz 3 dX7_become_10 rfl ?_
  refine x_acopy hz ac_X7_35 (gs_6_0 (h_isB_is hpa1)) (gs_6_0 (h_isB_is hpa0)) rfl (Nat.le_of_ble_eq_true rfl) dX7_become_11 (fun hg11 => ?_)
  refine x_aload_n hz dX7_become_14 rfl 1 rfl ?_
  refine x_getr hz (h_isB_is hpa1) fl_X7_15 rfl (gv_6_1 (h_isB_is hpa1)) (Nat.succ_ne_zero _) dX7_become_15 ?_
  refine x_iconst hz 0 dX7_become_18 rfl ?_
  refine x_aload_n hz dX7_become_19 rfl 0 rfl ?_
  refine x_getr hz (h_isB_is hpa0) fl_X7_15 rfl (gv_6_1 (h_isB_is hpa0)) (Nat.succ_ne_zero _) dX7_become_20 ?_
  refine x_iconst hz 0 dX7_become_23 rfl ?_
  refine x_bipush hz 24 dX7_become_24 rfl ?_
  refine x_acopy hz ac_X7_35 (gs_6_1 (h_isB_is hpa1)) (gs_6_1 (h_isB_is hpa0)) rfl (Nat.le_of_ble_eq_true rfl) dX7_become_26 (fun hg26 => ?_)
  refine x_aload_n hz dX7_become_29 rfl 1 rfl ?_
  refine x_getr hz (h_isB_is hpa1) fl_X7_18 rfl (gv_6_2 (h_isB_is hpa1)) (Nat.succ_ne_zero _) dX7_become_30 ?_
  refine x_iconst hz 0 dX7_become_33 rfl ?_
  refine x_aload_n hz dX7_become_34 rfl 0 rfl ?_
  refine x_getr hz (h_isB_is hpa0) fl_X7_18 rfl (gv_6_2 (h_isB_is hpa0)) (Nat.succ_ne_zero _) dX7_become_35 ?_
  refine x_iconst hz 0 dX7_become_38 rfl ?_
  refine x_bipush hz 24 dX7_become_39 rfl ?_
  refine x_acopy hz ac_X7_35 (gs_6_2 (h_isB_is hpa1)) (gs_6_2 (h_isB_is hpa0)) rfl (Nat.le_of_ble_eq_true rfl) dX7_become_41 (fun hg41 => ?_)
  refine x_iconst hz 0 dX7_become_44 rfl ?_
  refine x_istore_n hz [(2, .int 0), (0, .ref (h_b Z + a0)), (1, .ref (h_b Z + a1))] dX7_become_45 rfl rfl rfl ?_
  exact x_sub [1, 2, 0] rfl (wX7_become_L46 hz a0 (h_isB_is hpa0) a1 (h_isB_is hpa1) h_FU (0, h_cp (h_cp (h_cp M (a1 + 1) 0 (a0 + 1) 0 3) (a1 + 2) 0 (a0 + 2) 0 24) (a1 + 3) 0 (a0 + 3) 0 24))
theorem kX7_become {l : Launch} {dd : hDD} {b n : Nat} (a0 : Nat) (a1 : Nat) (M : hMem) (r : hMem) (h : fX7_become a0 a1 M = some r) : hC l hYx dd b yX7_become cX7_become 3 none (n + 1) [.ref (b + a0), .ref (b + a1)] M (none, r) :=
  h_met (av := fun b => [.ref (b + a0), .ref (b + a1)]) (rt := rtV) (by decide) (Nat.le_of_ble_eq_true rfl) (fun Z hz => wX7_become (n := n) hz a0 a1 M) r h
set_option maxRecDepth 10000 in
set_option maxHeartbeats 4000000 in
theorem wX9_image {Z : hZ} {n : Nat} (hz : hOK Z hYx cX9_image RX9 1 (n + 2) (some .int))  (M : hMem) : hW Z rtM M 0 [(0, .ref (h_b Z + 0))] [] (fX9_image M) := by
  unfold fX9_image
  refine x_aload_n hz dX9_image_0 rfl 0 rfl ?_
  refine x_getr hz sx_0 fl_X9_16 rfl rx_0_1 (by decide) dX9_image_1 ?_
  refine x_aload_n hz dX9_image_4 rfl 0 rfl ?_
  refine x_getr hz sx_0 fl_X9_12 rfl rx_0_0 (by decide) dX9_image_5 ?_
  refine x_bind (fun q8 hq8 => ?_)
  refine x_callV hz mv_X9_313 sx_15 (by decide) rfl rfl (kX7_become (n := n) 15 1 M q8 hq8) rfl (av := [.ref (h_b Z + 1)]) (rest := []) rfl rfl (Nat.le_of_ble_eq_true rfl) dX9_image_8 ?_
  refine x_aload_n hz dX9_image_11 rfl 0 rfl ?_
  refine x_iconst hz 1 dX9_image_12 rfl ?_
  refine x_putz hz sx_0 fp_X9_19 rfl rfl rfl dX9_image_13 ?_
  refine x_aload_n hz dX9_image_16 rfl 0 rfl ?_
  refine x_getr hz sx_0 fl_X9_12 rfl rx_0_0 (by decide) dX9_image_17 ?_
  refine x_geti hz sx_1 fl_X9_112 rfl dX9_image_20 ?_
  exact x_iret hz rfl dX9_image_23
theorem kX9_image {l : Launch} {dd : hDD} {b n : Nat}  (M : hMem) (r : Int32 × hMem) (h : fX9_image M = some r) : hC l hYx dd b yX9_image cX9_image 1 (some .int) (n + 2) [.ref (b + 0)] M (some (.int r.1), r.2) :=
  h_met (av := fun b => [.ref (b + 0)]) (rt := rtM) (by decide) (Nat.le_of_ble_eq_true rfl) (fun Z hz => wX9_image (n := n) hz  M) r h
set_option maxRecDepth 10000 in
set_option maxHeartbeats 4000000 in
theorem wX9_back {Z : hZ} {n : Nat} (hz : hOK Z hYx cX9_back RX9 1 (n + 2) (some .int))  (M : hMem) : hW Z rtM M 0 [(0, .ref (h_b Z + 0))] [] (fX9_back M) := by
  unfold fX9_back
  refine x_aload_n hz dX9_back_0 rfl 0 rfl ?_
  refine x_geti hz sx_0 fl_X9_19 rfl dX9_back_1 ?_
  refine x_if_ne hz dX9_back_4 ?_ ?_
  · refine x_aload_n hz dX9_back_10 rfl 0 rfl ?_
    refine x_getr hz sx_0 fl_X9_12 rfl rx_0_0 (by decide) dX9_back_11 ?_
    refine x_aload_n hz dX9_back_14 rfl 0 rfl ?_
    refine x_getr hz sx_0 fl_X9_16 rfl rx_0_1 (by decide) dX9_back_15 ?_
    refine x_bind (fun q18 hq18 => ?_)
    refine x_callV hz mv_X9_313 sx_1 (by decide) rfl rfl (kX7_become (n := n) 1 15 M q18 hq18) rfl (av := [.ref (h_b Z + 15)]) (rest := []) rfl rfl (Nat.le_of_ble_eq_true rfl) dX9_back_18 ?_
    refine x_aload_n hz dX9_back_21 rfl 0 rfl ?_
    refine x_getr hz sx_0 fl_X9_12 rfl rx_0_0 (by decide) dX9_back_22 ?_
    refine x_geti hz sx_1 fl_X9_112 rfl dX9_back_25 ?_
    exact x_iret hz rfl dX9_back_28
  refine x_bipush hz (-3) dX9_back_7 rfl ?_
  exact x_iret hz rfl dX9_back_9
theorem kX9_back {l : Launch} {dd : hDD} {b n : Nat}  (M : hMem) (r : Int32 × hMem) (h : fX9_back M = some r) : hC l hYx dd b yX9_back cX9_back 1 (some .int) (n + 2) [.ref (b + 0)] M (some (.int r.1), r.2) :=
  h_met (av := fun b => [.ref (b + 0)]) (rt := rtM) (by decide) (Nat.le_of_ble_eq_true rfl) (fun Z hz => wX9_back (n := n) hz  M) r h
set_option maxRecDepth 10000 in
set_option maxHeartbeats 4000000 in
theorem wX9_sheet_L43 {Z : hZ} {n : Nat} (hz : hOK Z hYx cX9_sheet RX9 4 (n + 1) (some .int))  (v1 : Int32) (v2 : Int32) (v3 : Int32) (M : hMem)  : hW Z rtM M 43 [(0, .ref (h_b Z + 0)), (1, .int v1), (2, .int v2), (3, .int v3)] [] (fX9_sheet_L43 v1 v2 v3 M) := by
  unfold fX9_sheet_L43
  refine x_aload_n hz dX9_sheet_43 rfl 0 rfl ?_
  refine x_getr hz sx_0 fl_X9_42 rfl rx_0_6 (by decide) dX9_sheet_44 ?_
  refine x_iload_n hz dX9_sheet_47 rfl 1 rfl ?_
  refine x_guard (fun hi48 => ?_)
  refine x_aald0 hz (q := (80 + 2 * v1.toNatClampNeg)) 4 (fun _ => rfl) sx_39 (by decide) hi48 rfl (by omega) dX9_sheet_48 ?_
  refine x_iload_n hz dX9_sheet_49 rfl 2 rfl ?_
  refine x_iload_n hz dX9_sheet_50 rfl 2 rfl ?_
  refine x_iconst hz (-1) dX9_sheet_51 rfl ?_
  refine x_icmp_ne hz dX9_sheet_52 ?_ ?_
  · refine x_iload_n hz dX9_sheet_59 rfl 3 rfl ?_
    refine x_bind (fun q60 hq60 => ?_)
    refine x_callV hz mv_X9_296 (ge_39 hi48) (by decide) rfl rfl (kX6_becomeEmpty (n := n) (80 + 2 * v1.toNatClampNeg) v2 v3 M q60 hq60) rfl (av := [.int v2, .int v3]) (rest := []) rfl rfl (Nat.le_of_ble_eq_true rfl) dX9_sheet_60 ?_
    refine x_iconst hz 1 dX9_sheet_63 rfl ?_
    exact x_iret hz rfl dX9_sheet_64
  refine x_iconst hz 0 dX9_sheet_55 rfl ?_
  refine x_goto hz dX9_sheet_56 ?_
  refine x_bind (fun q60 hq60 => ?_)
  refine x_callV hz mv_X9_296 (ge_39 hi48) (by decide) rfl rfl (kX6_becomeEmpty (n := n) (80 + 2 * v1.toNatClampNeg) v2 0 M q60 hq60) rfl (av := [.int v2, .int 0]) (rest := []) rfl rfl (Nat.le_of_ble_eq_true rfl) dX9_sheet_60 ?_
  refine x_iconst hz 1 dX9_sheet_63 rfl ?_
  exact x_iret hz rfl dX9_sheet_64
set_option maxRecDepth 10000 in
set_option maxHeartbeats 4000000 in
theorem wX9_sheet_L31 {Z : hZ} {n : Nat} (hz : hOK Z hYx cX9_sheet RX9 4 (n + 1) (some .int))  (v1 : Int32) (v2 : Int32) (v3 : Int32) (M : hMem)  : hW Z rtM M 31 [(0, .ref (h_b Z + 0)), (1, .int v1), (2, .int v2), (3, .int v3)] [] (fX9_sheet_L31 v1 v2 v3 M) := by
  unfold fX9_sheet_L31
  refine x_iload_n hz dX9_sheet_31 rfl 2 rfl ?_
  refine x_iconst hz (-1) dX9_sheet_32 rfl ?_
  refine x_icmp_eq hz dX9_sheet_33 ?_ ?_
  · exact x_sub [0, 1, 2, 3] rfl (wX9_sheet_L43 hz v1 v2 v3 M)
  refine x_iload_n hz dX9_sheet_36 rfl 3 rfl ?_
  refine x_if_ge hz dX9_sheet_37 ?_ ?_
  · exact x_sub [0, 1, 2, 3] rfl (wX9_sheet_L43 hz v1 v2 v3 M)
  refine x_bipush hz (-14) dX9_sheet_40 rfl ?_
  exact x_iret hz rfl dX9_sheet_42
set_option maxRecDepth 10000 in
set_option maxHeartbeats 4000000 in
theorem wX9_sheet {Z : hZ} {n : Nat} (hz : hOK Z hYx cX9_sheet RX9 4 (n + 1) (some .int)) (a1 : Int32) (a2 : Int32) (a3 : Int32) (M : hMem) : hW Z rtM M 0 [(0, .ref (h_b Z + 0)), (1, .int a1), (2, .int a2), (3, .int a3)] [] (fX9_sheet a1 a2 a3 M) := by
  unfold fX9_sheet
  refine x_iload_n hz dX9_sheet_0 rfl 1 rfl ?_
  refine x_callS hz ms_X9_293 (kX9_isSheet (n := n) a1 M) rfl (av := [.int a1]) (rest := []) rfl rfl (Nat.le_of_ble_eq_true rfl) dX9_sheet_1 ?_
  refine x_if_eq hz dX9_sheet_4 ?_ ?_
  · refine x_bipush hz (-2) dX9_sheet_28 rfl ?_
    exact x_iret hz rfl dX9_sheet_30
  refine x_iload_n hz dX9_sheet_7 rfl 2 rfl ?_
  refine x_iconst hz (-1) dX9_sheet_8 rfl ?_
  refine x_icmp_lt hz dX9_sheet_9 ?_ ?_
  · refine x_bipush hz (-2) dX9_sheet_28 rfl ?_
    exact x_iret hz rfl dX9_sheet_30
  refine x_iload_n hz dX9_sheet_12 rfl 2 rfl ?_
  refine x_iconst hz 2 dX9_sheet_13 rfl ?_
  refine x_icmp_gt hz dX9_sheet_14 ?_ ?_
  · refine x_bipush hz (-2) dX9_sheet_28 rfl ?_
    exact x_iret hz rfl dX9_sheet_30
  refine x_iload_n hz dX9_sheet_17 rfl 2 rfl ?_
  refine x_iconst hz (-1) dX9_sheet_18 rfl ?_
  refine x_icmp_eq hz dX9_sheet_19 ?_ ?_
  · exact x_sub [0, 1, 2, 3] rfl (wX9_sheet_L31 hz a1 a2 a3 M)
  refine x_iload_n hz dX9_sheet_22 rfl 3 rfl ?_
  refine x_bipush hz 40 dX9_sheet_23 rfl ?_
  refine x_icmp_le hz dX9_sheet_25 ?_ ?_
  · exact x_sub [0, 1, 2, 3] rfl (wX9_sheet_L31 hz a1 a2 a3 M)
  refine x_bipush hz (-2) dX9_sheet_28 rfl ?_
  exact x_iret hz rfl dX9_sheet_30
theorem kX9_sheet {l : Launch} {dd : hDD} {b n : Nat} (a1 : Int32) (a2 : Int32) (a3 : Int32) (M : hMem) (r : Int32 × hMem) (h : fX9_sheet a1 a2 a3 M = some r) : hC l hYx dd b yX9_sheet cX9_sheet 4 (some .int) (n + 1) [.ref (b + 0), .int a1, .int a2, .int a3] M (some (.int r.1), r.2) :=
  h_met (av := fun b => [.ref (b + 0), .int a1, .int a2, .int a3]) (rt := rtM) (by decide) (Nat.le_of_ble_eq_true rfl) (fun Z hz => wX9_sheet (n := n) hz a1 a2 a3 M) r h
set_option maxRecDepth 10000 in
set_option maxHeartbeats 4000000 in
theorem wX9_cell {Z : hZ} {n : Nat} (hz : hOK Z hYx cX9_cell RX9 4 (n + 1) (some .int)) (a1 : Int32) (a2 : Int32) (a3 : Int32) (M : hMem) : hW Z rtM M 0 [(0, .ref (h_b Z + 0)), (1, .int a1), (2, .int a2), (3, .int a3)] [] (fX9_cell a1 a2 a3 M) := by
  unfold fX9_cell
  refine x_iload_n hz dX9_cell_0 rfl 1 rfl ?_
  refine x_callS hz ms_X9_293 (kX9_isSheet (n := n) a1 M) rfl (av := [.int a1]) (rest := []) rfl rfl (Nat.le_of_ble_eq_true rfl) dX9_cell_1 ?_
  refine x_if_ne hz dX9_cell_4 ?_ ?_
  · refine x_aload_n hz dX9_cell_10 rfl 0 rfl ?_
    refine x_getr hz sx_0 fl_X9_42 rfl rx_0_6 (by decide) dX9_cell_11 ?_
    refine x_iload_n hz dX9_cell_14 rfl 1 rfl ?_
    refine x_guard (fun hi15 => ?_)
    refine x_aald0 hz (q := (80 + 2 * a1.toNatClampNeg)) 4 (fun _ => rfl) sx_39 (by decide) hi15 rfl (by omega) dX9_cell_15 ?_
    refine x_geti hz (ge_39 hi15) fl_X9_317 rfl dX9_cell_16 ?_
    refine x_iconst hz (-1) dX9_cell_19 rfl ?_
    refine x_icmp_ne hz dX9_cell_20 ?_ ?_
    · refine x_iload_n hz dX9_cell_26 rfl 2 rfl ?_
      refine x_if_lt hz dX9_cell_27 ?_ ?_
      · refine x_bipush hz (-12) dX9_cell_43 rfl ?_
        exact x_iret hz rfl dX9_cell_45
      refine x_iload_n hz dX9_cell_30 rfl 2 rfl ?_
      refine x_aload_n hz dX9_cell_31 rfl 0 rfl ?_
      refine x_getr hz sx_0 fl_X9_42 rfl rx_0_6 (by decide) dX9_cell_32 ?_
      refine x_iload_n hz dX9_cell_35 rfl 1 rfl ?_
      refine x_guard (fun hi36 => ?_)
      refine x_aald0 hz (q := (80 + 2 * a1.toNatClampNeg)) 4 (fun _ => rfl) sx_39 (by decide) hi36 rfl (by omega) dX9_cell_36 ?_
      refine x_geti hz (ge_39 hi36) fl_X9_320 rfl dX9_cell_37 ?_
      refine x_icmp_lt hz dX9_cell_40 ?_ ?_
      · refine x_aload_n hz dX9_cell_46 rfl 0 rfl ?_
        refine x_getr hz sx_0 fl_X9_42 rfl rx_0_6 (by decide) dX9_cell_47 ?_
        refine x_iload_n hz dX9_cell_50 rfl 1 rfl ?_
        refine x_guard (fun hi51 => ?_)
        refine x_aald0 hz (q := (80 + 2 * a1.toNatClampNeg)) 4 (fun _ => rfl) sx_39 (by decide) hi51 rfl (by omega) dX9_cell_51 ?_
        refine x_iload_n hz dX9_cell_52 rfl 2 rfl ?_
        refine x_iload_n hz dX9_cell_53 rfl 3 rfl ?_
        refine x_bind (fun q54 hq54 => ?_)
        refine x_callV hz mv_X9_300 (ge_39 hi51) (by decide) rfl rfl (kX6_put (n := n) (80 + 2 * a1.toNatClampNeg) a2 a3 M q54 hq54) rfl (av := [.int a2, .int a3]) (rest := []) rfl rfl (Nat.le_of_ble_eq_true rfl) dX9_cell_54 ?_
        refine x_iconst hz 1 dX9_cell_57 rfl ?_
        exact x_iret hz rfl dX9_cell_58
      refine x_bipush hz (-12) dX9_cell_43 rfl ?_
      exact x_iret hz rfl dX9_cell_45
    refine x_bipush hz (-11) dX9_cell_23 rfl ?_
    exact x_iret hz rfl dX9_cell_25
  refine x_bipush hz (-2) dX9_cell_7 rfl ?_
  exact x_iret hz rfl dX9_cell_9
theorem kX9_cell {l : Launch} {dd : hDD} {b n : Nat} (a1 : Int32) (a2 : Int32) (a3 : Int32) (M : hMem) (r : Int32 × hMem) (h : fX9_cell a1 a2 a3 M = some r) : hC l hYx dd b yX9_cell cX9_cell 4 (some .int) (n + 1) [.ref (b + 0), .int a1, .int a2, .int a3] M (some (.int r.1), r.2) :=
  h_met (av := fun b => [.ref (b + 0), .int a1, .int a2, .int a3]) (rt := rtM) (by decide) (Nat.le_of_ble_eq_true rfl) (fun Z hz => wX9_cell (n := n) hz a1 a2 a3 M) r h
set_option maxRecDepth 10000 in
set_option maxHeartbeats 4000000 in
theorem wX9_copy {Z : hZ} {n : Nat} (hz : hOK Z hYx cX9_copy RX9 8 (n + 1) (some .int)) (a1 : Int32) (a2 : Int32) (a3 : Int32) (a4 : Int32) (a5 : Int32) (M : hMem) : hW Z rtM M 0 [(0, .ref (h_b Z + 0)), (1, .int a1), (2, .int a2), (3, .int a3), (4, .int a4), (5, .int a5)] [] (fX9_copy a1 a2 a3 a4 a5 M) := by
  unfold fX9_copy
  refine x_iload_n hz dX9_copy_0 rfl 1 rfl ?_
  refine x_callS hz ms_X9_293 (kX9_isSheet (n := n) a1 M) rfl (av := [.int a1]) (rest := []) rfl rfl (Nat.le_of_ble_eq_true rfl) dX9_copy_1 ?_
  refine x_if_eq hz dX9_copy_4 ?_ ?_
  · refine x_bipush hz (-2) dX9_copy_14 rfl ?_
    exact x_iret hz rfl dX9_copy_16
  refine x_iload_n hz dX9_copy_7 rfl 3 rfl ?_
  refine x_callS hz ms_X9_293 (kX9_isSheet (n := n) a3 M) rfl (av := [.int a3]) (rest := []) rfl rfl (Nat.le_of_ble_eq_true rfl) dX9_copy_8 ?_
  refine x_if_ne hz dX9_copy_11 ?_ ?_
  · refine x_aload_n hz dX9_copy_17 rfl 0 rfl ?_
    refine x_getr hz sx_0 fl_X9_42 rfl rx_0_6 (by decide) dX9_copy_18 ?_
    refine x_iload_n hz dX9_copy_21 rfl 1 rfl ?_
    refine x_guard (fun hi22 => ?_)
    refine x_aald0 hz (q := (80 + 2 * a1.toNatClampNeg)) 4 (fun _ => rfl) sx_39 (by decide) hi22 rfl (by omega) dX9_copy_22 ?_
    refine x_astore hz [(6, .ref (h_b Z + (80 + 2 * a1.toNatClampNeg))), (0, .ref (h_b Z + 0)), (1, .int a1), (2, .int a2), (3, .int a3), (4, .int a4), (5, .int a5)] dX9_copy_23 rfl rfl ?_
    refine x_aload_n hz dX9_copy_25 rfl 1 rfl ?_
    refine x_getr hz sx_0 fl_X9_42 rfl rx_0_6 (by decide) dX9_copy_26 ?_
    refine x_iload_n hz dX9_copy_29 rfl 4 rfl ?_
    refine x_guard (fun hi30 => ?_)
    refine x_aald0 hz (q := (80 + 2 * a3.toNatClampNeg)) 4 (fun _ => rfl) sx_39 (by decide) hi30 rfl (by omega) dX9_copy_30 ?_
    refine x_astore hz [(7, .ref (h_b Z + (80 + 2 * a3.toNatClampNeg))), (6, .ref (h_b Z + (80 + 2 * a1.toNatClampNeg))), (0, .ref (h_b Z + 0)), (1, .int a1), (2, .int a2), (3, .int a3), (4, .int a4), (5, .int a5)] dX9_copy_31 rfl rfl ?_
    refine x_aload hz dX9_copy_33 1 rfl ?_
    refine x_geti hz (ge_39 hi22) fl_X9_317 rfl dX9_copy_35 ?_
    refine x_iconst hz (-1) dX9_copy_38 rfl ?_
    refine x_icmp_eq hz dX9_copy_39 ?_ ?_
    · refine x_bipush hz (-11) dX9_copy_51 rfl ?_
      exact x_iret hz rfl dX9_copy_53
    refine x_aload hz dX9_copy_42 0 rfl ?_
    refine x_geti hz (ge_39 hi30) fl_X9_317 rfl dX9_copy_44 ?_
    refine x_iconst hz (-1) dX9_copy_47 rfl ?_
    refine x_icmp_ne hz dX9_copy_48 ?_ ?_
    · refine x_aload hz dX9_copy_54 1 rfl ?_
      refine x_geti hz (ge_39 hi22) fl_X9_317 rfl dX9_copy_56 ?_
      refine x_aload hz dX9_copy_59 0 rfl ?_
      refine x_geti hz (ge_39 hi30) fl_X9_317 rfl dX9_copy_61 ?_
      refine x_icmp_eq hz dX9_copy_64 ?_ ?_
      · refine x_iload hz dX9_copy_70 7 rfl ?_
        refine x_if_lt hz dX9_copy_72 ?_ ?_
        · refine x_bipush hz (-12) dX9_copy_109 rfl ?_
          exact x_iret hz rfl dX9_copy_111
        refine x_iload_n hz dX9_copy_75 rfl 4 rfl ?_
        refine x_if_lt hz dX9_copy_76 ?_ ?_
        · refine x_bipush hz (-12) dX9_copy_109 rfl ?_
          exact x_iret hz rfl dX9_copy_111
        refine x_iload hz dX9_copy_79 6 rfl ?_
        refine x_if_lt hz dX9_copy_81 ?_ ?_
        · refine x_bipush hz (-12) dX9_copy_109 rfl ?_
          exact x_iret hz rfl dX9_copy_111
        refine x_iload_n hz dX9_copy_84 rfl 4 rfl ?_
        refine x_aload hz dX9_copy_85 1 rfl ?_
        refine x_geti hz (ge_39 hi22) fl_X9_320 rfl dX9_copy_87 ?_
        refine x_iload hz dX9_copy_90 7 rfl ?_
        refine x_isub hz dX9_copy_92 ?_
        refine x_icmp_gt hz dX9_copy_93 ?_ ?_
        · refine x_bipush hz (-12) dX9_copy_109 rfl ?_
          exact x_iret hz rfl dX9_copy_111
        refine x_iload hz dX9_copy_96 6 rfl ?_
        refine x_aload hz dX9_copy_98 0 rfl ?_
        refine x_geti hz (ge_39 hi30) fl_X9_320 rfl dX9_copy_100 ?_
        refine x_iload hz dX9_copy_103 7 rfl ?_
        refine x_isub hz dX9_copy_105 ?_
        refine x_icmp_le hz dX9_copy_106 ?_ ?_
        · refine x_aload hz dX9_copy_112 1 rfl ?_
          refine x_getr hz (ge_39 hi22) fl_X9_323 rfl (gv_5_2 (ge_39 hi22)) (Nat.succ_ne_zero _) dX9_copy_114 ?_
          refine x_iload_n hz dX9_copy_117 rfl 4 rfl ?_
          refine x_aload hz dX9_copy_118 0 rfl ?_
          refine x_getr hz (ge_39 hi30) fl_X9_323 rfl (gv_5_2 (ge_39 hi30)) (Nat.succ_ne_zero _) dX9_copy_120 ?_
          refine x_iload hz dX9_copy_123 6 rfl ?_
          refine x_iload hz dX9_copy_125 7 rfl ?_
          refine x_acopy hz ac_X9_326 (gs_5_2 (ge_39 hi22)) (gs_5_2 (ge_39 hi30)) rfl (Nat.le_of_ble_eq_true rfl) dX9_copy_127 (fun hg127 => ?_)
          refine x_iload hz dX9_copy_130 7 rfl ?_
          exact x_iret hz rfl dX9_copy_132
        refine x_bipush hz (-12) dX9_copy_109 rfl ?_
        exact x_iret hz rfl dX9_copy_111
      refine x_bipush hz (-13) dX9_copy_67 rfl ?_
      exact x_iret hz rfl dX9_copy_69
    refine x_bipush hz (-11) dX9_copy_51 rfl ?_
    exact x_iret hz rfl dX9_copy_53
  refine x_bipush hz (-2) dX9_copy_14 rfl ?_
  exact x_iret hz rfl dX9_copy_16
theorem kX9_copy {l : Launch} {dd : hDD} {b n : Nat} (a1 : Int32) (a2 : Int32) (a3 : Int32) (a4 : Int32) (a5 : Int32) (M : hMem) (r : Int32 × hMem) (h : fX9_copy a1 a2 a3 a4 a5 M = some r) : hC l hYx dd b yX9_copy cX9_copy 8 (some .int) (n + 1) [.ref (b + 0), .int a1, .int a2, .int a3, .int a4, .int a5] M (some (.int r.1), r.2) :=
  h_met (av := fun b => [.ref (b + 0), .int a1, .int a2, .int a3, .int a4, .int a5]) (rt := rtM) (by decide) (Nat.le_of_ble_eq_true rfl) (fun Z hz => wX9_copy (n := n) hz a1 a2 a3 a4 a5 M) r h
set_option maxRecDepth 10000 in
set_option maxHeartbeats 4000000 in
theorem wX9_gustsBy_L72 {Z : hZ} {n : Nat} (hz : hOK Z hYx cX9_gustsBy RX9 9 (n + 2) (some .int))  (v4 : Int32) (v5 : Nat) (hv5 : h_is hYx v5 5 0)   : ∀ (i : Nat) (s : Int32 × Int32 × Int32 × hMem), hW Z rtM s.2.2.2 72 [(0, .ref (h_b Z + 0)), (4, .int v4), (5, .ref (h_b Z + v5)), (6, .int s.1), (7, .int s.2.1), (8, .int s.2.2.1)] [] (h_lp (fX9_gustsBy_L72 v4 v5) i s) := by
  refine x_loop (Ms := fun s : Int32 × Int32 × Int32 × hMem => s.2.2.2) (Ls := fun s : Int32 × Int32 × Int32 × hMem => [(0, .ref (h_b Z + 0)), (4, .int v4), (5, .ref (h_b Z + v5)), (6, .int s.1), (7, .int s.2.1), (8, .int s.2.2.1)]) ?_
  intro k72 hk72 s
  show hW Z rtM s.2.2.2 72 [(0, .ref (h_b Z + 0)), (4, .int v4), (5, .ref (h_b Z + v5)), (6, .int s.1), (7, .int s.2.1), (8, .int s.2.2.1)] [] (fX9_gustsBy_L72 v4 v5 k72 s)
  unfold fX9_gustsBy_L72
  refine x_iload hz dX9_gustsBy_72 5 rfl ?_
  refine x_iload hz dX9_gustsBy_74 1 rfl ?_
  refine x_icmp_ge hz dX9_gustsBy_76 ?_ ?_
  · refine x_iload hz dX9_gustsBy_146 3 rfl ?_
    exact x_iret hz rfl dX9_gustsBy_148
  refine x_iload hz dX9_gustsBy_79 4 rfl ?_
  refine x_if_lt hz dX9_gustsBy_81 ?_ ?_
  · refine x_bipush hz (-12) dX9_gustsBy_96 rfl ?_
    exact x_iret hz rfl dX9_gustsBy_98
  refine x_iload hz dX9_gustsBy_84 4 rfl ?_
  refine x_aload hz dX9_gustsBy_86 2 rfl ?_
  refine x_geti hz hv5 fl_X9_320 rfl dX9_gustsBy_88 ?_
  refine x_iconst hz 3 dX9_gustsBy_91 rfl ?_
  refine x_isub hz dX9_gustsBy_92 ?_
  refine x_icmp_le hz dX9_gustsBy_93 ?_ ?_
  · refine x_aload_n hz dX9_gustsBy_99 rfl 0 rfl ?_
    refine x_aload hz dX9_gustsBy_100 2 rfl ?_
    refine x_getr hz hv5 fl_X9_323 rfl (gv_5_2 hv5) (Nat.succ_ne_zero _) dX9_gustsBy_102 ?_
    refine x_iload hz dX9_gustsBy_105 4 rfl ?_
    refine x_iald hz (gs_5_2 hv5) dX9_gustsBy_107 (fun hi107 => ?_)
    refine x_aload hz dX9_gustsBy_108 2 rfl ?_
    refine x_getr hz hv5 fl_X9_323 rfl (gv_5_2 hv5) (Nat.succ_ne_zero _) dX9_gustsBy_110 ?_
    refine x_iload hz dX9_gustsBy_113 4 rfl ?_
    refine x_iconst hz 1 dX9_gustsBy_115 rfl ?_
    refine x_iadd hz dX9_gustsBy_116 ?_
    refine x_iald hz (gs_5_2 hv5) dX9_gustsBy_117 (fun hi117 => ?_)
    refine x_aload hz dX9_gustsBy_118 2 rfl ?_
    refine x_getr hz hv5 fl_X9_323 rfl (gv_5_2 hv5) (Nat.succ_ne_zero _) dX9_gustsBy_120 ?_
    refine x_iload hz dX9_gustsBy_123 4 rfl ?_
    refine x_iconst hz 2 dX9_gustsBy_125 rfl ?_
    refine x_iadd hz dX9_gustsBy_126 ?_
    refine x_iald hz (gs_5_2 hv5) dX9_gustsBy_127 (fun hi127 => ?_)
    refine x_bind (fun q128 hq128 => ?_)
    refine x_callV hz mv_X9_332 sx_0 (by decide) rfl rfl (kX9_blow (n := n) (s.2.2.2 (v5 + 1) s.2.1.toNatClampNeg) (s.2.2.2 (v5 + 1) (s.2.1 + 1).toNatClampNeg) (s.2.2.2 (v5 + 1) (s.2.1 + 2).toNatClampNeg) s.2.2.2 q128 hq128) rfl (av := [.int (s.2.2.2 (v5 + 1) s.2.1.toNatClampNeg), .int (s.2.2.2 (v5 + 1) (s.2.1 + 1).toNatClampNeg), .int (s.2.2.2 (v5 + 1) (s.2.1 + 2).toNatClampNeg)]) (rest := []) rfl rfl (Nat.le_of_ble_eq_true rfl) dX9_gustsBy_128 ?_
    refine x_if_lt hz dX9_gustsBy_131 ?_ ?_
    · refine x_iinc hz (s.2.1 + 3) [(7, .int (s.2.1 + 3)), (0, .ref (h_b Z + 0)), (4, .int v4), (5, .ref (h_b Z + v5)), (6, .int s.1), (8, .int s.2.2.1)] dX9_gustsBy_137 4 rfl rfl rfl rfl ?_
      refine x_iinc hz (s.2.2.1 + 1) [(8, .int (s.2.2.1 + 1)), (7, .int (s.2.1 + 3)), (0, .ref (h_b Z + 0)), (4, .int v4), (5, .ref (h_b Z + v5)), (6, .int s.1)] dX9_gustsBy_140 5 rfl rfl rfl rfl ?_
      refine x_goto hz dX9_gustsBy_143 ?_
      exact x_sub [2, 3, 4, 5, 1, 0] rfl (hk72 (s.1, s.2.1 + 3, s.2.2.1 + 1, q128.2))
    refine x_iinc hz (s.1 + 1) [(6, .int (s.1 + 1)), (0, .ref (h_b Z + 0)), (4, .int v4), (5, .ref (h_b Z + v5)), (7, .int s.2.1), (8, .int s.2.2.1)] dX9_gustsBy_134 3 rfl rfl rfl rfl ?_
    refine x_iinc hz (s.2.1 + 3) [(7, .int (s.2.1 + 3)), (6, .int (s.1 + 1)), (0, .ref (h_b Z + 0)), (4, .int v4), (5, .ref (h_b Z + v5)), (8, .int s.2.2.1)] dX9_gustsBy_137 4 rfl rfl rfl rfl ?_
    refine x_iinc hz (s.2.2.1 + 1) [(8, .int (s.2.2.1 + 1)), (7, .int (s.2.1 + 3)), (6, .int (s.1 + 1)), (0, .ref (h_b Z + 0)), (4, .int v4), (5, .ref (h_b Z + v5))] dX9_gustsBy_140 5 rfl rfl rfl rfl ?_
    refine x_goto hz dX9_gustsBy_143 ?_
    exact x_sub [3, 4, 5, 2, 1, 0] rfl (hk72 (s.1 + 1, s.2.1 + 3, s.2.2.1 + 1, q128.2))
  refine x_bipush hz (-12) dX9_gustsBy_96 rfl ?_
  exact x_iret hz rfl dX9_gustsBy_98
set_option maxRecDepth 10000 in
set_option maxHeartbeats 4000000 in
theorem wX9_gustsBy {Z : hZ} {n : Nat} (hz : hOK Z hYx cX9_gustsBy RX9 9 (n + 2) (some .int)) (a1 : Int32) (a2 : Int32) (a3 : Int32) (a4 : Int32) (M : hMem) : hW Z rtM M 0 [(0, .ref (h_b Z + 0)), (1, .int a1), (2, .int a2), (3, .int a3), (4, .int a4)] [] (fX9_gustsBy a1 a2 a3 a4 M) := by
  unfold fX9_gustsBy
  refine x_iload_n hz dX9_gustsBy_0 rfl 1 rfl ?_
  refine x_callS hz ms_X9_293 (kX9_isSheet (n := (n + 1)) a1 M) rfl (av := [.int a1]) (rest := []) rfl rfl (Nat.le_of_ble_eq_true rfl) dX9_gustsBy_1 ?_
  refine x_if_eq hz dX9_gustsBy_4 ?_ ?_
  · refine x_bipush hz (-2) dX9_gustsBy_28 rfl ?_
    exact x_iret hz rfl dX9_gustsBy_30
  refine x_iload_n hz dX9_gustsBy_7 rfl 2 rfl ?_
  refine x_if_lt hz dX9_gustsBy_8 ?_ ?_
  · refine x_bipush hz (-2) dX9_gustsBy_28 rfl ?_
    exact x_iret hz rfl dX9_gustsBy_30
  refine x_iload_n hz dX9_gustsBy_11 rfl 2 rfl ?_
  refine x_iconst hz 2 dX9_gustsBy_12 rfl ?_
  refine x_icmp_gt hz dX9_gustsBy_13 ?_ ?_
  · refine x_bipush hz (-2) dX9_gustsBy_28 rfl ?_
    exact x_iret hz rfl dX9_gustsBy_30
  refine x_iload hz dX9_gustsBy_16 4 rfl ?_
  refine x_if_lt hz dX9_gustsBy_18 ?_ ?_
  · refine x_bipush hz (-2) dX9_gustsBy_28 rfl ?_
    exact x_iret hz rfl dX9_gustsBy_30
  refine x_iload hz dX9_gustsBy_21 4 rfl ?_
  refine x_bipush hz 13 dX9_gustsBy_23 rfl ?_
  refine x_icmp_le hz dX9_gustsBy_25 ?_ ?_
  · refine x_aload_n hz dX9_gustsBy_31 rfl 0 rfl ?_
    refine x_getr hz sx_0 fl_X9_42 rfl rx_0_6 (by decide) dX9_gustsBy_32 ?_
    refine x_iload_n hz dX9_gustsBy_35 rfl 1 rfl ?_
    refine x_guard (fun hi36 => ?_)
    refine x_aald0 hz (q := (80 + 2 * a1.toNatClampNeg)) 4 (fun _ => rfl) sx_39 (by decide) hi36 rfl (by omega) dX9_gustsBy_36 ?_
    refine x_astore hz [(5, .ref (h_b Z + (80 + 2 * a1.toNatClampNeg))), (0, .ref (h_b Z + 0)), (1, .int a1), (2, .int a2), (3, .int a3), (4, .int a4)] dX9_gustsBy_37 rfl rfl ?_
    refine x_aload hz dX9_gustsBy_39 0 rfl ?_
    refine x_geti hz (ge_39 hi36) fl_X9_317 rfl dX9_gustsBy_41 ?_
    refine x_iconst hz (-1) dX9_gustsBy_44 rfl ?_
    refine x_icmp_ne hz dX9_gustsBy_45 ?_ ?_
    · refine x_aload hz dX9_gustsBy_51 0 rfl ?_
      refine x_geti hz (ge_39 hi36) fl_X9_317 rfl dX9_gustsBy_53 ?_
      refine x_iload_n hz dX9_gustsBy_56 rfl 3 rfl ?_
      refine x_icmp_eq hz dX9_gustsBy_57 ?_ ?_
      · refine x_iconst hz 0 dX9_gustsBy_63 rfl ?_
        refine x_istore hz [(6, .int 0), (5, .ref (h_b Z + (80 + 2 * a1.toNatClampNeg))), (0, .ref (h_b Z + 0)), (1, .int a1), (2, .int a2), (3, .int a3), (4, .int a4)] dX9_gustsBy_64 rfl rfl ?_
        refine x_iload_n hz dX9_gustsBy_66 rfl 5 rfl ?_
        refine x_istore hz [(7, .int a3), (6, .int 0), (5, .ref (h_b Z + (80 + 2 * a1.toNatClampNeg))), (0, .ref (h_b Z + 0)), (1, .int a1), (2, .int a2), (3, .int a3), (4, .int a4)] dX9_gustsBy_67 rfl rfl ?_
        refine x_iconst hz 0 dX9_gustsBy_69 rfl ?_
        refine x_istore hz [(8, .int 0), (7, .int a3), (6, .int 0), (5, .ref (h_b Z + (80 + 2 * a1.toNatClampNeg))), (0, .ref (h_b Z + 0)), (1, .int a1), (2, .int a2), (3, .int a3), (4, .int a4)] dX9_gustsBy_70 rfl rfl ?_
        exact x_sub [4, 8, 3, 2, 1, 0] rfl (wX9_gustsBy_L72 hz a4 (80 + 2 * a1.toNatClampNeg) (ge_39 hi36) h_FU (0, a3, 0, M))
      refine x_bipush hz (-13) dX9_gustsBy_60 rfl ?_
      exact x_iret hz rfl dX9_gustsBy_62
    refine x_bipush hz (-11) dX9_gustsBy_48 rfl ?_
    exact x_iret hz rfl dX9_gustsBy_50
  refine x_bipush hz (-2) dX9_gustsBy_28 rfl ?_
  exact x_iret hz rfl dX9_gustsBy_30
theorem kX9_gustsBy {l : Launch} {dd : hDD} {b n : Nat} (a1 : Int32) (a2 : Int32) (a3 : Int32) (a4 : Int32) (M : hMem) (r : Int32 × hMem) (h : fX9_gustsBy a1 a2 a3 a4 M = some r) : hC l hYx dd b yX9_gustsBy cX9_gustsBy 9 (some .int) (n + 2) [.ref (b + 0), .int a1, .int a2, .int a3, .int a4] M (some (.int r.1), r.2) :=
  h_met (av := fun b => [.ref (b + 0), .int a1, .int a2, .int a3, .int a4]) (rt := rtM) (by decide) (Nat.le_of_ble_eq_true rfl) (fun Z hz => wX9_gustsBy (n := n) hz a1 a2 a3 a4 M) r h
