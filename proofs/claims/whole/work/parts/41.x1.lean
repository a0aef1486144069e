set_option maxRecDepth 10000 in
set_option maxHeartbeats 4000000 in
theorem wX7_gust {Z : hZ} {n : Nat} (hz : hOK Z hYx cX7_gust RX7 2 (n + 0) (some .int)) (a1 : Int32) (M : hMem) : hW Z (rtP M) M 0 [(0, .ref (h_b Z + 1)), (1, .int a1)] [] (fX7_gust a1 M) := by
  unfold fX7_gust
  refine x_bipush hz 10 dX7_gust_0 rfl ?_
  refine x_aload_n hz dX7_gust_2 rfl 0 rfl ?_
  refine x_getr hz sx_1 fl_X7_15 rfl rx_1_1 (by decide) dX7_gust_3 ?_
  refine x_iload_n hz dX7_gust_6 rfl 1 rfl ?_
  refine x_iald hz sx_3 dX7_gust_7 (fun hi7 => ?_)
  refine x_imul hz dX7_gust_8 ?_
  refine x_aload_n hz dX7_gust_9 rfl 0 rfl ?_
  refine x_getr hz sx_1 fl_X7_18 rfl rx_1_2 (by decide) dX7_gust_10 ?_
  refine x_iload_n hz dX7_gust_13 rfl 1 rfl ?_
  refine x_iald hz sx_4 dX7_gust_14 (fun hi14 => ?_)
  refine x_iadd hz dX7_gust_15 ?_
  exact x_iret hz rfl dX7_gust_16
theorem kX7_gust {l : Launch} {dd : hDD} {b n : Nat} (a1 : Int32) (M : hMem) (r : Int32) (h : fX7_gust a1 M = some r) : hC l hYx dd b yX7_gust cX7_gust 2 (some .int) (n + 0) [.ref (b + 1), .int a1] M (some (.int r), M) :=
  h_met (av := fun b => [.ref (b + 1), .int a1]) (rt := (rtP M)) (by decide) (Nat.le_of_ble_eq_true rfl) (fun Z hz => wX7_gust (n := n) hz a1 M) r h
set_option maxRecDepth 10000 in
set_option maxHeartbeats 4000000 in
theorem wX9_blow {Z : hZ} {n : Nat} (hz : hOK Z hYx cX9_blow RX9 5 (n + 1) (some .int)) (a1 : Int32) (a2 : Int32) (a3 : Int32) (M : hMem) : hW Z rtM M 0 [(0, .ref (h_b Z + 0)), (1, .int a1), (2, .int a2), (3, .int a3)] [] (fX9_blow a1 a2 a3 M) := by
  unfold fX9_blow
  refine x_iload_n hz dX9_blow_0 rfl 1 rfl ?_
  refine x_callS hz ms_X9_99 (kX9_isSecond (n := n) a1 M) rfl (av := [.int a1]) (rest := []) rfl rfl (Nat.le_of_ble_eq_true rfl) dX9_blow_1 ?_
  refine x_if_ne hz dX9_blow_4 ?_ ?_
  · refine x_iload_n hz dX9_blow_10 rfl 2 rfl ?_
    refine x_if_lt hz dX9_blow_11 ?_ ?_
    · refine x_bipush hz (-7) dX9_blow_29 rfl ?_
      exact x_iret hz rfl dX9_blow_31
    refine x_iload_n hz dX9_blow_14 rfl 2 rfl ?_
    refine x_iconst hz 4 dX9_blow_15 rfl ?_
    refine x_icmp_gt hz dX9_blow_16 ?_ ?_
    · refine x_bipush hz (-7) dX9_blow_29 rfl ?_
      exact x_iret hz rfl dX9_blow_31
    refine x_iload_n hz dX9_blow_19 rfl 3 rfl ?_
    refine x_if_lt hz dX9_blow_20 ?_ ?_
    · refine x_bipush hz (-7) dX9_blow_29 rfl ?_
      exact x_iret hz rfl dX9_blow_31
    refine x_iload_n hz dX9_blow_23 rfl 3 rfl ?_
    refine x_bipush hz 9 dX9_blow_24 rfl ?_
    refine x_icmp_le hz dX9_blow_26 ?_ ?_
    · refine x_aload_n hz dX9_blow_32 rfl 0 rfl ?_
      refine x_getr hz sx_0 fl_X9_12 rfl rx_0_0 (by decide) dX9_blow_33 ?_
      refine x_iload_n hz dX9_blow_36 rfl 1 rfl ?_
      refine x_bind (fun q37 hq37 => ?_)
      refine x_callV hz mv_X9_102 sx_1 (by decide) rfl rfl (kX7_gust (n := n) a1 M q37 hq37) rfl (av := [.int a1]) (rest := []) rfl rfl (Nat.le_of_ble_eq_true rfl) dX9_blow_37 ?_
      refine x_istore hz [(4, .int q37), (0, .ref (h_b Z + 0)), (1, .int a1), (2, .int a2), (3, .int a3)] dX9_blow_40 rfl rfl ?_
      refine x_aload_n hz dX9_blow_42 rfl 1 rfl ?_
      refine x_getr hz sx_0 fl_X9_12 rfl rx_0_0 (by decide) dX9_blow_43 ?_
      refine x_getr hz sx_1 fl_X9_106 rfl rx_1_1 (by decide) dX9_blow_46 ?_
      refine x_iload_n hz dX9_blow_49 rfl 2 rfl ?_
      refine x_iload_n hz dX9_blow_50 rfl 3 rfl ?_
      refine x_iast hz sx_3 dX9_blow_51 (fun hi51 => ?_)
      refine x_aload_n hz dX9_blow_52 rfl 1 rfl ?_
      refine x_getr hz sx_0 fl_X9_12 rfl rx_0_0 (by decide) dX9_blow_53 ?_
      refine x_getr hz sx_1 fl_X9_109 rfl rx_1_2 (by decide) dX9_blow_56 ?_
      refine x_iload_n hz dX9_blow_59 rfl 2 rfl ?_
      refine x_iload_n hz dX9_blow_60 rfl 4 rfl ?_
      refine x_iast hz sx_4 dX9_blow_61 (fun hi61 => ?_)
      refine x_iload hz dX9_blow_62 0 rfl ?_
      exact x_iret hz rfl dX9_blow_64
    refine x_bipush hz (-7) dX9_blow_29 rfl ?_
    exact x_iret hz rfl dX9_blow_31
  refine x_bipush hz (-5) dX9_blow_7 rfl ?_
  exact x_iret hz rfl dX9_blow_9
theorem kX9_blow {l : Launch} {dd : hDD} {b n : Nat} (a1 : Int32) (a2 : Int32) (a3 : Int32) (M : hMem) (r : Int32 × hMem) (h : fX9_blow a1 a2 a3 M = some r) : hC l hYx dd b yX9_blow cX9_blow 5 (some .int) (n + 1) [.ref (b + 0), .int a1, .int a2, .int a3] M (some (.int r.1), r.2) :=
  h_met (av := fun b => [.ref (b + 0), .int a1, .int a2, .int a3]) (rt := rtM) (by decide) (Nat.le_of_ble_eq_true rfl) (fun Z hz => wX9_blow (n := n) hz a1 a2 a3 M) r h
set_option maxRecDepth 10000 in
set_option maxHeartbeats 4000000 in
theorem wX9_wind {Z : hZ} {n : Nat} (hz : hOK Z hYx cX9_wind RX9 2 (n + 1) (some .int)) (a1 : Int32) (M : hMem) : hW Z (rtP M) M 0 [(0, .ref (h_b Z + 0)), (1, .int a1)] [] (fX9_wind a1 M) := by
  unfold fX9_wind
  refine x_iload_n hz dX9_wind_0 rfl 1 rfl ?_
  refine x_callS hz ms_X9_99 (kX9_isSecond (n := n) a1 M) rfl (av := [.int a1]) (rest := []) rfl rfl (Nat.le_of_ble_eq_true rfl) dX9_wind_1 ?_
  refine x_if_eq hz dX9_wind_4 ?_ ?_
  · refine x_bipush hz (-5) dX9_wind_18 rfl ?_
    exact x_iret hz rfl dX9_wind_20
  refine x_aload_n hz dX9_wind_7 rfl 0 rfl ?_
  refine x_getr hz sx_0 fl_X9_12 rfl rx_0_0 (by decide) dX9_wind_8 ?_
  refine x_iload_n hz dX9_wind_11 rfl 1 rfl ?_
  refine x_bind (fun q12 hq12 => ?_)
  refine x_callV hz mv_X9_102 sx_1 (by decide) rfl rfl (kX7_gust (n := n) a1 M q12 hq12) rfl (av := [.int a1]) (rest := []) rfl rfl (Nat.le_of_ble_eq_true rfl) dX9_wind_12 ?_
  refine x_goto hz dX9_wind_15 ?_
  exact x_iret hz rfl dX9_wind_20
theorem kX9_wind {l : Launch} {dd : hDD} {b n : Nat} (a1 : Int32) (M : hMem) (r : Int32) (h : fX9_wind a1 M = some r) : hC l hYx dd b yX9_wind cX9_wind 2 (some .int) (n + 1) [.ref (b + 0), .int a1] M (some (.int r), M) :=
  h_met (av := fun b => [.ref (b + 0), .int a1]) (rt := (rtP M)) (by decide) (Nat.le_of_ble_eq_true rfl) (fun Z hz => wX9_wind (n := n) hz a1 M) r h
set_option maxRecDepth 10000 in
set_option maxHeartbeats 4000000 in
theorem wX9_count {Z : hZ} {n : Nat} (hz : hOK Z hYx cX9_count RX9 2 (n + 0) (some .int)) (a1 : Int32) (M : hMem) : hW Z (rtP M) M 0 [(0, .ref (h_b Z + 0)), (1, .int a1)] [] (some (fX9_count a1 M)) := by
  unfold fX9_count
  refine x_iload_n hz dX9_count_0 rfl 1 rfl ?_
  refine x_pull ?_
  refine x_case (fun hc0 => ?_) (fun hc0 => ?_)
  · refine x_tabIn hz dX9_count_1 0 (by rw [hc0]; rfl) (by decide) (by decide) rfl rfl ?_
    refine x_aload_n hz dX9_count_48 rfl 0 rfl ?_
    refine x_getr hz sx_0 fl_X9_12 rfl rx_0_0 (by decide) dX9_count_49 ?_
    refine x_geti hz sx_1 fl_X9_112 rfl dX9_count_52 ?_
    exact x_iret hz rfl dX9_count_55
  refine x_pull ?_
  refine x_case (fun hc1 => ?_) (fun hc1 => ?_)
  · refine x_tabIn hz dX9_count_1 1 (by rw [hc1]; rfl) (by decide) (by decide) rfl rfl ?_
    refine x_aload_n hz dX9_count_56 rfl 0 rfl ?_
    refine x_getr hz sx_0 fl_X9_12 rfl rx_0_0 (by decide) dX9_count_57 ?_
    refine x_geti hz sx_1 fl_X9_115 rfl dX9_count_60 ?_
    exact x_iret hz rfl dX9_count_63
  refine x_pull ?_
  refine x_case (fun hc2 => ?_) (fun hc2 => ?_)
  · refine x_tabIn hz dX9_count_1 2 (by rw [hc2]; rfl) (by decide) (by decide) rfl rfl ?_
    refine x_aload_n hz dX9_count_64 rfl 0 rfl ?_
    refine x_getr hz sx_0 fl_X9_12 rfl rx_0_0 (by decide) dX9_count_65 ?_
    refine x_getr hz sx_1 fl_X9_96 rfl rx_1_0 (by decide) dX9_count_68 ?_
    refine x_iconst hz 0 dX9_count_71 rfl ?_
    refine x_iald0 hz sx_2 (by decide) (v := M 2 0) rfl dX9_count_72 ?_
    exact x_iret hz rfl dX9_count_73
  refine x_pull ?_
  refine x_case (fun hc3 => ?_) (fun hc3 => ?_)
  · refine x_tabIn hz dX9_count_1 3 (by rw [hc3]; rfl) (by decide) (by decide) rfl rfl ?_
    refine x_aload_n hz dX9_count_74 rfl 0 rfl ?_
    refine x_getr hz sx_0 fl_X9_12 rfl rx_0_0 (by decide) dX9_count_75 ?_
    refine x_getr hz sx_1 fl_X9_96 rfl rx_1_0 (by decide) dX9_count_78 ?_
    refine x_iconst hz 1 dX9_count_81 rfl ?_
    refine x_iald0 hz sx_2 (by decide) (v := M 2 1) rfl dX9_count_82 ?_
    exact x_iret hz rfl dX9_count_83
  refine x_pull ?_
  refine x_case (fun hc4 => ?_) (fun hc4 => ?_)
  · refine x_tabIn hz dX9_count_1 4 (by rw [hc4]; rfl) (by decide) (by decide) rfl rfl ?_
    refine x_aload_n hz dX9_count_84 rfl 0 rfl ?_
    refine x_getr hz sx_0 fl_X9_12 rfl rx_0_0 (by decide) dX9_count_85 ?_
    refine x_getr hz sx_1 fl_X9_96 rfl rx_1_0 (by decide) dX9_count_88 ?_
    refine x_iconst hz 2 dX9_count_91 rfl ?_
    refine x_iald0 hz sx_2 (by decide) (v := M 2 2) rfl dX9_count_92 ?_
    exact x_iret hz rfl dX9_count_93
  refine x_pull ?_
  refine x_case (fun hc5 => ?_) (fun hc5 => ?_)
  · refine x_tabIn hz dX9_count_1 5 (by rw [hc5]; rfl) (by decide) (by decide) rfl rfl ?_
    refine x_aload_n hz dX9_count_94 rfl 0 rfl ?_
    refine x_geti hz sx_0 fl_X9_29 rfl dX9_count_95 ?_
    exact x_iret hz rfl dX9_count_98
  refine x_pull ?_
  refine x_case (fun hc6 => ?_) (fun hc6 => ?_)
  · refine x_tabIn hz dX9_count_1 6 (by rw [hc6]; rfl) (by decide) (by decide) rfl rfl ?_
    refine x_aload_n hz dX9_count_99 rfl 0 rfl ?_
    refine x_getr hz sx_0 fl_X9_12 rfl rx_0_0 (by decide) dX9_count_100 ?_
    refine x_geti hz sx_1 fl_X9_118 rfl dX9_count_103 ?_
    exact x_iret hz rfl dX9_count_106
  refine x_pull ?_
  refine x_case (fun hc7 => ?_) (fun hc7 => ?_)
  · refine x_tabIn hz dX9_count_1 7 (by rw [hc7]; rfl) (by decide) (by decide) rfl rfl ?_
    refine x_aload_n hz dX9_count_107 rfl 0 rfl ?_
    refine x_getr hz sx_0 fl_X9_36 rfl rx_0_5 (by decide) dX9_count_108 ?_
    refine x_geti hz sx_30 fl_X9_121 rfl dX9_count_111 ?_
    exact x_iret hz rfl dX9_count_114
  have ehc0 := lv_neT (a := 0) hc0 (by decide)
  have ehc1 := lv_neT (a := 1) hc1 (by decide)
  have ehc2 := lv_neT (a := 2) hc2 (by decide)
  have ehc3 := lv_neT (a := 3) hc3 (by decide)
  have ehc4 := lv_neT (a := 4) hc4 (by decide)
  have ehc5 := lv_neT (a := 5) hc5 (by decide)
  have ehc6 := lv_neT (a := 6) hc6 (by decide)
  have ehc7 := lv_neT (a := 7) hc7 (by decide)
  refine x_tabOut hz dX9_count_1 (by omega) rfl ?_
  refine x_bipush hz (-2) dX9_count_115 rfl ?_
  exact x_iret hz rfl dX9_count_117
theorem kX9_count {l : Launch} {dd : hDD} {b n : Nat} (a1 : Int32) (M : hMem) : hC l hYx dd b yX9_count cX9_count 2 (some .int) (n + 0) [.ref (b + 0), .int a1] M (some (.int (fX9_count a1 M)), M) :=
  h_met (av := fun b => [.ref (b + 0), .int a1]) (rt := (rtP M)) (by decide) (Nat.le_of_ble_eq_true rfl) (fun Z hz => wX9_count (n := n) hz a1 M) _ rfl
set_option maxRecDepth 10000 in
set_option maxHeartbeats 4000000 in
theorem wX9_isByte {Z : hZ} {n : Nat} (hz : hOK Z hYx cX9_isByte RX9 1 (n + 0) (some .boolean)) (a0 : Int32) (M : hMem) : hW Z (rtP M) M 0 [(0, .int a0)] [] (some (fX9_isByte a0 M)) := by
  unfold fX9_isByte
  refine x_iload_n hz dX9_isByte_0 rfl 0 rfl ?_
  refine x_pull ?_
  refine x_if_lt hz dX9_isByte_1 ?_ ?_
  · refine x_iconst hz 0 dX9_isByte_15 rfl ?_
    exact x_zret hz rfl rfl dX9_isByte_16
  refine x_iload_n hz dX9_isByte_4 rfl 0 rfl ?_
  refine x_sipush hz 255 dX9_isByte_5 rfl ?_
  refine x_pull ?_
  refine x_icmp_gt hz dX9_isByte_8 ?_ ?_
  · refine x_iconst hz 0 dX9_isByte_15 rfl ?_
    exact x_zret hz rfl rfl dX9_isByte_16
  refine x_iconst hz 1 dX9_isByte_11 rfl ?_
  refine x_goto hz dX9_isByte_12 ?_
  exact x_zret hz rfl rfl dX9_isByte_16
theorem bX9_isByte (a0 : Int32) (M : hMem) : narrow .boolean (.int (fX9_isByte a0 M)) = .int (fX9_isByte a0 M) := by
  unfold fX9_isByte
  repeat (first | rfl | split)
theorem kX9_isByte {l : Launch} {dd : hDD} {b n : Nat} (a0 : Int32) (M : hMem) : hC l hYx dd b yX9_isByte cX9_isByte 1 (some .boolean) (n + 0) [.int a0] M (some (.int (fX9_isByte a0 M)), M) :=
  h_met (av := fun b => [.int a0]) (rt := (rtP M)) (by decide) (Nat.le_of_ble_eq_true rfl) (fun Z hz => wX9_isByte (n := n) hz a0 M) _ rfl
set_option maxRecDepth 10000 in
set_option maxHeartbeats 4000000 in
theorem wX9_feed_L72 {Z : hZ} {n : Nat} (hz : hOK Z hYx cX9_feed RX9 8 (n + 1) (some .int))  (v1 : Int32) (v2 : Int32) (v3 : Int32) (v4 : Int32) (v5 : Int32) (v6 : Int32)   : ∀ (i : Nat) (s : Int32 × hMem), hW Z rtM s.2 72 [(0, .ref (h_b Z + 0)), (1, .int v1), (2, .int v2), (3, .int v3), (4, .int v4), (5, .int v5), (6, .int v6), (7, .int s.1)] [] (h_lp (fX9_feed_L72 v1 v2 v3 v4 v5 v6) i s) := by
  refine x_loop (Ms := fun s : Int32 × hMem => s.2) (Ls := fun s : Int32 × hMem => [(0, .ref (h_b Z + 0)), (1, .int v1), (2, .int v2), (3, .int v3), (4, .int v4), (5, .int v5), (6, .int v6), (7, .int s.1)]) ?_
  intro k72 hk72 s
  show hW Z rtM s.2 72 [(0, .ref (h_b Z + 0)), (1, .int v1), (2, .int v2), (3, .int v3), (4, .int v4), (5, .int v5), (6, .int v6), (7, .int s.1)] [] (fX9_feed_L72 v1 v2 v3 v4 v5 v6 k72 s)
  unfold fX9_feed_L72
  refine x_iload hz dX9_feed_72 7 rfl ?_
  refine x_iload_n hz dX9_feed_74 rfl 1 rfl ?_
  refine x_icmp_ge hz dX9_feed_75 ?_ ?_
  · refine x_aload_n hz dX9_feed_134 rfl 0 rfl ?_
    refine x_getr hz sx_0 fl_X9_36 rfl rx_0_5 (by decide) dX9_feed_135 ?_
    refine x_geti hz sx_30 fl_X9_121 rfl dX9_feed_138 ?_
    exact x_iret hz rfl dX9_feed_141
  refine x_aload_n hz dX9_feed_78 rfl 0 rfl ?_
  refine x_getr hz sx_0 fl_X9_36 rfl rx_0_5 (by decide) dX9_feed_79 ?_
  refine x_iload hz dX9_feed_82 7 rfl ?_
  refine x_if_ne hz dX9_feed_84 ?_ ?_
  · refine x_iload hz dX9_feed_91 7 rfl ?_
    refine x_iconst hz 1 dX9_feed_93 rfl ?_
    refine x_icmp_ne hz dX9_feed_94 ?_ ?_
    · refine x_iload hz dX9_feed_101 7 rfl ?_
      refine x_iconst hz 2 dX9_feed_103 rfl ?_
      refine x_icmp_ne hz dX9_feed_104 ?_ ?_
      · refine x_iload hz dX9_feed_112 7 rfl ?_
        refine x_iconst hz 3 dX9_feed_114 rfl ?_
        refine x_icmp_ne hz dX9_feed_115 ?_ ?_
        · refine x_iload hz dX9_feed_123 6 rfl ?_
          refine x_bind (fun q125 hq125 => ?_)
          refine x_callV hz mv_X9_78 sx_30 (by decide) rfl rfl (kX5_put (n := n) v6 s.2 q125 hq125) rfl (av := [.int v6]) (rest := []) rfl rfl (Nat.le_of_ble_eq_true rfl) dX9_feed_125 ?_
          refine x_iinc hz (s.1 + 1) [(7, .int (s.1 + 1)), (0, .ref (h_b Z + 0)), (1, .int v1), (2, .int v2), (3, .int v3), (4, .int v4), (5, .int v5), (6, .int v6)] dX9_feed_128 7 rfl rfl rfl rfl ?_
          refine x_goto hz dX9_feed_131 ?_
          exact x_sub [1, 2, 3, 4, 5, 6, 7, 0] rfl (hk72 (s.1 + 1, q125))
        refine x_iload hz dX9_feed_118 5 rfl ?_
        refine x_goto hz dX9_feed_120 ?_
        refine x_bind (fun q125 hq125 => ?_)
        refine x_callV hz mv_X9_78 sx_30 (by decide) rfl rfl (kX5_put (n := n) v5 s.2 q125 hq125) rfl (av := [.int v5]) (rest := []) rfl rfl (Nat.le_of_ble_eq_true rfl) dX9_feed_125 ?_
        refine x_iinc hz (s.1 + 1) [(7, .int (s.1 + 1)), (0, .ref (h_b Z + 0)), (1, .int v1), (2, .int v2), (3, .int v3), (4, .int v4), (5, .int v5), (6, .int v6)] dX9_feed_128 7 rfl rfl rfl rfl ?_
        refine x_goto hz dX9_feed_131 ?_
        exact x_sub [1, 2, 3, 4, 5, 6, 7, 0] rfl (hk72 (s.1 + 1, q125))
      refine x_iload hz dX9_feed_107 4 rfl ?_
      refine x_goto hz dX9_feed_109 ?_
      refine x_bind (fun q125 hq125 => ?_)
      refine x_callV hz mv_X9_78 sx_30 (by decide) rfl rfl (kX5_put (n := n) v4 s.2 q125 hq125) rfl (av := [.int v4]) (rest := []) rfl rfl (Nat.le_of_ble_eq_true rfl) dX9_feed_125 ?_
      refine x_iinc hz (s.1 + 1) [(7, .int (s.1 + 1)), (0, .ref (h_b Z + 0)), (1, .int v1), (2, .int v2), (3, .int v3), (4, .int v4), (5, .int v5), (6, .int v6)] dX9_feed_128 7 rfl rfl rfl rfl ?_
      refine x_goto hz dX9_feed_131 ?_
      exact x_sub [1, 2, 3, 4, 5, 6, 7, 0] rfl (hk72 (s.1 + 1, q125))
    refine x_iload_n hz dX9_feed_97 rfl 3 rfl ?_
    refine x_goto hz dX9_feed_98 ?_
    refine x_bind (fun q125 hq125 => ?_)
    refine x_callV hz mv_X9_78 sx_30 (by decide) rfl rfl (kX5_put (n := n) v3 s.2 q125 hq125) rfl (av := [.int v3]) (rest := []) rfl rfl (Nat.le_of_ble_eq_true rfl) dX9_feed_125 ?_
    refine x_iinc hz (s.1 + 1) [(7, .int (s.1 + 1)), (0, .ref (h_b Z + 0)), (1, .int v1), (2, .int v2), (3, .int v3), (4, .int v4), (5, .int v5), (6, .int v6)] dX9_feed_128 7 rfl rfl rfl rfl ?_
    refine x_goto hz dX9_feed_131 ?_
    exact x_sub [1, 2, 3, 4, 5, 6, 7, 0] rfl (hk72 (s.1 + 1, q125))
  refine x_iload_n hz dX9_feed_87 rfl 2 rfl ?_
  refine x_goto hz dX9_feed_88 ?_
  refine x_bind (fun q125 hq125 => ?_)
  refine x_callV hz mv_X9_78 sx_30 (by decide) rfl rfl (kX5_put (n := n) v2 s.2 q125 hq125) rfl (av := [.int v2]) (rest := []) rfl rfl (Nat.le_of_ble_eq_true rfl) dX9_feed_125 ?_
  refine x_iinc hz (s.1 + 1) [(7, .int (s.1 + 1)), (0, .ref (h_b Z + 0)), (1, .int v1), (2, .int v2), (3, .int v3), (4, .int v4), (5, .int v5), (6, .int v6)] dX9_feed_128 7 rfl rfl rfl rfl ?_
  refine x_goto hz dX9_feed_131 ?_
  exact x_sub [1, 2, 3, 4, 5, 6, 7, 0] rfl (hk72 (s.1 + 1, q125))
set_option maxRecDepth 10000 in
set_option maxHeartbeats 4000000 in
theorem wX9_feed {Z : hZ} {n : Nat} (hz : hOK Z hYx cX9_feed RX9 8 (n + 1) (some .int)) (a1 : Int32) (a2 : Int32) (a3 : Int32) (a4 : Int32) (a5 : Int32) (a6 : Int32) (M : hMem) : hW Z rtM M 0 [(0, .ref (h_b Z + 0)), (1, .int a1), (2, .int a2), (3, .int a3), (4, .int a4), (5, .int a5), (6, .int a6)] [] (fX9_feed a1 a2 a3 a4 a5 a6 M) := by
  unfold fX9_feed
  refine x_iload_n hz dX9_feed_0 rfl 1 rfl ?_
  refine x_iconst hz 1 dX9_feed_1 rfl ?_
  refine x_icmp_lt hz dX9_feed_2 ?_ ?_
  · refine x_bipush hz (-2) dX9_feed_48 rfl ?_
    exact x_iret hz rfl dX9_feed_50
  refine x_iload_n hz dX9_feed_5 rfl 1 rfl ?_
  refine x_iconst hz 5 dX9_feed_6 rfl ?_
  refine x_icmp_gt hz dX9_feed_7 ?_ ?_
  · refine x_bipush hz (-2) dX9_feed_48 rfl ?_
    exact x_iret hz rfl dX9_feed_50
  refine x_iload_n hz dX9_feed_10 rfl 2 rfl ?_
  refine x_callS hz ms_X9_124 (kX9_isByte (n := n) a2 M) rfl (av := [.int a2]) (rest := []) rfl rfl (Nat.le_of_ble_eq_true rfl) dX9_feed_11 ?_
  refine x_if_eq hz dX9_feed_14 ?_ ?_
  · refine x_bipush hz (-2) dX9_feed_48 rfl ?_
    exact x_iret hz rfl dX9_feed_50
  refine x_iload_n hz dX9_feed_17 rfl 3 rfl ?_
  refine x_callS hz ms_X9_124 (kX9_isByte (n := n) a3 M) rfl (av := [.int a3]) (rest := []) rfl rfl (Nat.le_of_ble_eq_true rfl) dX9_feed_18 ?_
  refine x_if_eq hz dX9_feed_21 ?_ ?_
  · refine x_bipush hz (-2) dX9_feed_48 rfl ?_
    exact x_iret hz rfl dX9_feed_50
  refine x_iload hz dX9_feed_24 4 rfl ?_
  refine x_callS hz ms_X9_124 (kX9_isByte (n := n) a4 M) rfl (av := [.int a4]) (rest := []) rfl rfl (Nat.le_of_ble_eq_true rfl) dX9_feed_26 ?_
  refine x_if_eq hz dX9_feed_29 ?_ ?_
  · refine x_bipush hz (-2) dX9_feed_48 rfl ?_
    exact x_iret hz rfl dX9_feed_50
  refine x_iload hz dX9_feed_32 5 rfl ?_
  refine x_callS hz ms_X9_124 (kX9_isByte (n := n) a5 M) rfl (av := [.int a5]) (rest := []) rfl rfl (Nat.le_of_ble_eq_true rfl) dX9_feed_34 ?_
  refine x_if_eq hz dX9_feed_37 ?_ ?_
  · refine x_bipush hz (-2) dX9_feed_48 rfl ?_
    exact x_iret hz rfl dX9_feed_50
  refine x_iload hz dX9_feed_40 6 rfl ?_
  refine x_callS hz ms_X9_124 (kX9_isByte (n := n) a6 M) rfl (av := [.int a6]) (rest := []) rfl rfl (Nat.le_of_ble_eq_true rfl) dX9_feed_42 ?_
  refine x_if_ne hz dX9_feed_45 ?_ ?_
  · refine x_aload_n hz dX9_feed_51 rfl 0 rfl ?_
    refine x_getr hz sx_0 fl_X9_36 rfl rx_0_5 (by decide) dX9_feed_52 ?_
    refine x_geti hz sx_30 fl_X9_121 rfl dX9_feed_55 ?_
    refine x_iload_n hz dX9_feed_58 rfl 1 rfl ?_
    refine x_iadd hz dX9_feed_59 ?_
    refine x_sipush hz 160 dX9_feed_60 rfl ?_
    refine x_icmp_le hz dX9_feed_63 ?_ ?_
    · refine x_iconst hz 0 dX9_feed_69 rfl ?_
      refine x_istore hz [(7, .int 0), (0, .ref (h_b Z + 0)), (1, .int a1), (2, .int a2), (3, .int a3), (4, .int a4), (5, .int a5), (6, .int a6)] dX9_feed_70 rfl rfl ?_
      exact x_sub [1, 2, 3, 4, 5, 6, 7, 0] rfl (wX9_feed_L72 hz a1 a2 a3 a4 a5 a6 h_FU (0, M))
    refine x_bipush hz (-4) dX9_feed_66 rfl ?_
    exact x_iret hz rfl dX9_feed_68
  refine x_bipush hz (-2) dX9_feed_48 rfl ?_
  exact x_iret hz rfl dX9_feed_50
theorem kX9_feed {l : Launch} {dd : hDD} {b n : Nat} (a1 : Int32) (a2 : Int32) (a3 : Int32) (a4 : Int32) (a5 : Int32) (a6 : Int32) (M : hMem) (r : Int32 × hMem) (h : fX9_feed a1 a2 a3 a4 a5 a6 M = some r) : hC l hYx dd b yX9_feed cX9_feed 8 (some .int) (n + 1) [.ref (b + 0), .int a1, .int a2, .int a3, .int a4, .int a5, .int a6] M (some (.int r.1), r.2) :=
  h_met (av := fun b => [.ref (b + 0), .int a1, .int a2, .int a3, .int a4, .int a5, .int a6]) (rt := rtM) (by decide) (Nat.le_of_ble_eq_true rfl) (fun Z hz => wX9_feed (n := n) hz a1 a2 a3 a4 a5 a6 M) r h
set_option maxRecDepth 10000 in
set_option maxHeartbeats 4000000 in
theorem wX9_text {Z : hZ} {n : Nat} (hz : hOK Z hYx cX9_text RX9 2 (n + 44) (some .int))  (M : hMem) : hW Z rtM M 0 [(0, .ref (h_b Z + 0))] [] (fX9_text M) := by
  unfold fX9_text
  refine x_aload_n hz dX9_text_0 rfl 0 rfl ?_
  refine x_geti hz sx_0 fl_X9_29 rfl dX9_text_1 ?_
  refine x_bipush hz 6 dX9_text_4 rfl ?_
  refine x_icmp_lt hz dX9_text_6 ?_ ?_
  · refine x_aload_n hz dX9_text_12 rfl 0 rfl ?_
    refine x_getr hz sx_0 fl_X9_36 rfl rx_0_5 (by decide) dX9_text_13 ?_
    refine x_aload_n hz dX9_text_16 rfl 0 rfl ?_
    refine x_getr hz sx_0 fl_X9_25 rfl rx_0_3 (by decide) dX9_text_17 ?_
    refine x_aload_n hz dX9_text_20 rfl 0 rfl ?_
    refine x_geti hz sx_0 fl_X9_29 rfl dX9_text_21 ?_
    refine x_guard (fun hi24 => ?_)
    refine x_aald0 hz (q := (56 + 4 * (M 0 4).toNatClampNeg)) 3 (fun _ => rfl) sx_29 (by decide) hi24 rfl (by omega) dX9_text_24 ?_
    refine x_bind (fun q25 hq25 => ?_)
    refine x_callV hz mv_X9_82 sx_30 (by decide) rfl rfl (kX5_readInto (n := n) (56 + 4 * (M 0 4).toNatClampNeg) M q25 hq25) rfl (av := [.ref (h_b Z + (56 + 4 * (M 0 4).toNatClampNeg))]) (rest := []) rfl rfl (Nat.le_of_ble_eq_true rfl) dX9_text_25 ?_
    refine x_istore_n hz [(1, .int q25.1), (0, .ref (h_b Z + 0))] dX9_text_28 rfl rfl rfl ?_
    refine x_iload_n hz dX9_text_29 rfl 0 rfl ?_
    refine x_if_lt hz dX9_text_30 ?_ ?_
    · refine x_aload_n hz dX9_text_38 rfl 1 rfl ?_
      refine x_dup hz dX9_text_39 rfl ?_
      refine x_geti hz sx_0 fl_X9_29 rfl dX9_text_40 ?_
      refine x_iconst hz 1 dX9_text_43 rfl ?_
      refine x_iadd hz dX9_text_44 ?_
      refine x_puti hz sx_0 fp_X9_29 rfl dX9_text_45 ?_
      refine x_aload_n hz dX9_text_48 rfl 1 rfl ?_
      refine x_geti hz sx_0 fl_X9_29 rfl dX9_text_49 ?_
      refine x_iconst hz 1 dX9_text_52 rfl ?_
      refine x_isub hz dX9_text_53 ?_
      exact x_iret hz rfl dX9_text_54
    refine x_bipush hz (-100) dX9_text_33 rfl ?_
    refine x_iload_n hz dX9_text_35 rfl 0 rfl ?_
    refine x_isub hz dX9_text_36 ?_
    exact x_iret hz rfl dX9_text_37
  refine x_bipush hz (-4) dX9_text_9 rfl ?_
  exact x_iret hz rfl dX9_text_11
theorem kX9_text {l : Launch} {dd : hDD} {b n : Nat}  (M : hMem) (r : Int32 × hMem) (h : fX9_text M = some r) : hC l hYx dd b yX9_text cX9_text 2 (some .int) (n + 44) [.ref (b + 0)] M (some (.int r.1), r.2) :=
  h_met (av := fun b => [.ref (b + 0)]) (rt := rtM) (by decide) (Nat.le_of_ble_eq_true rfl) (fun Z hz => wX9_text (n := n) hz  M) r h
set_option maxRecDepth 10000 in
set_option maxHeartbeats 4000000 in
theorem wX9_force {Z : hZ} {n : Nat} (hz : hOK Z hYx cX9_force RX9 3 (n + 0) (some .int)) (a1 : Int32) (M : hMem) : hW Z rtM M 0 [(0, .ref (h_b Z + 0)), (1, .int a1)] [] (fX9_force a1 M) := by
  unfold fX9_force
  refine x_iload_n hz dX9_force_0 rfl 1 rfl ?_
  refine x_if_lt hz dX9_force_1 ?_ ?_
  · refine x_bipush hz (-2) dX9_force_12 rfl ?_
    exact x_iret hz rfl dX9_force_14
  refine x_iload_n hz dX9_force_4 rfl 1 rfl ?_
  refine x_aload_n hz dX9_force_5 rfl 0 rfl ?_
  refine x_geti hz sx_0 fl_X9_29 rfl dX9_force_6 ?_
  refine x_icmp_lt hz dX9_force_9 ?_ ?_
  · refine x_aload_n hz dX9_force_15 rfl 0 rfl ?_
    refine x_getr hz sx_0 fl_X9_12 rfl rx_0_0 (by decide) dX9_force_16 ?_
    refine x_geti hz sx_1 fl_X9_118 rfl dX9_force_19 ?_
    refine x_istore_n hz [(2, .int (M 1 7)), (0, .ref (h_b Z + 0)), (1, .int a1)] dX9_force_22 rfl rfl rfl ?_
    refine x_aload_n hz dX9_force_23 rfl 1 rfl ?_
    refine x_getr hz sx_0 fl_X9_12 rfl rx_0_0 (by decide) dX9_force_24 ?_
    refine x_iload_n hz dX9_force_27 rfl 2 rfl ?_
    refine x_puti hz sx_1 fp_X9_118 rfl dX9_force_28 ?_
    refine x_iload_n hz dX9_force_31 rfl 0 rfl ?_
    exact x_iret hz rfl dX9_force_32
  refine x_bipush hz (-2) dX9_force_12 rfl ?_
  exact x_iret hz rfl dX9_force_14
theorem kX9_force {l : Launch} {dd : hDD} {b n : Nat} (a1 : Int32) (M : hMem) (r : Int32 × hMem) (h : fX9_force a1 M = some r) : hC l hYx dd b yX9_force cX9_force 3 (some .int) (n + 0) [.ref (b + 0), .int a1] M (some (.int r.1), r.2) :=
  h_met (av := fun b => [.ref (b + 0), .int a1]) (rt := rtM) (by decide) (Nat.le_of_ble_eq_true rfl) (fun Z hz => wX9_force (n := n) hz a1 M) r h
set_option maxRecDepth 10000 in
set_option maxHeartbeats 4000000 in
theorem wX9_isBehind {Z : hZ} {n : Nat} (hz : hOK Z hYx cX9_isBehind RX9 1 (n + 0) (some .boolean)) (a0 : Int32) (M : hMem) : hW Z (rtP M) M 0 [(0, .int a0)] [] (some (fX9_isBehind a0 M)) := by
  unfold fX9_isBehind
  refine x_iload_n hz dX9_isBehind_0 rfl 0 rfl ?_
  refine x_pull ?_
  refine x_if_lt hz dX9_isBehind_1 ?_ ?_
  · refine x_iconst hz 0 dX9_isBehind_14 rfl ?_
    exact x_zret hz rfl rfl dX9_isBehind_15
  refine x_iload_n hz dX9_isBehind_4 rfl 0 rfl ?_
  refine x_bipush hz 24 dX9_isBehind_5 rfl ?_
  refine x_pull ?_
  refine x_icmp_gt hz dX9_isBehind_7 ?_ ?_
  · refine x_iconst hz 0 dX9_isBehind_14 rfl ?_
    exact x_zret hz rfl rfl dX9_isBehind_15
  refine x_iconst hz 1 dX9_isBehind_10 rfl ?_
  refine x_goto hz dX9_isBehind_11 ?_
  exact x_zret hz rfl rfl dX9_isBehind_15
theorem bX9_isBehind (a0 : Int32) (M : hMem) : narrow .boolean (.int (fX9_isBehind a0 M)) = .int (fX9_isBehind a0 M) := by
  unfold fX9_isBehind
  repeat (first | rfl | split)
theorem kX9_isBehind {l : Launch} {dd : hDD} {b n : Nat} (a0 : Int32) (M : hMem) : hC l hYx dd b yX9_isBehind cX9_isBehind 1 (some .boolean) (n + 0) [.int a0] M (some (.int (fX9_isBehind a0 M)), M) :=
  h_met (av := fun b => [.int a0]) (rt := (rtP M)) (by decide) (Nat.le_of_ble_eq_true rfl) (fun Z hz => wX9_isBehind (n := n) hz a0 M) _ rfl
set_option maxRecDepth 10000 in
set_option maxHeartbeats 4000000 in
theorem wX9_stateOf {Z : hZ} {n : Nat} (hz : hOK Z hYx cX9_stateOf RX9 2 (n + 0) (some .int)) (a0 : Int32) (a1 : Int32) (M : hMem) : hW Z (rtP M) M 0 [(0, .int a0), (1, .int a1)] [] (some (fX9_stateOf a0 a1 M)) := by
  unfold fX9_stateOf
  refine x_iload_n hz dX9_stateOf_0 rfl 1 rfl ?_
  refine x_bipush hz 32 dX9_stateOf_1 rfl ?_
  refine x_imul hz dX9_stateOf_3 ?_
  refine x_iload_n hz dX9_stateOf_4 rfl 0 rfl ?_
  refine x_iadd hz dX9_stateOf_5 ?_
  exact x_iret hz rfl dX9_stateOf_6
theorem kX9_stateOf {l : Launch} {dd : hDD} {b n : Nat} (a0 : Int32) (a1 : Int32) (M : hMem) : hC l hYx dd b yX9_stateOf cX9_stateOf 2 (some .int) (n + 0) [.int a0, .int a1] M (some (.int (fX9_stateOf a0 a1 M)), M) :=
  h_met (av := fun b => [.int a0, .int a1]) (rt := (rtP M)) (by decide) (Nat.le_of_ble_eq_true rfl) (fun Z hz => wX9_stateOf (n := n) hz a0 a1 M) _ rfl
set_option maxRecDepth 10000 in
set_option maxHeartbeats 4000000 in
theorem wX4_changed {Z : hZ} {n : Nat} (hz : hOK Z hYx cX4_changed RX4 2 (n + 0) (some .int)) (a0 : Int32) (a1 : Int32) (M : hMem) : hW Z (rtP M) M 0 [(0, .int a0), (1, .int a1)] [] (some (fX4_changed a0 a1 M)) := by
  unfold fX4_changed
  refine x_iload_n hz dX4_changed_0 rfl 0 rfl ?_
  refine x_bipush hz (-19) dX4_changed_1 rfl ?_
  refine x_pull ?_
  refine x_icmp_ne hz dX4_changed_3 ?_ ?_
  · refine x_iload_n hz dX4_changed_9 rfl 1 rfl ?_
    refine x_pull ?_
    refine x_if_ne hz dX4_changed_10 ?_ ?_
    · refine x_iconst hz 0 dX4_changed_17 rfl ?_
      exact x_iret hz rfl dX4_changed_18
    refine x_iconst hz 1 dX4_changed_13 rfl ?_
    refine x_goto hz dX4_changed_14 ?_
    exact x_iret hz rfl dX4_changed_18
  refine x_iload_n hz dX4_changed_6 rfl 1 rfl ?_
  refine x_ineg hz dX4_changed_7 ?_
  exact x_iret hz rfl dX4_changed_8
theorem kX4_changed {l : Launch} {dd : hDD} {b n : Nat} (a0 : Int32) (a1 : Int32) (M : hMem) : hC l hYx dd b yX4_changed cX4_changed 2 (some .int) (n + 0) [.int a0, .int a1] M (some (.int (fX4_changed a0 a1 M)), M) :=
  h_met (av := fun b => [.int a0, .int a1]) (rt := (rtP M)) (by decide) (Nat.le_of_ble_eq_true rfl) (fun Z hz => wX4_changed (n := n) hz a0 a1 M) _ rfl
set_option maxRecDepth 10000 in
set_option maxHeartbeats 4000000 in
theorem wX4_joined {Z : hZ} {n : Nat} (hz : hOK Z hYx cX4_joined RX4 3 (n + 0) (some .int)) (a0 : Int32) (a1 : Int32) (a2 : Int32) (M : hMem) : hW Z (rtP M) M 0 [(0, .int a0), (1, .int a1), (2, .int a2)] [] (some (fX4_joined a0 a1 a2 M)) := by
  unfold fX4_joined
  refine x_iload_n hz dX4_joined_0 rfl 0 rfl ?_
  refine x_pull ?_
  refine x_case (fun hc1017 => ?_) (fun hc1017 => ?_)
  · refine x_tabIn hz dX4_joined_1 (-17) (by rw [hc1017]; rfl) (by decide) (by decide) rfl rfl ?_
    refine x_iload_n hz dX4_joined_98 rfl 1 rfl ?_
    refine x_iload_n hz dX4_joined_99 rfl 2 rfl ?_
    refine x_isub hz dX4_joined_100 ?_
    exact x_iret hz rfl dX4_joined_101
  refine x_pull ?_
  refine x_case (fun hc1016 => ?_) (fun hc1016 => ?_)
  · refine x_tabIn hz dX4_joined_1 (-16) (by rw [hc1016]; rfl) (by decide) (by decide) rfl rfl ?_
    refine x_iload_n hz dX4_joined_94 rfl 1 rfl ?_
    refine x_iload_n hz dX4_joined_95 rfl 2 rfl ?_
    refine x_iadd hz dX4_joined_96 ?_
    exact x_iret hz rfl dX4_joined_97
  refine x_pull ?_
  refine x_case (fun hc1015 => ?_) (fun hc1015 => ?_)
  · refine x_tabIn hz dX4_joined_1 (-15) (by rw [hc1015]; rfl) (by decide) (by decide) rfl rfl ?_
    refine x_iload_n hz dX4_joined_83 rfl 1 rfl ?_
    refine x_iload_n hz dX4_joined_84 rfl 2 rfl ?_
    refine x_pull ?_
    refine x_icmp_ne hz dX4_joined_85 ?_ ?_
    · refine x_iconst hz 0 dX4_joined_92 rfl ?_
      exact x_iret hz rfl dX4_joined_93
    refine x_iconst hz 1 dX4_joined_88 rfl ?_
    refine x_goto hz dX4_joined_89 ?_
    exact x_iret hz rfl dX4_joined_93
  refine x_pull ?_
  refine x_case (fun hc1014 => ?_) (fun hc1014 => ?_)
  · refine x_tabIn hz dX4_joined_1 (-14) (by rw [hc1014]; rfl) (by decide) (by decide) rfl rfl ?_
    refine x_iload_n hz dX4_joined_72 rfl 1 rfl ?_
    refine x_iload_n hz dX4_joined_73 rfl 2 rfl ?_
    refine x_pull ?_
    refine x_icmp_ge hz dX4_joined_74 ?_ ?_
    · refine x_iconst hz 0 dX4_joined_81 rfl ?_
      exact x_iret hz rfl dX4_joined_82
    refine x_iconst hz 1 dX4_joined_77 rfl ?_
    refine x_goto hz dX4_joined_78 ?_
    exact x_iret hz rfl dX4_joined_82
  refine x_pull ?_
  refine x_case (fun hc1013 => ?_) (fun hc1013 => ?_)
  · refine x_tabIn hz dX4_joined_1 (-13) (by rw [hc1013]; rfl) (by decide) (by decide) rfl rfl ?_
    refine x_iload_n hz dX4_joined_102 rfl 1 rfl ?_
    refine x_iload_n hz dX4_joined_103 rfl 2 rfl ?_
    refine x_imul hz dX4_joined_104 ?_
    exact x_iret hz rfl dX4_joined_105
  refine x_pull ?_
  refine x_case (fun hc1012 => ?_) (fun hc1012 => ?_)
  · refine x_tabIn hz dX4_joined_1 (-12) (by rw [hc1012]; rfl) (by decide) (by decide) rfl rfl ?_
    refine x_iload_n hz dX4_joined_58 rfl 1 rfl ?_
    refine x_pull ?_
    refine x_if_eq hz dX4_joined_59 ?_ ?_
    · refine x_iconst hz 0 dX4_joined_70 rfl ?_
      exact x_iret hz rfl dX4_joined_71
    refine x_iload_n hz dX4_joined_62 rfl 2 rfl ?_
    refine x_pull ?_
    refine x_if_eq hz dX4_joined_63 ?_ ?_
    · refine x_iconst hz 0 dX4_joined_70 rfl ?_
      exact x_iret hz rfl dX4_joined_71
    refine x_iconst hz 1 dX4_joined_66 rfl ?_
    refine x_goto hz dX4_joined_67 ?_
    exact x_iret hz rfl dX4_joined_71
  refine x_pull ?_
  refine x_case (fun hc1011 => ?_) (fun hc1011 => ?_)
  · refine x_tabIn hz dX4_joined_1 (-11) (by rw [hc1011]; rfl) (by decide) (by decide) rfl rfl ?_
    refine x_iload_n hz dX4_joined_44 rfl 1 rfl ?_
    refine x_pull ?_
    refine x_if_ne hz dX4_joined_45 ?_ ?_
    · refine x_iconst hz 1 dX4_joined_52 rfl ?_
      refine x_goto hz dX4_joined_53 ?_
      exact x_iret hz rfl dX4_joined_57
    refine x_iload_n hz dX4_joined_48 rfl 2 rfl ?_
    refine x_pull ?_
    refine x_if_eq hz dX4_joined_49 ?_ ?_
    · refine x_iconst hz 0 dX4_joined_56 rfl ?_
      exact x_iret hz rfl dX4_joined_57
    refine x_iconst hz 1 dX4_joined_52 rfl ?_
    refine x_goto hz dX4_joined_53 ?_
    exact x_iret hz rfl dX4_joined_57
  have ehc1017 := lv_neT (a := (-17)) hc1017 (by decide)
  have ehc1016 := lv_neT (a := (-16)) hc1016 (by decide)
  have ehc1015 := lv_neT (a := (-15)) hc1015 (by decide)
  have ehc1014 := lv_neT (a := (-14)) hc1014 (by decide)
  have ehc1013 := lv_neT (a := (-13)) hc1013 (by decide)
  have ehc1012 := lv_neT (a := (-12)) hc1012 (by decide)
  have ehc1011 := lv_neT (a := (-11)) hc1011 (by decide)
  refine x_tabOut hz dX4_joined_1 (by omega) rfl ?_
  refine x_iload_n hz dX4_joined_102 rfl 1 rfl ?_
  refine x_iload_n hz dX4_joined_103 rfl 2 rfl ?_
  refine x_imul hz dX4_joined_104 ?_
  exact x_iret hz rfl dX4_joined_105
theorem kX4_joined {l : Launch} {dd : hDD} {b n : Nat} (a0 : Int32) (a1 : Int32) (a2 : Int32) (M : hMem) : hC l hYx dd b yX4_joined cX4_joined 3 (some .int) (n + 0) [.int a0, .int a1, .int a2] M (some (.int (fX4_joined a0 a1 a2 M)), M) :=
  h_met (av := fun b => [.int a0, .int a1, .int a2]) (rt := (rtP M)) (by decide) (Nat.le_of_ble_eq_true rfl) (fun Z hz => wX4_joined (n := n) hz a0 a1 a2 M) _ rfl
set_option maxRecDepth 10000 in
set_option maxHeartbeats 4000000 in
theorem wX9_bounded {Z : hZ} {n : Nat} (hz : hOK Z hYx cX9_bounded RX9 3 (n + 0) (some .int)) (a0 : Int32) (a1 : Int32) (a2 : Int32) (M : hMem) : hW Z (rtP M) M 0 [(0, .int a0), (1, .int a1), (2, .int a2)] [] (some (fX9_bounded a0 a1 a2 M)) := by
  unfold fX9_bounded
  refine x_iload_n hz dX9_bounded_0 rfl 0 rfl ?_
  refine x_iload_n hz dX9_bounded_1 rfl 1 rfl ?_
  refine x_pull ?_
  refine x_icmp_ge hz dX9_bounded_2 ?_ ?_
  · refine x_iload_n hz dX9_bounded_9 rfl 0 rfl ?_
    refine x_iload_n hz dX9_bounded_10 rfl 2 rfl ?_
    refine x_pull ?_
    refine x_icmp_le hz dX9_bounded_11 ?_ ?_
    · refine x_iload_n hz dX9_bounded_18 rfl 0 rfl ?_
      exact x_iret hz rfl dX9_bounded_19
    refine x_iload_n hz dX9_bounded_14 rfl 2 rfl ?_
    refine x_goto hz dX9_bounded_15 ?_
    exact x_iret hz rfl dX9_bounded_19
  refine x_iload_n hz dX9_bounded_5 rfl 1 rfl ?_
  refine x_goto hz dX9_bounded_6 ?_
  exact x_iret hz rfl dX9_bounded_19
theorem kX9_bounded {l : Launch} {dd : hDD} {b n : Nat} (a0 : Int32) (a1 : Int32) (a2 : Int32) (M : hMem) : hC l hYx dd b yX9_bounded cX9_bounded 3 (some .int) (n + 0) [.int a0, .int a1, .int a2] M (some (.int (fX9_bounded a0 a1 a2 M)), M) :=
  h_met (av := fun b => [.int a0, .int a1, .int a2]) (rt := (rtP M)) (by decide) (Nat.le_of_ble_eq_true rfl) (fun Z hz => wX9_bounded (n := n) hz a0 a1 a2 M) _ rfl
set_option maxRecDepth 10000 in
set_option maxHeartbeats 4000000 in
theorem wJ9_floorMod_7cf53 {Z : hZ} {n : Nat} (hz : hOK Z hYx cJ9_floorMod_7cf53 RJ9 3 (n + 0) (some .int)) (a0 : Int32) (a1 : Int32) (M : hMem) : hW Z (rtP M) M 0 [(0, .int a0), (1, .int a1)] [] (fJ9_floorMod_7cf53 a0 a1 M) := by
  unfold fJ9_floorMod_7cf53
  refine x_iload_n hz dJ9_floorMod_7cf53_0 rfl 0 rfl ?_
  refine x_iload_n hz dJ9_floorMod_7cf53_1 rfl 1 rfl ?_
  refine x_case (fun hn2 => x_none) (fun hn2 => ?_)
  refine x_irem hz dJ9_floorMod_7cf53_2 hn2 ?_
  refine x_istore_n hz [(2, .int (h_rem a0 a1)), (0, .int a0), (1, .int a1)] dJ9_floorMod_7cf53_3 rfl rfl rfl ?_
  refine x_iload_n hz dJ9_floorMod_7cf53_4 rfl 1 rfl ?_
  refine x_iload_n hz dJ9_floorMod_7cf53_5 rfl 2 rfl ?_
  refine x_ixor hz dJ9_floorMod_7cf53_6 ?_
  refine x_if_ge hz dJ9_floorMod_7cf53_7 ?_ ?_
  · refine x_iload_n hz dJ9_floorMod_7cf53_18 rfl 0 rfl ?_
    exact x_iret hz rfl dJ9_floorMod_7cf53_19
  refine x_iload_n hz dJ9_floorMod_7cf53_10 rfl 0 rfl ?_
  refine x_if_eq hz dJ9_floorMod_7cf53_11 ?_ ?_
  · refine x_iload_n hz dJ9_floorMod_7cf53_18 rfl 0 rfl ?_
    exact x_iret hz rfl dJ9_floorMod_7cf53_19
  refine x_iload_n hz dJ9_floorMod_7cf53_14 rfl 0 rfl ?_
  refine x_iload_n hz dJ9_floorMod_7cf53_15 rfl 2 rfl ?_
  refine x_iadd hz dJ9_floorMod_7cf53_16 ?_
  exact x_iret hz rfl dJ9_floorMod_7cf53_17
theorem kJ9_floorMod_7cf53 {l : Launch} {dd : hDD} {b n : Nat} (a0 : Int32) (a1 : Int32) (M : hMem) (r : Int32) (h : fJ9_floorMod_7cf53 a0 a1 M = some r) : hC l hYx dd b yJ9_floorMod_7cf53 cJ9_floorMod_7cf53 3 (some .int) (n + 0) [.int a0, .int a1] M (some (.int r), M) :=
  h_met (av := fun b => [.int a0, .int a1]) (rt := (rtP M)) (by decide +kernel) (Nat.le_of_ble_eq_true rfl) (fun Z hz => wJ9_floorMod_7cf53 (n := n) hz a0 a1 M) r h
set_option maxRecDepth 10000 in
set_option maxHeartbeats 4000000 in
theorem wX4_withinBounds {Z : hZ} {n : Nat} (hz : hOK Z hYx cX4_withinBounds RX4 2 (n + 1) (some .int)) (a0 : Int32) (a1 : Int32) (M : hMem) : hW Z (rtP M) M 0 [(0, .int a0), (1, .int a1)] [] (fX4_withinBounds a0 a1 M) := by
  unfold fX4_withinBounds
  refine x_iload_n hz dX4_withinBounds_0 rfl 0 rfl ?_
  refine x_case (fun hc0 => ?_) (fun hc0 => ?_)
  · refine x_look hz dX4_withinBounds_1 (by decide) (by rw [hc0] <;> rfl) rfl ?_
    refine x_iload_n hz dX4_withinBounds_28 rfl 1 rfl ?_
    refine x_iconst hz 0 dX4_withinBounds_29 rfl ?_
    refine x_bipush hz 9 dX4_withinBounds_30 rfl ?_
    refine x_callN hz mn_X4_40 (kX9_bounded (n := n) a1 0 9 M) rfl (av := [.int a1, .int 0, .int 9]) (rest := []) rfl rfl (Nat.le_of_ble_eq_true rfl) dX4_withinBounds_32 ?_
    exact x_iret hz rfl dX4_withinBounds_35
  refine x_case (fun hc1 => ?_) (fun hc1 => ?_)
  · refine x_look hz dX4_withinBounds_1 (by decide) (by rw [hc1] <;> rfl) rfl ?_
    refine x_iload_n hz dX4_withinBounds_36 rfl 1 rfl ?_
    refine x_iconst hz 3 dX4_withinBounds_37 rfl ?_
    refine x_bind (fun q38 hq38 => ?_)
    refine x_callS hz ms_X4_43 (kJ9_floorMod_7cf53 (n := n) a1 3 M q38 hq38) rfl (av := [.int a1, .int 3]) (rest := []) rfl rfl (Nat.le_of_ble_eq_true rfl) dX4_withinBounds_38 ?_
    exact x_iret hz rfl dX4_withinBounds_41
  refine x_look hz dX4_withinBounds_1 (by decide) ((lv_osw (a := 0) (o := 27) (r := [(1, 35)]) (d := 41) hc0 (by decide)).trans ((lv_osw (a := 1) (o := 35) (r := []) (d := 41) hc1 (by decide)).trans rfl)) rfl ?_
  refine x_iload_n hz dX4_withinBounds_42 rfl 1 rfl ?_
  refine x_bipush hz (-99) dX4_withinBounds_43 rfl ?_
  refine x_bipush hz 99 dX4_withinBounds_45 rfl ?_
  refine x_callN hz mn_X4_40 (kX9_bounded (n := n) a1 (-99) 99 M) rfl (av := [.int a1, .int (-99), .int 99]) (rest := []) rfl rfl (Nat.le_of_ble_eq_true rfl) dX4_withinBounds_47 ?_
  exact x_iret hz rfl dX4_withinBounds_50
theorem kX4_withinBounds {l : Launch} {dd : hDD} {b n : Nat} (a0 : Int32) (a1 : Int32) (M : hMem) (r : Int32) (h : fX4_withinBounds a0 a1 M = some r) : hC l hYx dd b yX4_withinBounds cX4_withinBounds 2 (some .int) (n + 1) [.int a0, .int a1] M (some (.int r), M) :=
  h_met (av := fun b => [.int a0, .int a1]) (rt := (rtP M)) (by decide) (Nat.le_of_ble_eq_true rfl) (fun Z hz => wX4_withinBounds (n := n) hz a0 a1 M) r h
set_option maxRecDepth 10000 in
set_option maxHeartbeats 4000000 in
theorem wX4_says_L106 {Z : hZ} {n : Nat} (hz : hOK Z hYx cX4_says RX4 6 (n + 2) (some .int))  (v0 : Nat) (hv0 : h_is hYx v0 3 0) (v1 : Int32) (v3 : Int32) (v4 : Int32) (v5 : Int32) (M : hMem) {k31 : (Int32 × Int32 × hMem) → Option (Int32 × hMem)} (hk31 : ∀ s, hW Z rtM s.2.2 31 [(0, .ref (h_b Z + v0)), (1, .int v1), (2, .ref (h_b Z + 48)), (3, .int s.1), (4, .int s.2.1)] [] (k31 s)) : hW Z rtM M 106 [(0, .ref (h_b Z + v0)), (1, .int v1), (2, .ref (h_b Z + 48)), (3, .int v3), (4, .int v4), (5, .int v5)] [] (fX4_says_L106 k31 v0 v1 v3 v4 v5 M) := by
  unfold fX4_says_L106
  refine x_iload_n hz dX4_says_106 rfl 3 rfl ?_
  refine x_iconst hz 1 dX4_says_107 rfl ?_
  refine x_icmp_lt hz dX4_says_108 ?_ ?_
  · refine x_iinc hz (v4 + 1) [(4, .int (v4 + 1)), (0, .ref (h_b Z + v0)), (1, .int v1), (2, .ref (h_b Z + 48)), (3, .int v3), (5, .int v5)] dX4_says_170 4 rfl rfl rfl rfl ?_
    refine x_goto hz dX4_says_173 ?_
    exact x_sub [1, 2, 3, 4, 0] rfl (hk31 (v3, v4 + 1, M))
  refine x_aload_n hz dX4_says_111 rfl 0 rfl ?_
  refine x_getr hz hv0 fl_X4_18 rfl (gv_3_2 hv0) (Nat.succ_ne_zero _) dX4_says_112 ?_
  refine x_iload_n hz dX4_says_115 rfl 3 rfl ?_
  refine x_iconst hz 1 dX4_says_116 rfl ?_
  refine x_isub hz dX4_says_117 ?_
  refine x_iload hz dX4_says_118 5 rfl ?_
  refine x_aload_n hz dX4_says_120 rfl 0 rfl ?_
  refine x_getr hz hv0 fl_X4_18 rfl (gv_3_2 hv0) (Nat.succ_ne_zero _) dX4_says_121 ?_
  refine x_iload_n hz dX4_says_124 rfl 3 rfl ?_
  refine x_iconst hz 1 dX4_says_125 rfl ?_
  refine x_isub hz dX4_says_126 ?_
  refine x_iald hz (gs_3_2 hv0) dX4_says_127 (fun hi127 => ?_)
  refine x_callS hz ms_X4_29 (kX4_changed (n := (n + 1)) v5 (M (v0 + 3) (v3 - 1).toNatClampNeg) M) rfl (av := [.int v5, .int (M (v0 + 3) (v3 - 1).toNatClampNeg)]) (rest := [.int (v3 - 1), .ref (h_b Z + (v0 + 3))]) rfl rfl (Nat.le_of_ble_eq_true rfl) dX4_says_128 ?_
  refine x_iast hz (gs_3_2 hv0) dX4_says_131 (fun hi131 => ?_)
  refine x_goto hz dX4_says_132 ?_
  refine x_iinc hz (v4 + 1) [(4, .int (v4 + 1)), (0, .ref (h_b Z + v0)), (1, .int v1), (2, .ref (h_b Z + 48)), (3, .int v3), (5, .int v5)] dX4_says_170 4 rfl rfl rfl rfl ?_
  refine x_goto hz dX4_says_173 ?_
  exact x_sub [1, 2, 3, 4, 0] rfl (hk31 (v3, v4 + 1, h_up M (v0 + 3) (v3 - 1).toNatClampNeg (fX4_changed v5 (M (v0 + 3) (v3 - 1).toNatClampNeg) M)))
set_option maxRecDepth 10000 in
set_option maxHeartbeats 4000000 in
theorem wX4_says_L31 {Z : hZ} {n : Nat} (hz : hOK Z hYx cX4_says RX4 6 (n + 2) (some .int))  (v0 : Nat) (hv0 : h_is hYx v0 3 0) (v1 : Int32)   : ∀ (i : Nat) (s : Int32 × Int32 × hMem), hW Z rtM s.2.2 31 [(0, .ref (h_b Z + v0)), (1, .int v1), (2, .ref (h_b Z + 48)), (3, .int s.1), (4, .int s.2.1)] [] (h_lp (fX4_says_L31 v0 v1) i s) := by
  refine x_loop (Ms := fun s : Int32 × Int32 × hMem => s.2.2) (Ls := fun s : Int32 × Int32 × hMem => [(0, .ref (h_b Z + v0)), (1, .int v1), (2, .ref (h_b Z + 48)), (3, .int s.1), (4, .int s.2.1)]) ?_
  intro k31 hk31 s
  show hW Z rtM s.2.2 31 [(0, .ref (h_b Z + v0)), (1, .int v1), (2, .ref (h_b Z + 48)), (3, .int s.1), (4, .int s.2.1)] [] (fX4_says_L31 v0 v1 k31 s)
  unfold fX4_says_L31
  refine x_iload hz dX4_says_31 4 rfl ?_
  refine x_aload_n hz dX4_says_33 rfl 0 rfl ?_
  refine x_getr hz hv0 fl_X4_15 rfl (gv_3_1 hv0) (Nat.succ_ne_zero _) dX4_says_34 ?_
  refine x_iload_n hz dX4_says_37 rfl 1 rfl ?_
  refine x_iald hz (gs_3_1 hv0) dX4_says_38 (fun hi38 => ?_)
  refine x_icmp_ge hz dX4_says_39 ?_ ?_
  · refine x_iload_n hz dX4_says_176 rfl 1 rfl ?_
    refine x_aload_n hz dX4_says_177 rfl 0 rfl ?_
    refine x_getr hz hv0 fl_X4_18 rfl (gv_3_2 hv0) (Nat.succ_ne_zero _) dX4_says_178 ?_
    refine x_iconst hz 0 dX4_says_181 rfl ?_
    refine x_iald0 hz (gs_3_2 hv0) (by decide) (v := s.2.2 (v0 + 3) 0) rfl dX4_says_182 ?_
    refine x_bind (fun q183 hq183 => ?_)
    refine x_callS hz ms_X4_37 (kX4_withinBounds (n := n) v1 (s.2.2 (v0 + 3) 0) s.2.2 q183 hq183) rfl (av := [.int v1, .int (s.2.2 (v0 + 3) 0)]) (rest := []) rfl rfl (Nat.le_of_ble_eq_true rfl) dX4_says_183 ?_
    exact x_iret hz rfl dX4_says_186
  refine x_aload_n hz dX4_says_42 rfl 0 rfl ?_
  refine x_getr hz hv0 fl_X4_9 rfl (gv_3_0 hv0) (Nat.succ_ne_zero _) dX4_says_43 ?_
  refine x_iload hz dX4_says_46 4 rfl ?_
  refine x_iald hz (gs_3_0 hv0) dX4_says_48 (fun hi48 => ?_)
  refine x_istore hz [(5, .int (s.2.2 (v0 + 1) s.2.1.toNatClampNeg)), (0, .ref (h_b Z + v0)), (1, .int v1), (2, .ref (h_b Z + 48)), (3, .int s.1), (4, .int s.2.1)] dX4_says_49 rfl rfl ?_
  refine x_iload hz dX4_says_51 0 rfl ?_
  refine x_bipush hz (-6) dX4_says_53 rfl ?_
  refine x_icmp_lt hz dX4_says_55 ?_ ?_
  · refine x_iload hz dX4_says_92 0 rfl ?_
    refine x_bipush hz (-13) dX4_says_94 rfl ?_
    refine x_icmp_eq hz dX4_says_96 ?_ ?_
    · exact x_sub [1, 2, 3, 4, 5, 0] rfl (wX4_says_L106 hz v0 hv0 v1 s.1 s.2.1 (s.2.2 (v0 + 1) s.2.1.toNatClampNeg) s.2.2 hk31)
    refine x_iload hz dX4_says_99 0 rfl ?_
    refine x_bipush hz (-19) dX4_says_101 rfl ?_
    refine x_icmp_ne hz dX4_says_103 ?_ ?_
    · refine x_iload_n hz dX4_says_135 rfl 4 rfl ?_
      refine x_iconst hz 2 dX4_says_136 rfl ?_
      refine x_icmp_lt hz dX4_says_137 ?_ ?_
      · refine x_iinc hz (s.2.1 + 1) [(4, .int (s.2.1 + 1)), (5, .int (s.2.2 (v0 + 1) s.2.1.toNatClampNeg)), (0, .ref (h_b Z + v0)), (1, .int v1), (2, .ref (h_b Z + 48)), (3, .int s.1)] dX4_says_170 5 rfl rfl rfl rfl ?_
        refine x_goto hz dX4_says_173 ?_
        exact x_sub [2, 3, 4, 5, 0] rfl (hk31 (s.1, s.2.1 + 1, s.2.2))
      refine x_iinc hz (s.1 + (-1)) [(3, .int (s.1 + (-1))), (5, .int (s.2.2 (v0 + 1) s.2.1.toNatClampNeg)), (0, .ref (h_b Z + v0)), (1, .int v1), (2, .ref (h_b Z + 48)), (4, .int s.2.1)] dX4_says_140 4 rfl rfl rfl rfl ?_
      refine x_aload_n hz dX4_says_143 rfl 2 rfl ?_
      refine x_getr hz hv0 fl_X4_18 rfl (gv_3_2 hv0) (Nat.succ_ne_zero _) dX4_says_144 ?_
      refine x_iload_n hz dX4_says_147 rfl 0 rfl ?_
      refine x_iconst hz 1 dX4_says_148 rfl ?_
      refine x_isub hz dX4_says_149 ?_
      refine x_iload hz dX4_says_150 1 rfl ?_
      refine x_aload_n hz dX4_says_152 rfl 2 rfl ?_
      refine x_getr hz hv0 fl_X4_18 rfl (gv_3_2 hv0) (Nat.succ_ne_zero _) dX4_says_153 ?_
      refine x_iload_n hz dX4_says_156 rfl 0 rfl ?_
      refine x_iconst hz 1 dX4_says_157 rfl ?_
      refine x_isub hz dX4_says_158 ?_
      refine x_iald hz (gs_3_2 hv0) dX4_says_159 (fun hi159 => ?_)
      refine x_aload_n hz dX4_says_160 rfl 2 rfl ?_
      refine x_getr hz hv0 fl_X4_18 rfl (gv_3_2 hv0) (Nat.succ_ne_zero _) dX4_says_161 ?_
      refine x_iload_n hz dX4_says_164 rfl 0 rfl ?_
      refine x_iald hz (gs_3_2 hv0) dX4_says_165 (fun hi165 => ?_)
      refine x_callS hz ms_X4_33 (kX4_joined (n := (n + 1)) (s.2.2 (v0 + 1) s.2.1.toNatClampNeg) (s.2.2 (v0 + 3) ((s.1 + (-1)) - 1).toNatClampNeg) (s.2.2 (v0 + 3) (s.1 + (-1)).toNatClampNeg) s.2.2) rfl (av := [.int (s.2.2 (v0 + 1) s.2.1.toNatClampNeg), .int (s.2.2 (v0 + 3) ((s.1 + (-1)) - 1).toNatClampNeg), .int (s.2.2 (v0 + 3) (s.1 + (-1)).toNatClampNeg)]) (rest := [.int ((s.1 + (-1)) - 1), .ref (h_b Z + (v0 + 3))]) rfl rfl (Nat.le_of_ble_eq_true rfl) dX4_says_166 ?_
      refine x_iast hz (gs_3_2 hv0) dX4_says_169 (fun hi169 => ?_)
      refine x_iinc hz (s.2.1 + 1) [(4, .int (s.2.1 + 1)), (3, .int (s.1 + (-1))), (5, .int (s.2.2 (v0 + 1) s.2.1.toNatClampNeg)), (0, .ref (h_b Z + v0)), (1, .int v1), (2, .ref (h_b Z + 48))] dX4_says_170 5 rfl rfl rfl rfl ?_
      refine x_goto hz dX4_says_173 ?_
      exact x_sub [3, 4, 5, 1, 0] rfl (hk31 (s.1 + (-1), s.2.1 + 1, h_up s.2.2 (v0 + 3) ((s.1 + (-1)) - 1).toNatClampNeg (fX4_joined (s.2.2 (v0 + 1) s.2.1.toNatClampNeg) (s.2.2 (v0 + 3) ((s.1 + (-1)) - 1).toNatClampNeg) (s.2.2 (v0 + 3) (s.1 + (-1)).toNatClampNeg) s.2.2)))
    exact x_sub [1, 2, 3, 4, 5, 0] rfl (wX4_says_L106 hz v0 hv0 v1 s.1 s.2.1 (s.2.2 (v0 + 1) s.2.1.toNatClampNeg) s.2.2 hk31)
  refine x_iload_n hz dX4_says_58 rfl 4 rfl ?_
  refine x_bipush hz 40 dX4_says_59 rfl ?_
  refine x_icmp_ge hz dX4_says_61 ?_ ?_
  · refine x_iinc hz (s.2.1 + 1) [(4, .int (s.2.1 + 1)), (5, .int (s.2.2 (v0 + 1) s.2.1.toNatClampNeg)), (0, .ref (h_b Z + v0)), (1, .int v1), (2, .ref (h_b Z + 48)), (3, .int s.1)] dX4_says_170 5 rfl rfl rfl rfl ?_
    refine x_goto hz dX4_says_173 ?_
    exact x_sub [2, 3, 4, 5, 0] rfl (hk31 (s.1, s.2.1 + 1, s.2.2))
  refine x_aload_n hz dX4_says_64 rfl 1 rfl ?_
  refine x_getr hz hv0 fl_X4_18 rfl (gv_3_2 hv0) (Nat.succ_ne_zero _) dX4_says_65 ?_
  refine x_iload_n hz dX4_says_68 rfl 4 rfl ?_
  refine x_iload hz dX4_says_69 0 rfl ?_
  refine x_if_lt hz dX4_says_71 ?_ ?_
  · refine x_aload_n hz dX4_says_79 rfl 3 rfl ?_
    refine x_iconst hz (-1) dX4_says_80 rfl ?_
    refine x_iload hz dX4_says_81 0 rfl ?_
    refine x_isub hz dX4_says_83 ?_
    refine x_iald hz sx_48 dX4_says_84 (fun hi84 => ?_)
    refine x_iast hz (gs_3_2 hv0) dX4_says_85 (fun hi85 => ?_)
    refine x_iinc hz (s.1 + 1) [(3, .int (s.1 + 1)), (5, .int (s.2.2 (v0 + 1) s.2.1.toNatClampNeg)), (0, .ref (h_b Z + v0)), (1, .int v1), (2, .ref (h_b Z + 48)), (4, .int s.2.1)] dX4_says_86 4 rfl rfl rfl rfl ?_
    refine x_goto hz dX4_says_89 ?_
    refine x_iinc hz (s.2.1 + 1) [(4, .int (s.2.1 + 1)), (3, .int (s.1 + 1)), (5, .int (s.2.2 (v0 + 1) s.2.1.toNatClampNeg)), (0, .ref (h_b Z + v0)), (1, .int v1), (2, .ref (h_b Z + 48))] dX4_says_170 5 rfl rfl rfl rfl ?_
    refine x_goto hz dX4_says_173 ?_
    exact x_sub [3, 4, 5, 1, 0] rfl (hk31 (s.1 + 1, s.2.1 + 1, h_up s.2.2 (v0 + 3) s.1.toNatClampNeg (s.2.2 48 ((-1) - (s.2.2 (v0 + 1) s.2.1.toNatClampNeg)).toNatClampNeg)))
  refine x_iload hz dX4_says_74 0 rfl ?_
  refine x_goto hz dX4_says_76 ?_
  refine x_iast hz (gs_3_2 hv0) dX4_says_85 (fun hi85 => ?_)
  refine x_iinc hz (s.1 + 1) [(3, .int (s.1 + 1)), (5, .int (s.2.2 (v0 + 1) s.2.1.toNatClampNeg)), (0, .ref (h_b Z + v0)), (1, .int v1), (2, .ref (h_b Z + 48)), (4, .int s.2.1)] dX4_says_86 4 rfl rfl rfl rfl ?_
  refine x_goto hz dX4_says_89 ?_
  refine x_iinc hz (s.2.1 + 1) [(4, .int (s.2.1 + 1)), (3, .int (s.1 + 1)), (5, .int (s.2.2 (v0 + 1) s.2.1.toNatClampNeg)), (0, .ref (h_b Z + v0)), (1, .int v1), (2, .ref (h_b Z + 48))] dX4_says_170 5 rfl rfl rfl rfl ?_
  refine x_goto hz dX4_says_173 ?_
  exact x_sub [3, 4, 5, 1, 0] rfl (hk31 (s.1 + 1, s.2.1 + 1, h_up s.2.2 (v0 + 3) s.1.toNatClampNeg (s.2.2 (v0 + 1) s.2.1.toNatClampNeg)))
set_option maxRecDepth 10000 in
set_option maxHeartbeats 4000000 in
theorem wX4_says {Z : hZ} {n : Nat} (hz : hOK Z hYx cX4_says RX4 6 (n + 2) (some .int)) (a0 : Nat) (a1 : Int32) (M : hMem) : hW Z rtM M 0 [(0, .ref (h_b Z + a0)), (1, .int a1), (2, .ref (h_b Z + 48))] [] (fX4_says a0 a1 M) := by
  unfold fX4_says
  refine x_guard (fun hpa0 => ?_)
  refine x_iload_n hz dX4_says_0 rfl 1 rfl ?_
  refine x_if_lt hz dX4_says_1 ?_ ?_
  · refine x_iconst hz 0 dX4_says_9 rfl ?_
    exact x_iret hz rfl dX4_says_10
  refine x_iload_n hz dX4_says_4 rfl 1 rfl ?_
  refine x_iconst hz 3 dX4_says_5 rfl ?_
  refine x_icmp_lt hz dX4_says_6 ?_ ?_
  · refine x_iconst hz 0 dX4_says_11 rfl ?_
    refine x_istore_n hz [(3, .int 0), (0, .ref (h_b Z + a0)), (1, .int a1), (2, .ref (h_b Z + 48))] dX4_says_12 rfl rfl rfl ?_
    refine x_iload_n hz dX4_says_13 rfl 2 rfl ?_
    refine x_if_ne hz dX4_says_14 ?_ ?_
    · refine x_aload_n hz dX4_says_21 rfl 1 rfl ?_
      refine x_getr hz (h_isB_is hpa0) fl_X4_15 rfl (gv_3_1 (h_isB_is hpa0)) (Nat.succ_ne_zero _) dX4_says_22 ?_
      refine x_iload_n hz dX4_says_25 rfl 2 rfl ?_
      refine x_iconst hz 1 dX4_says_26 rfl ?_
      refine x_isub hz dX4_says_27 ?_
      refine x_iald hz (gs_3_1 (h_isB_is hpa0)) dX4_says_28 (fun hi28 => ?_)
      refine x_istore hz [(4, .int (M (a0 + 2) (a1 - 1).toNatClampNeg)), (3, .int 0), (0, .ref (h_b Z + a0)), (1, .int a1), (2, .ref (h_b Z + 48))] dX4_says_29 rfl rfl ?_
      exact x_sub [2, 3, 4, 1, 0] rfl (wX4_says_L31 hz a0 (h_isB_is hpa0) a1 h_FU (0, M (a0 + 2) (a1 - 1).toNatClampNeg, M))
    refine x_iconst hz 0 dX4_says_17 rfl ?_
    refine x_goto hz dX4_says_18 ?_
    refine x_istore hz [(4, .int 0), (3, .int 0), (0, .ref (h_b Z + a0)), (1, .int a1), (2, .ref (h_b Z + 48))] dX4_says_29 rfl rfl ?_
    exact x_sub [2, 3, 4, 1, 0] rfl (wX4_says_L31 hz a0 (h_isB_is hpa0) a1 h_FU (0, 0, M))
  refine x_iconst hz 0 dX4_says_9 rfl ?_
  exact x_iret hz rfl dX4_says_10
theorem kX4_says {l : Launch} {dd : hDD} {b n : Nat} (a0 : Nat) (a1 : Int32) (M : hMem) (r : Int32 × hMem) (h : fX4_says a0 a1 M = some r) : hC l hYx dd b yX4_says cX4_says 6 (some .int) (n + 2) [.ref (b + a0), .int a1, .ref (b + 48)] M (some (.int r.1), r.2) :=
  h_met (av := fun b => [.ref (b + a0), .int a1, .ref (b + 48)]) (rt := rtM) (by decide) (Nat.le_of_ble_eq_true rfl) (fun Z hz => wX4_says (n := n) hz a0 a1 M) r h
set_option maxRecDepth 10000 in
set_option maxHeartbeats 4000000 in
theorem wX9_lieOf {Z : hZ} {n : Nat} (hz : hOK Z hYx cX9_lieOf RX9 1 (n + 0) (some .int)) (a0 : Int32) (M : hMem) : hW Z (rtP M) M 0 [(0, .int a0)] [] (some (fX9_lieOf a0 M)) := by
  unfold fX9_lieOf
  refine x_iload_n hz dX9_lieOf_0 rfl 0 rfl ?_
  refine x_bipush hz 32 dX9_lieOf_1 rfl ?_
  refine x_idiv hz dX9_lieOf_3 (by decide) ?_
  exact x_iret hz rfl dX9_lieOf_4
theorem kX9_lieOf {l : Launch} {dd : hDD} {b n : Nat} (a0 : Int32) (M : hMem) : hC l hYx dd b yX9_lieOf cX9_lieOf 1 (some .int) (n + 0) [.int a0] M (some (.int (fX9_lieOf a0 M)), M) :=
  h_met (av := fun b => [.int a0]) (rt := (rtP M)) (by decide) (Nat.le_of_ble_eq_true rfl) (fun Z hz => wX9_lieOf (n := n) hz a0 M) _ rfl
set_option maxRecDepth 10000 in
set_option maxHeartbeats 4000000 in
theorem wX8_tell_L44 {Z : hZ} {n : Nat} (hz : hOK Z hYx cX8_tell RX8 4 (n + 1) none)   (M : hMem)  : hW Z rtV M 44 [(0, .ref (h_b Z + 40))] [] (fX8_tell_L44 M) := by
  unfold fX8_tell_L44
  refine x_aload_n hz dX8_tell_44 rfl 0 rfl ?_
  refine x_getr hz sx_40 fl_X8_28 rfl rx_40_10 (by decide) dX8_tell_45 ?_
  refine x_iconst hz 5 dX8_tell_48 rfl ?_
  refine x_aload_n hz dX8_tell_49 rfl 0 rfl ?_
  refine x_geti hz sx_40 fl_X8_59 rfl dX8_tell_50 ?_
  refine x_iast0 hz sx_48 (by decide) (j := 5) rfl dX8_tell_53 ?_
  exact x_vret hz rfl dX8_tell_54
set_option maxRecDepth 10000 in
set_option maxHeartbeats 4000000 in
theorem wX8_tell {Z : hZ} {n : Nat} (hz : hOK Z hYx cX8_tell RX8 4 (n + 1) none) (a1 : Int32) (a2 : Int32) (a3 : Int32) (M : hMem) : hW Z rtV M 0 [(0, .ref (h_b Z + 40)), (1, .int a1), (2, .int a2), (3, .int a3)] [] (fX8_tell a1 a2 a3 M) := by
  unfold fX8_tell
  refine x_aload_n hz dX8_tell_0 rfl 0 rfl ?_
  refine x_getr hz sx_40 fl_X8_28 rfl rx_40_10 (by decide) dX8_tell_1 ?_
  refine x_iconst hz 0 dX8_tell_4 rfl ?_
  refine x_iload_n hz dX8_tell_5 rfl 1 rfl ?_
  refine x_iast0 hz sx_48 (by decide) (j := 0) rfl dX8_tell_6 ?_
  refine x_aload_n hz dX8_tell_7 rfl 0 rfl ?_
  refine x_getr hz sx_40 fl_X8_28 rfl rx_40_10 (by decide) dX8_tell_8 ?_
  refine x_iconst hz 1 dX8_tell_11 rfl ?_
  refine x_iload_n hz dX8_tell_12 rfl 3 rfl ?_
  refine x_callN hz mn_X8_78 (kX9_lieOf (n := n) a3 (h_up M 48 0 a1)) rfl (av := [.int a3]) (rest := [.int 1, .ref (h_b Z + 48)]) rfl rfl (Nat.le_of_ble_eq_true rfl) dX8_tell_13 ?_
  refine x_iast0 hz sx_48 (by decide) (j := 1) rfl dX8_tell_16 ?_
  refine x_aload_n hz dX8_tell_17 rfl 0 rfl ?_
  refine x_getr hz sx_40 fl_X8_28 rfl rx_40_10 (by decide) dX8_tell_18 ?_
  refine x_iconst hz 2 dX8_tell_21 rfl ?_
  refine x_aload_n hz dX8_tell_22 rfl 0 rfl ?_
  refine x_geti hz sx_40 fl_X8_63 rfl dX8_tell_23 ?_
  refine x_iast0 hz sx_48 (by decide) (j := 2) rfl dX8_tell_26 ?_
  refine x_aload_n hz dX8_tell_27 rfl 0 rfl ?_
  refine x_getr hz sx_40 fl_X8_28 rfl rx_40_10 (by decide) dX8_tell_28 ?_
  refine x_iconst hz 3 dX8_tell_31 rfl ?_
  refine x_iload_n hz dX8_tell_32 rfl 2 rfl ?_
  refine x_iast0 hz sx_48 (by decide) (j := 3) rfl dX8_tell_33 ?_
  refine x_aload_n hz dX8_tell_34 rfl 0 rfl ?_
  refine x_getr hz sx_40 fl_X8_28 rfl rx_40_10 (by decide) dX8_tell_35 ?_
  refine x_iconst hz 4 dX8_tell_38 rfl ?_
  refine x_iload_n hz dX8_tell_39 rfl 3 rfl ?_
  refine x_callN hz mn_X8_82 (kX9_squareOf (n := n) a3 (h_up (h_up (h_up (h_up M 48 0 a1) 48 1 (fX9_lieOf a3 (h_up M 48 0 a1))) 48 2 ((h_up (h_up M 48 0 a1) 48 1 (fX9_lieOf a3 (h_up M 48 0 a1))) 40 4)) 48 3 a2)) rfl (av := [.int a3]) (rest := [.int 4, .ref (h_b Z + 48)]) rfl rfl (Nat.le_of_ble_eq_true rfl) dX8_tell_40 ?_
  refine x_iast0 hz sx_48 (by decide) (j := 4) rfl dX8_tell_43 ?_
  exact x_sub [0] rfl (wX8_tell_L44 hz (h_up (h_up (h_up (h_up (h_up M 48 0 a1) 48 1 (fX9_lieOf a3 (h_up M 48 0 a1))) 48 2 ((h_up (h_up M 48 0 a1) 48 1 (fX9_lieOf a3 (h_up M 48 0 a1))) 40 4)) 48 3 a2) 48 4 (fX9_squareOf a3 (h_up (h_up (h_up (h_up M 48 0 a1) 48 1 (fX9_lieOf a3 (h_up M 48 0 a1))) 48 2 ((h_up (h_up M 48 0 a1) 48 1 (fX9_lieOf a3 (h_up M 48 0 a1))) 40 4)) 48 3 a2))))
theorem kX8_tell {l : Launch} {dd : hDD} {b n : Nat} (a1 : Int32) (a2 : Int32) (a3 : Int32) (M : hMem) (r : hMem) (h : fX8_tell a1 a2 a3 M = some r) : hC l hYx dd b yX8_tell cX8_tell 4 none (n + 1) [.ref (b + 40), .int a1, .int a2, .int a3] M (none, r) :=
  h_met (av := fun b => [.ref (b + 40), .int a1, .int a2, .int a3]) (rt := rtV) (by decide) (Nat.le_of_ble_eq_true rfl) (fun Z hz => wX8_tell (n := n) hz a1 a2 a3 M) r h
set_option maxRecDepth 10000 in
set_option maxHeartbeats 4000000 in
theorem wX9_asks {Z : hZ} {n : Nat} (hz : hOK Z hYx cX9_asks RX9 6 (n + 3) (some .int)) (a1 : Int32) (a2 : Int32) (a3 : Int32) (a4 : Int32) (a5 : Int32) (M : hMem) : hW Z rtM M 0 [(0, .ref (h_b Z + 0)), (1, .int a1), (2, .int a2), (3, .int a3), (4, .int a4), (5, .int a5)] [] (fX9_asks a1 a2 a3 a4 a5 M) := by
  unfold fX9_asks
  refine x_iload_n hz dX9_asks_0 rfl 1 rfl ?_
  refine x_if_lt hz dX9_asks_1 ?_ ?_
  · refine x_sipush hz (-1000) dX9_asks_25 rfl ?_
    exact x_iret hz rfl dX9_asks_28
  refine x_iload_n hz dX9_asks_4 rfl 1 rfl ?_
  refine x_iconst hz 3 dX9_asks_5 rfl ?_
  refine x_icmp_ge hz dX9_asks_6 ?_ ?_
  · refine x_sipush hz (-1000) dX9_asks_25 rfl ?_
    exact x_iret hz rfl dX9_asks_28
  refine x_iload hz dX9_asks_9 4 rfl ?_
  refine x_callS hz ms_X9_127 (kX9_isBehind (n := (n + 2)) a4 M) rfl (av := [.int a4]) (rest := []) rfl rfl (Nat.le_of_ble_eq_true rfl) dX9_asks_11 ?_
  refine x_if_eq hz dX9_asks_14 ?_ ?_
  · refine x_sipush hz (-1000) dX9_asks_25 rfl ?_
    exact x_iret hz rfl dX9_asks_28
  refine x_iload hz dX9_asks_17 5 rfl ?_
  refine x_callS hz ms_X9_86 (kX9_isSquare (n := (n + 2)) a5 M) rfl (av := [.int a5]) (rest := []) rfl rfl (Nat.le_of_ble_eq_true rfl) dX9_asks_19 ?_
  refine x_if_ne hz dX9_asks_22 ?_ ?_
  · refine x_iload_n hz dX9_asks_29 rfl 2 rfl ?_
    refine x_if_lt hz dX9_asks_30 ?_ ?_
    · refine x_sipush hz (-1000) dX9_asks_50 rfl ?_
      exact x_iret hz rfl dX9_asks_53
    refine x_iload_n hz dX9_asks_33 rfl 2 rfl ?_
    refine x_bipush hz 10 dX9_asks_34 rfl ?_
    refine x_idiv hz dX9_asks_36 (by decide) ?_
    refine x_bipush hz 9 dX9_asks_37 rfl ?_
    refine x_icmp_gt hz dX9_asks_39 ?_ ?_
    · refine x_sipush hz (-1000) dX9_asks_50 rfl ?_
      exact x_iret hz rfl dX9_asks_53
    refine x_iload_n hz dX9_asks_42 rfl 2 rfl ?_
    refine x_bipush hz 10 dX9_asks_43 rfl ?_
    refine x_irem hz dX9_asks_45 (by decide) ?_
    refine x_iconst hz 3 dX9_asks_46 rfl ?_
    refine x_icmp_lt hz dX9_asks_47 ?_ ?_
    · refine x_iload_n hz dX9_asks_54 rfl 3 rfl ?_
      refine x_if_lt hz dX9_asks_55 ?_ ?_
      · refine x_sipush hz (-1000) dX9_asks_76 rfl ?_
        exact x_iret hz rfl dX9_asks_79
      refine x_iload_n hz dX9_asks_58 rfl 3 rfl ?_
      refine x_bipush hz 10 dX9_asks_59 rfl ?_
      refine x_idiv hz dX9_asks_61 (by decide) ?_
      refine x_bipush hz 9 dX9_asks_62 rfl ?_
      refine x_icmp_gt hz dX9_asks_64 ?_ ?_
      · refine x_sipush hz (-1000) dX9_asks_76 rfl ?_
        exact x_iret hz rfl dX9_asks_79
      refine x_iload_n hz dX9_asks_67 rfl 3 rfl ?_
      refine x_bipush hz 10 dX9_asks_68 rfl ?_
      refine x_irem hz dX9_asks_70 (by decide) ?_
      refine x_bipush hz 6 dX9_asks_71 rfl ?_
      refine x_icmp_lt hz dX9_asks_73 ?_ ?_
      · refine x_aload_n hz dX9_asks_80 rfl 0 rfl ?_
        refine x_getr hz sx_0 fl_X9_49 rfl rx_0_7 (by decide) dX9_asks_81 ?_
        refine x_aload_n hz dX9_asks_84 rfl 0 rfl ?_
        refine x_getr hz sx_0 fl_X9_25 rfl rx_0_3 (by decide) dX9_asks_85 ?_
        refine x_aload_n hz dX9_asks_88 rfl 0 rfl ?_
        refine x_getr hz sx_0 fl_X9_12 rfl rx_0_0 (by decide) dX9_asks_89 ?_
        refine x_geti hz sx_1 fl_X9_118 rfl dX9_asks_92 ?_
        refine x_guard (fun hi95 => ?_)
        refine x_aald0 hz (q := (56 + 4 * (M 1 7).toNatClampNeg)) 3 (fun _ => rfl) sx_29 (by decide) hi95 rfl (by omega) dX9_asks_95 ?_
        refine x_putd hz sx_40 fp_X9_130 rfl (gl_3 (ge_29 hi95)) dX9_asks_96 ?_
        refine x_aload_n hz dX9_asks_99 rfl 0 rfl ?_
        refine x_getr hz sx_0 fl_X9_49 rfl rx_0_7 (by decide) dX9_asks_100 ?_
        refine x_iload_n hz dX9_asks_103 rfl 3 rfl ?_
        refine x_bipush hz 10 dX9_asks_104 rfl ?_
        refine x_irem hz dX9_asks_106 (by decide) ?_
        refine x_puti hz sx_40 fp_X9_133 rfl dX9_asks_107 ?_
        refine x_aload_n hz dX9_asks_110 rfl 0 rfl ?_
        refine x_getr hz sx_0 fl_X9_49 rfl rx_0_7 (by decide) dX9_asks_111 ?_
        refine x_iload_n hz dX9_asks_114 rfl 3 rfl ?_
        refine x_bipush hz 10 dX9_asks_115 rfl ?_
        refine x_idiv hz dX9_asks_117 (by decide) ?_
        refine x_puti hz sx_40 fp_X9_136 rfl dX9_asks_118 ?_
        refine x_aload_n hz dX9_asks_121 rfl 0 rfl ?_
        refine x_getr hz sx_0 fl_X9_49 rfl rx_0_7 (by decide) dX9_asks_122 ?_
        refine x_iload_n hz dX9_asks_125 rfl 2 rfl ?_
        refine x_bipush hz 10 dX9_asks_126 rfl ?_
        refine x_idiv hz dX9_asks_128 (by decide) ?_
        refine x_iload hz dX9_asks_129 4 rfl ?_
        refine x_iload hz dX9_asks_131 5 rfl ?_
        refine x_iload_n hz dX9_asks_133 rfl 2 rfl ?_
        refine x_bipush hz 10 dX9_asks_134 rfl ?_
        refine x_irem hz dX9_asks_136 (by decide) ?_
        refine x_callS hz ms_X9_139 (kX9_stateOf (n := (n + 2)) a5 (h_rem a2 10) (h_up (h_up (h_up M 40 6 (nI (56 + 4 * (M 1 7).toNatClampNeg))) 40 3 (h_rem a3 10)) 40 4 (a3 / 10))) rfl (av := [.int a5, .int (h_rem a2 10)]) (rest := [.int a4, .int (a2 / 10), .ref (h_b Z + 40)]) rfl rfl (Nat.le_of_ble_eq_true rfl) dX9_asks_137 ?_
        refine x_bind (fun q140 hq140 => ?_)
        refine x_callV hz mv_X9_143 sx_40 (by decide) rfl rfl (kX8_tell (n := (n + 1)) (a2 / 10) a4 (fX9_stateOf a5 (h_rem a2 10) (h_up (h_up (h_up M 40 6 (nI (56 + 4 * (M 1 7).toNatClampNeg))) 40 3 (h_rem a3 10)) 40 4 (a3 / 10))) (h_up (h_up (h_up M 40 6 (nI (56 + 4 * (M 1 7).toNatClampNeg))) 40 3 (h_rem a3 10)) 40 4 (a3 / 10)) q140 hq140) rfl (av := [.int (a2 / 10), .int a4, .int (fX9_stateOf a5 (h_rem a2 10) (h_up (h_up (h_up M 40 6 (nI (56 + 4 * (M 1 7).toNatClampNeg))) 40 3 (h_rem a3 10)) 40 4 (a3 / 10)))]) (rest := []) rfl rfl (Nat.le_of_ble_eq_true rfl) dX9_asks_140 ?_
        refine x_aload_n hz dX9_asks_143 rfl 0 rfl ?_
        refine x_getr hz sx_0 fl_X9_49 rfl rx_0_7 (by decide) dX9_asks_144 ?_
        refine x_getd hz sx_40 fl_X9_130 rfl (t := 3) (n2 := 0) rfl dX9_asks_147 (fun hg147 => ?_)
        refine x_iload_n hz dX9_asks_150 rfl 1 rfl ?_
        refine x_aload_n hz dX9_asks_151 rfl 0 rfl ?_
        refine x_getr hz sx_0 fl_X9_49 rfl rx_0_7 (by decide) dX9_asks_152 ?_
        refine x_getr hz sx_40 fl_X9_147 rfl rx_40_10 (by decide) dX9_asks_155 ?_
        refine x_bind (fun q158 hq158 => ?_)
        refine x_callV hz mv_X9_150 (h_isB_is hg147) (by decide) rfl rfl (kX4_says (n := n) ((q140 40 6).toNatClampNeg) a1 q140 q158 hq158) rfl (av := [.int a1, .ref (h_b Z + 48)]) (rest := []) rfl rfl (Nat.le_of_ble_eq_true rfl) dX9_asks_158 ?_
        exact x_iret hz rfl dX9_asks_161
      refine x_sipush hz (-1000) dX9_asks_76 rfl ?_
      exact x_iret hz rfl dX9_asks_79
    refine x_sipush hz (-1000) dX9_asks_50 rfl ?_
    exact x_iret hz rfl dX9_asks_53
  refine x_sipush hz (-1000) dX9_asks_25 rfl ?_
  exact x_iret hz rfl dX9_asks_28
theorem kX9_asks {l : Launch} {dd : hDD} {b n : Nat} (a1 : Int32) (a2 : Int32) (a3 : Int32) (a4 : Int32) (a5 : Int32) (M : hMem) (r : Int32 × hMem) (h : fX9_asks a1 a2 a3 a4 a5 M = some r) : hC l hYx dd b yX9_asks cX9_asks 6 (some .int) (n + 3) [.ref (b + 0), .int a1, .int a2, .int a3, .int a4, .int a5] M (some (.int r.1), r.2) :=
  h_met (av := fun b => [.ref (b + 0), .int a1, .int a2, .int a3, .int a4, .int a5]) (rt := rtM) (by decide) (Nat.le_of_ble_eq_true rfl) (fun Z hz => wX9_asks (n := n) hz a1 a2 a3 a4 a5 M) r h
set_option maxRecDepth 10000 in
set_option maxHeartbeats 4000000 in
theorem wX9_isLie {Z : hZ} {n : Nat} (hz : hOK Z hYx cX9_isLie RX9 1 (n + 0) (some .boolean)) (a0 : Int32) (M : hMem) : hW Z (rtP M) M 0 [(0, .int a0)] [] (some (fX9_isLie a0 M)) := by
  unfold fX9_isLie
  refine x_iload_n hz dX9_isLie_0 rfl 0 rfl ?_
  refine x_pull ?_
  refine x_if_lt hz dX9_isLie_1 ?_ ?_
  · refine x_iconst hz 0 dX9_isLie_13 rfl ?_
    exact x_zret hz rfl rfl dX9_isLie_14
  refine x_iload_n hz dX9_isLie_4 rfl 0 rfl ?_
  refine x_iconst hz 3 dX9_isLie_5 rfl ?_
  refine x_pull ?_
  refine x_icmp_ge hz dX9_isLie_6 ?_ ?_
  · refine x_iconst hz 0 dX9_isLie_13 rfl ?_
    exact x_zret hz rfl rfl dX9_isLie_14
  refine x_iconst hz 1 dX9_isLie_9 rfl ?_
  refine x_goto hz dX9_isLie_10 ?_
  exact x_zret hz rfl rfl dX9_isLie_14
theorem bX9_isLie (a0 : Int32) (M : hMem) : narrow .boolean (.int (fX9_isLie a0 M)) = .int (fX9_isLie a0 M) := by
  unfold fX9_isLie
  repeat (first | rfl | split)
theorem kX9_isLie {l : Launch} {dd : hDD} {b n : Nat} (a0 : Int32) (M : hMem) : hC l hYx dd b yX9_isLie cX9_isLie 1 (some .boolean) (n + 0) [.int a0] M (some (.int (fX9_isLie a0 M)), M) :=
  h_met (av := fun b => [.int a0]) (rt := (rtP M)) (by decide) (Nat.le_of_ble_eq_true rfl) (fun Z hz => wX9_isLie (n := n) hz a0 M) _ rfl
set_option maxRecDepth 10000 in
set_option maxHeartbeats 4000000 in
theorem wX9_isOpen {Z : hZ} {n : Nat} (hz : hOK Z hYx cX9_isOpen RX9 2 (n + 1) (some .boolean)) (a1 : Int32) (M : hMem) : hW Z (rtP M) M 0 [(0, .ref (h_b Z + 0)), (1, .int a1)] [] (some (fX9_isOpen a1 M)) := by
  unfold fX9_isOpen
  refine x_iload_n hz dX9_isOpen_0 rfl 1 rfl ?_
  refine x_callS hz ms_X9_86 (kX9_isSquare (n := n) a1 M) rfl (av := [.int a1]) (rest := []) rfl rfl (Nat.le_of_ble_eq_true rfl) dX9_isOpen_1 ?_
  refine x_pull ?_
  refine x_if_eq hz dX9_isOpen_4 ?_ ?_
  · refine x_iconst hz 0 dX9_isOpen_27 rfl ?_
    exact x_zret hz rfl rfl dX9_isOpen_28
  refine x_aload_n hz dX9_isOpen_7 rfl 0 rfl ?_
  refine x_getr hz sx_0 fl_X9_12 rfl rx_0_0 (by decide) dX9_isOpen_8 ?_
  refine x_getr hz sx_1 fl_X9_96 rfl rx_1_0 (by decide) dX9_isOpen_11 ?_
  refine x_iconst hz 0 dX9_isOpen_14 rfl ?_
  refine x_iald0 hz sx_2 (by decide) (v := M 2 0) rfl dX9_isOpen_15 ?_
  refine x_iload_n hz dX9_isOpen_16 rfl 1 rfl ?_
  refine x_iushr hz dX9_isOpen_17 ?_
  refine x_iconst hz 1 dX9_isOpen_18 rfl ?_
  refine x_iand hz dX9_isOpen_19 ?_
  refine x_pull ?_
  refine x_if_ne hz dX9_isOpen_20 ?_ ?_
  · refine x_iconst hz 0 dX9_isOpen_27 rfl ?_
    exact x_zret hz rfl rfl dX9_isOpen_28
  refine x_iconst hz 1 dX9_isOpen_23 rfl ?_
  refine x_goto hz dX9_isOpen_24 ?_
  exact x_zret hz rfl rfl dX9_isOpen_28
theorem bX9_isOpen (a1 : Int32) (M : hMem) : narrow .boolean (.int (fX9_isOpen a1 M)) = .int (fX9_isOpen a1 M) := by
  unfold fX9_isOpen
  repeat (first | rfl | split)
theorem kX9_isOpen {l : Launch} {dd : hDD} {b n : Nat} (a1 : Int32) (M : hMem) : hC l hYx dd b yX9_isOpen cX9_isOpen 2 (some .boolean) (n + 1) [.ref (b + 0), .int a1] M (some (.int (fX9_isOpen a1 M)), M) :=
  h_met (av := fun b => [.ref (b + 0), .int a1]) (rt := (rtP M)) (by decide) (Nat.le_of_ble_eq_true rfl) (fun Z hz => wX9_isOpen (n := n) hz a1 M) _ rfl
set_option maxRecDepth 10000 in
set_option maxHeartbeats 4000000 in
theorem wX9_hat_L90 {Z : hZ} {n : Nat} (hz : hOK Z hYx cX9_hat RX9 5 (n + 2) (some .int))   (M : hMem)  : hW Z rtM M 90 [(0, .ref (h_b Z + 0))] [] (fX9_hat_L90 M) := by
  unfold fX9_hat_L90
  refine x_aload_n hz dX9_hat_90 rfl 0 rfl ?_
  refine x_getr hz sx_0 fl_X9_12 rfl rx_0_0 (by decide) dX9_hat_91 ?_
  refine x_dup hz dX9_hat_94 rfl ?_
  refine x_geti hz sx_1 fl_X9_112 rfl dX9_hat_95 ?_
  refine x_iconst hz 1 dX9_hat_98 rfl ?_
  refine x_iadd hz dX9_hat_99 ?_
  refine x_puti hz sx_1 fp_X9_112 rfl dX9_hat_100 ?_
  refine x_aload_n hz dX9_hat_103 rfl 0 rfl ?_
  refine x_getr hz sx_0 fl_X9_12 rfl rx_0_0 (by decide) dX9_hat_104 ?_
  refine x_geti hz sx_1 fl_X9_112 rfl dX9_hat_107 ?_
  refine x_iconst hz 1 dX9_hat_110 rfl ?_
  refine x_isub hz dX9_hat_111 ?_
  exact x_iret hz rfl dX9_hat_112
set_option maxRecDepth 10000 in
set_option maxHeartbeats 4000000 in
theorem wX9_hat {Z : hZ} {n : Nat} (hz : hOK Z hYx cX9_hat RX9 5 (n + 2) (some .int)) (a1 : Int32) (a2 : Int32) (a3 : Int32) (M : hMem) : hW Z rtM M 0 [(0, .ref (h_b Z + 0)), (1, .int a1), (2, .int a2), (3, .int a3)] [] (fX9_hat a1 a2 a3 M) := by
  unfold fX9_hat
  refine x_iload_n hz dX9_hat_0 rfl 1 rfl ?_
  refine x_if_lt hz dX9_hat_1 ?_ ?_
  · refine x_bipush hz (-2) dX9_hat_28 rfl ?_
    exact x_iret hz rfl dX9_hat_30
  refine x_iload_n hz dX9_hat_4 rfl 1 rfl ?_
  refine x_bipush hz 10 dX9_hat_5 rfl ?_
  refine x_idiv hz dX9_hat_7 (by decide) ?_
  refine x_bipush hz 6 dX9_hat_8 rfl ?_
  refine x_icmp_ge hz dX9_hat_10 ?_ ?_
  · refine x_bipush hz (-2) dX9_hat_28 rfl ?_
    exact x_iret hz rfl dX9_hat_30
  refine x_aload_n hz dX9_hat_13 rfl 0 rfl ?_
  refine x_iload_n hz dX9_hat_14 rfl 2 rfl ?_
  refine x_callV hz mv_X9_154 sx_0 (by decide) rfl rfl (kX9_isOpen (n := n) a2 M) rfl (av := [.int a2]) (rest := []) rfl rfl (Nat.le_of_ble_eq_true rfl) dX9_hat_15 ?_
  refine x_if_eq hz dX9_hat_18 ?_ ?_
  · refine x_bipush hz (-2) dX9_hat_28 rfl ?_
    exact x_iret hz rfl dX9_hat_30
  refine x_iload_n hz dX9_hat_21 rfl 3 rfl ?_
  refine x_callS hz ms_X9_157 (kX9_isLie (n := (n + 1)) a3 M) rfl (av := [.int a3]) (rest := []) rfl rfl (Nat.le_of_ble_eq_true rfl) dX9_hat_22 ?_
  refine x_if_ne hz dX9_hat_25 ?_ ?_
  · refine x_aload_n hz dX9_hat_31 rfl 0 rfl ?_
    refine x_getr hz sx_0 fl_X9_12 rfl rx_0_0 (by decide) dX9_hat_32 ?_
    refine x_geti hz sx_1 fl_X9_112 rfl dX9_hat_35 ?_
    refine x_iconst hz 4 dX9_hat_38 rfl ?_
    refine x_icmp_lt hz dX9_hat_39 ?_ ?_
    · refine x_aload_n hz dX9_hat_45 rfl 0 rfl ?_
      refine x_getr hz sx_0 fl_X9_12 rfl rx_0_0 (by decide) dX9_hat_46 ?_
      refine x_getr hz sx_1 fl_X9_160 rfl rx_1_3 (by decide) dX9_hat_49 ?_
      refine x_aload_n hz dX9_hat_52 rfl 0 rfl ?_
      refine x_getr hz sx_0 fl_X9_12 rfl rx_0_0 (by decide) dX9_hat_53 ?_
      refine x_geti hz sx_1 fl_X9_112 rfl dX9_hat_56 ?_
      refine x_guard (fun hi59 => ?_)
      refine x_aald0 hz (q := (7 + (M 1 5).toNatClampNeg)) 1 (fun _ => rfl) sx_5 (by decide) hi59 rfl (by omega) dX9_hat_59 ?_
      refine x_astore hz [(4, .ref (h_b Z + (7 + (M 1 5).toNatClampNeg))), (0, .ref (h_b Z + 0)), (1, .int a1), (2, .int a2), (3, .int a3)] dX9_hat_60 rfl rfl ?_
      refine x_aload hz dX9_hat_62 0 rfl ?_
      refine x_iload_n hz dX9_hat_64 rfl 2 rfl ?_
      refine x_bipush hz 10 dX9_hat_65 rfl ?_
      refine x_idiv hz dX9_hat_67 (by decide) ?_
      refine x_puti hz (ge_5 hi59) fp_X9_164 rfl dX9_hat_68 ?_
      refine x_aload hz dX9_hat_71 0 rfl ?_
      refine x_iload_n hz dX9_hat_73 rfl 2 rfl ?_
      refine x_bipush hz 10 dX9_hat_74 rfl ?_
      refine x_irem hz dX9_hat_76 (by decide) ?_
      refine x_puti hz (ge_5 hi59) fp_X9_167 rfl dX9_hat_77 ?_
      refine x_aload hz dX9_hat_80 0 rfl ?_
      refine x_iload_n hz dX9_hat_82 rfl 3 rfl ?_
      refine x_iload_n hz dX9_hat_83 rfl 4 rfl ?_
      refine x_callS hz ms_X9_139 (kX9_stateOf (n := (n + 1)) a2 a3 (h_up (h_up M (7 + (M 1 5).toNatClampNeg) 0 (a1 / 10)) (7 + (M 1 5).toNatClampNeg) 1 (h_rem a1 10))) rfl (av := [.int a2, .int a3]) (rest := [.ref (h_b Z + (7 + (M 1 5).toNatClampNeg))]) rfl rfl (Nat.le_of_ble_eq_true rfl) dX9_hat_84 ?_
      refine x_puti hz (ge_5 hi59) fp_X9_168 rfl dX9_hat_87 ?_
      exact x_sub [1] rfl (wX9_hat_L90 hz (h_up (h_up (h_up M (7 + (M 1 5).toNatClampNeg) 0 (a1 / 10)) (7 + (M 1 5).toNatClampNeg) 1 (h_rem a1 10)) (7 + (M 1 5).toNatClampNeg) 2 (fX9_stateOf a2 a3 (h_up (h_up M (7 + (M 1 5).toNatClampNeg) 0 (a1 / 10)) (7 + (M 1 5).toNatClampNeg) 1 (h_rem a1 10)))))
    refine x_bipush hz (-4) dX9_hat_42 rfl ?_
    exact x_iret hz rfl dX9_hat_44
  refine x_bipush hz (-2) dX9_hat_28 rfl ?_
  exact x_iret hz rfl dX9_hat_30
theorem kX9_hat {l : Launch} {dd : hDD} {b n : Nat} (a1 : Int32) (a2 : Int32) (a3 : Int32) (M : hMem) (r : Int32 × hMem) (h : fX9_hat a1 a2 a3 M = some r) : hC l hYx dd b yX9_hat cX9_hat 5 (some .int) (n + 2) [.ref (b + 0), .int a1, .int a2, .int a3] M (some (.int r.1), r.2) :=
  h_met (av := fun b => [.ref (b + 0), .int a1, .int a2, .int a3]) (rt := rtM) (by decide) (Nat.le_of_ble_eq_true rfl) (fun Z hz => wX9_hat (n := n) hz a1 a2 a3 M) r h
set_option maxRecDepth 10000 in
set_option maxHeartbeats 4000000 in
theorem wX9_isHat {Z : hZ} {n : Nat} (hz : hOK Z hYx cX9_isHat RX9 2 (n + 0) (some .boolean)) (a1 : Int32) (M : hMem) : hW Z (rtP M) M 0 [(0, .ref (h_b Z + 0)), (1, .int a1)] [] (some (fX9_isHat a1 M)) := by
  unfold fX9_isHat
  refine x_iload_n hz dX9_isHat_0 rfl 1 rfl ?_
  refine x_pull ?_
  refine x_if_lt hz dX9_isHat_1 ?_ ?_
  · refine x_iconst hz 0 dX9_isHat_19 rfl ?_
    exact x_zret hz rfl rfl dX9_isHat_20
  refine x_iload_n hz dX9_isHat_4 rfl 1 rfl ?_
  refine x_aload_n hz dX9_isHat_5 rfl 0 rfl ?_
  refine x_getr hz sx_0 fl_X9_12 rfl rx_0_0 (by decide) dX9_isHat_6 ?_
  refine x_geti hz sx_1 fl_X9_112 rfl dX9_isHat_9 ?_
  refine x_pull ?_
  refine x_icmp_ge hz dX9_isHat_12 ?_ ?_
  · refine x_iconst hz 0 dX9_isHat_19 rfl ?_
    exact x_zret hz rfl rfl dX9_isHat_20
  refine x_iconst hz 1 dX9_isHat_15 rfl ?_
  refine x_goto hz dX9_isHat_16 ?_
  exact x_zret hz rfl rfl dX9_isHat_20
theorem bX9_isHat (a1 : Int32) (M : hMem) : narrow .boolean (.int (fX9_isHat a1 M)) = .int (fX9_isHat a1 M) := by
  unfold fX9_isHat
  repeat (first | rfl | split)
theorem kX9_isHat {l : Launch} {dd : hDD} {b n : Nat} (a1 : Int32) (M : hMem) : hC l hYx dd b yX9_isHat cX9_isHat 2 (some .boolean) (n + 0) [.ref (b + 0), .int a1] M (some (.int (fX9_isHat a1 M)), M) :=
  h_met (av := fun b => [.ref (b + 0), .int a1]) (rt := (rtP M)) (by decide) (Nat.le_of_ble_eq_true rfl) (fun Z hz => wX9_isHat (n := n) hz a1 M) _ rfl
set_option maxRecDepth 10000 in
set_option maxHeartbeats 4000000 in
theorem wX9_set_L68 {Z : hZ} {n : Nat} (hz : hOK Z hYx cX9_set RX9 7 (n + 2) (some .int))  (v2 : Int32) (v3 : Int32) (v4 : Nat) (hv4 : h_is hYx v4 2 0) (v5 : Int32) (v6 : Int32) (M : hMem)  : hW Z rtM M 68 [(2, .int v2), (3, .int v3), (4, .ref (h_b Z + v4)), (5, .int v5), (6, .int v6)] [] (fX9_set_L68 v2 v3 v4 v5 v6 M) := by
  unfold fX9_set_L68
  refine x_iload_n hz dX9_set_68 rfl 0 rfl ?_
  refine x_iconst hz 1 dX9_set_69 rfl ?_
  refine x_icmp_ne hz dX9_set_70 ?_ ?_
  · refine x_bipush hz (-7) dX9_set_94 rfl ?_
    exact x_iret hz rfl dX9_set_96
  refine x_iload_n hz dX9_set_73 rfl 1 rfl ?_
  refine x_callS hz ms_X9_157 (kX9_isLie (n := (n + 1)) v3 M) rfl (av := [.int v3]) (rest := []) rfl rfl (Nat.le_of_ble_eq_true rfl) dX9_set_74 ?_
  refine x_if_eq hz dX9_set_77 ?_ ?_
  · refine x_bipush hz (-7) dX9_set_94 rfl ?_
    exact x_iret hz rfl dX9_set_96
  refine x_aload hz dX9_set_80 2 rfl ?_
  refine x_iload hz dX9_set_82 3 rfl ?_
  refine x_iload_n hz dX9_set_84 rfl 1 rfl ?_
  refine x_callS hz ms_X9_139 (kX9_stateOf (n := (n + 1)) v5 v3 M) rfl (av := [.int v5, .int v3]) (rest := [.ref (h_b Z + v4)]) rfl rfl (Nat.le_of_ble_eq_true rfl) dX9_set_85 ?_
  refine x_puti hz hv4 fp_X9_168 rfl dX9_set_88 ?_
  refine x_iload hz dX9_set_91 4 rfl ?_
  exact x_iret hz rfl dX9_set_93
set_option maxRecDepth 10000 in
set_option maxHeartbeats 4000000 in
theorem wX9_set {Z : hZ} {n : Nat} (hz : hOK Z hYx cX9_set RX9 7 (n + 2) (some .int)) (a1 : Int32) (a2 : Int32) (a3 : Int32) (M : hMem) : hW Z rtM M 0 [(0, .ref (h_b Z + 0)), (1, .int a1), (2, .int a2), (3, .int a3)] [] (fX9_set a1 a2 a3 M) := by
  unfold fX9_set
  refine x_aload_n hz dX9_set_0 rfl 0 rfl ?_
  refine x_iload_n hz dX9_set_1 rfl 1 rfl ?_
  refine x_callV hz mv_X9_171 sx_0 (by decide) rfl rfl (kX9_isHat (n := (n + 1)) a1 M) rfl (av := [.int a1]) (rest := []) rfl rfl (Nat.le_of_ble_eq_true rfl) dX9_set_2 ?_
  refine x_if_ne hz dX9_set_5 ?_ ?_
  · refine x_aload_n hz dX9_set_11 rfl 0 rfl ?_
    refine x_getr hz sx_0 fl_X9_12 rfl rx_0_0 (by decide) dX9_set_12 ?_
    refine x_getr hz sx_1 fl_X9_160 rfl rx_1_3 (by decide) dX9_set_15 ?_
    refine x_iload_n hz dX9_set_18 rfl 1 rfl ?_
    refine x_guard (fun hi19 => ?_)
    refine x_aald0 hz (q := (7 + a1.toNatClampNeg)) 1 (fun _ => rfl) sx_5 (by decide) hi19 rfl (by omega) dX9_set_19 ?_
    refine x_astore hz [(4, .ref (h_b Z + (7 + a1.toNatClampNeg))), (0, .ref (h_b Z + 0)), (1, .int a1), (2, .int a2), (3, .int a3)] dX9_set_20 rfl rfl ?_
    refine x_aload hz dX9_set_22 0 rfl ?_
    refine x_geti hz (ge_5 hi19) fl_X9_168 rfl dX9_set_24 ?_
    refine x_callS hz ms_X9_174 (kX9_squareOf (n := (n + 1)) (M (7 + a1.toNatClampNeg) 2) M) rfl (av := [.int (M (7 + a1.toNatClampNeg) 2)]) (rest := []) rfl rfl (Nat.le_of_ble_eq_true rfl) dX9_set_27 ?_
    refine x_istore hz [(5, .int (fX9_squareOf (M (7 + a1.toNatClampNeg) 2) M)), (4, .ref (h_b Z + (7 + a1.toNatClampNeg))), (0, .ref (h_b Z + 0)), (1, .int a1), (2, .int a2), (3, .int a3)] dX9_set_30 rfl rfl ?_
    refine x_aload hz dX9_set_32 1 rfl ?_
    refine x_geti hz (ge_5 hi19) fl_X9_168 rfl dX9_set_34 ?_
    refine x_callS hz ms_X9_177 (kX9_lieOf (n := (n + 1)) (M (7 + a1.toNatClampNeg) 2) M) rfl (av := [.int (M (7 + a1.toNatClampNeg) 2)]) (rest := []) rfl rfl (Nat.le_of_ble_eq_true rfl) dX9_set_37 ?_
    refine x_istore hz [(6, .int (fX9_lieOf (M (7 + a1.toNatClampNeg) 2) M)), (5, .int (fX9_squareOf (M (7 + a1.toNatClampNeg) 2) M)), (4, .ref (h_b Z + (7 + a1.toNatClampNeg))), (0, .ref (h_b Z + 0)), (1, .int a1), (2, .int a2), (3, .int a3)] dX9_set_40 rfl rfl ?_
    refine x_iload_n hz dX9_set_42 rfl 5 rfl ?_
    refine x_if_ne hz dX9_set_43 ?_ ?_
    · exact x_sub [5, 6, 2, 1, 0] rfl (wX9_set_L68 hz a2 a3 (7 + a1.toNatClampNeg) (ge_5 hi19) (fX9_squareOf (M (7 + a1.toNatClampNeg) 2) M) (fX9_lieOf (M (7 + a1.toNatClampNeg) 2) M) M)
    refine x_aload_n hz dX9_set_46 rfl 3 rfl ?_
    refine x_iload_n hz dX9_set_47 rfl 6 rfl ?_
    refine x_callV hz mv_X9_154 sx_0 (by decide) rfl rfl (kX9_isOpen (n := n) a3 M) rfl (av := [.int a3]) (rest := []) rfl rfl (Nat.le_of_ble_eq_true rfl) dX9_set_48 ?_
    refine x_if_eq hz dX9_set_51 ?_ ?_
    · exact x_sub [5, 6, 2, 1, 0] rfl (wX9_set_L68 hz a2 a3 (7 + a1.toNatClampNeg) (ge_5 hi19) (fX9_squareOf (M (7 + a1.toNatClampNeg) 2) M) (fX9_lieOf (M (7 + a1.toNatClampNeg) 2) M) M)
    refine x_aload hz dX9_set_54 2 rfl ?_
    refine x_iload_n hz dX9_set_56 rfl 6 rfl ?_
    refine x_iload hz dX9_set_57 0 rfl ?_
    refine x_callS hz ms_X9_139 (kX9_stateOf (n := (n + 1)) a3 (fX9_lieOf (M (7 + a1.toNatClampNeg) 2) M) M) rfl (av := [.int a3, .int (fX9_lieOf (M (7 + a1.toNatClampNeg) 2) M)]) (rest := [.ref (h_b Z + (7 + a1.toNatClampNeg))]) rfl rfl (Nat.le_of_ble_eq_true rfl) dX9_set_59 ?_
    refine x_puti hz (ge_5 hi19) fp_X9_168 rfl dX9_set_62 ?_
    refine x_iload hz dX9_set_65 1 rfl ?_
    exact x_iret hz rfl dX9_set_67
  refine x_bipush hz (-5) dX9_set_8 rfl ?_
  exact x_iret hz rfl dX9_set_10
theorem kX9_set {l : Launch} {dd : hDD} {b n : Nat} (a1 : Int32) (a2 : Int32) (a3 : Int32) (M : hMem) (r : Int32 × hMem) (h : fX9_set a1 a2 a3 M = some r) : hC l hYx dd b yX9_set cX9_set 7 (some .int) (n + 2) [.ref (b + 0), .int a1, .int a2, .int a3] M (some (.int r.1), r.2) :=
  h_met (av := fun b => [.ref (b + 0), .int a1, .int a2, .int a3]) (rt := rtM) (by decide) (Nat.le_of_ble_eq_true rfl) (fun Z hz => wX9_set (n := n) hz a1 a2 a3 M) r h
set_option maxRecDepth 10000 in
set_option maxHeartbeats 4000000 in
theorem wX9_told {Z : hZ} {n : Nat} (hz : hOK Z hYx cX9_told RX9 3 (n + 1) (some .int)) (a1 : Int32) (a2 : Int32) (M : hMem) : hW Z (rtP M) M 0 [(0, .ref (h_b Z + 0)), (1, .int a1), (2, .int a2)] [] (fX9_told a1 a2 M) := by
  unfold fX9_told
  refine x_aload_n hz dX9_told_0 rfl 0 rfl ?_
  refine x_iload_n hz dX9_told_1 rfl 1 rfl ?_
  refine x_callV hz mv_X9_171 sx_0 (by decide) rfl rfl (kX9_isHat (n := n) a1 M) rfl (av := [.int a1]) (rest := []) rfl rfl (Nat.le_of_ble_eq_true rfl) dX9_told_2 ?_
  refine x_if_ne hz dX9_told_5 ?_ ?_
  · refine x_iload_n hz dX9_told_11 rfl 2 rfl ?_
    refine x_case (fun hc0 => ?_) (fun hc0 => ?_)
    · refine x_tabIn hz dX9_told_12 0 (by rw [hc0]; rfl) (by decide) (by decide) rfl rfl ?_
      refine x_aload_n hz dX9_told_44 rfl 0 rfl ?_
      refine x_getr hz sx_0 fl_X9_12 rfl rx_0_0 (by decide) dX9_told_45 ?_
      refine x_getr hz sx_1 fl_X9_160 rfl rx_1_3 (by decide) dX9_told_48 ?_
      refine x_iload_n hz dX9_told_51 rfl 1 rfl ?_
      refine x_guard (fun hi52 => ?_)
      refine x_aald0 hz (q := (7 + a1.toNatClampNeg)) 1 (fun _ => rfl) sx_5 (by decide) hi52 rfl (by omega) dX9_told_52 ?_
      refine x_geti hz (ge_5 hi52) fl_X9_168 rfl dX9_told_53 ?_
      refine x_callS hz ms_X9_174 (kX9_squareOf (n := n) (M (7 + a1.toNatClampNeg) 2) M) rfl (av := [.int (M (7 + a1.toNatClampNeg) 2)]) (rest := []) rfl rfl (Nat.le_of_ble_eq_true rfl) dX9_told_56 ?_
      exact x_iret hz rfl dX9_told_59
    refine x_case (fun hc1 => ?_) (fun hc1 => ?_)
    · refine x_tabIn hz dX9_told_12 1 (by rw [hc1]; rfl) (by decide) (by decide) rfl rfl ?_
      refine x_aload_n hz dX9_told_60 rfl 0 rfl ?_
      refine x_getr hz sx_0 fl_X9_12 rfl rx_0_0 (by decide) dX9_told_61 ?_
      refine x_getr hz sx_1 fl_X9_160 rfl rx_1_3 (by decide) dX9_told_64 ?_
      refine x_iload_n hz dX9_told_67 rfl 1 rfl ?_
      refine x_guard (fun hi68 => ?_)
      refine x_aald0 hz (q := (7 + a1.toNatClampNeg)) 1 (fun _ => rfl) sx_5 (by decide) hi68 rfl (by omega) dX9_told_68 ?_
      refine x_geti hz (ge_5 hi68) fl_X9_168 rfl dX9_told_69 ?_
      refine x_callS hz ms_X9_177 (kX9_lieOf (n := n) (M (7 + a1.toNatClampNeg) 2) M) rfl (av := [.int (M (7 + a1.toNatClampNeg) 2)]) (rest := []) rfl rfl (Nat.le_of_ble_eq_true rfl) dX9_told_72 ?_
      exact x_iret hz rfl dX9_told_75
    refine x_case (fun hc2 => ?_) (fun hc2 => ?_)
    · refine x_tabIn hz dX9_told_12 2 (by rw [hc2]; rfl) (by decide) (by decide) rfl rfl ?_
      refine x_aload_n hz dX9_told_76 rfl 0 rfl ?_
      refine x_getr hz sx_0 fl_X9_12 rfl rx_0_0 (by decide) dX9_told_77 ?_
      refine x_getr hz sx_1 fl_X9_160 rfl rx_1_3 (by decide) dX9_told_80 ?_
      refine x_iload_n hz dX9_told_83 rfl 1 rfl ?_
      refine x_guard (fun hi84 => ?_)
      refine x_aald0 hz (q := (7 + a1.toNatClampNeg)) 1 (fun _ => rfl) sx_5 (by decide) hi84 rfl (by omega) dX9_told_84 ?_
      refine x_geti hz (ge_5 hi84) fl_X9_164 rfl dX9_told_85 ?_
      exact x_iret hz rfl dX9_told_88
    refine x_case (fun hc3 => ?_) (fun hc3 => ?_)
    · refine x_tabIn hz dX9_told_12 3 (by rw [hc3]; rfl) (by decide) (by decide) rfl rfl ?_
      refine x_aload_n hz dX9_told_89 rfl 0 rfl ?_
      refine x_getr hz sx_0 fl_X9_12 rfl rx_0_0 (by decide) dX9_told_90 ?_
      refine x_getr hz sx_1 fl_X9_160 rfl rx_1_3 (by decide) dX9_told_93 ?_
      refine x_iload_n hz dX9_told_96 rfl 1 rfl ?_
      refine x_guard (fun hi97 => ?_)
      refine x_aald0 hz (q := (7 + a1.toNatClampNeg)) 1 (fun _ => rfl) sx_5 (by decide) hi97 rfl (by omega) dX9_told_97 ?_
      refine x_geti hz (ge_5 hi97) fl_X9_167 rfl dX9_told_98 ?_
      exact x_iret hz rfl dX9_told_101
    have ehc0 := lv_neT (a := 0) hc0 (by decide)
    have ehc1 := lv_neT (a := 1) hc1 (by decide)
    have ehc2 := lv_neT (a := 2) hc2 (by decide)
    have ehc3 := lv_neT (a := 3) hc3 (by decide)
    refine x_tabOut hz dX9_told_12 (by omega) rfl ?_
    refine x_bipush hz (-7) dX9_told_102 rfl ?_
    exact x_iret hz rfl dX9_told_104
  refine x_bipush hz (-5) dX9_told_8 rfl ?_
  exact x_iret hz rfl dX9_told_10
theorem kX9_told {l : Launch} {dd : hDD} {b n : Nat} (a1 : Int32) (a2 : Int32) (M : hMem) (r : Int32) (h : fX9_told a1 a2 M = some r) : hC l hYx dd b yX9_told cX9_told 3 (some .int) (n + 1) [.ref (b + 0), .int a1, .int a2] M (some (.int r), M) :=
  h_met (av := fun b => [.ref (b + 0), .int a1, .int a2]) (rt := (rtP M)) (by decide) (Nat.le_of_ble_eq_true rfl) (fun Z hz => wX9_told (n := n) hz a1 a2 M) r h
set_option maxRecDepth 10000 in
set_option maxHeartbeats 4000000 in
theorem wX9_isPace {Z : hZ} {n : Nat} (hz : hOK Z hYx cX9_isPace RX9 1 (n + 0) (some .boolean)) (a0 : Int32) (M : hMem) : hW Z (rtP M) M 0 [(0, .int a0)] [] (some (fX9_isPace a0 M)) := by
  unfold fX9_isPace
  refine x_iload_n hz dX9_isPace_0 rfl 0 rfl ?_
  refine x_pull ?_
  refine x_if_lt hz dX9_isPace_1 ?_ ?_
  · refine x_iconst hz 0 dX9_isPace_13 rfl ?_
    exact x_zret hz rfl rfl dX9_isPace_14
  refine x_iload_n hz dX9_isPace_4 rfl 0 rfl ?_
  refine x_iconst hz 4 dX9_isPace_5 rfl ?_
  refine x_pull ?_
  refine x_icmp_gt hz dX9_isPace_6 ?_ ?_
  · refine x_iconst hz 0 dX9_isPace_13 rfl ?_
    exact x_zret hz rfl rfl dX9_isPace_14
  refine x_iconst hz 1 dX9_isPace_9 rfl ?_
  refine x_goto hz dX9_isPace_10 ?_
  exact x_zret hz rfl rfl dX9_isPace_14
theorem bX9_isPace (a0 : Int32) (M : hMem) : narrow .boolean (.int (fX9_isPace a0 M)) = .int (fX9_isPace a0 M) := by
  unfold fX9_isPace
  repeat (first | rfl | split)
theorem kX9_isPace {l : Launch} {dd : hDD} {b n : Nat} (a0 : Int32) (M : hMem) : hC l hYx dd b yX9_isPace cX9_isPace 1 (some .boolean) (n + 0) [.int a0] M (some (.int (fX9_isPace a0 M)), M) :=
  h_met (av := fun b => [.int a0]) (rt := (rtP M)) (by decide) (Nat.le_of_ble_eq_true rfl) (fun Z hz => wX9_isPace (n := n) hz a0 M) _ rfl
set_option maxRecDepth 10000 in
set_option maxHeartbeats 4000000 in
theorem wX9_isReach {Z : hZ} {n : Nat} (hz : hOK Z hYx cX9_isReach RX9 1 (n + 0) (some .boolean)) (a0 : Int32) (M : hMem) : hW Z (rtP M) M 0 [(0, .int a0)] [] (some (fX9_isReach a0 M)) := by
  unfold fX9_isReach
  refine x_iload_n hz dX9_isReach_0 rfl 0 rfl ?_
  refine x_pull ?_
  refine x_if_lt hz dX9_isReach_1 ?_ ?_
  · refine x_iconst hz 0 dX9_isReach_13 rfl ?_
    exact x_zret hz rfl rfl dX9_isReach_14
  refine x_iload_n hz dX9_isReach_4 rfl 0 rfl ?_
  refine x_iconst hz 3 dX9_isReach_5 rfl ?_
  refine x_pull ?_
  refine x_icmp_gt hz dX9_isReach_6 ?_ ?_
  · refine x_iconst hz 0 dX9_isReach_13 rfl ?_
    exact x_zret hz rfl rfl dX9_isReach_14
  refine x_iconst hz 1 dX9_isReach_9 rfl ?_
  refine x_goto hz dX9_isReach_10 ?_
  exact x_zret hz rfl rfl dX9_isReach_14
theorem bX9_isReach (a0 : Int32) (M : hMem) : narrow .boolean (.int (fX9_isReach a0 M)) = .int (fX9_isReach a0 M) := by
  unfold fX9_isReach
  repeat (first | rfl | split)
theorem kX9_isReach {l : Launch} {dd : hDD} {b n : Nat} (a0 : Int32) (M : hMem) : hC l hYx dd b yX9_isReach cX9_isReach 1 (some .boolean) (n + 0) [.int a0] M (some (.int (fX9_isReach a0 M)), M) :=
  h_met (av := fun b => [.int a0]) (rt := (rtP M)) (by decide) (Nat.le_of_ble_eq_true rfl) (fun Z hz => wX9_isReach (n := n) hz a0 M) _ rfl
set_option maxRecDepth 10000 in
set_option maxHeartbeats 4000000 in
theorem wX9_come_L87 {Z : hZ} {n : Nat} (hz : hOK Z hYx cX9_come RX9 5 (n + 2) (some .int))   (M : hMem)  : hW Z rtM M 87 [(0, .ref (h_b Z + 0))] [] (fX9_come_L87 M) := by
  unfold fX9_come_L87
  refine x_aload_n hz dX9_come_87 rfl 0 rfl ?_
  refine x_getr hz sx_0 fl_X9_12 rfl rx_0_0 (by decide) dX9_come_88 ?_
  refine x_geti hz sx_1 fl_X9_115 rfl dX9_come_91 ?_
  refine x_iconst hz 1 dX9_come_94 rfl ?_
  refine x_isub hz dX9_come_95 ?_
  exact x_iret hz rfl dX9_come_96
set_option maxRecDepth 10000 in
set_option maxHeartbeats 4000000 in
theorem wX9_come {Z : hZ} {n : Nat} (hz : hOK Z hYx cX9_come RX9 5 (n + 2) (some .int)) (a1 : Int32) (a2 : Int32) (a3 : Int32) (M : hMem) : hW Z rtM M 0 [(0, .ref (h_b Z + 0)), (1, .int a1), (2, .int a2), (3, .int a3)] [] (fX9_come a1 a2 a3 M) := by
  unfold fX9_come
  refine x_aload_n hz dX9_come_0 rfl 0 rfl ?_
  refine x_iload_n hz dX9_come_1 rfl 1 rfl ?_
  refine x_callV hz mv_X9_154 sx_0 (by decide) rfl rfl (kX9_isOpen (n := n) a1 M) rfl (av := [.int a1]) (rest := []) rfl rfl (Nat.le_of_ble_eq_true rfl) dX9_come_2 ?_
  refine x_if_eq hz dX9_come_5 ?_ ?_
  · refine x_bipush hz (-2) dX9_come_22 rfl ?_
    exact x_iret hz rfl dX9_come_24
  refine x_iload_n hz dX9_come_8 rfl 2 rfl ?_
  refine x_callS hz ms_X9_180 (kX9_isPace (n := (n + 1)) a2 M) rfl (av := [.int a2]) (rest := []) rfl rfl (Nat.le_of_ble_eq_true rfl) dX9_come_9 ?_
  refine x_if_eq hz dX9_come_12 ?_ ?_
  · refine x_bipush hz (-2) dX9_come_22 rfl ?_
    exact x_iret hz rfl dX9_come_24
  refine x_iload_n hz dX9_come_15 rfl 3 rfl ?_
  refine x_callS hz ms_X9_183 (kX9_isReach (n := (n + 1)) a3 M) rfl (av := [.int a3]) (rest := []) rfl rfl (Nat.le_of_ble_eq_true rfl) dX9_come_16 ?_
  refine x_if_ne hz dX9_come_19 ?_ ?_
  · refine x_aload_n hz dX9_come_25 rfl 0 rfl ?_
    refine x_getr hz sx_0 fl_X9_12 rfl rx_0_0 (by decide) dX9_come_26 ?_
    refine x_geti hz sx_1 fl_X9_115 rfl dX9_come_29 ?_
    refine x_iconst hz 4 dX9_come_32 rfl ?_
    refine x_icmp_lt hz dX9_come_33 ?_ ?_
    · refine x_aload_n hz dX9_come_39 rfl 0 rfl ?_
      refine x_getr hz sx_0 fl_X9_12 rfl rx_0_0 (by decide) dX9_come_40 ?_
      refine x_getr hz sx_1 fl_X9_186 rfl rx_1_4 (by decide) dX9_come_43 ?_
      refine x_aload_n hz dX9_come_46 rfl 0 rfl ?_
      refine x_getr hz sx_0 fl_X9_12 rfl rx_0_0 (by decide) dX9_come_47 ?_
      refine x_geti hz sx_1 fl_X9_115 rfl dX9_come_50 ?_
      refine x_guard (fun hi53 => ?_)
      refine x_aald0 hz (q := (11 + (M 1 6).toNatClampNeg)) 2 (fun _ => rfl) sx_6 (by decide) hi53 rfl (by omega) dX9_come_53 ?_
      refine x_astore hz [(4, .ref (h_b Z + (11 + (M 1 6).toNatClampNeg))), (0, .ref (h_b Z + 0)), (1, .int a1), (2, .int a2), (3, .int a3)] dX9_come_54 rfl rfl ?_
      refine x_aload hz dX9_come_56 0 rfl ?_
      refine x_iload_n hz dX9_come_58 rfl 2 rfl ?_
      refine x_puti hz (ge_6 hi53) fp_X9_190 rfl dX9_come_59 ?_
      refine x_aload hz dX9_come_62 0 rfl ?_
      refine x_iload_n hz dX9_come_64 rfl 3 rfl ?_
      refine x_puti hz (ge_6 hi53) fp_X9_195 rfl dX9_come_65 ?_
      refine x_aload hz dX9_come_68 0 rfl ?_
      refine x_iload_n hz dX9_come_70 rfl 4 rfl ?_
      refine x_puti hz (ge_6 hi53) fp_X9_198 rfl dX9_come_71 ?_
      refine x_aload_n hz dX9_come_74 rfl 1 rfl ?_
      refine x_getr hz sx_0 fl_X9_12 rfl rx_0_0 (by decide) dX9_come_75 ?_
      refine x_dup hz dX9_come_78 rfl ?_
      refine x_geti hz sx_1 fl_X9_115 rfl dX9_come_79 ?_
      refine x_iconst hz 1 dX9_come_82 rfl ?_
      refine x_iadd hz dX9_come_83 ?_
      refine x_puti hz sx_1 fp_X9_115 rfl dX9_come_84 ?_
      exact x_sub [1] rfl (wX9_come_L87 hz (h_up (h_up (h_up (h_up M (11 + (M 1 6).toNatClampNeg) 0 a1) (11 + (M 1 6).toNatClampNeg) 1 a2) (11 + (M 1 6).toNatClampNeg) 2 a3) 1 6 (((h_up (h_up (h_up M (11 + (M 1 6).toNatClampNeg) 0 a1) (11 + (M 1 6).toNatClampNeg) 1 a2) (11 + (M 1 6).toNatClampNeg) 2 a3) 1 6) + 1)))
    refine x_bipush hz (-4) dX9_come_36 rfl ?_
    exact x_iret hz rfl dX9_come_38
  refine x_bipush hz (-2) dX9_come_22 rfl ?_
  exact x_iret hz rfl dX9_come_24
theorem kX9_come {l : Launch} {dd : hDD} {b n : Nat} (a1 : Int32) (a2 : Int32) (a3 : Int32) (M : hMem) (r : Int32 × hMem) (h : fX9_come a1 a2 a3 M = some r) : hC l hYx dd b yX9_come cX9_come 5 (some .int) (n + 2) [.ref (b + 0), .int a1, .int a2, .int a3] M (some (.int r.1), r.2) :=
  h_met (av := fun b => [.ref (b + 0), .int a1, .int a2, .int a3]) (rt := rtM) (by decide) (Nat.le_of_ble_eq_true rfl) (fun Z hz => wX9_come (n := n) hz a1 a2 a3 M) r h
set_option maxRecDepth 10000 in
set_option maxHeartbeats 4000000 in
theorem wX9_isCatcher {Z : hZ} {n : Nat} (hz : hOK Z hYx cX9_isCatcher RX9 2 (n + 0) (some .boolean)) (a1 : Int32) (M : hMem) : hW Z (rtP M) M 0 [(0, .ref (h_b Z + 0)), (1, .int a1)] [] (some (fX9_isCatcher a1 M)) := by
  unfold fX9_isCatcher
  refine x_iload_n hz dX9_isCatcher_0 rfl 1 rfl ?_
  refine x_pull ?_
  refine x_if_lt hz dX9_isCatcher_1 ?_ ?_
  · refine x_iconst hz 0 dX9_isCatcher_19 rfl ?_
    exact x_zret hz rfl rfl dX9_isCatcher_20
  refine x_iload_n hz dX9_isCatcher_4 rfl 1 rfl ?_
  refine x_aload_n hz dX9_isCatcher_5 rfl 0 rfl ?_
  refine x_getr hz sx_0 fl_X9_12 rfl rx_0_0 (by decide) dX9_isCatcher_6 ?_
  refine x_geti hz sx_1 fl_X9_115 rfl dX9_isCatcher_9 ?_
  refine x_pull ?_
  refine x_icmp_ge hz dX9_isCatcher_12 ?_ ?_
  · refine x_iconst hz 0 dX9_isCatcher_19 rfl ?_
    exact x_zret hz rfl rfl dX9_isCatcher_20
  refine x_iconst hz 1 dX9_isCatcher_15 rfl ?_
  refine x_goto hz dX9_isCatcher_16 ?_
  exact x_zret hz rfl rfl dX9_isCatcher_20
theorem bX9_isCatcher (a1 : Int32) (M : hMem) : narrow .boolean (.int (fX9_isCatcher a1 M)) = .int (fX9_isCatcher a1 M) := by
  unfold fX9_isCatcher
  repeat (first | rfl | split)
theorem kX9_isCatcher {l : Launch} {dd : hDD} {b n : Nat} (a1 : Int32) (M : hMem) : hC l hYx dd b yX9_isCatcher cX9_isCatcher 2 (some .boolean) (n + 0) [.ref (b + 0), .int a1] M (some (.int (fX9_isCatcher a1 M)), M) :=
  h_met (av := fun b => [.ref (b + 0), .int a1]) (rt := (rtP M)) (by decide) (Nat.le_of_ble_eq_true rfl) (fun Z hz => wX9_isCatcher (n := n) hz a1 M) _ rfl
set_option maxRecDepth 10000 in
set_option maxHeartbeats 4000000 in
theorem wX9_does_L82 {Z : hZ} {n : Nat} (hz : hOK Z hYx cX9_does RX9 6 (n + 2) (some .int))  (v2 : Int32) (v3 : Int32) (v4 : Nat) (hv4 : h_is hYx v4 0 0) (v5 : Int32) (M : hMem)  : hW Z rtM M 82 [(2, .int v2), (3, .int v3), (4, .ref (h_b Z + v4)), (5, .int v5)] [] (fX9_does_L82 v2 v3 v4 v5 M) := by
  unfold fX9_does_L82
  refine x_iload_n hz dX9_does_82 rfl 0 rfl ?_
  refine x_iconst hz 2 dX9_does_83 rfl ?_
  refine x_icmp_ne hz dX9_does_84 ?_ ?_
  · refine x_iload hz dX9_does_107 3 rfl ?_
    exact x_iret hz rfl dX9_does_109
  refine x_iload_n hz dX9_does_87 rfl 1 rfl ?_
  refine x_callS hz ms_X9_183 (kX9_isReach (n := (n + 1)) v3 M) rfl (av := [.int v3]) (rest := []) rfl rfl (Nat.le_of_ble_eq_true rfl) dX9_does_88 ?_
  refine x_if_eq hz dX9_does_91 ?_ ?_
  · refine x_iload hz dX9_does_107 3 rfl ?_
    exact x_iret hz rfl dX9_does_109
  refine x_aload hz dX9_does_94 2 rfl ?_
  refine x_geti hz hv4 fl_X9_198 rfl dX9_does_96 ?_
  refine x_istore hz [(5, .int (M v4 2)), (2, .int v2), (3, .int v3), (4, .ref (h_b Z + v4))] dX9_does_99 rfl rfl ?_
  refine x_aload hz dX9_does_101 3 rfl ?_
  refine x_iload_n hz dX9_does_103 rfl 2 rfl ?_
  refine x_puti hz hv4 fp_X9_198 rfl dX9_does_104 ?_
  refine x_iload hz dX9_does_107 0 rfl ?_
  exact x_iret hz rfl dX9_does_109
set_option maxRecDepth 10000 in
set_option maxHeartbeats 4000000 in
theorem wX9_does_L54 {Z : hZ} {n : Nat} (hz : hOK Z hYx cX9_does RX9 6 (n + 2) (some .int))  (v2 : Int32) (v3 : Int32) (v4 : Nat) (hv4 : h_is hYx v4 0 0) (v5 : Int32) (M : hMem)  : hW Z rtM M 54 [(2, .int v2), (3, .int v3), (4, .ref (h_b Z + v4)), (5, .int v5)] [] (fX9_does_L54 v2 v3 v4 v5 M) := by
  unfold fX9_does_L54
  refine x_iload_n hz dX9_does_54 rfl 0 rfl ?_
  refine x_iconst hz 1 dX9_does_55 rfl ?_
  refine x_icmp_ne hz dX9_does_56 ?_ ?_
  · exact x_sub [0, 1, 2, 3] rfl (wX9_does_L82 hz v2 v3 v4 hv4 v5 M)
  refine x_iload_n hz dX9_does_59 rfl 1 rfl ?_
  refine x_callS hz ms_X9_180 (kX9_isPace (n := (n + 1)) v3 M) rfl (av := [.int v3]) (rest := []) rfl rfl (Nat.le_of_ble_eq_true rfl) dX9_does_60 ?_
  refine x_if_eq hz dX9_does_63 ?_ ?_
  · exact x_sub [0, 1, 2, 3] rfl (wX9_does_L82 hz v2 v3 v4 hv4 v5 M)
  refine x_aload hz dX9_does_66 2 rfl ?_
  refine x_geti hz hv4 fl_X9_195 rfl dX9_does_68 ?_
  refine x_istore hz [(5, .int (M v4 1)), (2, .int v2), (3, .int v3), (4, .ref (h_b Z + v4))] dX9_does_71 rfl rfl ?_
  refine x_aload hz dX9_does_73 3 rfl ?_
  refine x_iload_n hz dX9_does_75 rfl 2 rfl ?_
  refine x_puti hz hv4 fp_X9_195 rfl dX9_does_76 ?_
  refine x_goto hz dX9_does_79 ?_
  refine x_iload hz dX9_does_107 0 rfl ?_
  exact x_iret hz rfl dX9_does_109
set_option maxRecDepth 10000 in
set_option maxHeartbeats 4000000 in
theorem wX9_does {Z : hZ} {n : Nat} (hz : hOK Z hYx cX9_does RX9 6 (n + 2) (some .int)) (a1 : Int32) (a2 : Int32) (a3 : Int32) (M : hMem) : hW Z rtM M 0 [(0, .ref (h_b Z + 0)), (1, .int a1), (2, .int a2), (3, .int a3)] [] (fX9_does a1 a2 a3 M) := by
  unfold fX9_does
  refine x_aload_n hz dX9_does_0 rfl 0 rfl ?_
  refine x_iload_n hz dX9_does_1 rfl 1 rfl ?_
  refine x_callV hz mv_X9_201 sx_0 (by decide) rfl rfl (kX9_isCatcher (n := (n + 1)) a1 M) rfl (av := [.int a1]) (rest := []) rfl rfl (Nat.le_of_ble_eq_true rfl) dX9_does_2 ?_
  refine x_if_ne hz dX9_does_5 ?_ ?_
  · refine x_aload_n hz dX9_does_11 rfl 0 rfl ?_
    refine x_getr hz sx_0 fl_X9_12 rfl rx_0_0 (by decide) dX9_does_12 ?_
    refine x_getr hz sx_1 fl_X9_186 rfl rx_1_4 (by decide) dX9_does_15 ?_
    refine x_iload_n hz dX9_does_18 rfl 1 rfl ?_
    refine x_guard (fun hi19 => ?_)
    refine x_aald0 hz (q := (11 + a1.toNatClampNeg)) 2 (fun _ => rfl) sx_6 (by decide) hi19 rfl (by omega) dX9_does_19 ?_
    refine x_astore hz [(4, .ref (h_b Z + (11 + a1.toNatClampNeg))), (0, .ref (h_b Z + 0)), (1, .int a1), (2, .int a2), (3, .int a3)] dX9_does_20 rfl rfl ?_
    refine x_bipush hz (-7) dX9_does_22 rfl ?_
    refine x_istore hz [(5, .int (-7)), (4, .ref (h_b Z + (11 + a1.toNatClampNeg))), (0, .ref (h_b Z + 0)), (1, .int a1), (2, .int a2), (3, .int a3)] dX9_does_24 rfl rfl ?_
    refine x_iload_n hz dX9_does_26 rfl 4 rfl ?_
    refine x_if_ne hz dX9_does_27 ?_ ?_
    · exact x_sub [4, 5, 1, 0] rfl (wX9_does_L54 hz a2 a3 (11 + a1.toNatClampNeg) (ge_6 hi19) (-7) M)
    refine x_aload_n hz dX9_does_30 rfl 2 rfl ?_
    refine x_iload_n hz dX9_does_31 rfl 5 rfl ?_
    refine x_callV hz mv_X9_154 sx_0 (by decide) rfl rfl (kX9_isOpen (n := n) a3 M) rfl (av := [.int a3]) (rest := []) rfl rfl (Nat.le_of_ble_eq_true rfl) dX9_does_32 ?_
    refine x_if_eq hz dX9_does_35 ?_ ?_
    · exact x_sub [4, 5, 1, 0] rfl (wX9_does_L54 hz a2 a3 (11 + a1.toNatClampNeg) (ge_6 hi19) (-7) M)
    refine x_aload hz dX9_does_38 1 rfl ?_
    refine x_geti hz (ge_6 hi19) fl_X9_190 rfl dX9_does_40 ?_
    refine x_istore hz [(5, .int (M (11 + a1.toNatClampNeg) 0)), (4, .ref (h_b Z + (11 + a1.toNatClampNeg))), (0, .ref (h_b Z + 0)), (1, .int a1), (2, .int a2), (3, .int a3)] dX9_does_43 rfl rfl ?_
    refine x_aload hz dX9_does_45 1 rfl ?_
    refine x_iload_n hz dX9_does_47 rfl 5 rfl ?_
    refine x_puti hz (ge_6 hi19) fp_X9_190 rfl dX9_does_48 ?_
    refine x_goto hz dX9_does_51 ?_
    refine x_iload hz dX9_does_107 0 rfl ?_
    exact x_iret hz rfl dX9_does_109
  refine x_bipush hz (-5) dX9_does_8 rfl ?_
  exact x_iret hz rfl dX9_does_10
theorem kX9_does {l : Launch} {dd : hDD} {b n : Nat} (a1 : Int32) (a2 : Int32) (a3 : Int32) (M : hMem) (r : Int32 × hMem) (h : fX9_does a1 a2 a3 M = some r) : hC l hYx dd b yX9_does cX9_does 6 (some .int) (n + 2) [.ref (b + 0), .int a1, .int a2, .int a3] M (some (.int r.1), r.2) :=
  h_met (av := fun b => [.ref (b + 0), .int a1, .int a2, .int a3]) (rt := rtM) (by decide) (Nat.le_of_ble_eq_true rfl) (fun Z hz => wX9_does (n := n) hz a1 a2 a3 M) r h
set_option maxRecDepth 10000 in
set_option maxHeartbeats 4000000 in
theorem wX9_isZeroOrOne {Z : hZ} {n : Nat} (hz : hOK Z hYx cX9_isZeroOrOne RX9 1 (n + 0) (some .boolean)) (a0 : Int32) (M : hMem) : hW Z (rtP M) M 0 [(0, .int a0)] [] (some (fX9_isZeroOrOne a0 M)) := by
  unfold fX9_isZeroOrOne
  refine x_iload_n hz dX9_isZeroOrOne_0 rfl 0 rfl ?_
  refine x_pull ?_
  refine x_if_eq hz dX9_isZeroOrOne_1 ?_ ?_
  · refine x_iconst hz 1 dX9_isZeroOrOne_9 rfl ?_
    refine x_goto hz dX9_isZeroOrOne_10 ?_
    exact x_zret hz rfl rfl dX9_isZeroOrOne_14
  refine x_iload_n hz dX9_isZeroOrOne_4 rfl 0 rfl ?_
  refine x_iconst hz 1 dX9_isZeroOrOne_5 rfl ?_
  refine x_pull ?_
  refine x_icmp_ne hz dX9_isZeroOrOne_6 ?_ ?_
  · refine x_iconst hz 0 dX9_isZeroOrOne_13 rfl ?_
    exact x_zret hz rfl rfl dX9_isZeroOrOne_14
  refine x_iconst hz 1 dX9_isZeroOrOne_9 rfl ?_
  refine x_goto hz dX9_isZeroOrOne_10 ?_
  exact x_zret hz rfl rfl dX9_isZeroOrOne_14
theorem bX9_isZeroOrOne (a0 : Int32) (M : hMem) : narrow .boolean (.int (fX9_isZeroOrOne a0 M)) = .int (fX9_isZeroOrOne a0 M) := by
  unfold fX9_isZeroOrOne
  repeat (first | rfl | split)
theorem kX9_isZeroOrOne {l : Launch} {dd : hDD} {b n : Nat} (a0 : Int32) (M : hMem) : hC l hYx dd b yX9_isZeroOrOne cX9_isZeroOrOne 1 (some .boolean) (n + 0) [.int a0] M (some (.int (fX9_isZeroOrOne a0 M)), M) :=
  h_met (av := fun b => [.int a0]) (rt := (rtP M)) (by decide) (Nat.le_of_ble_eq_true rfl) (fun Z hz => wX9_isZeroOrOne (n := n) hz a0 M) _ rfl
set_option maxRecDepth 10000 in
set_option maxHeartbeats 4000000 in
theorem wX8_suppose_L68 {Z : hZ} {n : Nat} (hz : hOK Z hYx cX8_suppose RX8 4 (n + 1) none)  (v2 : Nat) (hv2 : h_is hYx v2 2 0) (v3 : Nat) (hv3 : h_is hYx v3 3 0) (M : hMem)  : hW Z rtV M 68 [(0, .ref (h_b Z + 40)), (2, .ref (h_b Z + v2)), (3, .ref (h_b Z + v3))] [] (fX8_suppose_L68 v2 v3 M) := by
  unfold fX8_suppose_L68
  refine x_aload_n hz dX8_suppose_68 rfl 0 rfl ?_
  refine x_aload_n hz dX8_suppose_69 rfl 1 rfl ?_
  refine x_geti hz hv2 fl_X8_60 rfl dX8_suppose_70 ?_
  refine x_puti hz sx_40 fp_X8_63 rfl dX8_suppose_73 ?_
  refine x_aload_n hz dX8_suppose_76 rfl 0 rfl ?_
  refine x_aload_n hz dX8_suppose_77 rfl 1 rfl ?_
  refine x_geti hz hv2 fl_X8_64 rfl dX8_suppose_78 ?_
  refine x_puti hz sx_40 fp_X8_67 rfl dX8_suppose_81 ?_
  refine x_aload_n hz dX8_suppose_84 rfl 0 rfl ?_
  refine x_aload_n hz dX8_suppose_85 rfl 2 rfl ?_
  refine x_putd hz sx_40 fp_X8_12 rfl (gl_3 hv3) dX8_suppose_86 ?_
  exact x_vret hz rfl dX8_suppose_89
set_option maxRecDepth 10000 in
set_option maxHeartbeats 4000000 in
theorem wX8_suppose {Z : hZ} {n : Nat} (hz : hOK Z hYx cX8_suppose RX8 4 (n + 1) none) (a2 : Nat) (a3 : Nat) (M : hMem) : hW Z rtV M 0 [(0, .ref (h_b Z + 40)), (1, .ref (h_b Z + 1)), (2, .ref (h_b Z + a2)), (3, .ref (h_b Z + a3))] [] (fX8_suppose a2 a3 M) := by
  unfold fX8_suppose
  refine x_guard (fun hpa2 => ?_)
  refine x_guard (fun hpa3 => ?_)
  refine x_aload_n hz dX8_suppose_0 rfl 0 rfl ?_
  refine x_aload_n hz dX8_suppose_1 rfl 1 rfl ?_
  refine x_getr hz sx_1 fl_X8_31 rfl rx_1_0 (by decide) dX8_suppose_2 ?_
  refine x_iconst hz 0 dX8_suppose_5 rfl ?_
  refine x_iald0 hz sx_2 (by decide) (v := M 2 0) rfl dX8_suppose_6 ?_
  refine x_puti hz sx_40 fp_X8_36 rfl dX8_suppose_7 ?_
  refine x_aload_n hz dX8_suppose_10 rfl 0 rfl ?_
  refine x_aload_n hz dX8_suppose_11 rfl 1 rfl ?_
  refine x_getr hz sx_1 fl_X8_31 rfl rx_1_0 (by decide) dX8_suppose_12 ?_
  refine x_iconst hz 1 dX8_suppose_15 rfl ?_
  refine x_iald0 hz sx_2 (by decide) (v := (h_up M 40 0 (M 2 0)) 2 1) rfl dX8_suppose_16 ?_
  refine x_puti hz sx_40 fp_X8_40 rfl dX8_suppose_17 ?_
  refine x_aload_n hz dX8_suppose_20 rfl 0 rfl ?_
  refine x_aload_n hz dX8_suppose_21 rfl 1 rfl ?_
  refine x_getr hz sx_1 fl_X8_31 rfl rx_1_0 (by decide) dX8_suppose_22 ?_
  refine x_iconst hz 2 dX8_suppose_25 rfl ?_
  refine x_iald0 hz sx_2 (by decide) (v := (h_up (h_up M 40 0 (M 2 0)) 40 1 ((h_up M 40 0 (M 2 0)) 2 1)) 2 2) rfl dX8_suppose_26 ?_
  refine x_puti hz sx_40 fp_X8_43 rfl dX8_suppose_27 ?_
  refine x_aload_n hz dX8_suppose_30 rfl 1 rfl ?_
  refine x_getr hz sx_1 fl_X8_46 rfl rx_1_1 (by decide) dX8_suppose_31 ?_
  refine x_iconst hz 0 dX8_suppose_34 rfl ?_
  refine x_aload_n hz dX8_suppose_35 rfl 0 rfl ?_
  refine x_getr hz sx_40 fl_X8_18 rfl rx_40_7 (by decide) dX8_suppose_36 ?_
  refine x_iconst hz 0 dX8_suppose_39 rfl ?_
  refine x_bipush hz 24 dX8_suppose_40 rfl ?_
  refine x_acopy hz ac_X8_47 sx_3 sx_45 rfl (Nat.le_of_ble_eq_true rfl) dX8_suppose_42 (fun hg42 => ?_)
  refine x_aload_n hz dX8_suppose_45 rfl 1 rfl ?_
  refine x_getr hz sx_1 fl_X8_53 rfl rx_1_2 (by decide) dX8_suppose_46 ?_
  refine x_iconst hz 0 dX8_suppose_49 rfl ?_
  refine x_aload_n hz dX8_suppose_50 rfl 0 rfl ?_
  refine x_getr hz sx_40 fl_X8_22 rfl rx_40_8 (by decide) dX8_suppose_51 ?_
  refine x_iconst hz 0 dX8_suppose_54 rfl ?_
  refine x_bipush hz 24 dX8_suppose_55 rfl ?_
  refine x_acopy hz ac_X8_47 sx_4 sx_46 rfl (Nat.le_of_ble_eq_true rfl) dX8_suppose_57 (fun hg57 => ?_)
  refine x_aload_n hz dX8_suppose_60 rfl 0 rfl ?_
  refine x_aload_n hz dX8_suppose_61 rfl 2 rfl ?_
  refine x_geti hz (h_isB_is hpa2) fl_X8_54 rfl dX8_suppose_62 ?_
  refine x_puti hz sx_40 fp_X8_59 rfl dX8_suppose_65 ?_
  exact x_sub [0, 2, 3] rfl (wX8_suppose_L68 hz a2 (h_isB_is hpa2) a3 (h_isB_is hpa3) (h_up (h_cp (h_cp (h_up (h_up (h_up M 40 0 (M 2 0)) 40 1 ((h_up M 40 0 (M 2 0)) 2 1)) 40 2 ((h_up (h_up M 40 0 (M 2 0)) 40 1 ((h_up M 40 0 (M 2 0)) 2 1)) 2 2)) 3 0 45 0 24) 4 0 46 0 24) 40 3 ((h_cp (h_cp (h_up (h_up (h_up M 40 0 (M 2 0)) 40 1 ((h_up M 40 0 (M 2 0)) 2 1)) 40 2 ((h_up (h_up M 40 0 (M 2 0)) 40 1 ((h_up M 40 0 (M 2 0)) 2 1)) 2 2)) 3 0 45 0 24) 4 0 46 0 24) a2 0)))
theorem kX8_suppose {l : Launch} {dd : hDD} {b n : Nat} (a2 : Nat) (a3 : Nat) (M : hMem) (r : hMem) (h : fX8_suppose a2 a3 M = some r) : hC l hYx dd b yX8_suppose cX8_suppose 4 none (n + 1) [.ref (b + 40), .ref (b + 1), .ref (b + a2), .ref (b + a3)] M (none, r) :=
  h_met (av := fun b => [.ref (b + 40), .ref (b + 1), .ref (b + a2), .ref (b + a3)]) (rt := rtV) (by decide) (Nat.le_of_ble_eq_true rfl) (fun Z hz => wX8_suppose (n := n) hz a2 a3 M) r h
