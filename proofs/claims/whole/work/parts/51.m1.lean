set_option maxRecDepth 10000 in
set_option maxHeartbeats 4000000 in
theorem wX10_count {Z : hZ} {n : Nat} (hz : hOK Z hYm cX10_count RX10 2 (n + 0) (some .int)) (a1 : Int32) (M : hMem) : hW Z (rtP M) M 0 [(0, .ref (h_b Z + 0)), (1, .int a1)] [] (fX10_count a1 M) := by
  unfold fX10_count
  refine x_iload_n hz dX10_count_0 rfl 1 rfl ?_
  refine x_case (fun hc0 => ?_) (fun hc0 => ?_)
  · refine x_tabIn hz dX10_count_1 0 (by rw [hc0]; rfl) (by decide) (by decide) rfl rfl ?_
    refine x_aload_n hz dX10_count_48 rfl 0 rfl ?_
    refine x_geti hz sm_0 fl_X10_105 rfl dX10_count_49 ?_
    exact x_iret hz rfl dX10_count_52
  refine x_case (fun hc1 => ?_) (fun hc1 => ?_)
  · refine x_tabIn hz dX10_count_1 1 (by rw [hc1]; rfl) (by decide) (by decide) rfl rfl ?_
    refine x_aload_n hz dX10_count_53 rfl 0 rfl ?_
    refine x_geti hz sm_0 fl_X10_108 rfl dX10_count_54 ?_
    exact x_iret hz rfl dX10_count_57
  refine x_case (fun hc2 => ?_) (fun hc2 => ?_)
  · refine x_tabIn hz dX10_count_1 2 (by rw [hc2]; rfl) (by decide) (by decide) rfl rfl ?_
    refine x_aload_n hz dX10_count_58 rfl 0 rfl ?_
    refine x_getr hz sm_0 fl_X10_7 rfl rm_0_0 (by decide) dX10_count_59 ?_
    refine x_iload_n hz dX10_count_62 rfl 1 rfl ?_
    refine x_iconst hz 2 dX10_count_63 rfl ?_
    refine x_isub hz dX10_count_64 ?_
    refine x_iald hz sm_1 dX10_count_65 (fun hi65 => ?_)
    exact x_iret hz rfl dX10_count_66
  refine x_case (fun hc3 => ?_) (fun hc3 => ?_)
  · refine x_tabIn hz dX10_count_1 3 (by rw [hc3]; rfl) (by decide) (by decide) rfl rfl ?_
    refine x_aload_n hz dX10_count_58 rfl 0 rfl ?_
    refine x_getr hz sm_0 fl_X10_7 rfl rm_0_0 (by decide) dX10_count_59 ?_
    refine x_iload_n hz dX10_count_62 rfl 1 rfl ?_
    refine x_iconst hz 2 dX10_count_63 rfl ?_
    refine x_isub hz dX10_count_64 ?_
    refine x_iald hz sm_1 dX10_count_65 (fun hi65 => ?_)
    exact x_iret hz rfl dX10_count_66
  refine x_case (fun hc4 => ?_) (fun hc4 => ?_)
  · refine x_tabIn hz dX10_count_1 4 (by rw [hc4]; rfl) (by decide) (by decide) rfl rfl ?_
    refine x_aload_n hz dX10_count_58 rfl 0 rfl ?_
    refine x_getr hz sm_0 fl_X10_7 rfl rm_0_0 (by decide) dX10_count_59 ?_
    refine x_iload_n hz dX10_count_62 rfl 1 rfl ?_
    refine x_iconst hz 2 dX10_count_63 rfl ?_
    refine x_isub hz dX10_count_64 ?_
    refine x_iald hz sm_1 dX10_count_65 (fun hi65 => ?_)
    exact x_iret hz rfl dX10_count_66
  refine x_case (fun hc5 => ?_) (fun hc5 => ?_)
  · refine x_tabIn hz dX10_count_1 5 (by rw [hc5]; rfl) (by decide) (by decide) rfl rfl ?_
    refine x_aload_n hz dX10_count_67 rfl 0 rfl ?_
    refine x_geti hz sm_0 fl_X10_114 rfl dX10_count_68 ?_
    exact x_iret hz rfl dX10_count_71
  refine x_case (fun hc6 => ?_) (fun hc6 => ?_)
  · refine x_tabIn hz dX10_count_1 6 (by rw [hc6]; rfl) (by decide) (by decide) rfl rfl ?_
    refine x_aload_n hz dX10_count_72 rfl 0 rfl ?_
    refine x_geti hz sm_0 fl_X10_117 rfl dX10_count_73 ?_
    exact x_iret hz rfl dX10_count_76
  refine x_case (fun hc7 => ?_) (fun hc7 => ?_)
  · refine x_tabIn hz dX10_count_1 7 (by rw [hc7]; rfl) (by decide) (by decide) rfl rfl ?_
    refine x_aload_n hz dX10_count_77 rfl 0 rfl ?_
    refine x_geti hz sm_0 fl_X10_85 rfl dX10_count_78 ?_
    exact x_iret hz rfl dX10_count_81
  have ehc0 := lv_neT (a := 0) hc0 (by decide)
  have ehc1 := lv_neT (a := 1) hc1 (by decide)
  have ehc2 := lv_neT (a := 2) hc2 (by decide)
  have ehc3 := lv_neT (a := 3) hc3 (by decide)
  have ehc4 := lv_neT (a := 4) hc4 (by decide)
  have ehc5 := lv_neT (a := 5) hc5 (by decide)
  have ehc6 := lv_neT (a := 6) hc6 (by decide)
  have ehc7 := lv_neT (a := 7) hc7 (by decide)
  refine x_tabOut hz dX10_count_1 (by omega) rfl ?_
  refine x_bipush hz (-2) dX10_count_82 rfl ?_
  exact x_iret hz rfl dX10_count_84
theorem kX10_count {l : Launch} {dd : hDD} {b n : Nat} (a1 : Int32) (M : hMem) (r : Int32) (h : fX10_count a1 M = some r) : hC l hYm dd b yX10_count cX10_count 2 (some .int) (n + 0) [.ref (b + 0), .int a1] M (some (.int r), M) :=
  h_met (av := fun b => [.ref (b + 0), .int a1]) (rt := (rtP M)) (by decide) (Nat.le_of_ble_eq_true rfl) (fun Z hz => wX10_count (n := n) hz a1 M) r h
set_option maxRecDepth 10000 in
set_option maxHeartbeats 4000000 in
theorem wX10_isByte {Z : hZ} {n : Nat} (hz : hOK Z hYm cX10_isByte RX10 1 (n + 1) (some .boolean)) (a0 : Int32) (M : hMem) : hW Z (rtP M) M 0 [(0, .int a0)] [] (some (fX10_isByte a0 M)) := by
  unfold fX10_isByte
  refine x_iload_n hz dX10_isByte_0 rfl 0 rfl ?_
  refine x_iconst hz 0 dX10_isByte_1 rfl ?_
  refine x_sipush hz 255 dX10_isByte_2 rfl ?_
  refine x_callS hz ms_X10_93 (kX10_in (n := n) a0 0 255 M) rfl (av := [.int a0, .int 0, .int 255]) (rest := []) rfl rfl (Nat.le_of_ble_eq_true rfl) dX10_isByte_5 ?_
  exact x_zret hz (bX10_in a0 0 255 M) rfl dX10_isByte_8
theorem bX10_isByte (a0 : Int32) (M : hMem) : narrow .boolean (.int (fX10_isByte a0 M)) = .int (fX10_isByte a0 M) := by
  unfold fX10_isByte
  exact bX10_in a0 0 255 M
theorem kX10_isByte {l : Launch} {dd : hDD} {b n : Nat} (a0 : Int32) (M : hMem) : hC l hYm dd b yX10_isByte cX10_isByte 1 (some .boolean) (n + 1) [.int a0] M (some (.int (fX10_isByte a0 M)), M) :=
  h_met (av := fun b => [.int a0]) (rt := (rtP M)) (by decide) (Nat.le_of_ble_eq_true rfl) (fun Z hz => wX10_isByte (n := n) hz a0 M) _ rfl
set_option maxRecDepth 10000 in
set_option maxHeartbeats 4000000 in
theorem wX10_feed_L125 {Z : hZ} {n : Nat} (hz : hOK Z hYm cX10_feed RX10 8 (n + 2) (some .int))  (v1 : Int32) (v2 : Int32) (v3 : Int32) (v4 : Int32) (v5 : Int32) (v6 : Int32) (v7 : Int32) (t2 : Int32) (t1 : Int32) (M : hMem) {k68 : (Int32 × hMem) → Option (Int32 × hMem)} (hk68 : ∀ s, hW Z rtM s.2 68 [(0, .ref (h_b Z + 0)), (1, .int v1), (2, .int v2), (3, .int v3), (4, .int v4), (5, .int v5), (6, .int v6), (7, .int s.1)] [] (k68 s)) : hW Z rtM M 125 [(0, .ref (h_b Z + 0)), (1, .int v1), (2, .int v2), (3, .int v3), (4, .int v4), (5, .int v5), (6, .int v6), (7, .int v7)] [.int t2, .int t1, .ref (h_b Z + 9)] (fX10_feed_L125 k68 v1 v2 v3 v4 v5 v6 v7 t2 t1 M) := by
  unfold fX10_feed_L125
  refine x_iast hz sm_9 dX10_feed_125 (fun hi125 => ?_)
  refine x_aload_n hz dX10_feed_126 rfl 0 rfl ?_
  refine x_dup hz dX10_feed_127 rfl ?_
  refine x_geti hz sm_0 fl_X10_85 rfl dX10_feed_128 ?_
  refine x_iconst hz 1 dX10_feed_131 rfl ?_
  refine x_iadd hz dX10_feed_132 ?_
  refine x_puti hz sm_0 fp_X10_85 rfl dX10_feed_133 ?_
  refine x_iinc hz (v7 + 1) [(7, .int (v7 + 1)), (0, .ref (h_b Z + 0)), (1, .int v1), (2, .int v2), (3, .int v3), (4, .int v4), (5, .int v5), (6, .int v6)] dX10_feed_136 7 rfl rfl rfl rfl ?_
  refine x_goto hz dX10_feed_139 ?_
  exact x_sub [1, 2, 3, 4, 5, 6, 7, 0] rfl (hk68 (v7 + 1, h_up (h_up M 9 t1.toNatClampNeg t2) 0 11 (((h_up M 9 t1.toNatClampNeg t2) 0 11) + 1)))
set_option maxRecDepth 10000 in
set_option maxHeartbeats 4000000 in
theorem wX10_feed_L68 {Z : hZ} {n : Nat} (hz : hOK Z hYm cX10_feed RX10 8 (n + 2) (some .int))  (v1 : Int32) (v2 : Int32) (v3 : Int32) (v4 : Int32) (v5 : Int32) (v6 : Int32)   : ∀ (i : Nat) (s : Int32 × hMem), hW Z rtM s.2 68 [(0, .ref (h_b Z + 0)), (1, .int v1), (2, .int v2), (3, .int v3), (4, .int v4), (5, .int v5), (6, .int v6), (7, .int s.1)] [] (h_lp (fX10_feed_L68 v1 v2 v3 v4 v5 v6) i s) := by
  refine x_loop (Ms := fun s : Int32 × hMem => s.2) (Ls := fun s : Int32 × hMem => [(0, .ref (h_b Z + 0)), (1, .int v1), (2, .int v2), (3, .int v3), (4, .int v4), (5, .int v5), (6, .int v6), (7, .int s.1)]) ?_
  intro k68 hk68 s
  show hW Z rtM s.2 68 [(0, .ref (h_b Z + 0)), (1, .int v1), (2, .int v2), (3, .int v3), (4, .int v4), (5, .int v5), (6, .int v6), (7, .int s.1)] [] (fX10_feed_L68 v1 v2 v3 v4 v5 v6 k68 s)
  unfold fX10_feed_L68
  refine x_iload hz dX10_feed_68 7 rfl ?_
  refine x_iload_n hz dX10_feed_70 rfl 1 rfl ?_
  refine x_icmp_ge hz dX10_feed_71 ?_ ?_
  · refine x_aload_n hz dX10_feed_142 rfl 0 rfl ?_
    refine x_geti hz sm_0 fl_X10_85 rfl dX10_feed_143 ?_
    exact x_iret hz rfl dX10_feed_146
  refine x_aload_n hz dX10_feed_74 rfl 0 rfl ?_
  refine x_getr hz sm_0 fl_X10_34 rfl rm_0_10 (by decide) dX10_feed_75 ?_
  refine x_aload_n hz dX10_feed_78 rfl 0 rfl ?_
  refine x_geti hz sm_0 fl_X10_85 rfl dX10_feed_79 ?_
  refine x_iload hz dX10_feed_82 7 rfl ?_
  refine x_if_ne hz dX10_feed_84 ?_ ?_
  · refine x_iload hz dX10_feed_91 7 rfl ?_
    refine x_iconst hz 1 dX10_feed_93 rfl ?_
    refine x_icmp_ne hz dX10_feed_94 ?_ ?_
    · refine x_iload hz dX10_feed_101 7 rfl ?_
      refine x_iconst hz 2 dX10_feed_103 rfl ?_
      refine x_icmp_ne hz dX10_feed_104 ?_ ?_
      · refine x_iload hz dX10_feed_112 7 rfl ?_
        refine x_iconst hz 3 dX10_feed_114 rfl ?_
        refine x_icmp_ne hz dX10_feed_115 ?_ ?_
        · refine x_iload hz dX10_feed_123 6 rfl ?_
          exact x_sub [0, 1, 2, 3, 4, 5, 6, 7] rfl (wX10_feed_L125 hz v1 v2 v3 v4 v5 v6 s.1 v6 (s.2 0 11) s.2 hk68)
        refine x_iload hz dX10_feed_118 5 rfl ?_
        refine x_goto hz dX10_feed_120 ?_
        exact x_sub [0, 1, 2, 3, 4, 5, 6, 7] rfl (wX10_feed_L125 hz v1 v2 v3 v4 v5 v6 s.1 v5 (s.2 0 11) s.2 hk68)
      refine x_iload hz dX10_feed_107 4 rfl ?_
      refine x_goto hz dX10_feed_109 ?_
      exact x_sub [0, 1, 2, 3, 4, 5, 6, 7] rfl (wX10_feed_L125 hz v1 v2 v3 v4 v5 v6 s.1 v4 (s.2 0 11) s.2 hk68)
    refine x_iload_n hz dX10_feed_97 rfl 3 rfl ?_
    refine x_goto hz dX10_feed_98 ?_
    exact x_sub [0, 1, 2, 3, 4, 5, 6, 7] rfl (wX10_feed_L125 hz v1 v2 v3 v4 v5 v6 s.1 v3 (s.2 0 11) s.2 hk68)
  refine x_iload_n hz dX10_feed_87 rfl 2 rfl ?_
  refine x_goto hz dX10_feed_88 ?_
  exact x_sub [0, 1, 2, 3, 4, 5, 6, 7] rfl (wX10_feed_L125 hz v1 v2 v3 v4 v5 v6 s.1 v2 (s.2 0 11) s.2 hk68)
set_option maxRecDepth 10000 in
set_option maxHeartbeats 4000000 in
theorem wX10_feed {Z : hZ} {n : Nat} (hz : hOK Z hYm cX10_feed RX10 8 (n + 2) (some .int)) (a1 : Int32) (a2 : Int32) (a3 : Int32) (a4 : Int32) (a5 : Int32) (a6 : Int32) (M : hMem) : hW Z rtM M 0 [(0, .ref (h_b Z + 0)), (1, .int a1), (2, .int a2), (3, .int a3), (4, .int a4), (5, .int a5), (6, .int a6)] [] (fX10_feed a1 a2 a3 a4 a5 a6 M) := by
  unfold fX10_feed
  refine x_iload_n hz dX10_feed_0 rfl 1 rfl ?_
  refine x_iconst hz 1 dX10_feed_1 rfl ?_
  refine x_iconst hz 5 dX10_feed_2 rfl ?_
  refine x_callS hz ms_X10_93 (kX10_in (n := (n + 1)) a1 1 5 M) rfl (av := [.int a1, .int 1, .int 5]) (rest := []) rfl rfl (Nat.le_of_ble_eq_true rfl) dX10_feed_3 ?_
  refine x_if_eq hz dX10_feed_6 ?_ ?_
  · refine x_bipush hz (-2) dX10_feed_47 rfl ?_
    exact x_iret hz rfl dX10_feed_49
  refine x_iload_n hz dX10_feed_9 rfl 2 rfl ?_
  refine x_callS hz ms_X10_120 (kX10_isByte (n := n) a2 M) rfl (av := [.int a2]) (rest := []) rfl rfl (Nat.le_of_ble_eq_true rfl) dX10_feed_10 ?_
  refine x_if_eq hz dX10_feed_13 ?_ ?_
  · refine x_bipush hz (-2) dX10_feed_47 rfl ?_
    exact x_iret hz rfl dX10_feed_49
  refine x_iload_n hz dX10_feed_16 rfl 3 rfl ?_
  refine x_callS hz ms_X10_120 (kX10_isByte (n := n) a3 M) rfl (av := [.int a3]) (rest := []) rfl rfl (Nat.le_of_ble_eq_true rfl) dX10_feed_17 ?_
  refine x_if_eq hz dX10_feed_20 ?_ ?_
  · refine x_bipush hz (-2) dX10_feed_47 rfl ?_
    exact x_iret hz rfl dX10_feed_49
  refine x_iload hz dX10_feed_23 4 rfl ?_
  refine x_callS hz ms_X10_120 (kX10_isByte (n := n) a4 M) rfl (av := [.int a4]) (rest := []) rfl rfl (Nat.le_of_ble_eq_true rfl) dX10_feed_25 ?_
  refine x_if_eq hz dX10_feed_28 ?_ ?_
  · refine x_bipush hz (-2) dX10_feed_47 rfl ?_
    exact x_iret hz rfl dX10_feed_49
  refine x_iload hz dX10_feed_31 5 rfl ?_
  refine x_callS hz ms_X10_120 (kX10_isByte (n := n) a5 M) rfl (av := [.int a5]) (rest := []) rfl rfl (Nat.le_of_ble_eq_true rfl) dX10_feed_33 ?_
  refine x_if_eq hz dX10_feed_36 ?_ ?_
  · refine x_bipush hz (-2) dX10_feed_47 rfl ?_
    exact x_iret hz rfl dX10_feed_49
  refine x_iload hz dX10_feed_39 6 rfl ?_
  refine x_callS hz ms_X10_120 (kX10_isByte (n := n) a6 M) rfl (av := [.int a6]) (rest := []) rfl rfl (Nat.le_of_ble_eq_true rfl) dX10_feed_41 ?_
  refine x_if_ne hz dX10_feed_44 ?_ ?_
  · refine x_aload_n hz dX10_feed_50 rfl 0 rfl ?_
    refine x_geti hz sm_0 fl_X10_85 rfl dX10_feed_51 ?_
    refine x_iload_n hz dX10_feed_54 rfl 1 rfl ?_
    refine x_iadd hz dX10_feed_55 ?_
    refine x_sipush hz 160 dX10_feed_56 rfl ?_
    refine x_icmp_le hz dX10_feed_59 ?_ ?_
    · refine x_iconst hz 0 dX10_feed_65 rfl ?_
      refine x_istore hz [(7, .int 0), (0, .ref (h_b Z + 0)), (1, .int a1), (2, .int a2), (3, .int a3), (4, .int a4), (5, .int a5), (6, .int a6)] dX10_feed_66 rfl rfl ?_
      exact x_sub [1, 2, 3, 4, 5, 6, 7, 0] rfl (wX10_feed_L68 hz a1 a2 a3 a4 a5 a6 h_FU (0, M))
    refine x_bipush hz (-4) dX10_feed_62 rfl ?_
    exact x_iret hz rfl dX10_feed_64
  refine x_bipush hz (-2) dX10_feed_47 rfl ?_
  exact x_iret hz rfl dX10_feed_49
theorem kX10_feed {l : Launch} {dd : hDD} {b n : Nat} (a1 : Int32) (a2 : Int32) (a3 : Int32) (a4 : Int32) (a5 : Int32) (a6 : Int32) (M : hMem) (r : Int32 × hMem) (h : fX10_feed a1 a2 a3 a4 a5 a6 M = some r) : hC l hYm dd b yX10_feed cX10_feed 8 (some .int) (n + 2) [.ref (b + 0), .int a1, .int a2, .int a3, .int a4, .int a5, .int a6] M (some (.int r.1), r.2) :=
  h_met (av := fun b => [.ref (b + 0), .int a1, .int a2, .int a3, .int a4, .int a5, .int a6]) (rt := rtM) (by decide) (Nat.le_of_ble_eq_true rfl) (fun Z hz => wX10_feed (n := n) hz a1 a2 a3 a4 a5 a6 M) r h
set_option maxRecDepth 10000 in
set_option maxHeartbeats 4000000 in
theorem wX10_force {Z : hZ} {n : Nat} (hz : hOK Z hYm cX10_force RX10 3 (n + 1) (some .int)) (a1 : Int32) (M : hMem) : hW Z rtM M 0 [(0, .ref (h_b Z + 0)), (1, .int a1)] [] (fX10_force a1 M) := by
  unfold fX10_force
  refine x_iload_n hz dX10_force_0 rfl 1 rfl ?_
  refine x_iconst hz 0 dX10_force_1 rfl ?_
  refine x_aload_n hz dX10_force_2 rfl 0 rfl ?_
  refine x_geti hz sm_0 fl_X10_114 rfl dX10_force_3 ?_
  refine x_iconst hz 1 dX10_force_6 rfl ?_
  refine x_isub hz dX10_force_7 ?_
  refine x_callS hz ms_X10_93 (kX10_in (n := n) a1 0 ((M 0 14) - 1) M) rfl (av := [.int a1, .int 0, .int ((M 0 14) - 1)]) (rest := []) rfl rfl (Nat.le_of_ble_eq_true rfl) dX10_force_8 ?_
  refine x_if_ne hz dX10_force_11 ?_ ?_
  · refine x_aload_n hz dX10_force_17 rfl 0 rfl ?_
    refine x_geti hz sm_0 fl_X10_117 rfl dX10_force_18 ?_
    refine x_istore_n hz [(2, .int (M 0 15)), (0, .ref (h_b Z + 0)), (1, .int a1)] dX10_force_21 rfl rfl rfl ?_
    refine x_aload_n hz dX10_force_22 rfl 1 rfl ?_
    refine x_iload_n hz dX10_force_23 rfl 2 rfl ?_
    refine x_puti hz sm_0 fp_X10_117 rfl dX10_force_24 ?_
    refine x_iload_n hz dX10_force_27 rfl 0 rfl ?_
    exact x_iret hz rfl dX10_force_28
  refine x_bipush hz (-2) dX10_force_14 rfl ?_
  exact x_iret hz rfl dX10_force_16
theorem kX10_force {l : Launch} {dd : hDD} {b n : Nat} (a1 : Int32) (M : hMem) (r : Int32 × hMem) (h : fX10_force a1 M = some r) : hC l hYm dd b yX10_force cX10_force 3 (some .int) (n + 1) [.ref (b + 0), .int a1] M (some (.int r.1), r.2) :=
  h_met (av := fun b => [.ref (b + 0), .int a1]) (rt := rtM) (by decide) (Nat.le_of_ble_eq_true rfl) (fun Z hz => wX10_force (n := n) hz a1 M) r h
set_option maxRecDepth 10000 in
set_option maxHeartbeats 4000000 in
theorem wX10_areSeconds {Z : hZ} {n : Nat} (hz : hOK Z hYm cX10_areSeconds RX10 1 (n + 1) (some .boolean)) (a0 : Int32) (M : hMem) : hW Z (rtP M) M 0 [(0, .int a0)] [] (some (fX10_areSeconds a0 M)) := by
  unfold fX10_areSeconds
  refine x_iload_n hz dX10_areSeconds_0 rfl 0 rfl ?_
  refine x_iconst hz 0 dX10_areSeconds_1 rfl ?_
  refine x_bipush hz 24 dX10_areSeconds_2 rfl ?_
  refine x_callS hz ms_X10_93 (kX10_in (n := n) a0 0 24 M) rfl (av := [.int a0, .int 0, .int 24]) (rest := []) rfl rfl (Nat.le_of_ble_eq_true rfl) dX10_areSeconds_4 ?_
  exact x_zret hz (bX10_in a0 0 24 M) rfl dX10_areSeconds_7
theorem bX10_areSeconds (a0 : Int32) (M : hMem) : narrow .boolean (.int (fX10_areSeconds a0 M)) = .int (fX10_areSeconds a0 M) := by
  unfold fX10_areSeconds
  exact bX10_in a0 0 24 M
theorem kX10_areSeconds {l : Launch} {dd : hDD} {b n : Nat} (a0 : Int32) (M : hMem) : hC l hYm dd b yX10_areSeconds cX10_areSeconds 1 (some .boolean) (n + 1) [.int a0] M (some (.int (fX10_areSeconds a0 M)), M) :=
  h_met (av := fun b => [.int a0]) (rt := (rtP M)) (by decide) (Nat.le_of_ble_eq_true rfl) (fun Z hz => wX10_areSeconds (n := n) hz a0 M) _ rfl
set_option maxRecDepth 10000 in
set_option maxHeartbeats 4000000 in
theorem wX10_two {Z : hZ} {n : Nat} (hz : hOK Z hYm cX10_two RX10 3 (n + 0) (some .int)) (a0 : Int32) (a1 : Int32) (a2 : Int32) (M : hMem) : hW Z (rtP M) M 0 [(0, .int a0), (1, .int a1), (2, .int a2)] [] (some (fX10_two a0 a1 a2 M)) := by
  unfold fX10_two
  refine x_iload_n hz dX10_two_0 rfl 0 rfl ?_
  refine x_pull ?_
  refine x_case (fun hc11 => ?_) (fun hc11 => ?_)
  · refine x_tabIn hz dX10_two_1 11 (by rw [hc11]; rfl) (by decide) (by decide) rfl rfl ?_
    refine x_iload_n hz dX10_two_44 rfl 1 rfl ?_
    refine x_pull ?_
    refine x_if_ne hz dX10_two_45 ?_ ?_
    · refine x_iconst hz 1 dX10_two_52 rfl ?_
      refine x_goto hz dX10_two_53 ?_
      exact x_iret hz rfl dX10_two_57
    refine x_iload_n hz dX10_two_48 rfl 2 rfl ?_
    refine x_pull ?_
    refine x_if_eq hz dX10_two_49 ?_ ?_
    · refine x_iconst hz 0 dX10_two_56 rfl ?_
      exact x_iret hz rfl dX10_two_57
    refine x_iconst hz 1 dX10_two_52 rfl ?_
    refine x_goto hz dX10_two_53 ?_
    exact x_iret hz rfl dX10_two_57
  refine x_pull ?_
  refine x_case (fun hc12 => ?_) (fun hc12 => ?_)
  · refine x_tabIn hz dX10_two_1 12 (by rw [hc12]; rfl) (by decide) (by decide) rfl rfl ?_
    refine x_iload_n hz dX10_two_58 rfl 1 rfl ?_
    refine x_pull ?_
    refine x_if_eq hz dX10_two_59 ?_ ?_
    · refine x_iconst hz 0 dX10_two_70 rfl ?_
      exact x_iret hz rfl dX10_two_71
    refine x_iload_n hz dX10_two_62 rfl 2 rfl ?_
    refine x_pull ?_
    refine x_if_eq hz dX10_two_63 ?_ ?_
    · refine x_iconst hz 0 dX10_two_70 rfl ?_
      exact x_iret hz rfl dX10_two_71
    refine x_iconst hz 1 dX10_two_66 rfl ?_
    refine x_goto hz dX10_two_67 ?_
    exact x_iret hz rfl dX10_two_71
  refine x_pull ?_
  refine x_case (fun hc13 => ?_) (fun hc13 => ?_)
  · refine x_tabIn hz dX10_two_1 13 (by rw [hc13]; rfl) (by decide) (by decide) rfl rfl ?_
    refine x_iload_n hz dX10_two_102 rfl 1 rfl ?_
    refine x_iload_n hz dX10_two_103 rfl 2 rfl ?_
    refine x_imul hz dX10_two_104 ?_
    exact x_iret hz rfl dX10_two_105
  refine x_pull ?_
  refine x_case (fun hc14 => ?_) (fun hc14 => ?_)
  · refine x_tabIn hz dX10_two_1 14 (by rw [hc14]; rfl) (by decide) (by decide) rfl rfl ?_
    refine x_iload_n hz dX10_two_72 rfl 1 rfl ?_
    refine x_iload_n hz dX10_two_73 rfl 2 rfl ?_
    refine x_pull ?_
    refine x_icmp_ge hz dX10_two_74 ?_ ?_
    · refine x_iconst hz 0 dX10_two_81 rfl ?_
      exact x_iret hz rfl dX10_two_82
    refine x_iconst hz 1 dX10_two_77 rfl ?_
    refine x_goto hz dX10_two_78 ?_
    exact x_iret hz rfl dX10_two_82
  refine x_pull ?_
  refine x_case (fun hc15 => ?_) (fun hc15 => ?_)
  · refine x_tabIn hz dX10_two_1 15 (by rw [hc15]; rfl) (by decide) (by decide) rfl rfl ?_
    refine x_iload_n hz dX10_two_83 rfl 1 rfl ?_
    refine x_iload_n hz dX10_two_84 rfl 2 rfl ?_
    refine x_pull ?_
    refine x_icmp_ne hz dX10_two_85 ?_ ?_
    · refine x_iconst hz 0 dX10_two_92 rfl ?_
      exact x_iret hz rfl dX10_two_93
    refine x_iconst hz 1 dX10_two_88 rfl ?_
    refine x_goto hz dX10_two_89 ?_
    exact x_iret hz rfl dX10_two_93
  refine x_pull ?_
  refine x_case (fun hc16 => ?_) (fun hc16 => ?_)
  · refine x_tabIn hz dX10_two_1 16 (by rw [hc16]; rfl) (by decide) (by decide) rfl rfl ?_
    refine x_iload_n hz dX10_two_94 rfl 1 rfl ?_
    refine x_iload_n hz dX10_two_95 rfl 2 rfl ?_
    refine x_iadd hz dX10_two_96 ?_
    exact x_iret hz rfl dX10_two_97
  refine x_pull ?_
  refine x_case (fun hc17 => ?_) (fun hc17 => ?_)
  · refine x_tabIn hz dX10_two_1 17 (by rw [hc17]; rfl) (by decide) (by decide) rfl rfl ?_
    refine x_iload_n hz dX10_two_98 rfl 1 rfl ?_
    refine x_iload_n hz dX10_two_99 rfl 2 rfl ?_
    refine x_isub hz dX10_two_100 ?_
    exact x_iret hz rfl dX10_two_101
  have ehc11 := lv_neT (a := 11) hc11 (by decide)
  have ehc12 := lv_neT (a := 12) hc12 (by decide)
  have ehc13 := lv_neT (a := 13) hc13 (by decide)
  have ehc14 := lv_neT (a := 14) hc14 (by decide)
  have ehc15 := lv_neT (a := 15) hc15 (by decide)
  have ehc16 := lv_neT (a := 16) hc16 (by decide)
  have ehc17 := lv_neT (a := 17) hc17 (by decide)
  refine x_tabOut hz dX10_two_1 (by omega) rfl ?_
  refine x_iload_n hz dX10_two_102 rfl 1 rfl ?_
  refine x_iload_n hz dX10_two_103 rfl 2 rfl ?_
  refine x_imul hz dX10_two_104 ?_
  exact x_iret hz rfl dX10_two_105
theorem kX10_two {l : Launch} {dd : hDD} {b n : Nat} (a0 : Int32) (a1 : Int32) (a2 : Int32) (M : hMem) : hC l hYm dd b yX10_two cX10_two 3 (some .int) (n + 0) [.int a0, .int a1, .int a2] M (some (.int (fX10_two a0 a1 a2 M)), M) :=
  h_met (av := fun b => [.int a0, .int a1, .int a2]) (rt := (rtP M)) (by decide) (Nat.le_of_ble_eq_true rfl) (fun Z hz => wX10_two (n := n) hz a0 a1 a2 M) _ rfl
set_option maxRecDepth 10000 in
set_option maxHeartbeats 4000000 in
theorem wX10_says_L66 {Z : hZ} {n : Nat} (hz : hOK Z hYm cX10_says RX10 5 (n + 1) (some .int))  (v1 : Int32) (v2 : Int32) (v3 : Int32) (v4 : Int32) (M : hMem) {k16 : (Int32 × Int32 × hMem) → Option (Int32 × hMem)} (hk16 : ∀ s, hW Z rtM s.2.2 16 [(0, .ref (h_b Z + 0)), (1, .int v1), (2, .int s.1), (3, .int s.2.1)] [] (k16 s)) : hW Z rtM M 66 [(0, .ref (h_b Z + 0)), (1, .int v1), (2, .int v2), (3, .int v3), (4, .int v4)] [] (fX10_says_L66 k16 v1 v2 v3 v4 M) := by
  unfold fX10_says_L66
  refine x_aload_n hz dX10_says_66 rfl 0 rfl ?_
  refine x_getr hz sm_0 fl_X10_64 rfl rm_0_34 (by decide) dX10_says_67 ?_
  refine x_iload_n hz dX10_says_70 rfl 2 rfl ?_
  refine x_iload hz dX10_says_71 4 rfl ?_
  refine x_bipush hz 11 dX10_says_73 rfl ?_
  refine x_icmp_ge hz dX10_says_75 ?_ ?_
  · refine x_iload hz dX10_says_88 4 rfl ?_
    refine x_ldc hz 100000 dX10_says_90 kc_X10_165 ?_
    refine x_isub hz dX10_says_92 ?_
    refine x_iast hz sm_19 dX10_says_93 (fun hi93 => ?_)
    refine x_iinc hz (v2 + 1) [(2, .int (v2 + 1)), (0, .ref (h_b Z + 0)), (1, .int v1), (3, .int v3), (4, .int v4)] dX10_says_94 2 rfl rfl rfl rfl ?_
    refine x_goto hz dX10_says_97 ?_
    refine x_iinc hz (v3 + 1) [(3, .int (v3 + 1)), (2, .int (v2 + 1)), (0, .ref (h_b Z + 0)), (1, .int v1), (4, .int v4)] dX10_says_191 3 rfl rfl rfl rfl ?_
    refine x_goto hz dX10_says_194 ?_
    exact x_sub [2, 3, 1, 0] rfl (hk16 (v2 + 1, v3 + 1, h_up M 19 v2.toNatClampNeg (v4 - 100000)))
  refine x_aload_n hz dX10_says_78 rfl 0 rfl ?_
  refine x_getr hz sm_0 fl_X10_67 rfl rm_0_35 (by decide) dX10_says_79 ?_
  refine x_iload hz dX10_says_82 4 rfl ?_
  refine x_iald hz sm_20 dX10_says_84 (fun hi84 => ?_)
  refine x_goto hz dX10_says_85 ?_
  refine x_iast hz sm_19 dX10_says_93 (fun hi93 => ?_)
  refine x_iinc hz (v2 + 1) [(2, .int (v2 + 1)), (0, .ref (h_b Z + 0)), (1, .int v1), (3, .int v3), (4, .int v4)] dX10_says_94 2 rfl rfl rfl rfl ?_
  refine x_goto hz dX10_says_97 ?_
  refine x_iinc hz (v3 + 1) [(3, .int (v3 + 1)), (2, .int (v2 + 1)), (0, .ref (h_b Z + 0)), (1, .int v1), (4, .int v4)] dX10_says_191 3 rfl rfl rfl rfl ?_
  refine x_goto hz dX10_says_194 ?_
  exact x_sub [2, 3, 1, 0] rfl (hk16 (v2 + 1, v3 + 1, h_up M 19 v2.toNatClampNeg (M 20 v4.toNatClampNeg)))
set_option maxRecDepth 10000 in
set_option maxHeartbeats 4000000 in
theorem wX10_says_L16 {Z : hZ} {n : Nat} (hz : hOK Z hYm cX10_says RX10 5 (n + 1) (some .int))  (v1 : Int32)   : ∀ (i : Nat) (s : Int32 × Int32 × hMem), hW Z rtM s.2.2 16 [(0, .ref (h_b Z + 0)), (1, .int v1), (2, .int s.1), (3, .int s.2.1)] [] (h_lp (fX10_says_L16 v1) i s) := by
  refine x_loop (Ms := fun s : Int32 × Int32 × hMem => s.2.2) (Ls := fun s : Int32 × Int32 × hMem => [(0, .ref (h_b Z + 0)), (1, .int v1), (2, .int s.1), (3, .int s.2.1)]) ?_
  intro k16 hk16 s
  show hW Z rtM s.2.2 16 [(0, .ref (h_b Z + 0)), (1, .int v1), (2, .int s.1), (3, .int s.2.1)] [] (fX10_says_L16 v1 k16 s)
  unfold fX10_says_L16
  refine x_iload_n hz dX10_says_16 rfl 3 rfl ?_
  refine x_aload_n hz dX10_says_17 rfl 0 rfl ?_
  refine x_getr hz sm_0 fl_X10_40 rfl rm_0_13 (by decide) dX10_says_18 ?_
  refine x_iconst hz 4 dX10_says_21 rfl ?_
  refine x_aload_n hz dX10_says_22 rfl 0 rfl ?_
  refine x_geti hz sm_0 fl_X10_117 rfl dX10_says_23 ?_
  refine x_imul hz dX10_says_26 ?_
  refine x_iload_n hz dX10_says_27 rfl 1 rfl ?_
  refine x_iadd hz dX10_says_28 ?_
  refine x_iconst hz 1 dX10_says_29 rfl ?_
  refine x_iadd hz dX10_says_30 ?_
  refine x_iald hz sm_11 dX10_says_31 (fun hi31 => ?_)
  refine x_icmp_ge hz dX10_says_32 ?_ ?_
  · refine x_aload_n hz dX10_says_197 rfl 0 rfl ?_
    refine x_getr hz sm_0 fl_X10_64 rfl rm_0_34 (by decide) dX10_says_198 ?_
    refine x_iconst hz 0 dX10_says_201 rfl ?_
    refine x_iald0 hz sm_19 (by decide) (v := s.2.2 19 0) rfl dX10_says_202 ?_
    exact x_iret hz rfl dX10_says_203
  refine x_aload_n hz dX10_says_35 rfl 0 rfl ?_
  refine x_getr hz sm_0 fl_X10_37 rfl rm_0_12 (by decide) dX10_says_36 ?_
  refine x_sipush hz 200 dX10_says_39 rfl ?_
  refine x_aload_n hz dX10_says_42 rfl 0 rfl ?_
  refine x_geti hz sm_0 fl_X10_117 rfl dX10_says_43 ?_
  refine x_imul hz dX10_says_46 ?_
  refine x_iload_n hz dX10_says_47 rfl 3 rfl ?_
  refine x_iadd hz dX10_says_48 ?_
  refine x_iald hz sm_10 dX10_says_49 (fun hi49 => ?_)
  refine x_istore hz [(4, .int (s.2.2 10 ((200 * (s.2.2 0 15)) + s.2.1).toNatClampNeg)), (0, .ref (h_b Z + 0)), (1, .int v1), (2, .int s.1), (3, .int s.2.1)] dX10_says_50 rfl rfl ?_
  refine x_iload hz dX10_says_52 0 rfl ?_
  refine x_ldc hz 100000 dX10_says_54 kc_X10_165 ?_
  refine x_icmp_ge hz dX10_says_56 ?_ ?_
  · exact x_sub [1, 2, 3, 4, 0] rfl (wX10_says_L66 hz v1 s.1 s.2.1 (s.2.2 10 ((200 * (s.2.2 0 15)) + s.2.1).toNatClampNeg) s.2.2 hk16)
  refine x_iload hz dX10_says_59 0 rfl ?_
  refine x_bipush hz 11 dX10_says_61 rfl ?_
  refine x_icmp_ge hz dX10_says_63 ?_ ?_
  · refine x_iload hz dX10_says_100 0 rfl ?_
    refine x_bipush hz 13 dX10_says_102 rfl ?_
    refine x_icmp_ne hz dX10_says_104 ?_ ?_
    · refine x_iload hz dX10_says_134 0 rfl ?_
      refine x_bipush hz 19 dX10_says_136 rfl ?_
      refine x_icmp_ne hz dX10_says_138 ?_ ?_
      · refine x_iinc hz (s.1 + (-1)) [(2, .int (s.1 + (-1))), (4, .int (s.2.2 10 ((200 * (s.2.2 0 15)) + s.2.1).toNatClampNeg)), (0, .ref (h_b Z + 0)), (1, .int v1), (3, .int s.2.1)] dX10_says_161 3 rfl rfl rfl rfl ?_
        refine x_aload_n hz dX10_says_164 rfl 2 rfl ?_
        refine x_getr hz sm_0 fl_X10_64 rfl rm_0_34 (by decide) dX10_says_165 ?_
        refine x_iload_n hz dX10_says_168 rfl 0 rfl ?_
        refine x_iconst hz 1 dX10_says_169 rfl ?_
        refine x_isub hz dX10_says_170 ?_
        refine x_iload hz dX10_says_171 1 rfl ?_
        refine x_aload_n hz dX10_says_173 rfl 2 rfl ?_
        refine x_getr hz sm_0 fl_X10_64 rfl rm_0_34 (by decide) dX10_says_174 ?_
        refine x_iload_n hz dX10_says_177 rfl 0 rfl ?_
        refine x_iconst hz 1 dX10_says_178 rfl ?_
        refine x_isub hz dX10_says_179 ?_
        refine x_iald hz sm_19 dX10_says_180 (fun hi180 => ?_)
        refine x_aload_n hz dX10_says_181 rfl 2 rfl ?_
        refine x_getr hz sm_0 fl_X10_64 rfl rm_0_34 (by decide) dX10_says_182 ?_
        refine x_iload_n hz dX10_says_185 rfl 0 rfl ?_
        refine x_iald hz sm_19 dX10_says_186 (fun hi186 => ?_)
        refine x_callS hz ms_X10_179 (kX10_two (n := n) (s.2.2 10 ((200 * (s.2.2 0 15)) + s.2.1).toNatClampNeg) (s.2.2 19 ((s.1 + (-1)) - 1).toNatClampNeg) (s.2.2 19 (s.1 + (-1)).toNatClampNeg) s.2.2) rfl (av := [.int (s.2.2 10 ((200 * (s.2.2 0 15)) + s.2.1).toNatClampNeg), .int (s.2.2 19 ((s.1 + (-1)) - 1).toNatClampNeg), .int (s.2.2 19 (s.1 + (-1)).toNatClampNeg)]) (rest := [.int ((s.1 + (-1)) - 1), .ref (h_b Z + 19)]) rfl rfl (Nat.le_of_ble_eq_true rfl) dX10_says_187 ?_
        refine x_iast hz sm_19 dX10_says_190 (fun hi190 => ?_)
        refine x_iinc hz (s.2.1 + 1) [(3, .int (s.2.1 + 1)), (2, .int (s.1 + (-1))), (4, .int (s.2.2 10 ((200 * (s.2.2 0 15)) + s.2.1).toNatClampNeg)), (0, .ref (h_b Z + 0)), (1, .int v1)] dX10_says_191 4 rfl rfl rfl rfl ?_
        refine x_goto hz dX10_says_194 ?_
        exact x_sub [3, 4, 1, 0] rfl (hk16 (s.1 + (-1), s.2.1 + 1, h_up s.2.2 19 ((s.1 + (-1)) - 1).toNatClampNeg (fX10_two (s.2.2 10 ((200 * (s.2.2 0 15)) + s.2.1).toNatClampNeg) (s.2.2 19 ((s.1 + (-1)) - 1).toNatClampNeg) (s.2.2 19 (s.1 + (-1)).toNatClampNeg) s.2.2)))
      refine x_aload_n hz dX10_says_141 rfl 1 rfl ?_
      refine x_getr hz sm_0 fl_X10_64 rfl rm_0_34 (by decide) dX10_says_142 ?_
      refine x_iload_n hz dX10_says_145 rfl 3 rfl ?_
      refine x_iconst hz 1 dX10_says_146 rfl ?_
      refine x_isub hz dX10_says_147 ?_
      refine x_aload_n hz dX10_says_148 rfl 1 rfl ?_
      refine x_getr hz sm_0 fl_X10_64 rfl rm_0_34 (by decide) dX10_says_149 ?_
      refine x_iload_n hz dX10_says_152 rfl 3 rfl ?_
      refine x_iconst hz 1 dX10_says_153 rfl ?_
      refine x_isub hz dX10_says_154 ?_
      refine x_iald hz sm_19 dX10_says_155 (fun hi155 => ?_)
      refine x_ineg hz dX10_says_156 ?_
      refine x_iast hz sm_19 dX10_says_157 (fun hi157 => ?_)
      refine x_goto hz dX10_says_158 ?_
      refine x_iinc hz (s.2.1 + 1) [(3, .int (s.2.1 + 1)), (4, .int (s.2.2 10 ((200 * (s.2.2 0 15)) + s.2.1).toNatClampNeg)), (0, .ref (h_b Z + 0)), (1, .int v1), (2, .int s.1)] dX10_says_191 4 rfl rfl rfl rfl ?_
      refine x_goto hz dX10_says_194 ?_
      exact x_sub [2, 3, 4, 0] rfl (hk16 (s.1, s.2.1 + 1, h_up s.2.2 19 (s.1 - 1).toNatClampNeg (-(s.2.2 19 (s.1 - 1).toNatClampNeg))))
    refine x_aload_n hz dX10_says_107 rfl 1 rfl ?_
    refine x_getr hz sm_0 fl_X10_64 rfl rm_0_34 (by decide) dX10_says_108 ?_
    refine x_iload_n hz dX10_says_111 rfl 3 rfl ?_
    refine x_iconst hz 1 dX10_says_112 rfl ?_
    refine x_isub hz dX10_says_113 ?_
    refine x_aload_n hz dX10_says_114 rfl 1 rfl ?_
    refine x_getr hz sm_0 fl_X10_64 rfl rm_0_34 (by decide) dX10_says_115 ?_
    refine x_iload_n hz dX10_says_118 rfl 3 rfl ?_
    refine x_iconst hz 1 dX10_says_119 rfl ?_
    refine x_isub hz dX10_says_120 ?_
    refine x_iald hz sm_19 dX10_says_121 (fun hi121 => ?_)
    refine x_if_ne hz dX10_says_122 ?_ ?_
    · refine x_iconst hz 0 dX10_says_129 rfl ?_
      refine x_iast hz sm_19 dX10_says_130 (fun hi130 => ?_)
      refine x_goto hz dX10_says_131 ?_
      refine x_iinc hz (s.2.1 + 1) [(3, .int (s.2.1 + 1)), (4, .int (s.2.2 10 ((200 * (s.2.2 0 15)) + s.2.1).toNatClampNeg)), (0, .ref (h_b Z + 0)), (1, .int v1), (2, .int s.1)] dX10_says_191 4 rfl rfl rfl rfl ?_
      refine x_goto hz dX10_says_194 ?_
      exact x_sub [2, 3, 4, 0] rfl (hk16 (s.1, s.2.1 + 1, h_up s.2.2 19 (s.1 - 1).toNatClampNeg 0))
    refine x_iconst hz 1 dX10_says_125 rfl ?_
    refine x_goto hz dX10_says_126 ?_
    refine x_iast hz sm_19 dX10_says_130 (fun hi130 => ?_)
    refine x_goto hz dX10_says_131 ?_
    refine x_iinc hz (s.2.1 + 1) [(3, .int (s.2.1 + 1)), (4, .int (s.2.2 10 ((200 * (s.2.2 0 15)) + s.2.1).toNatClampNeg)), (0, .ref (h_b Z + 0)), (1, .int v1), (2, .int s.1)] dX10_says_191 4 rfl rfl rfl rfl ?_
    refine x_goto hz dX10_says_194 ?_
    exact x_sub [2, 3, 4, 0] rfl (hk16 (s.1, s.2.1 + 1, h_up s.2.2 19 (s.1 - 1).toNatClampNeg 1))
  exact x_sub [1, 2, 3, 4, 0] rfl (wX10_says_L66 hz v1 s.1 s.2.1 (s.2.2 10 ((200 * (s.2.2 0 15)) + s.2.1).toNatClampNeg) s.2.2 hk16)
set_option maxRecDepth 10000 in
set_option maxHeartbeats 4000000 in
theorem wX10_says {Z : hZ} {n : Nat} (hz : hOK Z hYm cX10_says RX10 5 (n + 1) (some .int)) (a1 : Int32) (M : hMem) : hW Z rtM M 0 [(0, .ref (h_b Z + 0)), (1, .int a1)] [] (fX10_says a1 M) := by
  unfold fX10_says
  refine x_iconst hz 0 dX10_says_0 rfl ?_
  refine x_istore_n hz [(2, .int 0), (0, .ref (h_b Z + 0)), (1, .int a1)] dX10_says_1 rfl rfl rfl ?_
  refine x_aload_n hz dX10_says_2 rfl 1 rfl ?_
  refine x_getr hz sm_0 fl_X10_40 rfl rm_0_13 (by decide) dX10_says_3 ?_
  refine x_iconst hz 4 dX10_says_6 rfl ?_
  refine x_aload_n hz dX10_says_7 rfl 1 rfl ?_
  refine x_geti hz sm_0 fl_X10_117 rfl dX10_says_8 ?_
  refine x_imul hz dX10_says_11 ?_
  refine x_iload_n hz dX10_says_12 rfl 2 rfl ?_
  refine x_iadd hz dX10_says_13 ?_
  refine x_iald hz sm_11 dX10_says_14 (fun hi14 => ?_)
  refine x_istore_n hz [(3, .int (M 11 ((4 * (M 0 15)) + a1).toNatClampNeg)), (2, .int 0), (0, .ref (h_b Z + 0)), (1, .int a1)] dX10_says_15 rfl rfl rfl ?_
  exact x_sub [2, 3, 1, 0] rfl (wX10_says_L16 hz a1 h_FU (0, M 11 ((4 * (M 0 15)) + a1).toNatClampNeg, M))
theorem kX10_says {l : Launch} {dd : hDD} {b n : Nat} (a1 : Int32) (M : hMem) (r : Int32 × hMem) (h : fX10_says a1 M = some r) : hC l hYm dd b yX10_says cX10_says 5 (some .int) (n + 1) [.ref (b + 0), .int a1] M (some (.int r.1), r.2) :=
  h_met (av := fun b => [.ref (b + 0), .int a1]) (rt := rtM) (by decide) (Nat.le_of_ble_eq_true rfl) (fun Z hz => wX10_says (n := n) hz a1 M) r h
set_option maxRecDepth 10000 in
set_option maxHeartbeats 4000000 in
theorem wX10_within {Z : hZ} {n : Nat} (hz : hOK Z hYm cX10_within RX10 3 (n + 0) (some .int)) (a0 : Int32) (a1 : Int32) (a2 : Int32) (M : hMem) : hW Z (rtP M) M 0 [(0, .int a0), (1, .int a1), (2, .int a2)] [] (some (fX10_within a0 a1 a2 M)) := by
  unfold fX10_within
  refine x_iload_n hz dX10_within_0 rfl 0 rfl ?_
  refine x_iload_n hz dX10_within_1 rfl 1 rfl ?_
  refine x_pull ?_
  refine x_icmp_ge hz dX10_within_2 ?_ ?_
  · refine x_iload_n hz dX10_within_9 rfl 0 rfl ?_
    refine x_iload_n hz dX10_within_10 rfl 2 rfl ?_
    refine x_pull ?_
    refine x_icmp_le hz dX10_within_11 ?_ ?_
    · refine x_iload_n hz dX10_within_18 rfl 0 rfl ?_
      exact x_iret hz rfl dX10_within_19
    refine x_iload_n hz dX10_within_14 rfl 2 rfl ?_
    refine x_goto hz dX10_within_15 ?_
    exact x_iret hz rfl dX10_within_19
  refine x_iload_n hz dX10_within_5 rfl 1 rfl ?_
  refine x_goto hz dX10_within_6 ?_
  exact x_iret hz rfl dX10_within_19
theorem kX10_within {l : Launch} {dd : hDD} {b n : Nat} (a0 : Int32) (a1 : Int32) (a2 : Int32) (M : hMem) : hC l hYm dd b yX10_within cX10_within 3 (some .int) (n + 0) [.int a0, .int a1, .int a2] M (some (.int (fX10_within a0 a1 a2 M)), M) :=
  h_met (av := fun b => [.int a0, .int a1, .int a2]) (rt := (rtP M)) (by decide) (Nat.le_of_ble_eq_true rfl) (fun Z hz => wX10_within (n := n) hz a0 a1 a2 M) _ rfl
set_option maxRecDepth 10000 in
set_option maxHeartbeats 4000000 in
theorem wX10_asksOf {Z : hZ} {n : Nat} (hz : hOK Z hYm cX10_asksOf RX10 9 (n + 2) (some .int)) (a1 : Int32) (a2 : Int32) (a3 : Int32) (a4 : Int32) (a5 : Int32) (a6 : Int32) (a7 : Int32) (M : hMem) : hW Z rtM M 0 [(0, .ref (h_b Z + 0)), (1, .int a1), (2, .int a2), (3, .int a3), (4, .int a4), (5, .int a5), (6, .int a6), (7, .int a7)] [] (fX10_asksOf a1 a2 a3 a4 a5 a6 a7 M) := by
  unfold fX10_asksOf
  refine x_aload_n hz dX10_asksOf_0 rfl 0 rfl ?_
  refine x_getr hz sm_0 fl_X10_67 rfl rm_0_35 (by decide) dX10_asksOf_1 ?_
  refine x_iconst hz 0 dX10_asksOf_4 rfl ?_
  refine x_iload_n hz dX10_asksOf_5 rfl 2 rfl ?_
  refine x_iast0 hz sm_20 (by decide) (j := 0) rfl dX10_asksOf_6 ?_
  refine x_aload_n hz dX10_asksOf_7 rfl 0 rfl ?_
  refine x_getr hz sm_0 fl_X10_67 rfl rm_0_35 (by decide) dX10_asksOf_8 ?_
  refine x_iconst hz 1 dX10_asksOf_11 rfl ?_
  refine x_iload_n hz dX10_asksOf_12 rfl 3 rfl ?_
  refine x_iast0 hz sm_20 (by decide) (j := 1) rfl dX10_asksOf_13 ?_
  refine x_aload_n hz dX10_asksOf_14 rfl 0 rfl ?_
  refine x_getr hz sm_0 fl_X10_67 rfl rm_0_35 (by decide) dX10_asksOf_15 ?_
  refine x_iconst hz 2 dX10_asksOf_18 rfl ?_
  refine x_iload hz dX10_asksOf_19 4 rfl ?_
  refine x_iast0 hz sm_20 (by decide) (j := 2) rfl dX10_asksOf_21 ?_
  refine x_aload_n hz dX10_asksOf_22 rfl 0 rfl ?_
  refine x_getr hz sm_0 fl_X10_67 rfl rm_0_35 (by decide) dX10_asksOf_23 ?_
  refine x_iconst hz 3 dX10_asksOf_26 rfl ?_
  refine x_iload hz dX10_asksOf_27 5 rfl ?_
  refine x_iast0 hz sm_20 (by decide) (j := 3) rfl dX10_asksOf_29 ?_
  refine x_aload_n hz dX10_asksOf_30 rfl 0 rfl ?_
  refine x_getr hz sm_0 fl_X10_67 rfl rm_0_35 (by decide) dX10_asksOf_31 ?_
  refine x_iconst hz 4 dX10_asksOf_34 rfl ?_
  refine x_iload hz dX10_asksOf_35 6 rfl ?_
  refine x_iast0 hz sm_20 (by decide) (j := 4) rfl dX10_asksOf_37 ?_
  refine x_aload_n hz dX10_asksOf_38 rfl 0 rfl ?_
  refine x_getr hz sm_0 fl_X10_67 rfl rm_0_35 (by decide) dX10_asksOf_39 ?_
  refine x_iconst hz 5 dX10_asksOf_42 rfl ?_
  refine x_iload hz dX10_asksOf_43 7 rfl ?_
  refine x_iast0 hz sm_20 (by decide) (j := 5) rfl dX10_asksOf_45 ?_
  refine x_aload_n hz dX10_asksOf_46 rfl 0 rfl ?_
  refine x_iload_n hz dX10_asksOf_47 rfl 1 rfl ?_
  refine x_bind (fun q48 hq48 => ?_)
  refine x_callV hz mv_X10_183 sm_0 (by decide) rfl rfl (kX10_says (n := n) a1 (h_up (h_up (h_up (h_up (h_up (h_up M 20 0 a2) 20 1 a3) 20 2 a4) 20 3 a5) 20 4 a6) 20 5 a7) q48 hq48) rfl (av := [.int a1]) (rest := []) rfl rfl (Nat.le_of_ble_eq_true rfl) dX10_asksOf_48 ?_
  refine x_istore hz [(8, .int q48.1), (0, .ref (h_b Z + 0)), (1, .int a1), (2, .int a2), (3, .int a3), (4, .int a4), (5, .int a5), (6, .int a6), (7, .int a7)] dX10_asksOf_51 rfl rfl ?_
  refine x_iload_n hz dX10_asksOf_53 rfl 2 rfl ?_
  refine x_if_ne hz dX10_asksOf_54 ?_ ?_
  · refine x_iload_n hz dX10_asksOf_68 rfl 2 rfl ?_
    refine x_iconst hz 2 dX10_asksOf_69 rfl ?_
    refine x_icmp_ne hz dX10_asksOf_70 ?_ ?_
    · refine x_iload hz dX10_asksOf_85 0 rfl ?_
      refine x_iconst hz 3 dX10_asksOf_87 rfl ?_
      refine x_irem hz dX10_asksOf_88 (by decide) ?_
      refine x_iconst hz 3 dX10_asksOf_89 rfl ?_
      refine x_iadd hz dX10_asksOf_90 ?_
      refine x_iconst hz 3 dX10_asksOf_91 rfl ?_
      refine x_irem hz dX10_asksOf_92 (by decide) ?_
      exact x_iret hz rfl dX10_asksOf_93
    refine x_iload hz dX10_asksOf_73 0 rfl ?_
    refine x_bipush hz (-99) dX10_asksOf_75 rfl ?_
    refine x_bipush hz 99 dX10_asksOf_77 rfl ?_
    refine x_callS hz ms_X10_186 (kX10_within (n := (n + 1)) q48.1 (-99) 99 q48.2) rfl (av := [.int q48.1, .int (-99), .int 99]) (rest := []) rfl rfl (Nat.le_of_ble_eq_true rfl) dX10_asksOf_79 ?_
    refine x_goto hz dX10_asksOf_82 ?_
    exact x_iret hz rfl dX10_asksOf_93
  refine x_iload hz dX10_asksOf_57 0 rfl ?_
  refine x_iconst hz 0 dX10_asksOf_59 rfl ?_
  refine x_bipush hz 9 dX10_asksOf_60 rfl ?_
  refine x_callS hz ms_X10_186 (kX10_within (n := (n + 1)) q48.1 0 9 q48.2) rfl (av := [.int q48.1, .int 0, .int 9]) (rest := []) rfl rfl (Nat.le_of_ble_eq_true rfl) dX10_asksOf_62 ?_
  refine x_goto hz dX10_asksOf_65 ?_
  exact x_iret hz rfl dX10_asksOf_93
theorem kX10_asksOf {l : Launch} {dd : hDD} {b n : Nat} (a1 : Int32) (a2 : Int32) (a3 : Int32) (a4 : Int32) (a5 : Int32) (a6 : Int32) (a7 : Int32) (M : hMem) (r : Int32 × hMem) (h : fX10_asksOf a1 a2 a3 a4 a5 a6 a7 M = some r) : hC l hYm dd b yX10_asksOf cX10_asksOf 9 (some .int) (n + 2) [.ref (b + 0), .int a1, .int a2, .int a3, .int a4, .int a5, .int a6, .int a7] M (some (.int r.1), r.2) :=
  h_met (av := fun b => [.ref (b + 0), .int a1, .int a2, .int a3, .int a4, .int a5, .int a6, .int a7]) (rt := rtM) (by decide) (Nat.le_of_ble_eq_true rfl) (fun Z hz => wX10_asksOf (n := n) hz a1 a2 a3 a4 a5 a6 a7 M) r h
set_option maxRecDepth 10000 in
set_option maxHeartbeats 4000000 in
theorem wX10_asks_L67 {Z : hZ} {n : Nat} (hz : hOK Z hYm cX10_asks RX10 7 (n + 3) (some .int))  (v1 : Int32) (v2 : Int32) (v3 : Int32) (v4 : Int32) (v5 : Int32) (t0 : Int32) (M : hMem)  : hW Z rtM M 67 [(0, .ref (h_b Z + 0)), (1, .int v1), (2, .int v2), (3, .int v3), (4, .int v4), (5, .int v5)] [.int t0] (fX10_asks_L67 v1 v2 v3 v4 v5 t0 M) := by
  unfold fX10_asks_L67
  refine x_istore hz [(6, .int t0), (0, .ref (h_b Z + 0)), (1, .int v1), (2, .int v2), (3, .int v3), (4, .int v4), (5, .int v5)] dX10_asks_67 rfl rfl ?_
  refine x_iload hz dX10_asks_69 0 rfl ?_
  refine x_if_eq hz dX10_asks_71 ?_ ?_
  · refine x_sipush hz (-1000) dX10_asks_102 rfl ?_
    exact x_iret hz rfl dX10_asks_105
  refine x_aload_n hz dX10_asks_74 rfl 1 rfl ?_
  refine x_iload_n hz dX10_asks_75 rfl 2 rfl ?_
  refine x_iload_n hz dX10_asks_76 rfl 3 rfl ?_
  refine x_bipush hz 10 dX10_asks_77 rfl ?_
  refine x_idiv hz dX10_asks_79 (by decide) ?_
  refine x_iload_n hz dX10_asks_80 rfl 3 rfl ?_
  refine x_bipush hz 10 dX10_asks_81 rfl ?_
  refine x_irem hz dX10_asks_83 (by decide) ?_
  refine x_iload_n hz dX10_asks_84 rfl 4 rfl ?_
  refine x_bipush hz 10 dX10_asks_85 rfl ?_
  refine x_idiv hz dX10_asks_87 (by decide) ?_
  refine x_iload hz dX10_asks_88 5 rfl ?_
  refine x_iload hz dX10_asks_90 6 rfl ?_
  refine x_iload_n hz dX10_asks_92 rfl 4 rfl ?_
  refine x_bipush hz 10 dX10_asks_93 rfl ?_
  refine x_irem hz dX10_asks_95 (by decide) ?_
  refine x_bind (fun q96 hq96 => ?_)
  refine x_callV hz mv_X10_192 sm_0 (by decide) rfl rfl (kX10_asksOf (n := n) v1 (v2 / 10) (h_rem v2 10) (v3 / 10) v4 v5 (h_rem v3 10) M q96 hq96) rfl (av := [.int v1, .int (v2 / 10), .int (h_rem v2 10), .int (v3 / 10), .int v4, .int v5, .int (h_rem v3 10)]) (rest := []) rfl rfl (Nat.le_of_ble_eq_true rfl) dX10_asks_96 ?_
  refine x_goto hz dX10_asks_99 ?_
  exact x_iret hz rfl dX10_asks_105
set_option maxRecDepth 10000 in
set_option maxHeartbeats 4000000 in
theorem wX10_asks_L66 {Z : hZ} {n : Nat} (hz : hOK Z hYm cX10_asks RX10 7 (n + 3) (some .int))  (v1 : Int32) (v2 : Int32) (v3 : Int32) (v4 : Int32) (v5 : Int32) (M : hMem)  : hW Z rtM M 66 [(0, .ref (h_b Z + 0)), (1, .int v1), (2, .int v2), (3, .int v3), (4, .int v4), (5, .int v5)] [] (fX10_asks_L66 v1 v2 v3 v4 v5 M) := by
  unfold fX10_asks_L66
  refine x_iconst hz 0 dX10_asks_66 rfl ?_
  exact x_sub [0, 1, 2, 3, 4, 5] rfl (wX10_asks_L67 hz v1 v2 v3 v4 v5 0 M)
set_option maxRecDepth 10000 in
set_option maxHeartbeats 4000000 in
theorem wX10_asks {Z : hZ} {n : Nat} (hz : hOK Z hYm cX10_asks RX10 7 (n + 3) (some .int)) (a1 : Int32) (a2 : Int32) (a3 : Int32) (a4 : Int32) (a5 : Int32) (M : hMem) : hW Z rtM M 0 [(0, .ref (h_b Z + 0)), (1, .int a1), (2, .int a2), (3, .int a3), (4, .int a4), (5, .int a5)] [] (fX10_asks a1 a2 a3 a4 a5 M) := by
  unfold fX10_asks
  refine x_iload_n hz dX10_asks_0 rfl 1 rfl ?_
  refine x_iconst hz 0 dX10_asks_1 rfl ?_
  refine x_iconst hz 2 dX10_asks_2 rfl ?_
  refine x_callS hz ms_X10_93 (kX10_in (n := (n + 2)) a1 0 2 M) rfl (av := [.int a1, .int 0, .int 2]) (rest := []) rfl rfl (Nat.le_of_ble_eq_true rfl) dX10_asks_3 ?_
  refine x_if_eq hz dX10_asks_6 ?_ ?_
  · exact x_sub [0, 1, 2, 3, 4, 5] rfl (wX10_asks_L66 hz a1 a2 a3 a4 a5 M)
  refine x_iload_n hz dX10_asks_9 rfl 2 rfl ?_
  refine x_iconst hz 0 dX10_asks_10 rfl ?_
  refine x_bipush hz 92 dX10_asks_11 rfl ?_
  refine x_callS hz ms_X10_93 (kX10_in (n := (n + 2)) a2 0 92 M) rfl (av := [.int a2, .int 0, .int 92]) (rest := []) rfl rfl (Nat.le_of_ble_eq_true rfl) dX10_asks_13 ?_
  refine x_if_eq hz dX10_asks_16 ?_ ?_
  · exact x_sub [0, 1, 2, 3, 4, 5] rfl (wX10_asks_L66 hz a1 a2 a3 a4 a5 M)
  refine x_iload_n hz dX10_asks_19 rfl 2 rfl ?_
  refine x_bipush hz 10 dX10_asks_20 rfl ?_
  refine x_irem hz dX10_asks_22 (by decide) ?_
  refine x_iconst hz 3 dX10_asks_23 rfl ?_
  refine x_icmp_ge hz dX10_asks_24 ?_ ?_
  · exact x_sub [0, 1, 2, 3, 4, 5] rfl (wX10_asks_L66 hz a1 a2 a3 a4 a5 M)
  refine x_iload_n hz dX10_asks_27 rfl 3 rfl ?_
  refine x_iconst hz 0 dX10_asks_28 rfl ?_
  refine x_bipush hz 95 dX10_asks_29 rfl ?_
  refine x_callS hz ms_X10_93 (kX10_in (n := (n + 2)) a3 0 95 M) rfl (av := [.int a3, .int 0, .int 95]) (rest := []) rfl rfl (Nat.le_of_ble_eq_true rfl) dX10_asks_31 ?_
  refine x_if_eq hz dX10_asks_34 ?_ ?_
  · exact x_sub [0, 1, 2, 3, 4, 5] rfl (wX10_asks_L66 hz a1 a2 a3 a4 a5 M)
  refine x_iload_n hz dX10_asks_37 rfl 3 rfl ?_
  refine x_bipush hz 10 dX10_asks_38 rfl ?_
  refine x_irem hz dX10_asks_40 (by decide) ?_
  refine x_bipush hz 6 dX10_asks_41 rfl ?_
  refine x_icmp_ge hz dX10_asks_43 ?_ ?_
  · exact x_sub [0, 1, 2, 3, 4, 5] rfl (wX10_asks_L66 hz a1 a2 a3 a4 a5 M)
  refine x_iload hz dX10_asks_46 4 rfl ?_
  refine x_callS hz ms_X10_189 (kX10_areSeconds (n := (n + 1)) a4 M) rfl (av := [.int a4]) (rest := []) rfl rfl (Nat.le_of_ble_eq_true rfl) dX10_asks_48 ?_
  refine x_if_eq hz dX10_asks_51 ?_ ?_
  · exact x_sub [0, 1, 2, 3, 4, 5] rfl (wX10_asks_L66 hz a1 a2 a3 a4 a5 M)
  refine x_iload hz dX10_asks_54 5 rfl ?_
  refine x_callS hz ms_X10_97 (kX10_isSquare (n := (n + 1)) a5 M) rfl (av := [.int a5]) (rest := []) rfl rfl (Nat.le_of_ble_eq_true rfl) dX10_asks_56 ?_
  refine x_if_eq hz dX10_asks_59 ?_ ?_
  · exact x_sub [0, 1, 2, 3, 4, 5] rfl (wX10_asks_L66 hz a1 a2 a3 a4 a5 M)
  refine x_iconst hz 1 dX10_asks_62 rfl ?_
  refine x_goto hz dX10_asks_63 ?_
  exact x_sub [0, 1, 2, 3, 4, 5] rfl (wX10_asks_L67 hz a1 a2 a3 a4 a5 1 M)
theorem kX10_asks {l : Launch} {dd : hDD} {b n : Nat} (a1 : Int32) (a2 : Int32) (a3 : Int32) (a4 : Int32) (a5 : Int32) (M : hMem) (r : Int32 × hMem) (h : fX10_asks a1 a2 a3 a4 a5 M = some r) : hC l hYm dd b yX10_asks cX10_asks 7 (some .int) (n + 3) [.ref (b + 0), .int a1, .int a2, .int a3, .int a4, .int a5] M (some (.int r.1), r.2) :=
  h_met (av := fun b => [.ref (b + 0), .int a1, .int a2, .int a3, .int a4, .int a5]) (rt := rtM) (by decide) (Nat.le_of_ble_eq_true rfl) (fun Z hz => wX10_asks (n := n) hz a1 a2 a3 a4 a5 M) r h
set_option maxRecDepth 10000 in
set_option maxHeartbeats 4000000 in
theorem wX10_isFree {Z : hZ} {n : Nat} (hz : hOK Z hYm cX10_isFree RX10 2 (n + 2) (some .boolean)) (a1 : Int32) (M : hMem) : hW Z (rtP M) M 0 [(0, .ref (h_b Z + 0)), (1, .int a1)] [] (fX10_isFree a1 M) := by
  unfold fX10_isFree
  refine x_iload_n hz dX10_isFree_0 rfl 1 rfl ?_
  refine x_callS hz ms_X10_97 (kX10_isSquare (n := n) a1 M) rfl (av := [.int a1]) (rest := []) rfl rfl (Nat.le_of_ble_eq_true rfl) dX10_isFree_1 ?_
  refine x_if_eq hz dX10_isFree_4 ?_ ?_
  · refine x_iconst hz 0 dX10_isFree_20 rfl ?_
    exact x_zret hz rfl rfl dX10_isFree_21
  refine x_aload_n hz dX10_isFree_7 rfl 0 rfl ?_
  refine x_iconst hz 0 dX10_isFree_8 rfl ?_
  refine x_iload_n hz dX10_isFree_9 rfl 1 rfl ?_
  refine x_bind (fun q10 hq10 => ?_)
  refine x_callV hz mv_X10_101 sm_0 (by decide) rfl rfl (kX10_has (n := (n + 1)) 0 a1 M q10 hq10) rfl (av := [.int 0, .int a1]) (rest := []) rfl rfl (Nat.le_of_ble_eq_true rfl) dX10_isFree_10 ?_
  refine x_if_ne hz dX10_isFree_13 ?_ ?_
  · refine x_iconst hz 0 dX10_isFree_20 rfl ?_
    exact x_zret hz rfl rfl dX10_isFree_21
  refine x_iconst hz 1 dX10_isFree_16 rfl ?_
  refine x_goto hz dX10_isFree_17 ?_
  exact x_zret hz rfl rfl dX10_isFree_21
theorem kX10_isFree {l : Launch} {dd : hDD} {b n : Nat} (a1 : Int32) (M : hMem) (r : Int32) (h : fX10_isFree a1 M = some r) : hC l hYm dd b yX10_isFree cX10_isFree 2 (some .boolean) (n + 2) [.ref (b + 0), .int a1] M (some (.int r), M) :=
  h_met (av := fun b => [.ref (b + 0), .int a1]) (rt := (rtP M)) (by decide) (Nat.le_of_ble_eq_true rfl) (fun Z hz => wX10_isFree (n := n) hz a1 M) r h
set_option maxRecDepth 10000 in
set_option maxHeartbeats 4000000 in
theorem wX10_hat_L77 {Z : hZ} {n : Nat} (hz : hOK Z hYm cX10_hat RX10 4 (n + 3) (some .int))  (v3 : Int32) (M : hMem)  : hW Z rtM M 77 [(0, .ref (h_b Z + 0)), (3, .int v3)] [] (fX10_hat_L77 v3 M) := by
  unfold fX10_hat_L77
  refine x_aload_n hz dX10_hat_77 rfl 0 rfl ?_
  refine x_getr hz sm_0 fl_X10_28 rfl rm_0_7 (by decide) dX10_hat_78 ?_
  refine x_aload_n hz dX10_hat_81 rfl 0 rfl ?_
  refine x_geti hz sm_0 fl_X10_105 rfl dX10_hat_82 ?_
  refine x_iload_n hz dX10_hat_85 rfl 1 rfl ?_
  refine x_iast hz sm_7 dX10_hat_86 (fun hi86 => ?_)
  refine x_aload_n hz dX10_hat_87 rfl 0 rfl ?_
  refine x_dup hz dX10_hat_88 rfl ?_
  refine x_geti hz sm_0 fl_X10_105 rfl dX10_hat_89 ?_
  refine x_iconst hz 1 dX10_hat_92 rfl ?_
  refine x_iadd hz dX10_hat_93 ?_
  refine x_puti hz sm_0 fp_X10_105 rfl dX10_hat_94 ?_
  refine x_aload_n hz dX10_hat_97 rfl 0 rfl ?_
  refine x_geti hz sm_0 fl_X10_105 rfl dX10_hat_98 ?_
  refine x_iconst hz 1 dX10_hat_101 rfl ?_
  refine x_isub hz dX10_hat_102 ?_
  exact x_iret hz rfl dX10_hat_103
set_option maxRecDepth 10000 in
set_option maxHeartbeats 4000000 in
theorem wX10_hat {Z : hZ} {n : Nat} (hz : hOK Z hYm cX10_hat RX10 4 (n + 3) (some .int)) (a1 : Int32) (a2 : Int32) (a3 : Int32) (M : hMem) : hW Z rtM M 0 [(0, .ref (h_b Z + 0)), (1, .int a1), (2, .int a2), (3, .int a3)] [] (fX10_hat a1 a2 a3 M) := by
  unfold fX10_hat
  refine x_iload_n hz dX10_hat_0 rfl 1 rfl ?_
  refine x_iconst hz 0 dX10_hat_1 rfl ?_
  refine x_bipush hz 59 dX10_hat_2 rfl ?_
  refine x_callS hz ms_X10_93 (kX10_in (n := (n + 2)) a1 0 59 M) rfl (av := [.int a1, .int 0, .int 59]) (rest := []) rfl rfl (Nat.le_of_ble_eq_true rfl) dX10_hat_4 ?_
  refine x_if_eq hz dX10_hat_7 ?_ ?_
  · refine x_bipush hz (-2) dX10_hat_27 rfl ?_
    exact x_iret hz rfl dX10_hat_29
  refine x_aload_n hz dX10_hat_10 rfl 0 rfl ?_
  refine x_iload_n hz dX10_hat_11 rfl 2 rfl ?_
  refine x_bind (fun q12 hq12 => ?_)
  refine x_callV hz mv_X10_196 sm_0 (by decide) rfl rfl (kX10_isFree (n := n) a2 M q12 hq12) rfl (av := [.int a2]) (rest := []) rfl rfl (Nat.le_of_ble_eq_true rfl) dX10_hat_12 ?_
  refine x_if_eq hz dX10_hat_15 ?_ ?_
  · refine x_bipush hz (-2) dX10_hat_27 rfl ?_
    exact x_iret hz rfl dX10_hat_29
  refine x_iload_n hz dX10_hat_18 rfl 3 rfl ?_
  refine x_iconst hz 0 dX10_hat_19 rfl ?_
  refine x_iconst hz 2 dX10_hat_20 rfl ?_
  refine x_callS hz ms_X10_93 (kX10_in (n := (n + 2)) a3 0 2 M) rfl (av := [.int a3, .int 0, .int 2]) (rest := []) rfl rfl (Nat.le_of_ble_eq_true rfl) dX10_hat_21 ?_
  refine x_if_ne hz dX10_hat_24 ?_ ?_
  · refine x_aload_n hz dX10_hat_30 rfl 0 rfl ?_
    refine x_geti hz sm_0 fl_X10_105 rfl dX10_hat_31 ?_
    refine x_iconst hz 4 dX10_hat_34 rfl ?_
    refine x_icmp_ne hz dX10_hat_35 ?_ ?_
    · refine x_aload_n hz dX10_hat_41 rfl 0 rfl ?_
      refine x_getr hz sm_0 fl_X10_19 rfl rm_0_4 (by decide) dX10_hat_42 ?_
      refine x_aload_n hz dX10_hat_45 rfl 0 rfl ?_
      refine x_geti hz sm_0 fl_X10_105 rfl dX10_hat_46 ?_
      refine x_iload_n hz dX10_hat_49 rfl 1 rfl ?_
      refine x_bipush hz 10 dX10_hat_50 rfl ?_
      refine x_idiv hz dX10_hat_52 (by decide) ?_
      refine x_iast hz sm_4 dX10_hat_53 (fun hi53 => ?_)
      refine x_aload_n hz dX10_hat_54 rfl 0 rfl ?_
      refine x_getr hz sm_0 fl_X10_22 rfl rm_0_5 (by decide) dX10_hat_55 ?_
      refine x_aload_n hz dX10_hat_58 rfl 0 rfl ?_
      refine x_geti hz sm_0 fl_X10_105 rfl dX10_hat_59 ?_
      refine x_iload_n hz dX10_hat_62 rfl 1 rfl ?_
      refine x_bipush hz 10 dX10_hat_63 rfl ?_
      refine x_irem hz dX10_hat_65 (by decide) ?_
      refine x_iast hz sm_5 dX10_hat_66 (fun hi66 => ?_)
      refine x_aload_n hz dX10_hat_67 rfl 0 rfl ?_
      refine x_getr hz sm_0 fl_X10_25 rfl rm_0_6 (by decide) dX10_hat_68 ?_
      refine x_aload_n hz dX10_hat_71 rfl 0 rfl ?_
      refine x_geti hz sm_0 fl_X10_105 rfl dX10_hat_72 ?_
      refine x_iload_n hz dX10_hat_75 rfl 2 rfl ?_
      refine x_iast hz sm_6 dX10_hat_76 (fun hi76 => ?_)
      exact x_sub [0, 3] rfl (wX10_hat_L77 hz a3 (h_up (h_up (h_up M 4 (M 0 3).toNatClampNeg (a1 / 10)) 5 ((h_up M 4 (M 0 3).toNatClampNeg (a1 / 10)) 0 3).toNatClampNeg (h_rem a1 10)) 6 ((h_up (h_up M 4 (M 0 3).toNatClampNeg (a1 / 10)) 5 ((h_up M 4 (M 0 3).toNatClampNeg (a1 / 10)) 0 3).toNatClampNeg (h_rem a1 10)) 0 3).toNatClampNeg a2))
    refine x_bipush hz (-4) dX10_hat_38 rfl ?_
    exact x_iret hz rfl dX10_hat_40
  refine x_bipush hz (-2) dX10_hat_27 rfl ?_
  exact x_iret hz rfl dX10_hat_29
theorem kX10_hat {l : Launch} {dd : hDD} {b n : Nat} (a1 : Int32) (a2 : Int32) (a3 : Int32) (M : hMem) (r : Int32 × hMem) (h : fX10_hat a1 a2 a3 M = some r) : hC l hYm dd b yX10_hat cX10_hat 4 (some .int) (n + 3) [.ref (b + 0), .int a1, .int a2, .int a3] M (some (.int r.1), r.2) :=
  h_met (av := fun b => [.ref (b + 0), .int a1, .int a2, .int a3]) (rt := rtM) (by decide) (Nat.le_of_ble_eq_true rfl) (fun Z hz => wX10_hat (n := n) hz a1 a2 a3 M) r h
set_option maxRecDepth 10000 in
set_option maxHeartbeats 4000000 in
theorem wX10_isHat {Z : hZ} {n : Nat} (hz : hOK Z hYm cX10_isHat RX10 2 (n + 1) (some .boolean)) (a1 : Int32) (M : hMem) : hW Z (rtP M) M 0 [(0, .ref (h_b Z + 0)), (1, .int a1)] [] (some (fX10_isHat a1 M)) := by
  unfold fX10_isHat
  refine x_iload_n hz dX10_isHat_0 rfl 1 rfl ?_
  refine x_iconst hz 0 dX10_isHat_1 rfl ?_
  refine x_aload_n hz dX10_isHat_2 rfl 0 rfl ?_
  refine x_geti hz sm_0 fl_X10_105 rfl dX10_isHat_3 ?_
  refine x_iconst hz 1 dX10_isHat_6 rfl ?_
  refine x_isub hz dX10_isHat_7 ?_
  refine x_callS hz ms_X10_93 (kX10_in (n := n) a1 0 ((M 0 3) - 1) M) rfl (av := [.int a1, .int 0, .int ((M 0 3) - 1)]) (rest := []) rfl rfl (Nat.le_of_ble_eq_true rfl) dX10_isHat_8 ?_
  exact x_zret hz (bX10_in a1 0 ((M 0 3) - 1) M) rfl dX10_isHat_11
theorem bX10_isHat (a1 : Int32) (M : hMem) : narrow .boolean (.int (fX10_isHat a1 M)) = .int (fX10_isHat a1 M) := by
  unfold fX10_isHat
  exact bX10_in a1 0 ((M 0 3) - 1) M
theorem kX10_isHat {l : Launch} {dd : hDD} {b n : Nat} (a1 : Int32) (M : hMem) : hC l hYm dd b yX10_isHat cX10_isHat 2 (some .boolean) (n + 1) [.ref (b + 0), .int a1] M (some (.int (fX10_isHat a1 M)), M) :=
  h_met (av := fun b => [.ref (b + 0), .int a1]) (rt := (rtP M)) (by decide) (Nat.le_of_ble_eq_true rfl) (fun Z hz => wX10_isHat (n := n) hz a1 M) _ rfl
set_option maxRecDepth 10000 in
set_option maxHeartbeats 4000000 in
theorem wX10_set_L87 {Z : hZ} {n : Nat} (hz : hOK Z hYm cX10_set RX10 5 (n + 3) (some .int))  (v1 : Int32) (v2 : Int32) (v3 : Int32) (v4 : Int32) (t2 : Int32) (t1 : Int32) (M : hMem)  : hW Z rtM M 87 [(0, .ref (h_b Z + 0)), (1, .int v1), (2, .int v2), (3, .int v3), (4, .int v4)] [.int t2, .int t1, .ref (h_b Z + 6)] (fX10_set_L87 v1 v2 v3 v4 t2 t1 M) := by
  unfold fX10_set_L87
  refine x_iast hz sm_6 dX10_set_87 (fun hi87 => ?_)
  refine x_aload_n hz dX10_set_88 rfl 0 rfl ?_
  refine x_getr hz sm_0 fl_X10_28 rfl rm_0_7 (by decide) dX10_set_89 ?_
  refine x_iload_n hz dX10_set_92 rfl 1 rfl ?_
  refine x_iload_n hz dX10_set_93 rfl 2 rfl ?_
  refine x_iconst hz 1 dX10_set_94 rfl ?_
  refine x_icmp_ne hz dX10_set_95 ?_ ?_
  · refine x_aload_n hz dX10_set_102 rfl 0 rfl ?_
    refine x_getr hz sm_0 fl_X10_28 rfl rm_0_7 (by decide) dX10_set_103 ?_
    refine x_iload_n hz dX10_set_106 rfl 1 rfl ?_
    refine x_iald hz sm_7 dX10_set_107 (fun hi107 => ?_)
    refine x_iast hz sm_7 dX10_set_108 (fun hi108 => ?_)
    refine x_iload hz dX10_set_109 4 rfl ?_
    exact x_iret hz rfl dX10_set_111
  refine x_iload_n hz dX10_set_98 rfl 3 rfl ?_
  refine x_goto hz dX10_set_99 ?_
  refine x_iast hz sm_7 dX10_set_108 (fun hi108 => ?_)
  refine x_iload hz dX10_set_109 4 rfl ?_
  exact x_iret hz rfl dX10_set_111
set_option maxRecDepth 10000 in
set_option maxHeartbeats 4000000 in
theorem wX10_set_L66 {Z : hZ} {n : Nat} (hz : hOK Z hYm cX10_set RX10 5 (n + 3) (some .int))  (v1 : Int32) (v2 : Int32) (v3 : Int32) (t0 : Int32) (M : hMem)  : hW Z rtM M 66 [(0, .ref (h_b Z + 0)), (1, .int v1), (2, .int v2), (3, .int v3)] [.int t0] (fX10_set_L66 v1 v2 v3 t0 M) := by
  unfold fX10_set_L66
  refine x_istore hz [(4, .int t0), (0, .ref (h_b Z + 0)), (1, .int v1), (2, .int v2), (3, .int v3)] dX10_set_66 rfl rfl ?_
  refine x_aload_n hz dX10_set_68 rfl 1 rfl ?_
  refine x_getr hz sm_0 fl_X10_25 rfl rm_0_6 (by decide) dX10_set_69 ?_
  refine x_iload_n hz dX10_set_72 rfl 2 rfl ?_
  refine x_iload_n hz dX10_set_73 rfl 3 rfl ?_
  refine x_if_ne hz dX10_set_74 ?_ ?_
  · refine x_aload_n hz dX10_set_81 rfl 1 rfl ?_
    refine x_getr hz sm_0 fl_X10_25 rfl rm_0_6 (by decide) dX10_set_82 ?_
    refine x_iload_n hz dX10_set_85 rfl 2 rfl ?_
    refine x_iald hz sm_6 dX10_set_86 (fun hi86 => ?_)
    exact x_sub [1, 2, 3, 4, 0] rfl (wX10_set_L87 hz v1 v2 v3 t0 (M 6 v1.toNatClampNeg) v1 M)
  refine x_iload_n hz dX10_set_77 rfl 4 rfl ?_
  refine x_goto hz dX10_set_78 ?_
  exact x_sub [1, 2, 3, 4, 0] rfl (wX10_set_L87 hz v1 v2 v3 t0 v3 v1 M)
set_option maxRecDepth 10000 in
set_option maxHeartbeats 4000000 in
theorem wX10_set_L47 {Z : hZ} {n : Nat} (hz : hOK Z hYm cX10_set RX10 5 (n + 3) (some .int))  (v1 : Int32) (v2 : Int32) (v3 : Int32) (M : hMem)  : hW Z rtM M 47 [(0, .ref (h_b Z + 0)), (1, .int v1), (2, .int v2), (3, .int v3)] [] (fX10_set_L47 v1 v2 v3 M) := by
  unfold fX10_set_L47
  refine x_iload_n hz dX10_set_47 rfl 2 rfl ?_
  refine x_if_ne hz dX10_set_48 ?_ ?_
  · refine x_aload_n hz dX10_set_60 rfl 0 rfl ?_
    refine x_getr hz sm_0 fl_X10_28 rfl rm_0_7 (by decide) dX10_set_61 ?_
    refine x_iload_n hz dX10_set_64 rfl 1 rfl ?_
    refine x_iald hz sm_7 dX10_set_65 (fun hi65 => ?_)
    exact x_sub [0, 1, 2, 3] rfl (wX10_set_L66 hz v1 v2 v3 (M 7 v1.toNatClampNeg) M)
  refine x_aload_n hz dX10_set_51 rfl 0 rfl ?_
  refine x_getr hz sm_0 fl_X10_25 rfl rm_0_6 (by decide) dX10_set_52 ?_
  refine x_iload_n hz dX10_set_55 rfl 1 rfl ?_
  refine x_iald hz sm_6 dX10_set_56 (fun hi56 => ?_)
  refine x_goto hz dX10_set_57 ?_
  exact x_sub [0, 1, 2, 3] rfl (wX10_set_L66 hz v1 v2 v3 (M 6 v1.toNatClampNeg) M)
set_option maxRecDepth 10000 in
set_option maxHeartbeats 4000000 in
theorem wX10_set {Z : hZ} {n : Nat} (hz : hOK Z hYm cX10_set RX10 5 (n + 3) (some .int)) (a1 : Int32) (a2 : Int32) (a3 : Int32) (M : hMem) : hW Z rtM M 0 [(0, .ref (h_b Z + 0)), (1, .int a1), (2, .int a2), (3, .int a3)] [] (fX10_set a1 a2 a3 M) := by
  unfold fX10_set
  refine x_aload_n hz dX10_set_0 rfl 0 rfl ?_
  refine x_iload_n hz dX10_set_1 rfl 1 rfl ?_
  refine x_callV hz mv_X10_199 sm_0 (by decide) rfl rfl (kX10_isHat (n := (n + 1)) a1 M) rfl (av := [.int a1]) (rest := []) rfl rfl (Nat.le_of_ble_eq_true rfl) dX10_set_2 ?_
  refine x_if_ne hz dX10_set_5 ?_ ?_
  · refine x_iload_n hz dX10_set_11 rfl 2 rfl ?_
    refine x_iconst hz 0 dX10_set_12 rfl ?_
    refine x_iconst hz 1 dX10_set_13 rfl ?_
    refine x_callS hz ms_X10_93 (kX10_in (n := (n + 2)) a2 0 1 M) rfl (av := [.int a2, .int 0, .int 1]) (rest := []) rfl rfl (Nat.le_of_ble_eq_true rfl) dX10_set_14 ?_
    refine x_if_eq hz dX10_set_17 ?_ ?_
    · refine x_bipush hz (-7) dX10_set_44 rfl ?_
      exact x_iret hz rfl dX10_set_46
    refine x_iload_n hz dX10_set_20 rfl 2 rfl ?_
    refine x_if_ne hz dX10_set_21 ?_ ?_
    · refine x_iload_n hz dX10_set_35 rfl 3 rfl ?_
      refine x_iconst hz 0 dX10_set_36 rfl ?_
      refine x_iconst hz 2 dX10_set_37 rfl ?_
      refine x_callS hz ms_X10_93 (kX10_in (n := (n + 2)) a3 0 2 M) rfl (av := [.int a3, .int 0, .int 2]) (rest := []) rfl rfl (Nat.le_of_ble_eq_true rfl) dX10_set_38 ?_
      refine x_if_ne hz dX10_set_41 ?_ ?_
      · exact x_sub [0, 1, 2, 3] rfl (wX10_set_L47 hz a1 a2 a3 M)
      refine x_bipush hz (-7) dX10_set_44 rfl ?_
      exact x_iret hz rfl dX10_set_46
    refine x_aload_n hz dX10_set_24 rfl 0 rfl ?_
    refine x_iload_n hz dX10_set_25 rfl 3 rfl ?_
    refine x_bind (fun q26 hq26 => ?_)
    refine x_callV hz mv_X10_196 sm_0 (by decide) rfl rfl (kX10_isFree (n := n) a3 M q26 hq26) rfl (av := [.int a3]) (rest := []) rfl rfl (Nat.le_of_ble_eq_true rfl) dX10_set_26 ?_
    refine x_if_ne hz dX10_set_29 ?_ ?_
    · exact x_sub [0, 1, 2, 3] rfl (wX10_set_L47 hz a1 a2 a3 M)
    refine x_goto hz dX10_set_32 ?_
    refine x_bipush hz (-7) dX10_set_44 rfl ?_
    exact x_iret hz rfl dX10_set_46
  refine x_bipush hz (-5) dX10_set_8 rfl ?_
  exact x_iret hz rfl dX10_set_10
theorem kX10_set {l : Launch} {dd : hDD} {b n : Nat} (a1 : Int32) (a2 : Int32) (a3 : Int32) (M : hMem) (r : Int32 × hMem) (h : fX10_set a1 a2 a3 M = some r) : hC l hYm dd b yX10_set cX10_set 5 (some .int) (n + 3) [.ref (b + 0), .int a1, .int a2, .int a3] M (some (.int r.1), r.2) :=
  h_met (av := fun b => [.ref (b + 0), .int a1, .int a2, .int a3]) (rt := rtM) (by decide) (Nat.le_of_ble_eq_true rfl) (fun Z hz => wX10_set (n := n) hz a1 a2 a3 M) r h
set_option maxRecDepth 10000 in
set_option maxHeartbeats 4000000 in
theorem wX10_told {Z : hZ} {n : Nat} (hz : hOK Z hYm cX10_told RX10 3 (n + 2) (some .int)) (a1 : Int32) (a2 : Int32) (M : hMem) : hW Z (rtP M) M 0 [(0, .ref (h_b Z + 0)), (1, .int a1), (2, .int a2)] [] (fX10_told a1 a2 M) := by
  unfold fX10_told
  refine x_aload_n hz dX10_told_0 rfl 0 rfl ?_
  refine x_iload_n hz dX10_told_1 rfl 1 rfl ?_
  refine x_callV hz mv_X10_199 sm_0 (by decide) rfl rfl (kX10_isHat (n := n) a1 M) rfl (av := [.int a1]) (rest := []) rfl rfl (Nat.le_of_ble_eq_true rfl) dX10_told_2 ?_
  refine x_if_ne hz dX10_told_5 ?_ ?_
  · refine x_iload_n hz dX10_told_11 rfl 2 rfl ?_
    refine x_case (fun hc0 => ?_) (fun hc0 => ?_)
    · refine x_tabIn hz dX10_told_12 0 (by rw [hc0]; rfl) (by decide) (by decide) rfl rfl ?_
      refine x_aload_n hz dX10_told_44 rfl 0 rfl ?_
      refine x_getr hz sm_0 fl_X10_25 rfl rm_0_6 (by decide) dX10_told_45 ?_
      refine x_iload_n hz dX10_told_48 rfl 1 rfl ?_
      refine x_iald hz sm_6 dX10_told_49 (fun hi49 => ?_)
      exact x_iret hz rfl dX10_told_50
    refine x_case (fun hc1 => ?_) (fun hc1 => ?_)
    · refine x_tabIn hz dX10_told_12 1 (by rw [hc1]; rfl) (by decide) (by decide) rfl rfl ?_
      refine x_aload_n hz dX10_told_51 rfl 0 rfl ?_
      refine x_getr hz sm_0 fl_X10_28 rfl rm_0_7 (by decide) dX10_told_52 ?_
      refine x_iload_n hz dX10_told_55 rfl 1 rfl ?_
      refine x_iald hz sm_7 dX10_told_56 (fun hi56 => ?_)
      exact x_iret hz rfl dX10_told_57
    refine x_case (fun hc2 => ?_) (fun hc2 => ?_)
    · refine x_tabIn hz dX10_told_12 2 (by rw [hc2]; rfl) (by decide) (by decide) rfl rfl ?_
      refine x_aload_n hz dX10_told_58 rfl 0 rfl ?_
      refine x_getr hz sm_0 fl_X10_19 rfl rm_0_4 (by decide) dX10_told_59 ?_
      refine x_iload_n hz dX10_told_62 rfl 1 rfl ?_
      refine x_iald hz sm_4 dX10_told_63 (fun hi63 => ?_)
      exact x_iret hz rfl dX10_told_64
    refine x_case (fun hc3 => ?_) (fun hc3 => ?_)
    · refine x_tabIn hz dX10_told_12 3 (by rw [hc3]; rfl) (by decide) (by decide) rfl rfl ?_
      refine x_aload_n hz dX10_told_65 rfl 0 rfl ?_
      refine x_getr hz sm_0 fl_X10_22 rfl rm_0_5 (by decide) dX10_told_66 ?_
      refine x_iload_n hz dX10_told_69 rfl 1 rfl ?_
      refine x_iald hz sm_5 dX10_told_70 (fun hi70 => ?_)
      exact x_iret hz rfl dX10_told_71
    have ehc0 := lv_neT (a := 0) hc0 (by decide)
    have ehc1 := lv_neT (a := 1) hc1 (by decide)
    have ehc2 := lv_neT (a := 2) hc2 (by decide)
    have ehc3 := lv_neT (a := 3) hc3 (by decide)
    refine x_tabOut hz dX10_told_12 (by omega) rfl ?_
    refine x_bipush hz (-7) dX10_told_72 rfl ?_
    exact x_iret hz rfl dX10_told_74
  refine x_bipush hz (-5) dX10_told_8 rfl ?_
  exact x_iret hz rfl dX10_told_10
theorem kX10_told {l : Launch} {dd : hDD} {b n : Nat} (a1 : Int32) (a2 : Int32) (M : hMem) (r : Int32) (h : fX10_told a1 a2 M = some r) : hC l hYm dd b yX10_told cX10_told 3 (some .int) (n + 2) [.ref (b + 0), .int a1, .int a2] M (some (.int r), M) :=
  h_met (av := fun b => [.ref (b + 0), .int a1, .int a2]) (rt := (rtP M)) (by decide) (Nat.le_of_ble_eq_true rfl) (fun Z hz => wX10_told (n := n) hz a1 a2 M) r h
set_option maxRecDepth 10000 in
set_option maxHeartbeats 4000000 in
theorem wX10_come_L80 {Z : hZ} {n : Nat} (hz : hOK Z hYm cX10_come RX10 4 (n + 3) (some .int))   (M : hMem)  : hW Z rtM M 80 [(0, .ref (h_b Z + 0))] [] (fX10_come_L80 M) := by
  unfold fX10_come_L80
  refine x_aload_n hz dX10_come_80 rfl 0 rfl ?_
  refine x_dup hz dX10_come_81 rfl ?_
  refine x_geti hz sm_0 fl_X10_108 rfl dX10_come_82 ?_
  refine x_iconst hz 1 dX10_come_85 rfl ?_
  refine x_iadd hz dX10_come_86 ?_
  refine x_puti hz sm_0 fp_X10_108 rfl dX10_come_87 ?_
  refine x_aload_n hz dX10_come_90 rfl 0 rfl ?_
  refine x_geti hz sm_0 fl_X10_108 rfl dX10_come_91 ?_
  refine x_iconst hz 1 dX10_come_94 rfl ?_
  refine x_isub hz dX10_come_95 ?_
  exact x_iret hz rfl dX10_come_96
set_option maxRecDepth 10000 in
set_option maxHeartbeats 4000000 in
theorem wX10_come {Z : hZ} {n : Nat} (hz : hOK Z hYm cX10_come RX10 4 (n + 3) (some .int)) (a1 : Int32) (a2 : Int32) (a3 : Int32) (M : hMem) : hW Z rtM M 0 [(0, .ref (h_b Z + 0)), (1, .int a1), (2, .int a2), (3, .int a3)] [] (fX10_come a1 a2 a3 M) := by
  unfold fX10_come
  refine x_aload_n hz dX10_come_0 rfl 0 rfl ?_
  refine x_iload_n hz dX10_come_1 rfl 1 rfl ?_
  refine x_bind (fun q2 hq2 => ?_)
  refine x_callV hz mv_X10_196 sm_0 (by decide) rfl rfl (kX10_isFree (n := n) a1 M q2 hq2) rfl (av := [.int a1]) (rest := []) rfl rfl (Nat.le_of_ble_eq_true rfl) dX10_come_2 ?_
  refine x_if_eq hz dX10_come_5 ?_ ?_
  · refine x_bipush hz (-2) dX10_come_26 rfl ?_
    exact x_iret hz rfl dX10_come_28
  refine x_iload_n hz dX10_come_8 rfl 2 rfl ?_
  refine x_iconst hz 0 dX10_come_9 rfl ?_
  refine x_iconst hz 4 dX10_come_10 rfl ?_
  refine x_callS hz ms_X10_93 (kX10_in (n := (n + 2)) a2 0 4 M) rfl (av := [.int a2, .int 0, .int 4]) (rest := []) rfl rfl (Nat.le_of_ble_eq_true rfl) dX10_come_11 ?_
  refine x_if_eq hz dX10_come_14 ?_ ?_
  · refine x_bipush hz (-2) dX10_come_26 rfl ?_
    exact x_iret hz rfl dX10_come_28
  refine x_iload_n hz dX10_come_17 rfl 3 rfl ?_
  refine x_iconst hz 0 dX10_come_18 rfl ?_
  refine x_iconst hz 3 dX10_come_19 rfl ?_
  refine x_callS hz ms_X10_93 (kX10_in (n := (n + 2)) a3 0 3 M) rfl (av := [.int a3, .int 0, .int 3]) (rest := []) rfl rfl (Nat.le_of_ble_eq_true rfl) dX10_come_20 ?_
  refine x_if_ne hz dX10_come_23 ?_ ?_
  · refine x_aload_n hz dX10_come_29 rfl 0 rfl ?_
    refine x_geti hz sm_0 fl_X10_108 rfl dX10_come_30 ?_
    refine x_iconst hz 4 dX10_come_33 rfl ?_
    refine x_icmp_ne hz dX10_come_34 ?_ ?_
    · refine x_aload_n hz dX10_come_40 rfl 0 rfl ?_
      refine x_getr hz sm_0 fl_X10_31 rfl rm_0_9 (by decide) dX10_come_41 ?_
      refine x_iconst hz 3 dX10_come_44 rfl ?_
      refine x_aload_n hz dX10_come_45 rfl 0 rfl ?_
      refine x_geti hz sm_0 fl_X10_108 rfl dX10_come_46 ?_
      refine x_imul hz dX10_come_49 ?_
      refine x_iload_n hz dX10_come_50 rfl 1 rfl ?_
      refine x_iast hz sm_8 dX10_come_51 (fun hi51 => ?_)
      refine x_aload_n hz dX10_come_52 rfl 0 rfl ?_
      refine x_getr hz sm_0 fl_X10_31 rfl rm_0_9 (by decide) dX10_come_53 ?_
      refine x_iconst hz 3 dX10_come_56 rfl ?_
      refine x_aload_n hz dX10_come_57 rfl 0 rfl ?_
      refine x_geti hz sm_0 fl_X10_108 rfl dX10_come_58 ?_
      refine x_imul hz dX10_come_61 ?_
      refine x_iconst hz 1 dX10_come_62 rfl ?_
      refine x_iadd hz dX10_come_63 ?_
      refine x_iload_n hz dX10_come_64 rfl 2 rfl ?_
      refine x_iast hz sm_8 dX10_come_65 (fun hi65 => ?_)
      refine x_aload_n hz dX10_come_66 rfl 0 rfl ?_
      refine x_getr hz sm_0 fl_X10_31 rfl rm_0_9 (by decide) dX10_come_67 ?_
      refine x_iconst hz 3 dX10_come_70 rfl ?_
      refine x_aload_n hz dX10_come_71 rfl 0 rfl ?_
      refine x_geti hz sm_0 fl_X10_108 rfl dX10_come_72 ?_
      refine x_imul hz dX10_come_75 ?_
      refine x_iconst hz 2 dX10_come_76 rfl ?_
      refine x_iadd hz dX10_come_77 ?_
      refine x_iload_n hz dX10_come_78 rfl 3 rfl ?_
      refine x_iast hz sm_8 dX10_come_79 (fun hi79 => ?_)
      exact x_sub [0] rfl (wX10_come_L80 hz (h_up (h_up (h_up M 8 (3 * (M 0 8)).toNatClampNeg a1) 8 ((3 * ((h_up M 8 (3 * (M 0 8)).toNatClampNeg a1) 0 8)) + 1).toNatClampNeg a2) 8 ((3 * ((h_up (h_up M 8 (3 * (M 0 8)).toNatClampNeg a1) 8 ((3 * ((h_up M 8 (3 * (M 0 8)).toNatClampNeg a1) 0 8)) + 1).toNatClampNeg a2) 0 8)) + 2).toNatClampNeg a3))
    refine x_bipush hz (-4) dX10_come_37 rfl ?_
    exact x_iret hz rfl dX10_come_39
  refine x_bipush hz (-2) dX10_come_26 rfl ?_
  exact x_iret hz rfl dX10_come_28
theorem kX10_come {l : Launch} {dd : hDD} {b n : Nat} (a1 : Int32) (a2 : Int32) (a3 : Int32) (M : hMem) (r : Int32 × hMem) (h : fX10_come a1 a2 a3 M = some r) : hC l hYm dd b yX10_come cX10_come 4 (some .int) (n + 3) [.ref (b + 0), .int a1, .int a2, .int a3] M (some (.int r.1), r.2) :=
  h_met (av := fun b => [.ref (b + 0), .int a1, .int a2, .int a3]) (rt := rtM) (by decide) (Nat.le_of_ble_eq_true rfl) (fun Z hz => wX10_come (n := n) hz a1 a2 a3 M) r h
set_option maxRecDepth 10000 in
set_option maxHeartbeats 4000000 in
theorem wX10_isCatcher {Z : hZ} {n : Nat} (hz : hOK Z hYm cX10_isCatcher RX10 2 (n + 1) (some .boolean)) (a1 : Int32) (M : hMem) : hW Z (rtP M) M 0 [(0, .ref (h_b Z + 0)), (1, .int a1)] [] (some (fX10_isCatcher a1 M)) := by
  unfold fX10_isCatcher
  refine x_iload_n hz dX10_isCatcher_0 rfl 1 rfl ?_
  refine x_iconst hz 0 dX10_isCatcher_1 rfl ?_
  refine x_aload_n hz dX10_isCatcher_2 rfl 0 rfl ?_
  refine x_geti hz sm_0 fl_X10_108 rfl dX10_isCatcher_3 ?_
  refine x_iconst hz 1 dX10_isCatcher_6 rfl ?_
  refine x_isub hz dX10_isCatcher_7 ?_
  refine x_callS hz ms_X10_93 (kX10_in (n := n) a1 0 ((M 0 8) - 1) M) rfl (av := [.int a1, .int 0, .int ((M 0 8) - 1)]) (rest := []) rfl rfl (Nat.le_of_ble_eq_true rfl) dX10_isCatcher_8 ?_
  exact x_zret hz (bX10_in a1 0 ((M 0 8) - 1) M) rfl dX10_isCatcher_11
theorem bX10_isCatcher (a1 : Int32) (M : hMem) : narrow .boolean (.int (fX10_isCatcher a1 M)) = .int (fX10_isCatcher a1 M) := by
  unfold fX10_isCatcher
  exact bX10_in a1 0 ((M 0 8) - 1) M
theorem kX10_isCatcher {l : Launch} {dd : hDD} {b n : Nat} (a1 : Int32) (M : hMem) : hC l hYm dd b yX10_isCatcher cX10_isCatcher 2 (some .boolean) (n + 1) [.ref (b + 0), .int a1] M (some (.int (fX10_isCatcher a1 M)), M) :=
  h_met (av := fun b => [.ref (b + 0), .int a1]) (rt := (rtP M)) (by decide) (Nat.le_of_ble_eq_true rfl) (fun Z hz => wX10_isCatcher (n := n) hz a1 M) _ rfl
set_option maxRecDepth 10000 in
set_option maxHeartbeats 4000000 in
theorem wX10_does_L49 {Z : hZ} {n : Nat} (hz : hOK Z hYm cX10_does RX10 5 (n + 3) (some .int))  (v1 : Int32) (v2 : Int32) (v3 : Int32) (M : hMem)  : hW Z rtM M 49 [(0, .ref (h_b Z + 0)), (1, .int v1), (2, .int v2), (3, .int v3)] [] (fX10_does_L49 v1 v2 v3 M) := by
  unfold fX10_does_L49
  refine x_aload_n hz dX10_does_49 rfl 0 rfl ?_
  refine x_getr hz sm_0 fl_X10_31 rfl rm_0_9 (by decide) dX10_does_50 ?_
  refine x_iconst hz 3 dX10_does_53 rfl ?_
  refine x_iload_n hz dX10_does_54 rfl 1 rfl ?_
  refine x_imul hz dX10_does_55 ?_
  refine x_iload_n hz dX10_does_56 rfl 2 rfl ?_
  refine x_iadd hz dX10_does_57 ?_
  refine x_iald hz sm_8 dX10_does_58 (fun hi58 => ?_)
  refine x_istore hz [(4, .int (M 8 ((3 * v1) + v2).toNatClampNeg)), (0, .ref (h_b Z + 0)), (1, .int v1), (2, .int v2), (3, .int v3)] dX10_does_59 rfl rfl ?_
  refine x_aload_n hz dX10_does_61 rfl 1 rfl ?_
  refine x_getr hz sm_0 fl_X10_31 rfl rm_0_9 (by decide) dX10_does_62 ?_
  refine x_iconst hz 3 dX10_does_65 rfl ?_
  refine x_iload_n hz dX10_does_66 rfl 2 rfl ?_
  refine x_imul hz dX10_does_67 ?_
  refine x_iload_n hz dX10_does_68 rfl 3 rfl ?_
  refine x_iadd hz dX10_does_69 ?_
  refine x_iload_n hz dX10_does_70 rfl 4 rfl ?_
  refine x_iast hz sm_8 dX10_does_71 (fun hi71 => ?_)
  refine x_iload hz dX10_does_72 0 rfl ?_
  exact x_iret hz rfl dX10_does_74
set_option maxRecDepth 10000 in
set_option maxHeartbeats 4000000 in
theorem wX10_does {Z : hZ} {n : Nat} (hz : hOK Z hYm cX10_does RX10 5 (n + 3) (some .int)) (a1 : Int32) (a2 : Int32) (a3 : Int32) (M : hMem) : hW Z rtM M 0 [(0, .ref (h_b Z + 0)), (1, .int a1), (2, .int a2), (3, .int a3)] [] (fX10_does a1 a2 a3 M) := by
  unfold fX10_does
  refine x_aload_n hz dX10_does_0 rfl 0 rfl ?_
  refine x_iload_n hz dX10_does_1 rfl 1 rfl ?_
  refine x_callV hz mv_X10_202 sm_0 (by decide) rfl rfl (kX10_isCatcher (n := (n + 1)) a1 M) rfl (av := [.int a1]) (rest := []) rfl rfl (Nat.le_of_ble_eq_true rfl) dX10_does_2 ?_
  refine x_if_ne hz dX10_does_5 ?_ ?_
  · refine x_iload_n hz dX10_does_11 rfl 2 rfl ?_
    refine x_iconst hz 0 dX10_does_12 rfl ?_
    refine x_iconst hz 2 dX10_does_13 rfl ?_
    refine x_callS hz ms_X10_93 (kX10_in (n := (n + 2)) a2 0 2 M) rfl (av := [.int a2, .int 0, .int 2]) (rest := []) rfl rfl (Nat.le_of_ble_eq_true rfl) dX10_does_14 ?_
    refine x_if_eq hz dX10_does_17 ?_ ?_
    · refine x_bipush hz (-7) dX10_does_46 rfl ?_
      exact x_iret hz rfl dX10_does_48
    refine x_iload_n hz dX10_does_20 rfl 2 rfl ?_
    refine x_if_ne hz dX10_does_21 ?_ ?_
    · refine x_iload_n hz dX10_does_35 rfl 3 rfl ?_
      refine x_iconst hz 0 dX10_does_36 rfl ?_
      refine x_iconst hz 5 dX10_does_37 rfl ?_
      refine x_iload_n hz dX10_does_38 rfl 2 rfl ?_
      refine x_isub hz dX10_does_39 ?_
      refine x_callS hz ms_X10_93 (kX10_in (n := (n + 2)) a3 0 (5 - a2) M) rfl (av := [.int a3, .int 0, .int (5 - a2)]) (rest := []) rfl rfl (Nat.le_of_ble_eq_true rfl) dX10_does_40 ?_
      refine x_if_ne hz dX10_does_43 ?_ ?_
      · exact x_sub [0, 1, 2, 3] rfl (wX10_does_L49 hz a1 a2 a3 M)
      refine x_bipush hz (-7) dX10_does_46 rfl ?_
      exact x_iret hz rfl dX10_does_48
    refine x_aload_n hz dX10_does_24 rfl 0 rfl ?_
    refine x_iload_n hz dX10_does_25 rfl 3 rfl ?_
    refine x_bind (fun q26 hq26 => ?_)
    refine x_callV hz mv_X10_196 sm_0 (by decide) rfl rfl (kX10_isFree (n := n) a3 M q26 hq26) rfl (av := [.int a3]) (rest := []) rfl rfl (Nat.le_of_ble_eq_true rfl) dX10_does_26 ?_
    refine x_if_ne hz dX10_does_29 ?_ ?_
    · exact x_sub [0, 1, 2, 3] rfl (wX10_does_L49 hz a1 a2 a3 M)
    refine x_goto hz dX10_does_32 ?_
    refine x_bipush hz (-7) dX10_does_46 rfl ?_
    exact x_iret hz rfl dX10_does_48
  refine x_bipush hz (-5) dX10_does_8 rfl ?_
  exact x_iret hz rfl dX10_does_10
theorem kX10_does {l : Launch} {dd : hDD} {b n : Nat} (a1 : Int32) (a2 : Int32) (a3 : Int32) (M : hMem) (r : Int32 × hMem) (h : fX10_does a1 a2 a3 M = some r) : hC l hYm dd b yX10_does cX10_does 5 (some .int) (n + 3) [.ref (b + 0), .int a1, .int a2, .int a3] M (some (.int r.1), r.2) :=
  h_met (av := fun b => [.ref (b + 0), .int a1, .int a2, .int a3]) (rt := rtM) (by decide) (Nat.le_of_ble_eq_true rfl) (fun Z hz => wX10_does (n := n) hz a1 a2 a3 M) r h
set_option maxRecDepth 10000 in
set_option maxHeartbeats 4000000 in
theorem wX10_begins {Z : hZ} {n : Nat} (hz : hOK Z hYm cX10_begins RX10 2 (n + 0) none) (a1 : Int32) (M : hMem) : hW Z rtV M 0 [(0, .ref (h_b Z + 0)), (1, .int a1)] [] (fX10_begins a1 M) := by
  unfold fX10_begins
  refine x_aload_n hz dX10_begins_0 rfl 0 rfl ?_
  refine x_aload_n hz dX10_begins_1 rfl 0 rfl ?_
  refine x_getr hz sm_0 fl_X10_25 rfl rm_0_6 (by decide) dX10_begins_2 ?_
  refine x_iload_n hz dX10_begins_5 rfl 1 rfl ?_
  refine x_iald hz sm_6 dX10_begins_6 (fun hi6 => ?_)
  refine x_puti hz sm_0 fp_X10_211 rfl dX10_begins_7 ?_
  refine x_aload_n hz dX10_begins_10 rfl 0 rfl ?_
  refine x_aload_n hz dX10_begins_11 rfl 0 rfl ?_
  refine x_getr hz sm_0 fl_X10_28 rfl rm_0_7 (by decide) dX10_begins_12 ?_
  refine x_iload_n hz dX10_begins_15 rfl 1 rfl ?_
  refine x_iald hz sm_7 dX10_begins_16 (fun hi16 => ?_)
  refine x_puti hz sm_0 fp_X10_208 rfl dX10_begins_17 ?_
  exact x_vret hz rfl dX10_begins_20
theorem kX10_begins {l : Launch} {dd : hDD} {b n : Nat} (a1 : Int32) (M : hMem) (r : hMem) (h : fX10_begins a1 M = some r) : hC l hYm dd b yX10_begins cX10_begins 2 none (n + 0) [.ref (b + 0), .int a1] M (none, r) :=
  h_met (av := fun b => [.ref (b + 0), .int a1]) (rt := rtV) (by decide) (Nat.le_of_ble_eq_true rfl) (fun Z hz => wX10_begins (n := n) hz a1 M) r h
set_option maxRecDepth 10000 in
set_option maxHeartbeats 4000000 in
theorem wX10_next0_L47 {Z : hZ} {n : Nat} (hz : hOK Z hYm cX10_next0 RX10 4 (n + 1) (some .int))  (v2 : Int32) (t1 : Int32) (t0 : Int32) (M : hMem)  : hW Z (rtP M) M 47 [(2, .int v2)] [.int t1, .int t0] (some (fX10_next0_L47 v2 t1 t0 M)) := by
  unfold fX10_next0_L47
  refine x_iadd hz dX10_next0_47 ?_
  refine x_istore_n hz [(3, .int (t0 + t1)), (2, .int v2)] dX10_next0_48 rfl rfl rfl ?_
  refine x_iload_n hz dX10_next0_49 rfl 1 rfl ?_
  refine x_iconst hz 0 dX10_next0_50 rfl ?_
  refine x_iconst hz 3 dX10_next0_51 rfl ?_
  refine x_callS hz ms_X10_93 (kX10_in (n := n) v2 0 3 M) rfl (av := [.int v2, .int 0, .int 3]) (rest := []) rfl rfl (Nat.le_of_ble_eq_true rfl) dX10_next0_52 ?_
  refine x_pull ?_
  refine x_if_eq hz dX10_next0_55 ?_ ?_
  · refine x_iconst hz (-1) dX10_next0_77 rfl ?_
    exact x_iret hz rfl dX10_next0_78
  refine x_iload_n hz dX10_next0_58 rfl 0 rfl ?_
  refine x_iconst hz 0 dX10_next0_59 rfl ?_
  refine x_bipush hz 7 dX10_next0_60 rfl ?_
  refine x_callS hz ms_X10_93 (kX10_in (n := n) (t0 + t1) 0 7 M) rfl (av := [.int (t0 + t1), .int 0, .int 7]) (rest := []) rfl rfl (Nat.le_of_ble_eq_true rfl) dX10_next0_62 ?_
  refine x_pull ?_
  refine x_if_eq hz dX10_next0_65 ?_ ?_
  · refine x_iconst hz (-1) dX10_next0_77 rfl ?_
    exact x_iret hz rfl dX10_next0_78
  refine x_bipush hz 8 dX10_next0_68 rfl ?_
  refine x_iload_n hz dX10_next0_70 rfl 1 rfl ?_
  refine x_imul hz dX10_next0_71 ?_
  refine x_iload_n hz dX10_next0_72 rfl 0 rfl ?_
  refine x_iadd hz dX10_next0_73 ?_
  refine x_goto hz dX10_next0_74 ?_
  exact x_iret hz rfl dX10_next0_78
set_option maxRecDepth 10000 in
set_option maxHeartbeats 4000000 in
theorem wX10_next0_L22 {Z : hZ} {n : Nat} (hz : hOK Z hYm cX10_next0 RX10 4 (n + 1) (some .int))  (v0 : Int32) (v1 : Int32) (t1 : Int32) (t0 : Int32) (M : hMem)  : hW Z (rtP M) M 22 [(0, .int v0), (1, .int v1)] [.int t1, .int t0] (some (fX10_next0_L22 v0 v1 t1 t0 M)) := by
  unfold fX10_next0_L22
  refine x_iadd hz dX10_next0_22 ?_
  refine x_istore_n hz [(2, .int (t0 + t1)), (0, .int v0), (1, .int v1)] dX10_next0_23 rfl rfl rfl ?_
  refine x_iload_n hz dX10_next0_24 rfl 1 rfl ?_
  refine x_bipush hz 8 dX10_next0_25 rfl ?_
  refine x_irem hz dX10_next0_27 (by decide) ?_
  refine x_iload_n hz dX10_next0_28 rfl 2 rfl ?_
  refine x_iconst hz 1 dX10_next0_29 rfl ?_
  refine x_pull ?_
  refine x_icmp_ne hz dX10_next0_30 ?_ ?_
  · refine x_iload_n hz dX10_next0_37 rfl 2 rfl ?_
    refine x_iconst hz 3 dX10_next0_38 rfl ?_
    refine x_pull ?_
    refine x_icmp_ne hz dX10_next0_39 ?_ ?_
    · refine x_iconst hz 0 dX10_next0_46 rfl ?_
      exact x_sub [0] rfl (wX10_next0_L47 hz (t0 + t1) 0 (h_rem v0 8) M)
    refine x_iconst hz (-1) dX10_next0_42 rfl ?_
    refine x_goto hz dX10_next0_43 ?_
    exact x_sub [0] rfl (wX10_next0_L47 hz (t0 + t1) (-1) (h_rem v0 8) M)
  refine x_iconst hz 1 dX10_next0_33 rfl ?_
  refine x_goto hz dX10_next0_34 ?_
  exact x_sub [0] rfl (wX10_next0_L47 hz (t0 + t1) 1 (h_rem v0 8) M)
set_option maxRecDepth 10000 in
set_option maxHeartbeats 4000000 in
theorem wX10_next0 {Z : hZ} {n : Nat} (hz : hOK Z hYm cX10_next0 RX10 4 (n + 1) (some .int)) (a0 : Int32) (a1 : Int32) (M : hMem) : hW Z (rtP M) M 0 [(0, .int a0), (1, .int a1)] [] (some (fX10_next0 a0 a1 M)) := by
  unfold fX10_next0
  refine x_iload_n hz dX10_next0_0 rfl 0 rfl ?_
  refine x_bipush hz 8 dX10_next0_1 rfl ?_
  refine x_idiv hz dX10_next0_3 (by decide) ?_
  refine x_iload_n hz dX10_next0_4 rfl 1 rfl ?_
  refine x_pull ?_
  refine x_if_ne hz dX10_next0_5 ?_ ?_
  · refine x_iload_n hz dX10_next0_12 rfl 1 rfl ?_
    refine x_iconst hz 2 dX10_next0_13 rfl ?_
    refine x_pull ?_
    refine x_icmp_ne hz dX10_next0_14 ?_ ?_
    · refine x_iconst hz 0 dX10_next0_21 rfl ?_
      exact x_sub [0, 1] rfl (wX10_next0_L22 hz a0 a1 0 (a0 / 8) M)
    refine x_iconst hz 1 dX10_next0_17 rfl ?_
    refine x_goto hz dX10_next0_18 ?_
    exact x_sub [0, 1] rfl (wX10_next0_L22 hz a0 a1 1 (a0 / 8) M)
  refine x_iconst hz (-1) dX10_next0_8 rfl ?_
  refine x_goto hz dX10_next0_9 ?_
  exact x_sub [0, 1] rfl (wX10_next0_L22 hz a0 a1 (-1) (a0 / 8) M)
theorem kX10_next0 {l : Launch} {dd : hDD} {b n : Nat} (a0 : Int32) (a1 : Int32) (M : hMem) : hC l hYm dd b yX10_next0 cX10_next0 4 (some .int) (n + 1) [.int a0, .int a1] M (some (.int (fX10_next0 a0 a1 M)), M) :=
  h_met (av := fun b => [.int a0, .int a1]) (rt := (rtP M)) (by decide) (Nat.le_of_ble_eq_true rfl) (fun Z hz => wX10_next0 (n := n) hz a0 a1 M) _ rfl
set_option maxRecDepth 10000 in
set_option maxHeartbeats 4000000 in
theorem wX10_beside {Z : hZ} {n : Nat} (hz : hOK Z hYm cX10_beside RX10 4 (n + 2) (some .int)) (a1 : Int32) (a2 : Int32) (M : hMem) : hW Z (rtP M) M 0 [(0, .ref (h_b Z + 0)), (1, .int a1), (2, .int a2)] [] (fX10_beside a1 a2 M) := by
  unfold fX10_beside
  refine x_iload_n hz dX10_beside_0 rfl 1 rfl ?_
  refine x_iload_n hz dX10_beside_1 rfl 2 rfl ?_
  refine x_callS hz ms_X10_205 (kX10_next0 (n := n) a1 a2 M) rfl (av := [.int a1, .int a2]) (rest := []) rfl rfl (Nat.le_of_ble_eq_true rfl) dX10_beside_2 ?_
  refine x_istore_n hz [(3, .int (fX10_next0 a1 a2 M)), (0, .ref (h_b Z + 0)), (1, .int a1), (2, .int a2)] dX10_beside_5 rfl rfl rfl ?_
  refine x_iload_n hz dX10_beside_6 rfl 0 rfl ?_
  refine x_iconst hz (-1) dX10_beside_7 rfl ?_
  refine x_icmp_eq hz dX10_beside_8 ?_ ?_
  · refine x_iconst hz (-1) dX10_beside_24 rfl ?_
    exact x_iret hz rfl dX10_beside_25
  refine x_aload_n hz dX10_beside_11 rfl 1 rfl ?_
  refine x_iconst hz 0 dX10_beside_12 rfl ?_
  refine x_iload_n hz dX10_beside_13 rfl 0 rfl ?_
  refine x_bind (fun q14 hq14 => ?_)
  refine x_callV hz mv_X10_101 sm_0 (by decide) rfl rfl (kX10_has (n := (n + 1)) 0 (fX10_next0 a1 a2 M) M q14 hq14) rfl (av := [.int 0, .int (fX10_next0 a1 a2 M)]) (rest := []) rfl rfl (Nat.le_of_ble_eq_true rfl) dX10_beside_14 ?_
  refine x_if_ne hz dX10_beside_17 ?_ ?_
  · refine x_iconst hz (-1) dX10_beside_24 rfl ?_
    exact x_iret hz rfl dX10_beside_25
  refine x_iload_n hz dX10_beside_20 rfl 0 rfl ?_
  refine x_goto hz dX10_beside_21 ?_
  exact x_iret hz rfl dX10_beside_25
theorem kX10_beside {l : Launch} {dd : hDD} {b n : Nat} (a1 : Int32) (a2 : Int32) (M : hMem) (r : Int32) (h : fX10_beside a1 a2 M = some r) : hC l hYm dd b yX10_beside cX10_beside 4 (some .int) (n + 2) [.ref (b + 0), .int a1, .int a2] M (some (.int r), M) :=
  h_met (av := fun b => [.ref (b + 0), .int a1, .int a2]) (rt := (rtP M)) (by decide) (Nat.le_of_ble_eq_true rfl) (fun Z hz => wX10_beside (n := n) hz a1 a2 M) r h
set_option maxRecDepth 10000 in
set_option maxHeartbeats 4000000 in
theorem wX10_goesBy_L61 {Z : hZ} {n : Nat} (hz : hOK Z hYm cX10_goesBy RX10 8 (n + 1) (some .int))  (v2 : Int32) (v4 : Int32) (M : hMem)  : hW Z (rtP M) M 61 [(2, .int v2), (4, .int v4)] [] (fX10_goesBy_L61 v2 v4 M) := by
  unfold fX10_goesBy_L61
  refine x_iload_n hz dX10_goesBy_61 rfl 0 rfl ?_
  refine x_iconst hz 1 dX10_goesBy_62 rfl ?_
  refine x_iadd hz dX10_goesBy_63 ?_
  refine x_iload hz dX10_goesBy_64 1 rfl ?_
  refine x_iconst hz 4 dX10_goesBy_66 rfl ?_
  refine x_idiv hz dX10_goesBy_67 (by decide) ?_
  refine x_iadd hz dX10_goesBy_68 ?_
  refine x_goto hz dX10_goesBy_69 ?_
  refine x_istore hz [(7, .int ((v2 + 1) + (v4 / 4))), (2, .int v2), (4, .int v4)] dX10_goesBy_121 rfl rfl ?_
  refine x_iload hz dX10_goesBy_123 0 rfl ?_
  refine x_iconst hz 0 dX10_goesBy_125 rfl ?_
  refine x_bipush hz 12 dX10_goesBy_126 rfl ?_
  refine x_callS hz ms_X10_186 (kX10_within (n := n) ((v2 + 1) + (v4 / 4)) 0 12 M) rfl (av := [.int ((v2 + 1) + (v4 / 4)), .int 0, .int 12]) (rest := []) rfl rfl (Nat.le_of_ble_eq_true rfl) dX10_goesBy_128 ?_
  exact x_iret hz rfl dX10_goesBy_131
set_option maxRecDepth 10000 in
set_option maxHeartbeats 4000000 in
theorem wX10_goesBy_L56 {Z : hZ} {n : Nat} (hz : hOK Z hYm cX10_goesBy RX10 8 (n + 1) (some .int))  (v2 : Int32) (v3 : Int32) (v4 : Int32) (v5 : Int32) (v6 : Int32) (M : hMem)  : hW Z (rtP M) M 56 [(2, .int v2), (3, .int v3), (4, .int v4), (5, .int v5), (6, .int v6)] [] (fX10_goesBy_L56 v2 v3 v4 v5 v6 M) := by
  unfold fX10_goesBy_L56
  refine x_iload_n hz dX10_goesBy_56 rfl 1 rfl ?_
  refine x_iconst hz 3 dX10_goesBy_57 rfl ?_
  refine x_icmp_ne hz dX10_goesBy_58 ?_ ?_
  · refine x_iload_n hz dX10_goesBy_72 rfl 1 rfl ?_
    refine x_iconst hz 2 dX10_goesBy_73 rfl ?_
    refine x_icmp_ne hz dX10_goesBy_74 ?_ ?_
    · refine x_iload_n hz dX10_goesBy_82 rfl 1 rfl ?_
      refine x_iconst hz 4 dX10_goesBy_83 rfl ?_
      refine x_icmp_ne hz dX10_goesBy_84 ?_ ?_
      · refine x_iload_n hz dX10_goesBy_106 rfl 1 rfl ?_
        refine x_iconst hz 5 dX10_goesBy_107 rfl ?_
        refine x_icmp_ne hz dX10_goesBy_108 ?_ ?_
        · refine x_iload hz dX10_goesBy_119 3 rfl ?_
          refine x_istore hz [(7, .int v5), (2, .int v2), (3, .int v3), (4, .int v4), (5, .int v5), (6, .int v6)] dX10_goesBy_121 rfl rfl ?_
          refine x_iload hz dX10_goesBy_123 0 rfl ?_
          refine x_iconst hz 0 dX10_goesBy_125 rfl ?_
          refine x_bipush hz 12 dX10_goesBy_126 rfl ?_
          refine x_callS hz ms_X10_186 (kX10_within (n := n) v5 0 12 M) rfl (av := [.int v5, .int 0, .int 12]) (rest := []) rfl rfl (Nat.le_of_ble_eq_true rfl) dX10_goesBy_128 ?_
          exact x_iret hz rfl dX10_goesBy_131
        refine x_iload hz dX10_goesBy_111 3 rfl ?_
        refine x_iload hz dX10_goesBy_113 2 rfl ?_
        refine x_isub hz dX10_goesBy_115 ?_
        refine x_goto hz dX10_goesBy_116 ?_
        refine x_istore hz [(7, .int (v5 - v4)), (2, .int v2), (3, .int v3), (4, .int v4), (5, .int v5), (6, .int v6)] dX10_goesBy_121 rfl rfl ?_
        refine x_iload hz dX10_goesBy_123 0 rfl ?_
        refine x_iconst hz 0 dX10_goesBy_125 rfl ?_
        refine x_bipush hz 12 dX10_goesBy_126 rfl ?_
        refine x_callS hz ms_X10_186 (kX10_within (n := n) (v5 - v4) 0 12 M) rfl (av := [.int (v5 - v4), .int 0, .int 12]) (rest := []) rfl rfl (Nat.le_of_ble_eq_true rfl) dX10_goesBy_128 ?_
        exact x_iret hz rfl dX10_goesBy_131
      refine x_iload_n hz dX10_goesBy_87 rfl 0 rfl ?_
      refine x_iconst hz 1 dX10_goesBy_88 rfl ?_
      refine x_icmp_le hz dX10_goesBy_89 ?_ ?_
      · refine x_iload hz dX10_goesBy_101 4 rfl ?_
        refine x_goto hz dX10_goesBy_103 ?_
        refine x_istore hz [(7, .int v6), (2, .int v2), (3, .int v3), (4, .int v4), (5, .int v5), (6, .int v6)] dX10_goesBy_121 rfl rfl ?_
        refine x_iload hz dX10_goesBy_123 0 rfl ?_
        refine x_iconst hz 0 dX10_goesBy_125 rfl ?_
        refine x_bipush hz 12 dX10_goesBy_126 rfl ?_
        refine x_callS hz ms_X10_186 (kX10_within (n := n) v6 0 12 M) rfl (av := [.int v6, .int 0, .int 12]) (rest := []) rfl rfl (Nat.le_of_ble_eq_true rfl) dX10_goesBy_128 ?_
        exact x_iret hz rfl dX10_goesBy_131
      refine x_iload_n hz dX10_goesBy_92 rfl 0 rfl ?_
      refine x_iload hz dX10_goesBy_93 2 rfl ?_
      refine x_iconst hz 2 dX10_goesBy_95 rfl ?_
      refine x_idiv hz dX10_goesBy_96 (by decide) ?_
      refine x_iadd hz dX10_goesBy_97 ?_
      refine x_goto hz dX10_goesBy_98 ?_
      refine x_istore hz [(7, .int (v2 + (v4 / 2))), (2, .int v2), (3, .int v3), (4, .int v4), (5, .int v5), (6, .int v6)] dX10_goesBy_121 rfl rfl ?_
      refine x_iload hz dX10_goesBy_123 0 rfl ?_
      refine x_iconst hz 0 dX10_goesBy_125 rfl ?_
      refine x_bipush hz 12 dX10_goesBy_126 rfl ?_
      refine x_callS hz ms_X10_186 (kX10_within (n := n) (v2 + (v4 / 2)) 0 12 M) rfl (av := [.int (v2 + (v4 / 2)), .int 0, .int 12]) (rest := []) rfl rfl (Nat.le_of_ble_eq_true rfl) dX10_goesBy_128 ?_
      exact x_iret hz rfl dX10_goesBy_131
    refine x_iload hz dX10_goesBy_77 4 rfl ?_
    refine x_goto hz dX10_goesBy_79 ?_
    refine x_istore hz [(7, .int v6), (2, .int v2), (3, .int v3), (4, .int v4), (5, .int v5), (6, .int v6)] dX10_goesBy_121 rfl rfl ?_
    refine x_iload hz dX10_goesBy_123 0 rfl ?_
    refine x_iconst hz 0 dX10_goesBy_125 rfl ?_
    refine x_bipush hz 12 dX10_goesBy_126 rfl ?_
    refine x_callS hz ms_X10_186 (kX10_within (n := n) v6 0 12 M) rfl (av := [.int v6, .int 0, .int 12]) (rest := []) rfl rfl (Nat.le_of_ble_eq_true rfl) dX10_goesBy_128 ?_
    exact x_iret hz rfl dX10_goesBy_131
  exact x_sub [0, 2] rfl (wX10_goesBy_L61 hz v2 v4 M)
set_option maxRecDepth 10000 in
set_option maxHeartbeats 4000000 in
theorem wX10_goesBy_L41 {Z : hZ} {n : Nat} (hz : hOK Z hYm cX10_goesBy RX10 8 (n + 1) (some .int))  (v2 : Int32) (v3 : Int32) (v4 : Int32) (v5 : Int32) (t0 : Int32) (M : hMem)  : hW Z (rtP M) M 41 [(0, .ref (h_b Z + 0)), (2, .int v2), (3, .int v3), (4, .int v4), (5, .int v5)] [.int t0] (fX10_goesBy_L41 v2 v3 v4 v5 t0 M) := by
  unfold fX10_goesBy_L41
  refine x_istore hz [(6, .int t0), (0, .ref (h_b Z + 0)), (2, .int v2), (3, .int v3), (4, .int v4), (5, .int v5)] dX10_goesBy_41 rfl rfl ?_
  refine x_iload_n hz dX10_goesBy_43 rfl 3 rfl ?_
  refine x_iconst hz 1 dX10_goesBy_44 rfl ?_
  refine x_icmp_ne hz dX10_goesBy_45 ?_ ?_
  · exact x_sub [2, 3, 4, 5, 0] rfl (wX10_goesBy_L56 hz v2 v3 v4 v5 t0 M)
  refine x_aload_n hz dX10_goesBy_48 rfl 1 rfl ?_
  refine x_geti hz sm_0 fl_X10_208 rfl dX10_goesBy_49 ?_
  refine x_iconst hz 1 dX10_goesBy_52 rfl ?_
  refine x_icmp_eq hz dX10_goesBy_53 ?_ ?_
  · exact x_sub [2, 4] rfl (wX10_goesBy_L61 hz v2 v4 M)
  exact x_sub [2, 3, 4, 5, 0] rfl (wX10_goesBy_L56 hz v2 v3 v4 v5 t0 M)
set_option maxRecDepth 10000 in
set_option maxHeartbeats 4000000 in
theorem wX10_goesBy_L29 {Z : hZ} {n : Nat} (hz : hOK Z hYm cX10_goesBy RX10 8 (n + 1) (some .int))  (v2 : Int32) (v3 : Int32) (v4 : Int32) (t0 : Int32) (M : hMem)  : hW Z (rtP M) M 29 [(0, .ref (h_b Z + 0)), (2, .int v2), (3, .int v3), (4, .int v4)] [.int t0] (fX10_goesBy_L29 v2 v3 v4 t0 M) := by
  unfold fX10_goesBy_L29
  refine x_istore hz [(5, .int t0), (0, .ref (h_b Z + 0)), (2, .int v2), (3, .int v3), (4, .int v4)] dX10_goesBy_29 rfl rfl ?_
  refine x_iload_n hz dX10_goesBy_31 rfl 2 rfl ?_
  refine x_iconst hz 1 dX10_goesBy_32 rfl ?_
  refine x_icmp_ge hz dX10_goesBy_33 ?_ ?_
  · refine x_iconst hz 1 dX10_goesBy_40 rfl ?_
    exact x_sub [1, 2, 3, 4, 0] rfl (wX10_goesBy_L41 hz v2 v3 v4 t0 1 M)
  refine x_iload_n hz dX10_goesBy_36 rfl 2 rfl ?_
  refine x_goto hz dX10_goesBy_37 ?_
  exact x_sub [1, 2, 3, 4, 0] rfl (wX10_goesBy_L41 hz v2 v3 v4 t0 v2 M)
set_option maxRecDepth 10000 in
set_option maxHeartbeats 4000000 in
theorem wX10_goesBy {Z : hZ} {n : Nat} (hz : hOK Z hYm cX10_goesBy RX10 8 (n + 1) (some .int)) (a1 : Int32) (a2 : Int32) (M : hMem) : hW Z (rtP M) M 0 [(0, .ref (h_b Z + 0)), (1, .int a1), (2, .int a2)] [] (fX10_goesBy a1 a2 M) := by
  unfold fX10_goesBy
  refine x_aload_n hz dX10_goesBy_0 rfl 0 rfl ?_
  refine x_getr hz sm_0 fl_X10_19 rfl rm_0_4 (by decide) dX10_goesBy_1 ?_
  refine x_iload_n hz dX10_goesBy_4 rfl 1 rfl ?_
  refine x_iald hz sm_4 dX10_goesBy_5 (fun hi5 => ?_)
  refine x_istore_n hz [(3, .int (M 4 a1.toNatClampNeg)), (0, .ref (h_b Z + 0)), (1, .int a1), (2, .int a2)] dX10_goesBy_6 rfl rfl rfl ?_
  refine x_aload_n hz dX10_goesBy_7 rfl 1 rfl ?_
  refine x_getr hz sm_0 fl_X10_22 rfl rm_0_5 (by decide) dX10_goesBy_8 ?_
  refine x_iload_n hz dX10_goesBy_11 rfl 2 rfl ?_
  refine x_iald hz sm_5 dX10_goesBy_12 (fun hi12 => ?_)
  refine x_istore hz [(4, .int (M 5 a1.toNatClampNeg)), (3, .int (M 4 a1.toNatClampNeg)), (0, .ref (h_b Z + 0)), (1, .int a1), (2, .int a2)] dX10_goesBy_13 rfl rfl ?_
  refine x_aload_n hz dX10_goesBy_15 rfl 2 rfl ?_
  refine x_geti hz sm_0 fl_X10_208 rfl dX10_goesBy_16 ?_
  refine x_if_ne hz dX10_goesBy_19 ?_ ?_
  · refine x_iload_n hz dX10_goesBy_28 rfl 4 rfl ?_
    exact x_sub [2, 4, 1, 0] rfl (wX10_goesBy_L29 hz a2 (M 4 a1.toNatClampNeg) (M 5 a1.toNatClampNeg) a2 M)
  refine x_iload_n hz dX10_goesBy_22 rfl 4 rfl ?_
  refine x_iconst hz 3 dX10_goesBy_23 rfl ?_
  refine x_idiv hz dX10_goesBy_24 (by decide) ?_
  refine x_goto hz dX10_goesBy_25 ?_
  exact x_sub [2, 4, 1, 0] rfl (wX10_goesBy_L29 hz a2 (M 4 a1.toNatClampNeg) (M 5 a1.toNatClampNeg) (a2 / 3) M)
theorem kX10_goesBy {l : Launch} {dd : hDD} {b n : Nat} (a1 : Int32) (a2 : Int32) (M : hMem) (r : Int32) (h : fX10_goesBy a1 a2 M = some r) : hC l hYm dd b yX10_goesBy cX10_goesBy 8 (some .int) (n + 1) [.ref (b + 0), .int a1, .int a2] M (some (.int r), M) :=
  h_met (av := fun b => [.ref (b + 0), .int a1, .int a2]) (rt := (rtP M)) (by decide) (Nat.le_of_ble_eq_true rfl) (fun Z hz => wX10_goesBy (n := n) hz a1 a2 M) r h
set_option maxRecDepth 10000 in
set_option maxHeartbeats 4000000 in
theorem wX10_wayIn {Z : hZ} {n : Nat} (hz : hOK Z hYm cX10_wayIn RX10 3 (n + 1) (some .int)) (a1 : Int32) (a2 : Int32) (M : hMem) : hW Z (rtP M) M 0 [(0, .ref (h_b Z + 0)), (1, .int a1), (2, .int a2)] [] (fX10_wayIn a1 a2 M) := by
  unfold fX10_wayIn
  refine x_aload_n hz dX10_wayIn_0 rfl 0 rfl ?_
  refine x_iconst hz 2 dX10_wayIn_1 rfl ?_
  refine x_aload_n hz dX10_wayIn_2 rfl 0 rfl ?_
  refine x_geti hz sm_0 fl_X10_211 rfl dX10_wayIn_3 ?_
  refine x_bind (fun q6 hq6 => ?_)
  refine x_callV hz mv_X10_101 sm_0 (by decide) rfl rfl (kX10_has (n := n) 2 (M 0 36) M q6 hq6) rfl (av := [.int 2, .int (M 0 36)]) (rest := []) rfl rfl (Nat.le_of_ble_eq_true rfl) dX10_wayIn_6 ?_
  refine x_if_eq hz dX10_wayIn_9 ?_ ?_
  · refine x_iload_n hz dX10_wayIn_22 rfl 2 rfl ?_
    exact x_iret hz rfl dX10_wayIn_23
  refine x_aload_n hz dX10_wayIn_12 rfl 0 rfl ?_
  refine x_getr hz sm_0 fl_X10_19 rfl rm_0_4 (by decide) dX10_wayIn_13 ?_
  refine x_iload_n hz dX10_wayIn_16 rfl 1 rfl ?_
  refine x_iald hz sm_4 dX10_wayIn_17 (fun hi17 => ?_)
  refine x_iconst hz 5 dX10_wayIn_18 rfl ?_
  refine x_icmp_ne hz dX10_wayIn_19 ?_ ?_
  · refine x_iload_n hz dX10_wayIn_24 rfl 2 rfl ?_
    refine x_iconst hz 1 dX10_wayIn_25 rfl ?_
    refine x_iadd hz dX10_wayIn_26 ?_
    refine x_aload_n hz dX10_wayIn_27 rfl 0 rfl ?_
    refine x_getr hz sm_0 fl_X10_19 rfl rm_0_4 (by decide) dX10_wayIn_28 ?_
    refine x_iload_n hz dX10_wayIn_31 rfl 1 rfl ?_
    refine x_iald hz sm_4 dX10_wayIn_32 (fun hi32 => ?_)
    refine x_iconst hz 3 dX10_wayIn_33 rfl ?_
    refine x_icmp_ne hz dX10_wayIn_34 ?_ ?_
    · refine x_iconst hz 0 dX10_wayIn_46 rfl ?_
      refine x_iadd hz dX10_wayIn_47 ?_
      refine x_iconst hz 4 dX10_wayIn_48 rfl ?_
      refine x_irem hz dX10_wayIn_49 (by decide) ?_
      exact x_iret hz rfl dX10_wayIn_50
    refine x_aload_n hz dX10_wayIn_37 rfl 0 rfl ?_
    refine x_getr hz sm_0 fl_X10_22 rfl rm_0_5 (by decide) dX10_wayIn_38 ?_
    refine x_iload_n hz dX10_wayIn_41 rfl 1 rfl ?_
    refine x_iald hz sm_5 dX10_wayIn_42 (fun hi42 => ?_)
    refine x_goto hz dX10_wayIn_43 ?_
    refine x_iadd hz dX10_wayIn_47 ?_
    refine x_iconst hz 4 dX10_wayIn_48 rfl ?_
    refine x_irem hz dX10_wayIn_49 (by decide) ?_
    exact x_iret hz rfl dX10_wayIn_50
  refine x_iload_n hz dX10_wayIn_22 rfl 2 rfl ?_
  exact x_iret hz rfl dX10_wayIn_23
theorem kX10_wayIn {l : Launch} {dd : hDD} {b n : Nat} (a1 : Int32) (a2 : Int32) (M : hMem) (r : Int32) (h : fX10_wayIn a1 a2 M = some r) : hC l hYm dd b yX10_wayIn cX10_wayIn 3 (some .int) (n + 1) [.ref (b + 0), .int a1, .int a2] M (some (.int r), M) :=
  h_met (av := fun b => [.ref (b + 0), .int a1, .int a2]) (rt := (rtP M)) (by decide) (Nat.le_of_ble_eq_true rfl) (fun Z hz => wX10_wayIn (n := n) hz a1 a2 M) r h
set_option maxRecDepth 10000 in
set_option maxHeartbeats 4000000 in
theorem wX10_seconds_L239 {Z : hZ} {n : Nat} (hz : hOK Z hYm cX10_seconds RX10 10 (n + 3) none)  (v6 : Int32) (t0 : Int32) (M : hMem)  : hW Z rtV M 239 [(0, .ref (h_b Z + 0)), (6, .int v6)] [.int t0] (fX10_seconds_L239 v6 t0 M) := by
  unfold fX10_seconds_L239
  refine x_istore hz [(8, .int t0), (0, .ref (h_b Z + 0)), (6, .int v6)] dX10_seconds_239 rfl rfl ?_
  refine x_aload_n hz dX10_seconds_241 rfl 1 rfl ?_
  refine x_iload hz dX10_seconds_242 0 rfl ?_
  refine x_if_eq hz dX10_seconds_244 ?_ ?_
  · refine x_aload_n hz dX10_seconds_254 rfl 1 rfl ?_
    refine x_geti hz sm_0 fl_X10_208 rfl dX10_seconds_255 ?_
    refine x_iload hz dX10_seconds_258 2 rfl ?_
    refine x_iadd hz dX10_seconds_260 ?_
    refine x_iconst hz 3 dX10_seconds_261 rfl ?_
    refine x_irem hz dX10_seconds_262 (by decide) ?_
    refine x_puti hz sm_0 fp_X10_208 rfl dX10_seconds_263 ?_
    exact x_vret hz rfl dX10_seconds_266
  refine x_aload_n hz dX10_seconds_247 rfl 1 rfl ?_
  refine x_geti hz sm_0 fl_X10_208 rfl dX10_seconds_248 ?_
  refine x_goto hz dX10_seconds_251 ?_
  refine x_puti hz sm_0 fp_X10_208 rfl dX10_seconds_263 ?_
  exact x_vret hz rfl dX10_seconds_266
set_option maxRecDepth 10000 in
set_option maxHeartbeats 4000000 in
theorem wX10_seconds_L234 {Z : hZ} {n : Nat} (hz : hOK Z hYm cX10_seconds RX10 10 (n + 3) none)  (v6 : Int32) (M : hMem)  : hW Z rtV M 234 [(0, .ref (h_b Z + 0)), (6, .int v6)] [] (fX10_seconds_L234 v6 M) := by
  unfold fX10_seconds_L234
  refine x_iconst hz 1 dX10_seconds_234 rfl ?_
  refine x_goto hz dX10_seconds_235 ?_
  exact x_sub [0, 1] rfl (wX10_seconds_L239 hz v6 1 M)
set_option maxRecDepth 10000 in
set_option maxHeartbeats 4000000 in
theorem wX10_seconds_L205 {Z : hZ} {n : Nat} (hz : hOK Z hYm cX10_seconds RX10 10 (n + 3) none)  (v1 : Int32) (v4 : Int32) (v6 : Int32) (M : hMem)  : hW Z rtV M 205 [(0, .ref (h_b Z + 0)), (1, .int v1), (4, .int v4), (6, .int v6)] [] (fX10_seconds_L205 v1 v4 v6 M) := by
  unfold fX10_seconds_L205
  refine x_aload_n hz dX10_seconds_205 rfl 0 rfl ?_
  refine x_getr hz sm_0 fl_X10_19 rfl rm_0_4 (by decide) dX10_seconds_206 ?_
  refine x_iload_n hz dX10_seconds_209 rfl 1 rfl ?_
  refine x_iald hz sm_4 dX10_seconds_210 (fun hi210 => ?_)
  refine x_iconst hz 2 dX10_seconds_211 rfl ?_
  refine x_icmp_eq hz dX10_seconds_212 ?_ ?_
  · exact x_sub [0, 3] rfl (wX10_seconds_L234 hz v6 M)
  refine x_aload_n hz dX10_seconds_215 rfl 0 rfl ?_
  refine x_getr hz sm_0 fl_X10_19 rfl rm_0_4 (by decide) dX10_seconds_216 ?_
  refine x_iload_n hz dX10_seconds_219 rfl 1 rfl ?_
  refine x_iald hz sm_4 dX10_seconds_220 (fun hi220 => ?_)
  refine x_iconst hz 4 dX10_seconds_221 rfl ?_
  refine x_icmp_eq hz dX10_seconds_222 ?_ ?_
  · exact x_sub [0, 3] rfl (wX10_seconds_L234 hz v6 M)
  refine x_aload_n hz dX10_seconds_225 rfl 0 rfl ?_
  refine x_geti hz sm_0 fl_X10_211 rfl dX10_seconds_226 ?_
  refine x_iload hz dX10_seconds_229 2 rfl ?_
  refine x_icmp_ne hz dX10_seconds_231 ?_ ?_
  · refine x_iconst hz 0 dX10_seconds_238 rfl ?_
    exact x_sub [0, 3] rfl (wX10_seconds_L239 hz v6 0 M)
  exact x_sub [0, 3] rfl (wX10_seconds_L234 hz v6 M)
set_option maxRecDepth 10000 in
set_option maxHeartbeats 4000000 in
theorem wX10_seconds_L149 {Z : hZ} {n : Nat} (hz : hOK Z hYm cX10_seconds RX10 10 (n + 3) none)  (v1 : Int32) (v4 : Int32) (v5 : Int32) (v6 : Int32) (v7 : Int32)   : ∀ (i : Nat) (s : Int32 × hMem), hW Z rtV s.2 149 [(0, .ref (h_b Z + 0)), (1, .int v1), (4, .int v4), (5, .int v5), (6, .int v6), (7, .int v7), (8, .int s.1)] [] (h_lp (fX10_seconds_L149 v1 v4 v5 v6 v7) i s) := by
  refine x_loop (Ms := fun s : Int32 × hMem => s.2) (Ls := fun s : Int32 × hMem => [(0, .ref (h_b Z + 0)), (1, .int v1), (4, .int v4), (5, .int v5), (6, .int v6), (7, .int v7), (8, .int s.1)]) ?_
  intro k149 hk149 s
  show hW Z rtV s.2 149 [(0, .ref (h_b Z + 0)), (1, .int v1), (4, .int v4), (5, .int v5), (6, .int v6), (7, .int v7), (8, .int s.1)] [] (fX10_seconds_L149 v1 v4 v5 v6 v7 k149 s)
  unfold fX10_seconds_L149
  refine x_iload hz dX10_seconds_149 6 rfl ?_
  refine x_iload hz dX10_seconds_151 3 rfl ?_
  refine x_icmp_ge hz dX10_seconds_153 ?_ ?_
  · exact x_sub [0, 1, 2, 4] rfl (wX10_seconds_L205 hz v1 v4 v6 s.2)
  refine x_aload_n hz dX10_seconds_156 rfl 0 rfl ?_
  refine x_iconst hz 1 dX10_seconds_157 rfl ?_
  refine x_aload_n hz dX10_seconds_158 rfl 0 rfl ?_
  refine x_geti hz sm_0 fl_X10_211 rfl dX10_seconds_159 ?_
  refine x_bind (fun q162 hq162 => ?_)
  refine x_callV hz mv_X10_101 sm_0 (by decide) rfl rfl (kX10_has (n := (n + 2)) 1 (s.2 0 36) s.2 q162 hq162) rfl (av := [.int 1, .int (s.2 0 36)]) (rest := []) rfl rfl (Nat.le_of_ble_eq_true rfl) dX10_seconds_162 ?_
  refine x_if_ne hz dX10_seconds_165 ?_ ?_
  · exact x_sub [0, 1, 2, 4] rfl (wX10_seconds_L205 hz v1 v4 v6 s.2)
  refine x_aload_n hz dX10_seconds_168 rfl 0 rfl ?_
  refine x_aload_n hz dX10_seconds_169 rfl 0 rfl ?_
  refine x_geti hz sm_0 fl_X10_211 rfl dX10_seconds_170 ?_
  refine x_iload hz dX10_seconds_173 5 rfl ?_
  refine x_bind (fun q175 hq175 => ?_)
  refine x_callV hz mv_X10_226 sm_0 (by decide) rfl rfl (kX10_beside (n := n) (s.2 0 36) v7 s.2 q175 hq175) rfl (av := [.int (s.2 0 36), .int v7]) (rest := []) rfl rfl (Nat.le_of_ble_eq_true rfl) dX10_seconds_175 ?_
  refine x_istore hz [(9, .int q175), (0, .ref (h_b Z + 0)), (1, .int v1), (4, .int v4), (5, .int v5), (6, .int v6), (7, .int v7), (8, .int s.1)] dX10_seconds_178 rfl rfl ?_
  refine x_aload_n hz dX10_seconds_180 rfl 1 rfl ?_
  refine x_iload hz dX10_seconds_181 0 rfl ?_
  refine x_iconst hz (-1) dX10_seconds_183 rfl ?_
  refine x_icmp_ne hz dX10_seconds_184 ?_ ?_
  · refine x_iload hz dX10_seconds_194 0 rfl ?_
    refine x_puti hz sm_0 fp_X10_211 rfl dX10_seconds_196 ?_
    refine x_iinc hz (s.1 + 1) [(8, .int (s.1 + 1)), (9, .int q175), (0, .ref (h_b Z + 0)), (1, .int v1), (4, .int v4), (5, .int v5), (6, .int v6), (7, .int v7)] dX10_seconds_199 7 rfl rfl rfl rfl ?_
    refine x_goto hz dX10_seconds_202 ?_
    exact x_sub [2, 3, 4, 5, 6, 7, 0] rfl (hk149 (s.1 + 1, h_up s.2 0 36 q175))
  refine x_aload_n hz dX10_seconds_187 rfl 1 rfl ?_
  refine x_geti hz sm_0 fl_X10_211 rfl dX10_seconds_188 ?_
  refine x_goto hz dX10_seconds_191 ?_
  refine x_puti hz sm_0 fp_X10_211 rfl dX10_seconds_196 ?_
  refine x_iinc hz (s.1 + 1) [(8, .int (s.1 + 1)), (9, .int q175), (0, .ref (h_b Z + 0)), (1, .int v1), (4, .int v4), (5, .int v5), (6, .int v6), (7, .int v7)] dX10_seconds_199 7 rfl rfl rfl rfl ?_
  refine x_goto hz dX10_seconds_202 ?_
  exact x_sub [2, 3, 4, 5, 6, 7, 0] rfl (hk149 (s.1 + 1, h_up s.2 0 36 (s.2 0 36)))
set_option maxRecDepth 10000 in
set_option maxHeartbeats 4000000 in
theorem wX10_seconds_L26 {Z : hZ} {n : Nat} (hz : hOK Z hYm cX10_seconds RX10 10 (n + 3) none)  (v1 : Int32) (v2 : Int32) (t0 : Int32) (M : hMem)  : hW Z rtV M 26 [(0, .ref (h_b Z + 0)), (1, .int v1), (2, .int v2)] [.int t0] (fX10_seconds_L26 v1 v2 t0 M) := by
  unfold fX10_seconds_L26
  refine x_istore_n hz [(3, .int t0), (0, .ref (h_b Z + 0)), (1, .int v1), (2, .int v2)] dX10_seconds_26 rfl rfl rfl ?_
  refine x_aload_n hz dX10_seconds_27 rfl 1 rfl ?_
  refine x_iconst hz 1 dX10_seconds_28 rfl ?_
  refine x_aload_n hz dX10_seconds_29 rfl 1 rfl ?_
  refine x_geti hz sm_0 fl_X10_211 rfl dX10_seconds_30 ?_
  refine x_bind (fun q33 hq33 => ?_)
  refine x_callV hz mv_X10_101 sm_0 (by decide) rfl rfl (kX10_has (n := (n + 2)) 1 (M 0 36) M q33 hq33) rfl (av := [.int 1, .int (M 0 36)]) (rest := []) rfl rfl (Nat.le_of_ble_eq_true rfl) dX10_seconds_33 ?_
  refine x_if_ne hz dX10_seconds_36 ?_ ?_
  · exact x_vret hz rfl dX10_seconds_53
  refine x_aload_n hz dX10_seconds_39 rfl 1 rfl ?_
  refine x_getr hz sm_0 fl_X10_13 rfl rm_0_1 (by decide) dX10_seconds_40 ?_
  refine x_iload_n hz dX10_seconds_43 rfl 3 rfl ?_
  refine x_iald hz sm_2 dX10_seconds_44 (fun hi44 => ?_)
  refine x_iconst hz 4 dX10_seconds_45 rfl ?_
  refine x_icmp_eq hz dX10_seconds_46 ?_ ?_
  · exact x_vret hz rfl dX10_seconds_53
  refine x_iload_n hz dX10_seconds_49 rfl 0 rfl ?_
  refine x_if_eq hz dX10_seconds_50 ?_ ?_
  · refine x_aload_n hz dX10_seconds_54 rfl 1 rfl ?_
    refine x_geti hz sm_0 fl_X10_211 rfl dX10_seconds_55 ?_
    refine x_istore hz [(4, .int (M 0 36)), (3, .int t0), (0, .ref (h_b Z + 0)), (1, .int v1), (2, .int v2)] dX10_seconds_58 rfl rfl ?_
    refine x_aload_n hz dX10_seconds_60 rfl 2 rfl ?_
    refine x_iload_n hz dX10_seconds_61 rfl 3 rfl ?_
    refine x_aload_n hz dX10_seconds_62 rfl 2 rfl ?_
    refine x_iconst hz 0 dX10_seconds_63 rfl ?_
    refine x_aload_n hz dX10_seconds_64 rfl 2 rfl ?_
    refine x_getr hz sm_0 fl_X10_16 rfl rm_0_2 (by decide) dX10_seconds_65 ?_
    refine x_iload_n hz dX10_seconds_68 rfl 4 rfl ?_
    refine x_iald hz sm_3 dX10_seconds_69 (fun hi69 => ?_)
    refine x_aload_n hz dX10_seconds_70 rfl 2 rfl ?_
    refine x_geti hz sm_0 fl_X10_208 rfl dX10_seconds_71 ?_
    refine x_aload_n hz dX10_seconds_74 rfl 2 rfl ?_
    refine x_getr hz sm_0 fl_X10_22 rfl rm_0_5 (by decide) dX10_seconds_75 ?_
    refine x_iload_n hz dX10_seconds_78 rfl 3 rfl ?_
    refine x_iald hz sm_5 dX10_seconds_79 (fun hi79 => ?_)
    refine x_iload_n hz dX10_seconds_80 rfl 4 rfl ?_
    refine x_aload_n hz dX10_seconds_81 rfl 2 rfl ?_
    refine x_geti hz sm_0 fl_X10_211 rfl dX10_seconds_82 ?_
    refine x_aload_n hz dX10_seconds_85 rfl 2 rfl ?_
    refine x_getr hz sm_0 fl_X10_19 rfl rm_0_4 (by decide) dX10_seconds_86 ?_
    refine x_iload_n hz dX10_seconds_89 rfl 3 rfl ?_
    refine x_iald hz sm_4 dX10_seconds_90 (fun hi90 => ?_)
    refine x_bind (fun q91 hq91 => ?_)
    refine x_callV hz mv_X10_192 sm_0 (by decide) rfl rfl (kX10_asksOf (n := n) 0 (M 3 v2.toNatClampNeg) (M 0 37) (M 5 v1.toNatClampNeg) v2 (M 0 36) (M 4 v1.toNatClampNeg) M q91 hq91) rfl (av := [.int 0, .int (M 3 v2.toNatClampNeg), .int (M 0 37), .int (M 5 v1.toNatClampNeg), .int v2, .int (M 0 36), .int (M 4 v1.toNatClampNeg)]) (rest := [.int v1, .ref (h_b Z + 0)]) rfl rfl (Nat.le_of_ble_eq_true rfl) dX10_seconds_91 ?_
    refine x_bind (fun q94 hq94 => ?_)
    refine x_callV hz mv_X10_220 sm_0 (by decide) rfl rfl (kX10_goesBy (n := (n + 1)) v1 q91.1 q91.2 q94 hq94) rfl (av := [.int v1, .int q91.1]) (rest := []) rfl rfl (Nat.le_of_ble_eq_true rfl) dX10_seconds_94 ?_
    refine x_istore hz [(5, .int q94), (4, .int (M 0 36)), (3, .int t0), (0, .ref (h_b Z + 0)), (1, .int v1), (2, .int v2)] dX10_seconds_97 rfl rfl ?_
    refine x_aload_n hz dX10_seconds_99 rfl 3 rfl ?_
    refine x_iconst hz 1 dX10_seconds_100 rfl ?_
    refine x_aload_n hz dX10_seconds_101 rfl 3 rfl ?_
    refine x_getr hz sm_0 fl_X10_16 rfl rm_0_2 (by decide) dX10_seconds_102 ?_
    refine x_iload_n hz dX10_seconds_105 rfl 5 rfl ?_
    refine x_iald hz sm_3 dX10_seconds_106 (fun hi106 => ?_)
    refine x_aload_n hz dX10_seconds_107 rfl 3 rfl ?_
    refine x_geti hz sm_0 fl_X10_208 rfl dX10_seconds_108 ?_
    refine x_aload_n hz dX10_seconds_111 rfl 3 rfl ?_
    refine x_getr hz sm_0 fl_X10_22 rfl rm_0_5 (by decide) dX10_seconds_112 ?_
    refine x_iload_n hz dX10_seconds_115 rfl 4 rfl ?_
    refine x_iald hz sm_5 dX10_seconds_116 (fun hi116 => ?_)
    refine x_iload_n hz dX10_seconds_117 rfl 5 rfl ?_
    refine x_aload_n hz dX10_seconds_118 rfl 3 rfl ?_
    refine x_geti hz sm_0 fl_X10_211 rfl dX10_seconds_119 ?_
    refine x_aload_n hz dX10_seconds_122 rfl 3 rfl ?_
    refine x_getr hz sm_0 fl_X10_19 rfl rm_0_4 (by decide) dX10_seconds_123 ?_
    refine x_iload_n hz dX10_seconds_126 rfl 4 rfl ?_
    refine x_iald hz sm_4 dX10_seconds_127 (fun hi127 => ?_)
    refine x_bind (fun q128 hq128 => ?_)
    refine x_callV hz mv_X10_192 sm_0 (by decide) rfl rfl (kX10_asksOf (n := n) 1 (q91.2 3 v2.toNatClampNeg) (q91.2 0 37) (q91.2 5 v1.toNatClampNeg) v2 (q91.2 0 36) (q91.2 4 v1.toNatClampNeg) q91.2 q128 hq128) rfl (av := [.int 1, .int (q91.2 3 v2.toNatClampNeg), .int (q91.2 0 37), .int (q91.2 5 v1.toNatClampNeg), .int v2, .int (q91.2 0 36), .int (q91.2 4 v1.toNatClampNeg)]) (rest := []) rfl rfl (Nat.le_of_ble_eq_true rfl) dX10_seconds_128 ?_
    refine x_istore hz [(6, .int q128.1), (5, .int q94), (4, .int (M 0 36)), (3, .int t0), (0, .ref (h_b Z + 0)), (1, .int v1), (2, .int v2)] dX10_seconds_131 rfl rfl ?_
    refine x_aload_n hz dX10_seconds_133 rfl 4 rfl ?_
    refine x_iload_n hz dX10_seconds_134 rfl 5 rfl ?_
    refine x_aload_n hz dX10_seconds_135 rfl 4 rfl ?_
    refine x_getr hz sm_0 fl_X10_13 rfl rm_0_1 (by decide) dX10_seconds_136 ?_
    refine x_iload_n hz dX10_seconds_139 rfl 6 rfl ?_
    refine x_iald hz sm_2 dX10_seconds_140 (fun hi140 => ?_)
    refine x_bind (fun q141 hq141 => ?_)
    refine x_callV hz mv_X10_223 sm_0 (by decide) rfl rfl (kX10_wayIn (n := (n + 1)) v1 (q128.2 2 v2.toNatClampNeg) q128.2 q141 hq141) rfl (av := [.int v1, .int (q128.2 2 v2.toNatClampNeg)]) (rest := []) rfl rfl (Nat.le_of_ble_eq_true rfl) dX10_seconds_141 ?_
    refine x_istore hz [(7, .int q141), (6, .int q128.1), (5, .int q94), (4, .int (M 0 36)), (3, .int t0), (0, .ref (h_b Z + 0)), (1, .int v1), (2, .int v2)] dX10_seconds_144 rfl rfl ?_
    refine x_iconst hz 0 dX10_seconds_146 rfl ?_
    refine x_istore hz [(8, .int 0), (7, .int q141), (6, .int q128.1), (5, .int q94), (4, .int (M 0 36)), (3, .int t0), (0, .ref (h_b Z + 0)), (1, .int v1), (2, .int v2)] dX10_seconds_147 rfl rfl ?_
    exact x_sub [6, 7, 4, 3, 2, 1, 0] rfl (wX10_seconds_L149 hz v1 (M 0 36) q94 q128.1 q141 h_FU (0, q128.2))
  exact x_vret hz rfl dX10_seconds_53
set_option maxRecDepth 10000 in
set_option maxHeartbeats 4000000 in
theorem wX10_seconds_L25 {Z : hZ} {n : Nat} (hz : hOK Z hYm cX10_seconds RX10 10 (n + 3) none)  (v1 : Int32) (v2 : Int32) (M : hMem)  : hW Z rtV M 25 [(0, .ref (h_b Z + 0)), (1, .int v1), (2, .int v2)] [] (fX10_seconds_L25 v1 v2 M) := by
  unfold fX10_seconds_L25
  refine x_iconst hz 0 dX10_seconds_25 rfl ?_
  exact x_sub [0, 1, 2] rfl (wX10_seconds_L26 hz v1 v2 0 M)
set_option maxRecDepth 10000 in
set_option maxHeartbeats 4000000 in
theorem wX10_seconds {Z : hZ} {n : Nat} (hz : hOK Z hYm cX10_seconds RX10 10 (n + 3) none) (a1 : Int32) (a2 : Int32) (M : hMem) : hW Z rtV M 0 [(0, .ref (h_b Z + 0)), (1, .int a1), (2, .int a2)] [] (fX10_seconds a1 a2 M) := by
  unfold fX10_seconds
  refine x_iload_n hz dX10_seconds_0 rfl 2 rfl ?_
  refine x_aload_n hz dX10_seconds_1 rfl 0 rfl ?_
  refine x_geti hz sm_0 fl_X10_214 rfl dX10_seconds_2 ?_
  refine x_icmp_lt hz dX10_seconds_5 ?_ ?_
  · exact x_sub [0, 1, 2] rfl (wX10_seconds_L25 hz a1 a2 M)
  refine x_iload_n hz dX10_seconds_8 rfl 2 rfl ?_
  refine x_aload_n hz dX10_seconds_9 rfl 0 rfl ?_
  refine x_geti hz sm_0 fl_X10_214 rfl dX10_seconds_10 ?_
  refine x_aload_n hz dX10_seconds_13 rfl 0 rfl ?_
  refine x_geti hz sm_0 fl_X10_217 rfl dX10_seconds_14 ?_
  refine x_iadd hz dX10_seconds_17 ?_
  refine x_icmp_ge hz dX10_seconds_18 ?_ ?_
  · exact x_sub [0, 1, 2] rfl (wX10_seconds_L25 hz a1 a2 M)
  refine x_iconst hz 1 dX10_seconds_21 rfl ?_
  refine x_goto hz dX10_seconds_22 ?_
  exact x_sub [0, 1, 2] rfl (wX10_seconds_L26 hz a1 a2 1 M)
theorem kX10_seconds {l : Launch} {dd : hDD} {b n : Nat} (a1 : Int32) (a2 : Int32) (M : hMem) (r : hMem) (h : fX10_seconds a1 a2 M = some r) : hC l hYm dd b yX10_seconds cX10_seconds 10 none (n + 3) [.ref (b + 0), .int a1, .int a2] M (none, r) :=
  h_met (av := fun b => [.ref (b + 0), .int a1, .int a2]) (rt := rtV) (by decide) (Nat.le_of_ble_eq_true rfl) (fun Z hz => wX10_seconds (n := n) hz a1 a2 M) r h
