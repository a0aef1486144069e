set_option maxRecDepth 10000 in
set_option maxHeartbeats 4000000 in
theorem wX10_lastBy_L59 {Z : hZ} {n : Nat} (hz : hOK Z hYm cX10_lastBy RX10 7 (n + 6) (some .int))  (v1 : Int32) (v2 : Int32)   : ∀ (i : Nat) (s : Int32 × Int32 × Int32 × hMem), hW Z rtM s.2.2.2 59 [(0, .ref (h_b Z + 0)), (1, .int v1), (2, .int v2), (3, .int s.1), (4, .int s.2.1), (6, .int s.2.2.1)] [] (h_lp (fX10_lastBy_L59 v1 v2) i s) := by
  refine x_loop (Ms := fun s : Int32 × Int32 × Int32 × hMem => s.2.2.2) (Ls := fun s : Int32 × Int32 × Int32 × hMem => [(0, .ref (h_b Z + 0)), (1, .int v1), (2, .int v2), (3, .int s.1), (4, .int s.2.1), (6, .int s.2.2.1)]) ?_
  intro k59 hk59 s
  show hW Z rtM s.2.2.2 59 [(0, .ref (h_b Z + 0)), (1, .int v1), (2, .int v2), (3, .int s.1), (4, .int s.2.1), (6, .int s.2.2.1)] [] (fX10_lastBy_L59 v1 v2 k59 s)
  unfold fX10_lastBy_L59
  refine x_iload hz dX10_lastBy_59 5 rfl ?_
  refine x_if_le hz dX10_lastBy_61 ?_ ?_
  · refine x_iload hz dX10_lastBy_123 4 rfl ?_
    exact x_iret hz rfl dX10_lastBy_125
  refine x_iload hz dX10_lastBy_64 4 rfl ?_
  refine x_iconst hz (-1) dX10_lastBy_66 rfl ?_
  refine x_icmp_eq hz dX10_lastBy_67 ?_ ?_
  · refine x_iload hz dX10_lastBy_123 4 rfl ?_
    exact x_iret hz rfl dX10_lastBy_125
  refine x_aload_n hz dX10_lastBy_70 rfl 0 rfl ?_
  refine x_iload_n hz dX10_lastBy_71 rfl 2 rfl ?_
  refine x_iload hz dX10_lastBy_72 5 rfl ?_
  refine x_case (fun hn74 => x_none) (fun hn74 => ?_)
  refine x_idiv hz dX10_lastBy_74 hn74 ?_
  refine x_bipush hz 10 dX10_lastBy_75 rfl ?_
  refine x_irem hz dX10_lastBy_77 (by decide) ?_
  refine x_iconst hz 1 dX10_lastBy_78 rfl ?_
  refine x_isub hz dX10_lastBy_79 ?_
  refine x_iload_n hz dX10_lastBy_80 rfl 3 rfl ?_
  refine x_iload hz dX10_lastBy_81 4 rfl ?_
  refine x_aload_n hz dX10_lastBy_83 rfl 0 rfl ?_
  refine x_getr hz sm_0 fl_X10_31 rfl rm_0_9 (by decide) dX10_lastBy_84 ?_
  refine x_iconst hz 3 dX10_lastBy_87 rfl ?_
  refine x_iload_n hz dX10_lastBy_88 rfl 1 rfl ?_
  refine x_imul hz dX10_lastBy_89 ?_
  refine x_iconst hz 1 dX10_lastBy_90 rfl ?_
  refine x_iadd hz dX10_lastBy_91 ?_
  refine x_iald hz sm_8 dX10_lastBy_92 (fun hi92 => ?_)
  refine x_aload_n hz dX10_lastBy_93 rfl 0 rfl ?_
  refine x_getr hz sm_0 fl_X10_31 rfl rm_0_9 (by decide) dX10_lastBy_94 ?_
  refine x_iconst hz 3 dX10_lastBy_97 rfl ?_
  refine x_iload_n hz dX10_lastBy_98 rfl 1 rfl ?_
  refine x_imul hz dX10_lastBy_99 ?_
  refine x_iconst hz 2 dX10_lastBy_100 rfl ?_
  refine x_iadd hz dX10_lastBy_101 ?_
  refine x_iald hz sm_8 dX10_lastBy_102 (fun hi102 => ?_)
  refine x_bind (fun q103 hq103 => ?_)
  refine x_callV hz mv_X10_251 sm_0 (by decide) rfl rfl (kX10_had (n := n) ((h_rem (v2 / s.2.2.1) 10) - 1) s.1 s.2.1 (s.2.2.2 8 ((3 * v1) + 1).toNatClampNeg) (s.2.2.2 8 ((3 * v1) + 2).toNatClampNeg) s.2.2.2 q103 hq103) rfl (av := [.int ((h_rem (v2 / s.2.2.1) 10) - 1), .int s.1, .int s.2.1, .int (s.2.2.2 8 ((3 * v1) + 1).toNatClampNeg), .int (s.2.2.2 8 ((3 * v1) + 2).toNatClampNeg)]) (rest := []) rfl rfl (Nat.le_of_ble_eq_true rfl) dX10_lastBy_103 ?_
  refine x_istore hz [(4, .int q103.1), (0, .ref (h_b Z + 0)), (1, .int v1), (2, .int v2), (3, .int s.1), (6, .int s.2.2.1)] dX10_lastBy_106 rfl rfl ?_
  refine x_aload_n hz dX10_lastBy_108 rfl 1 rfl ?_
  refine x_geti hz sm_0 fl_X10_211 rfl dX10_lastBy_109 ?_
  refine x_istore_n hz [(3, .int (q103.2 0 36)), (4, .int q103.1), (0, .ref (h_b Z + 0)), (1, .int v1), (2, .int v2), (6, .int s.2.2.1)] dX10_lastBy_112 rfl rfl rfl ?_
  refine x_iload hz dX10_lastBy_113 5 rfl ?_
  refine x_bipush hz 10 dX10_lastBy_115 rfl ?_
  refine x_idiv hz dX10_lastBy_117 (by decide) ?_
  refine x_istore hz [(6, .int (s.2.2.1 / 10)), (3, .int (q103.2 0 36)), (4, .int q103.1), (0, .ref (h_b Z + 0)), (1, .int v1), (2, .int v2)] dX10_lastBy_118 rfl rfl ?_
  refine x_goto hz dX10_lastBy_120 ?_
  exact x_sub [3, 4, 5, 1, 2, 0] rfl (hk59 (q103.2 0 36, q103.1, s.2.2.1 / 10, q103.2))
set_option maxRecDepth 10000 in
set_option maxHeartbeats 4000000 in
theorem wX10_lastBy {Z : hZ} {n : Nat} (hz : hOK Z hYm cX10_lastBy RX10 7 (n + 6) (some .int)) (a1 : Int32) (a2 : Int32) (M : hMem) : hW Z rtM M 0 [(0, .ref (h_b Z + 0)), (1, .int a1), (2, .int a2)] [] (fX10_lastBy a1 a2 M) := by
  unfold fX10_lastBy
  refine x_aload_n hz dX10_lastBy_0 rfl 0 rfl ?_
  refine x_getr hz sm_0 fl_X10_31 rfl rm_0_9 (by decide) dX10_lastBy_1 ?_
  refine x_iconst hz 3 dX10_lastBy_4 rfl ?_
  refine x_iload_n hz dX10_lastBy_5 rfl 1 rfl ?_
  refine x_imul hz dX10_lastBy_6 ?_
  refine x_iald hz sm_8 dX10_lastBy_7 (fun hi7 => ?_)
  refine x_istore_n hz [(3, .int (M 8 (3 * a1).toNatClampNeg)), (0, .ref (h_b Z + 0)), (1, .int a1), (2, .int a2)] dX10_lastBy_8 rfl rfl rfl ?_
  refine x_iconst hz 0 dX10_lastBy_9 rfl ?_
  refine x_istore hz [(4, .int 0), (3, .int (M 8 (3 * a1).toNatClampNeg)), (0, .ref (h_b Z + 0)), (1, .int a1), (2, .int a2)] dX10_lastBy_10 rfl rfl ?_
  refine x_aload_n hz dX10_lastBy_12 rfl 2 rfl ?_
  refine x_geti hz sm_0 fl_X10_105 rfl dX10_lastBy_13 ?_
  refine x_iconst hz 3 dX10_lastBy_16 rfl ?_
  refine x_icmp_le hz dX10_lastBy_17 ?_ ?_
  · refine x_aload_n hz dX10_lastBy_26 rfl 2 rfl ?_
    refine x_geti hz sm_0 fl_X10_105 rfl dX10_lastBy_27 ?_
    refine x_iconst hz 2 dX10_lastBy_30 rfl ?_
    refine x_icmp_le hz dX10_lastBy_31 ?_ ?_
    · refine x_aload_n hz dX10_lastBy_39 rfl 2 rfl ?_
      refine x_geti hz sm_0 fl_X10_105 rfl dX10_lastBy_40 ?_
      refine x_iconst hz 1 dX10_lastBy_43 rfl ?_
      refine x_icmp_le hz dX10_lastBy_44 ?_ ?_
      · refine x_iconst hz 1 dX10_lastBy_52 rfl ?_
        refine x_istore hz [(5, .int 1), (4, .int 0), (3, .int (M 8 (3 * a1).toNatClampNeg)), (0, .ref (h_b Z + 0)), (1, .int a1), (2, .int a2)] dX10_lastBy_53 rfl rfl ?_
        refine x_iload hz dX10_lastBy_55 0 rfl ?_
        refine x_istore hz [(6, .int 1), (5, .int 1), (4, .int 0), (3, .int (M 8 (3 * a1).toNatClampNeg)), (0, .ref (h_b Z + 0)), (1, .int a1), (2, .int a2)] dX10_lastBy_57 rfl rfl ?_
        exact x_sub [4, 5, 6, 3, 2, 0] rfl (wX10_lastBy_L59 hz a1 a2 h_FU (M 8 (3 * a1).toNatClampNeg, 0, 1, M))
      refine x_bipush hz 10 dX10_lastBy_47 rfl ?_
      refine x_goto hz dX10_lastBy_49 ?_
      refine x_istore hz [(5, .int 10), (4, .int 0), (3, .int (M 8 (3 * a1).toNatClampNeg)), (0, .ref (h_b Z + 0)), (1, .int a1), (2, .int a2)] dX10_lastBy_53 rfl rfl ?_
      refine x_iload hz dX10_lastBy_55 0 rfl ?_
      refine x_istore hz [(6, .int 10), (5, .int 10), (4, .int 0), (3, .int (M 8 (3 * a1).toNatClampNeg)), (0, .ref (h_b Z + 0)), (1, .int a1), (2, .int a2)] dX10_lastBy_57 rfl rfl ?_
      exact x_sub [4, 5, 6, 3, 2, 0] rfl (wX10_lastBy_L59 hz a1 a2 h_FU (M 8 (3 * a1).toNatClampNeg, 0, 10, M))
    refine x_bipush hz 100 dX10_lastBy_34 rfl ?_
    refine x_goto hz dX10_lastBy_36 ?_
    refine x_istore hz [(5, .int 100), (4, .int 0), (3, .int (M 8 (3 * a1).toNatClampNeg)), (0, .ref (h_b Z + 0)), (1, .int a1), (2, .int a2)] dX10_lastBy_53 rfl rfl ?_
    refine x_iload hz dX10_lastBy_55 0 rfl ?_
    refine x_istore hz [(6, .int 100), (5, .int 100), (4, .int 0), (3, .int (M 8 (3 * a1).toNatClampNeg)), (0, .ref (h_b Z + 0)), (1, .int a1), (2, .int a2)] dX10_lastBy_57 rfl rfl ?_
    exact x_sub [4, 5, 6, 3, 2, 0] rfl (wX10_lastBy_L59 hz a1 a2 h_FU (M 8 (3 * a1).toNatClampNeg, 0, 100, M))
  refine x_sipush hz 1000 dX10_lastBy_20 rfl ?_
  refine x_goto hz dX10_lastBy_23 ?_
  refine x_istore hz [(5, .int 1000), (4, .int 0), (3, .int (M 8 (3 * a1).toNatClampNeg)), (0, .ref (h_b Z + 0)), (1, .int a1), (2, .int a2)] dX10_lastBy_53 rfl rfl ?_
  refine x_iload hz dX10_lastBy_55 0 rfl ?_
  refine x_istore hz [(6, .int 1000), (5, .int 1000), (4, .int 0), (3, .int (M 8 (3 * a1).toNatClampNeg)), (0, .ref (h_b Z + 0)), (1, .int a1), (2, .int a2)] dX10_lastBy_57 rfl rfl ?_
  exact x_sub [4, 5, 6, 3, 2, 0] rfl (wX10_lastBy_L59 hz a1 a2 h_FU (M 8 (3 * a1).toNatClampNeg, 0, 1000, M))
theorem kX10_lastBy {l : Launch} {dd : hDD} {b n : Nat} (a1 : Int32) (a2 : Int32) (M : hMem) (r : Int32 × hMem) (h : fX10_lastBy a1 a2 M = some r) : hC l hYm dd b yX10_lastBy cX10_lastBy 7 (some .int) (n + 6) [.ref (b + 0), .int a1, .int a2] M (some (.int r.1), r.2) :=
  h_met (av := fun b => [.ref (b + 0), .int a1, .int a2]) (rt := rtM) (by decide) (Nat.le_of_ble_eq_true rfl) (fun Z hz => wX10_lastBy (n := n) hz a1 a2 M) r h
set_option maxRecDepth 10000 in
set_option maxHeartbeats 4000000 in
theorem wX10_order_L105 {Z : hZ} {n : Nat} (hz : hOK Z hYm cX10_order RX10 8 (n + 7) (some .int))  (v1 : Int32) (v2 : Int32) (v4 : Int32) (v5 : Int32) (v6 : Int32) (v7 : Int32) (t0 : Int32) (M : hMem) {k40 : (Int32 × Int32 × Int32 × hMem) → Option (Int32 × hMem)} (hk40 : ∀ s, hW Z rtM s.2.2.2 40 [(0, .ref (h_b Z + 0)), (1, .int v1), (2, .int v2), (3, .int s.1), (4, .int s.2.1), (5, .int s.2.2.1)] [] (k40 s)) : hW Z rtM M 105 [(0, .ref (h_b Z + 0)), (1, .int v1), (2, .int v2), (4, .int v4), (5, .int v5), (6, .int v6), (7, .int v7)] [.int t0] (fX10_order_L105 k40 v1 v2 v4 v5 v6 v7 t0 M) := by
  unfold fX10_order_L105
  refine x_istore_n hz [(3, .int t0), (0, .ref (h_b Z + 0)), (1, .int v1), (2, .int v2), (4, .int v4), (5, .int v5), (6, .int v6), (7, .int v7)] dX10_order_105 rfl rfl rfl ?_
  refine x_iload hz dX10_order_106 7 rfl ?_
  refine x_if_eq hz dX10_order_108 ?_ ?_
  · refine x_iload hz dX10_order_116 4 rfl ?_
    refine x_istore hz [(4, .int v4), (3, .int t0), (0, .ref (h_b Z + 0)), (1, .int v1), (2, .int v2), (5, .int v5), (6, .int v6), (7, .int v7)] dX10_order_118 rfl rfl ?_
    refine x_iinc hz (v5 + 1) [(5, .int (v5 + 1)), (4, .int v4), (3, .int t0), (0, .ref (h_b Z + 0)), (1, .int v1), (2, .int v2), (6, .int v6), (7, .int v7)] dX10_order_120 5 rfl rfl rfl rfl ?_
    refine x_goto hz dX10_order_123 ?_
    exact x_sub [3, 4, 5, 2, 1, 0] rfl (hk40 (t0, v4, v5 + 1, M))
  refine x_iload hz dX10_order_111 6 rfl ?_
  refine x_goto hz dX10_order_113 ?_
  refine x_istore hz [(4, .int v6), (3, .int t0), (0, .ref (h_b Z + 0)), (1, .int v1), (2, .int v2), (5, .int v5), (6, .int v6), (7, .int v7)] dX10_order_118 rfl rfl ?_
  refine x_iinc hz (v5 + 1) [(5, .int (v5 + 1)), (4, .int v6), (3, .int t0), (0, .ref (h_b Z + 0)), (1, .int v1), (2, .int v2), (6, .int v6), (7, .int v7)] dX10_order_120 5 rfl rfl rfl rfl ?_
  refine x_goto hz dX10_order_123 ?_
  exact x_sub [3, 4, 5, 2, 1, 0] rfl (hk40 (t0, v6, v5 + 1, M))
set_option maxRecDepth 10000 in
set_option maxHeartbeats 4000000 in
theorem wX10_order_L92 {Z : hZ} {n : Nat} (hz : hOK Z hYm cX10_order RX10 8 (n + 7) (some .int))  (v1 : Int32) (v2 : Int32) (v3 : Int32) (v4 : Int32) (v5 : Int32) (v6 : Int32) (t0 : Int32) (M : hMem) {k40 : (Int32 × Int32 × Int32 × hMem) → Option (Int32 × hMem)} (hk40 : ∀ s, hW Z rtM s.2.2.2 40 [(0, .ref (h_b Z + 0)), (1, .int v1), (2, .int v2), (3, .int s.1), (4, .int s.2.1), (5, .int s.2.2.1)] [] (k40 s)) : hW Z rtM M 92 [(0, .ref (h_b Z + 0)), (1, .int v1), (2, .int v2), (3, .int v3), (4, .int v4), (5, .int v5), (6, .int v6)] [.int t0] (fX10_order_L92 k40 v1 v2 v3 v4 v5 v6 t0 M) := by
  unfold fX10_order_L92
  refine x_istore hz [(7, .int t0), (0, .ref (h_b Z + 0)), (1, .int v1), (2, .int v2), (3, .int v3), (4, .int v4), (5, .int v5), (6, .int v6)] dX10_order_92 rfl rfl ?_
  refine x_iload hz dX10_order_94 0 rfl ?_
  refine x_if_eq hz dX10_order_96 ?_ ?_
  · refine x_iload_n hz dX10_order_104 rfl 4 rfl ?_
    exact x_sub [1, 2, 3, 5, 6, 7, 0] rfl (wX10_order_L105 hz v1 v2 v4 v5 v6 t0 v3 M hk40)
  refine x_iload hz dX10_order_99 6 rfl ?_
  refine x_goto hz dX10_order_101 ?_
  exact x_sub [1, 2, 3, 5, 6, 7, 0] rfl (wX10_order_L105 hz v1 v2 v4 v5 v6 t0 v5 M hk40)
set_option maxRecDepth 10000 in
set_option maxHeartbeats 4000000 in
theorem wX10_order_L91 {Z : hZ} {n : Nat} (hz : hOK Z hYm cX10_order RX10 8 (n + 7) (some .int))  (v1 : Int32) (v2 : Int32) (v3 : Int32) (v4 : Int32) (v5 : Int32) (v6 : Int32) (M : hMem) {k40 : (Int32 × Int32 × Int32 × hMem) → Option (Int32 × hMem)} (hk40 : ∀ s, hW Z rtM s.2.2.2 40 [(0, .ref (h_b Z + 0)), (1, .int v1), (2, .int v2), (3, .int s.1), (4, .int s.2.1), (5, .int s.2.2.1)] [] (k40 s)) : hW Z rtM M 91 [(0, .ref (h_b Z + 0)), (1, .int v1), (2, .int v2), (3, .int v3), (4, .int v4), (5, .int v5), (6, .int v6)] [] (fX10_order_L91 k40 v1 v2 v3 v4 v5 v6 M) := by
  unfold fX10_order_L91
  refine x_iconst hz 0 dX10_order_91 rfl ?_
  exact x_sub [0, 1, 2, 3, 4, 5, 6] rfl (wX10_order_L92 hz v1 v2 v3 v4 v5 v6 0 M hk40)
set_option maxRecDepth 10000 in
set_option maxHeartbeats 4000000 in
theorem wX10_order_L87 {Z : hZ} {n : Nat} (hz : hOK Z hYm cX10_order RX10 8 (n + 7) (some .int))  (v1 : Int32) (v2 : Int32) (v3 : Int32) (v4 : Int32) (v5 : Int32) (v6 : Int32) (M : hMem) {k40 : (Int32 × Int32 × Int32 × hMem) → Option (Int32 × hMem)} (hk40 : ∀ s, hW Z rtM s.2.2.2 40 [(0, .ref (h_b Z + 0)), (1, .int v1), (2, .int v2), (3, .int s.1), (4, .int s.2.1), (5, .int s.2.2.1)] [] (k40 s)) : hW Z rtM M 87 [(0, .ref (h_b Z + 0)), (1, .int v1), (2, .int v2), (3, .int v3), (4, .int v4), (5, .int v5), (6, .int v6)] [] (fX10_order_L87 k40 v1 v2 v3 v4 v5 v6 M) := by
  unfold fX10_order_L87
  refine x_iconst hz 1 dX10_order_87 rfl ?_
  refine x_goto hz dX10_order_88 ?_
  exact x_sub [0, 1, 2, 3, 4, 5, 6] rfl (wX10_order_L92 hz v1 v2 v3 v4 v5 v6 1 M hk40)
set_option maxRecDepth 10000 in
set_option maxHeartbeats 4000000 in
theorem wX10_order_L40 {Z : hZ} {n : Nat} (hz : hOK Z hYm cX10_order RX10 8 (n + 7) (some .int))  (v1 : Int32) (v2 : Int32)   : ∀ (i : Nat) (s : Int32 × Int32 × Int32 × hMem), hW Z rtM s.2.2.2 40 [(0, .ref (h_b Z + 0)), (1, .int v1), (2, .int v2), (3, .int s.1), (4, .int s.2.1), (5, .int s.2.2.1)] [] (h_lp (fX10_order_L40 v1 v2) i s) := by
  refine x_loop (Ms := fun s : Int32 × Int32 × Int32 × hMem => s.2.2.2) (Ls := fun s : Int32 × Int32 × Int32 × hMem => [(0, .ref (h_b Z + 0)), (1, .int v1), (2, .int v2), (3, .int s.1), (4, .int s.2.1), (5, .int s.2.2.1)]) ?_
  intro k40 hk40 s
  show hW Z rtM s.2.2.2 40 [(0, .ref (h_b Z + 0)), (1, .int v1), (2, .int v2), (3, .int s.1), (4, .int s.2.1), (5, .int s.2.2.1)] [] (fX10_order_L40 v1 v2 k40 s)
  unfold fX10_order_L40
  refine x_iload hz dX10_order_40 5 rfl ?_
  refine x_sipush hz 5000 dX10_order_42 rfl ?_
  refine x_icmp_ge hz dX10_order_45 ?_ ?_
  · refine x_iload_n hz dX10_order_126 rfl 2 rfl ?_
    refine x_if_ne hz dX10_order_127 ?_ ?_
    · refine x_iload hz dX10_order_134 4 rfl ?_
      exact x_iret hz rfl dX10_order_136
    refine x_iload_n hz dX10_order_130 rfl 3 rfl ?_
    refine x_goto hz dX10_order_131 ?_
    exact x_iret hz rfl dX10_order_136
  refine x_iload hz dX10_order_48 5 rfl ?_
  refine x_aload_n hz dX10_order_50 rfl 0 rfl ?_
  refine x_geti hz sm_0 fl_X10_105 rfl dX10_order_51 ?_
  refine x_bind (fun q54 hq54 => ?_)
  refine x_callS hz ms_X10_261 (kX10_isInOrder (n := (n + 5)) s.2.2.1 (s.2.2.2 0 3) s.2.2.2 q54 hq54) rfl (av := [.int s.2.2.1, .int (s.2.2.2 0 3)]) (rest := []) rfl rfl (Nat.le_of_ble_eq_true rfl) dX10_order_54 ?_
  refine x_if_eq hz dX10_order_57 ?_ ?_
  · refine x_iinc hz (s.2.2.1 + 1) [(5, .int (s.2.2.1 + 1)), (0, .ref (h_b Z + 0)), (1, .int v1), (2, .int v2), (3, .int s.1), (4, .int s.2.1)] dX10_order_120 5 rfl rfl rfl rfl ?_
    refine x_goto hz dX10_order_123 ?_
    exact x_sub [1, 2, 3, 4, 5, 0] rfl (hk40 (s.1, s.2.1, s.2.2.1 + 1, s.2.2.2))
  refine x_aload_n hz dX10_order_60 rfl 0 rfl ?_
  refine x_iload_n hz dX10_order_61 rfl 1 rfl ?_
  refine x_iload hz dX10_order_62 5 rfl ?_
  refine x_bind (fun q64 hq64 => ?_)
  refine x_callV hz mv_X10_264 sm_0 (by decide) rfl rfl (kX10_lastBy (n := n) v1 s.2.2.1 s.2.2.2 q64 hq64) rfl (av := [.int v1, .int s.2.2.1]) (rest := []) rfl rfl (Nat.le_of_ble_eq_true rfl) dX10_order_64 ?_
  refine x_istore hz [(6, .int q64.1), (0, .ref (h_b Z + 0)), (1, .int v1), (2, .int v2), (3, .int s.1), (4, .int s.2.1), (5, .int s.2.2.1)] dX10_order_67 rfl rfl ?_
  refine x_iload hz dX10_order_69 0 rfl ?_
  refine x_iconst hz (-1) dX10_order_71 rfl ?_
  refine x_icmp_eq hz dX10_order_72 ?_ ?_
  · exact x_sub [1, 2, 3, 4, 5, 6, 0] rfl (wX10_order_L91 hz v1 v2 s.1 s.2.1 s.2.2.1 q64.1 q64.2 hk40)
  refine x_iload_n hz dX10_order_75 rfl 4 rfl ?_
  refine x_iconst hz (-1) dX10_order_76 rfl ?_
  refine x_icmp_eq hz dX10_order_77 ?_ ?_
  · exact x_sub [1, 2, 3, 4, 5, 6, 0] rfl (wX10_order_L87 hz v1 v2 s.1 s.2.1 s.2.2.1 q64.1 q64.2 hk40)
  refine x_iload hz dX10_order_80 0 rfl ?_
  refine x_iload hz dX10_order_82 5 rfl ?_
  refine x_icmp_ge hz dX10_order_84 ?_ ?_
  · exact x_sub [1, 2, 3, 4, 5, 6, 0] rfl (wX10_order_L91 hz v1 v2 s.1 s.2.1 s.2.2.1 q64.1 q64.2 hk40)
  exact x_sub [1, 2, 3, 4, 5, 6, 0] rfl (wX10_order_L87 hz v1 v2 s.1 s.2.1 s.2.2.1 q64.1 q64.2 hk40)
set_option maxRecDepth 10000 in
set_option maxHeartbeats 4000000 in
theorem wX10_order {Z : hZ} {n : Nat} (hz : hOK Z hYm cX10_order RX10 8 (n + 7) (some .int)) (a1 : Int32) (a2 : Int32) (M : hMem) : hW Z rtM M 0 [(0, .ref (h_b Z + 0)), (1, .int a1), (2, .int a2)] [] (fX10_order a1 a2 M) := by
  unfold fX10_order
  refine x_aload_n hz dX10_order_0 rfl 0 rfl ?_
  refine x_iload_n hz dX10_order_1 rfl 1 rfl ?_
  refine x_callV hz mv_X10_202 sm_0 (by decide) rfl rfl (kX10_isCatcher (n := (n + 5)) a1 M) rfl (av := [.int a1]) (rest := []) rfl rfl (Nat.le_of_ble_eq_true rfl) dX10_order_2 ?_
  refine x_if_ne hz dX10_order_5 ?_ ?_
  · refine x_iload_n hz dX10_order_11 rfl 2 rfl ?_
    refine x_iconst hz 0 dX10_order_12 rfl ?_
    refine x_iconst hz 1 dX10_order_13 rfl ?_
    refine x_callS hz ms_X10_93 (kX10_in (n := (n + 6)) a2 0 1 M) rfl (av := [.int a2, .int 0, .int 1]) (rest := []) rfl rfl (Nat.le_of_ble_eq_true rfl) dX10_order_14 ?_
    refine x_if_ne hz dX10_order_17 ?_ ?_
    · refine x_aload_n hz dX10_order_23 rfl 0 rfl ?_
      refine x_geti hz sm_0 fl_X10_105 rfl dX10_order_24 ?_
      refine x_if_ne hz dX10_order_27 ?_ ?_
      · refine x_iconst hz (-1) dX10_order_32 rfl ?_
        refine x_istore_n hz [(3, .int (-1)), (0, .ref (h_b Z + 0)), (1, .int a1), (2, .int a2)] dX10_order_33 rfl rfl rfl ?_
        refine x_iconst hz (-1) dX10_order_34 rfl ?_
        refine x_istore hz [(4, .int (-1)), (3, .int (-1)), (0, .ref (h_b Z + 0)), (1, .int a1), (2, .int a2)] dX10_order_35 rfl rfl ?_
        refine x_iconst hz 1 dX10_order_37 rfl ?_
        refine x_istore hz [(5, .int 1), (4, .int (-1)), (3, .int (-1)), (0, .ref (h_b Z + 0)), (1, .int a1), (2, .int a2)] dX10_order_38 rfl rfl ?_
        exact x_sub [3, 4, 5, 2, 1, 0] rfl (wX10_order_L40 hz a1 a2 h_FU ((-1), (-1), 1, M))
      refine x_iconst hz 0 dX10_order_30 rfl ?_
      exact x_iret hz rfl dX10_order_31
    refine x_bipush hz (-7) dX10_order_20 rfl ?_
    exact x_iret hz rfl dX10_order_22
  refine x_bipush hz (-5) dX10_order_8 rfl ?_
  exact x_iret hz rfl dX10_order_10
theorem kX10_order {l : Launch} {dd : hDD} {b n : Nat} (a1 : Int32) (a2 : Int32) (M : hMem) (r : Int32 × hMem) (h : fX10_order a1 a2 M = some r) : hC l hYm dd b yX10_order cX10_order 8 (some .int) (n + 7) [.ref (b + 0), .int a1, .int a2] M (some (.int r.1), r.2) :=
  h_met (av := fun b => [.ref (b + 0), .int a1, .int a2]) (rt := rtM) (by decide) (Nat.le_of_ble_eq_true rfl) (fun Z hz => wX10_order (n := n) hz a1 a2 M) r h
set_option maxRecDepth 10000 in
set_option maxHeartbeats 4000000 in
theorem wX10_gainOf {Z : hZ} {n : Nat} (hz : hOK Z hYm cX10_gainOf RX10 4 (n + 7) (some .int)) (a1 : Int32) (a2 : Int32) (M : hMem) : hW Z rtM M 0 [(0, .ref (h_b Z + 0)), (1, .int a1), (2, .int a2)] [] (fX10_gainOf a1 a2 M) := by
  unfold fX10_gainOf
  refine x_aload_n hz dX10_gainOf_0 rfl 0 rfl ?_
  refine x_iload_n hz dX10_gainOf_1 rfl 1 rfl ?_
  refine x_iload_n hz dX10_gainOf_2 rfl 2 rfl ?_
  refine x_bind (fun q3 hq3 => ?_)
  refine x_callV hz mv_X10_258 sm_0 (by decide) rfl rfl (kX10_hadBy (n := n) a1 a2 M q3 hq3) rfl (av := [.int a1, .int a2]) (rest := []) rfl rfl (Nat.le_of_ble_eq_true rfl) dX10_gainOf_3 ?_
  refine x_istore_n hz [(3, .int q3.1), (0, .ref (h_b Z + 0)), (1, .int a1), (2, .int a2)] dX10_gainOf_6 rfl rfl rfl ?_
  refine x_iload_n hz dX10_gainOf_7 rfl 0 rfl ?_
  refine x_iconst hz (-1) dX10_gainOf_8 rfl ?_
  refine x_icmp_ne hz dX10_gainOf_9 ?_ ?_
  · refine x_aload_n hz dX10_gainOf_17 rfl 1 rfl ?_
    refine x_iconst hz 2 dX10_gainOf_18 rfl ?_
    refine x_aload_n hz dX10_gainOf_19 rfl 1 rfl ?_
    refine x_getr hz sm_0 fl_X10_31 rfl rm_0_9 (by decide) dX10_gainOf_20 ?_
    refine x_iconst hz 3 dX10_gainOf_23 rfl ?_
    refine x_iload_n hz dX10_gainOf_24 rfl 3 rfl ?_
    refine x_imul hz dX10_gainOf_25 ?_
    refine x_iconst hz 1 dX10_gainOf_26 rfl ?_
    refine x_iadd hz dX10_gainOf_27 ?_
    refine x_iald hz sm_8 dX10_gainOf_28 (fun hi28 => ?_)
    refine x_aload_n hz dX10_gainOf_29 rfl 1 rfl ?_
    refine x_geti hz sm_0 fl_X10_208 rfl dX10_gainOf_30 ?_
    refine x_aload_n hz dX10_gainOf_33 rfl 1 rfl ?_
    refine x_getr hz sm_0 fl_X10_22 rfl rm_0_5 (by decide) dX10_gainOf_34 ?_
    refine x_iload_n hz dX10_gainOf_37 rfl 2 rfl ?_
    refine x_iald hz sm_5 dX10_gainOf_38 (fun hi38 => ?_)
    refine x_iload_n hz dX10_gainOf_39 rfl 0 rfl ?_
    refine x_aload_n hz dX10_gainOf_40 rfl 1 rfl ?_
    refine x_geti hz sm_0 fl_X10_211 rfl dX10_gainOf_41 ?_
    refine x_aload_n hz dX10_gainOf_44 rfl 1 rfl ?_
    refine x_getr hz sm_0 fl_X10_19 rfl rm_0_4 (by decide) dX10_gainOf_45 ?_
    refine x_iload_n hz dX10_gainOf_48 rfl 2 rfl ?_
    refine x_iald hz sm_4 dX10_gainOf_49 (fun hi49 => ?_)
    refine x_bind (fun q50 hq50 => ?_)
    refine x_callV hz mv_X10_192 sm_0 (by decide) rfl rfl (kX10_asksOf (n := (n + 4)) 2 (q3.2 8 ((3 * a2) + 1).toNatClampNeg) (q3.2 0 37) (q3.2 5 a1.toNatClampNeg) q3.1 (q3.2 0 36) (q3.2 4 a1.toNatClampNeg) q3.2 q50 hq50) rfl (av := [.int 2, .int (q3.2 8 ((3 * a2) + 1).toNatClampNeg), .int (q3.2 0 37), .int (q3.2 5 a1.toNatClampNeg), .int q3.1, .int (q3.2 0 36), .int (q3.2 4 a1.toNatClampNeg)]) (rest := []) rfl rfl (Nat.le_of_ble_eq_true rfl) dX10_gainOf_50 ?_
    exact x_iret hz rfl dX10_gainOf_53
  refine x_bipush hz (-100) dX10_gainOf_12 rfl ?_
  refine x_goto hz dX10_gainOf_14 ?_
  exact x_iret hz rfl dX10_gainOf_53
theorem kX10_gainOf {l : Launch} {dd : hDD} {b n : Nat} (a1 : Int32) (a2 : Int32) (M : hMem) (r : Int32 × hMem) (h : fX10_gainOf a1 a2 M = some r) : hC l hYm dd b yX10_gainOf cX10_gainOf 4 (some .int) (n + 7) [.ref (b + 0), .int a1, .int a2] M (some (.int r.1), r.2) :=
  h_met (av := fun b => [.ref (b + 0), .int a1, .int a2]) (rt := rtM) (by decide) (Nat.le_of_ble_eq_true rfl) (fun Z hz => wX10_gainOf (n := n) hz a1 a2 M) r h
set_option maxRecDepth 10000 in
set_option maxHeartbeats 4000000 in
theorem wX10_gain {Z : hZ} {n : Nat} (hz : hOK Z hYm cX10_gain RX10 3 (n + 8) (some .int)) (a1 : Int32) (a2 : Int32) (M : hMem) : hW Z rtM M 0 [(0, .ref (h_b Z + 0)), (1, .int a1), (2, .int a2)] [] (fX10_gain a1 a2 M) := by
  unfold fX10_gain
  refine x_aload_n hz dX10_gain_0 rfl 0 rfl ?_
  refine x_iload_n hz dX10_gain_1 rfl 1 rfl ?_
  refine x_iload_n hz dX10_gain_2 rfl 2 rfl ?_
  refine x_callV hz mv_X10_255 sm_0 (by decide) rfl rfl (kX10_areThere (n := (n + 5)) a1 a2 M) rfl (av := [.int a1, .int a2]) (rest := []) rfl rfl (Nat.le_of_ble_eq_true rfl) dX10_gain_3 ?_
  refine x_if_eq hz dX10_gain_6 ?_ ?_
  · refine x_sipush hz (-1000) dX10_gain_18 rfl ?_
    exact x_iret hz rfl dX10_gain_21
  refine x_aload_n hz dX10_gain_9 rfl 0 rfl ?_
  refine x_iload_n hz dX10_gain_10 rfl 1 rfl ?_
  refine x_iload_n hz dX10_gain_11 rfl 2 rfl ?_
  refine x_bind (fun q12 hq12 => ?_)
  refine x_callV hz mv_X10_267 sm_0 (by decide) rfl rfl (kX10_gainOf (n := n) a1 a2 M q12 hq12) rfl (av := [.int a1, .int a2]) (rest := []) rfl rfl (Nat.le_of_ble_eq_true rfl) dX10_gain_12 ?_
  refine x_goto hz dX10_gain_15 ?_
  exact x_iret hz rfl dX10_gain_21
theorem kX10_gain {l : Launch} {dd : hDD} {b n : Nat} (a1 : Int32) (a2 : Int32) (M : hMem) (r : Int32 × hMem) (h : fX10_gain a1 a2 M = some r) : hC l hYm dd b yX10_gain cX10_gain 3 (some .int) (n + 8) [.ref (b + 0), .int a1, .int a2] M (some (.int r.1), r.2) :=
  h_met (av := fun b => [.ref (b + 0), .int a1, .int a2]) (rt := rtM) (by decide) (Nat.le_of_ble_eq_true rfl) (fun Z hz => wX10_gain (n := n) hz a1 a2 M) r h
set_option maxRecDepth 10000 in
set_option maxHeartbeats 4000000 in
theorem wX10_whom_L62 {Z : hZ} {n : Nat} (hz : hOK Z hYm cX10_whom RX10 7 (n + 8) (some .int))  (v1 : Int32) (v2 : Int32) (v4 : Int32) (v5 : Int32) (v6 : Int32) (t0 : Int32) (M : hMem) {k31 : (Int32 × Int32 × Int32 × hMem) → Option (Int32 × hMem)} (hk31 : ∀ s, hW Z rtM s.2.2.2 31 [(0, .ref (h_b Z + 0)), (1, .int v1), (2, .int v2), (3, .int s.1), (4, .int s.2.1), (5, .int s.2.2.1)] [] (k31 s)) : hW Z rtM M 62 [(0, .ref (h_b Z + 0)), (1, .int v1), (2, .int v2), (4, .int v4), (5, .int v5), (6, .int v6)] [.int t0] (fX10_whom_L62 k31 v1 v2 v4 v5 v6 t0 M) := by
  unfold fX10_whom_L62
  refine x_istore_n hz [(3, .int t0), (0, .ref (h_b Z + 0)), (1, .int v1), (2, .int v2), (4, .int v4), (5, .int v5), (6, .int v6)] dX10_whom_62 rfl rfl rfl ?_
  refine x_iload hz dX10_whom_63 6 rfl ?_
  refine x_iload hz dX10_whom_65 4 rfl ?_
  refine x_icmp_le hz dX10_whom_67 ?_ ?_
  · refine x_iload hz dX10_whom_75 4 rfl ?_
    refine x_istore hz [(4, .int v4), (3, .int t0), (0, .ref (h_b Z + 0)), (1, .int v1), (2, .int v2), (5, .int v5), (6, .int v6)] dX10_whom_77 rfl rfl ?_
    refine x_iinc hz (v5 + 1) [(5, .int (v5 + 1)), (4, .int v4), (3, .int t0), (0, .ref (h_b Z + 0)), (1, .int v1), (2, .int v2), (6, .int v6)] dX10_whom_79 5 rfl rfl rfl rfl ?_
    refine x_goto hz dX10_whom_82 ?_
    exact x_sub [3, 4, 5, 2, 1, 0] rfl (hk31 (t0, v4, v5 + 1, M))
  refine x_iload hz dX10_whom_70 6 rfl ?_
  refine x_goto hz dX10_whom_72 ?_
  refine x_istore hz [(4, .int v6), (3, .int t0), (0, .ref (h_b Z + 0)), (1, .int v1), (2, .int v2), (5, .int v5), (6, .int v6)] dX10_whom_77 rfl rfl ?_
  refine x_iinc hz (v5 + 1) [(5, .int (v5 + 1)), (4, .int v6), (3, .int t0), (0, .ref (h_b Z + 0)), (1, .int v1), (2, .int v2), (6, .int v6)] dX10_whom_79 5 rfl rfl rfl rfl ?_
  refine x_goto hz dX10_whom_82 ?_
  exact x_sub [3, 4, 5, 2, 1, 0] rfl (hk31 (t0, v6, v5 + 1, M))
set_option maxRecDepth 10000 in
set_option maxHeartbeats 4000000 in
theorem wX10_whom_L31 {Z : hZ} {n : Nat} (hz : hOK Z hYm cX10_whom RX10 7 (n + 8) (some .int))  (v1 : Int32) (v2 : Int32)   : ∀ (i : Nat) (s : Int32 × Int32 × Int32 × hMem), hW Z rtM s.2.2.2 31 [(0, .ref (h_b Z + 0)), (1, .int v1), (2, .int v2), (3, .int s.1), (4, .int s.2.1), (5, .int s.2.2.1)] [] (h_lp (fX10_whom_L31 v1 v2) i s) := by
  refine x_loop (Ms := fun s : Int32 × Int32 × Int32 × hMem => s.2.2.2) (Ls := fun s : Int32 × Int32 × Int32 × hMem => [(0, .ref (h_b Z + 0)), (1, .int v1), (2, .int v2), (3, .int s.1), (4, .int s.2.1), (5, .int s.2.2.1)]) ?_
  intro k31 hk31 s
  show hW Z rtM s.2.2.2 31 [(0, .ref (h_b Z + 0)), (1, .int v1), (2, .int v2), (3, .int s.1), (4, .int s.2.1), (5, .int s.2.2.1)] [] (fX10_whom_L31 v1 v2 k31 s)
  unfold fX10_whom_L31
  refine x_iload hz dX10_whom_31 5 rfl ?_
  refine x_aload_n hz dX10_whom_33 rfl 0 rfl ?_
  refine x_geti hz sm_0 fl_X10_105 rfl dX10_whom_34 ?_
  refine x_icmp_ge hz dX10_whom_37 ?_ ?_
  · refine x_iload_n hz dX10_whom_85 rfl 2 rfl ?_
    refine x_if_ne hz dX10_whom_86 ?_ ?_
    · refine x_iload hz dX10_whom_93 4 rfl ?_
      exact x_iret hz rfl dX10_whom_95
    refine x_iload_n hz dX10_whom_89 rfl 3 rfl ?_
    refine x_goto hz dX10_whom_90 ?_
    exact x_iret hz rfl dX10_whom_95
  refine x_aload_n hz dX10_whom_40 rfl 0 rfl ?_
  refine x_iload hz dX10_whom_41 5 rfl ?_
  refine x_iload_n hz dX10_whom_43 rfl 1 rfl ?_
  refine x_bind (fun q44 hq44 => ?_)
  refine x_callV hz mv_X10_267 sm_0 (by decide) rfl rfl (kX10_gainOf (n := n) s.2.2.1 v1 s.2.2.2 q44 hq44) rfl (av := [.int s.2.2.1, .int v1]) (rest := []) rfl rfl (Nat.le_of_ble_eq_true rfl) dX10_whom_44 ?_
  refine x_istore hz [(6, .int q44.1), (0, .ref (h_b Z + 0)), (1, .int v1), (2, .int v2), (3, .int s.1), (4, .int s.2.1), (5, .int s.2.2.1)] dX10_whom_47 rfl rfl ?_
  refine x_iload hz dX10_whom_49 0 rfl ?_
  refine x_iload hz dX10_whom_51 5 rfl ?_
  refine x_icmp_le hz dX10_whom_53 ?_ ?_
  · refine x_iload_n hz dX10_whom_61 rfl 4 rfl ?_
    exact x_sub [1, 2, 3, 5, 6, 0] rfl (wX10_whom_L62 hz v1 v2 s.2.1 s.2.2.1 q44.1 s.1 q44.2 hk31)
  refine x_iload hz dX10_whom_56 6 rfl ?_
  refine x_goto hz dX10_whom_58 ?_
  exact x_sub [1, 2, 3, 5, 6, 0] rfl (wX10_whom_L62 hz v1 v2 s.2.1 s.2.2.1 q44.1 s.2.2.1 q44.2 hk31)
set_option maxRecDepth 10000 in
set_option maxHeartbeats 4000000 in
theorem wX10_whom {Z : hZ} {n : Nat} (hz : hOK Z hYm cX10_whom RX10 7 (n + 8) (some .int)) (a1 : Int32) (a2 : Int32) (M : hMem) : hW Z rtM M 0 [(0, .ref (h_b Z + 0)), (1, .int a1), (2, .int a2)] [] (fX10_whom a1 a2 M) := by
  unfold fX10_whom
  refine x_aload_n hz dX10_whom_0 rfl 0 rfl ?_
  refine x_iload_n hz dX10_whom_1 rfl 1 rfl ?_
  refine x_callV hz mv_X10_202 sm_0 (by decide) rfl rfl (kX10_isCatcher (n := (n + 6)) a1 M) rfl (av := [.int a1]) (rest := []) rfl rfl (Nat.le_of_ble_eq_true rfl) dX10_whom_2 ?_
  refine x_if_ne hz dX10_whom_5 ?_ ?_
  · refine x_iload_n hz dX10_whom_11 rfl 2 rfl ?_
    refine x_iconst hz 0 dX10_whom_12 rfl ?_
    refine x_iconst hz 1 dX10_whom_13 rfl ?_
    refine x_callS hz ms_X10_93 (kX10_in (n := (n + 7)) a2 0 1 M) rfl (av := [.int a2, .int 0, .int 1]) (rest := []) rfl rfl (Nat.le_of_ble_eq_true rfl) dX10_whom_14 ?_
    refine x_if_ne hz dX10_whom_17 ?_ ?_
    · refine x_iconst hz (-1) dX10_whom_23 rfl ?_
      refine x_istore_n hz [(3, .int (-1)), (0, .ref (h_b Z + 0)), (1, .int a1), (2, .int a2)] dX10_whom_24 rfl rfl rfl ?_
      refine x_iconst hz 0 dX10_whom_25 rfl ?_
      refine x_istore hz [(4, .int 0), (3, .int (-1)), (0, .ref (h_b Z + 0)), (1, .int a1), (2, .int a2)] dX10_whom_26 rfl rfl ?_
      refine x_iconst hz 0 dX10_whom_28 rfl ?_
      refine x_istore hz [(5, .int 0), (4, .int 0), (3, .int (-1)), (0, .ref (h_b Z + 0)), (1, .int a1), (2, .int a2)] dX10_whom_29 rfl rfl ?_
      exact x_sub [3, 4, 5, 2, 1, 0] rfl (wX10_whom_L31 hz a1 a2 h_FU ((-1), 0, 0, M))
    refine x_bipush hz (-7) dX10_whom_20 rfl ?_
    exact x_iret hz rfl dX10_whom_22
  refine x_bipush hz (-5) dX10_whom_8 rfl ?_
  exact x_iret hz rfl dX10_whom_10
theorem kX10_whom {l : Launch} {dd : hDD} {b n : Nat} (a1 : Int32) (a2 : Int32) (M : hMem) (r : Int32 × hMem) (h : fX10_whom a1 a2 M = some r) : hC l hYm dd b yX10_whom cX10_whom 7 (some .int) (n + 8) [.ref (b + 0), .int a1, .int a2] M (some (.int r.1), r.2) :=
  h_met (av := fun b => [.ref (b + 0), .int a1, .int a2]) (rt := rtM) (by decide) (Nat.le_of_ble_eq_true rfl) (fun Z hz => wX10_whom (n := n) hz a1 a2 M) r h
set_option maxRecDepth 10000 in
set_option maxHeartbeats 4000000 in
theorem wX10_run_L106 {Z : hZ} {n : Nat} (hz : hOK Z hYm cX10_run RX10 5 (n + 7) (some .int))  (v3 : Int32) (v4 : Int32) (M : hMem) {k47 : (Int32 × hMem) → Option (Int32 × hMem)} (hk47 : ∀ s, hW Z rtM s.2 47 [(0, .ref (h_b Z + 0)), (3, .int v3), (4, .int s.1)] [] (k47 s)) : hW Z rtM M 106 [(0, .ref (h_b Z + 0)), (3, .int v3), (4, .int v4)] [] (fX10_run_L106 k47 v3 v4 M) := by
  unfold fX10_run_L106
  refine x_aload_n hz dX10_run_106 rfl 0 rfl ?_
  refine x_getr hz sm_0 fl_X10_28 rfl rm_0_7 (by decide) dX10_run_107 ?_
  refine x_iload hz dX10_run_110 2 rfl ?_
  refine x_aload_n hz dX10_run_112 rfl 0 rfl ?_
  refine x_getr hz sm_0 fl_X10_28 rfl rm_0_7 (by decide) dX10_run_113 ?_
  refine x_iload hz dX10_run_116 2 rfl ?_
  refine x_iconst hz 1 dX10_run_118 rfl ?_
  refine x_iadd hz dX10_run_119 ?_
  refine x_iald hz sm_7 dX10_run_120 (fun hi120 => ?_)
  refine x_iast hz sm_7 dX10_run_121 (fun hi121 => ?_)
  refine x_iinc hz (v4 + 1) [(4, .int (v4 + 1)), (0, .ref (h_b Z + 0)), (3, .int v3)] dX10_run_122 2 rfl rfl rfl rfl ?_
  refine x_goto hz dX10_run_125 ?_
  exact x_sub [1, 2, 0] rfl (hk47 (v4 + 1, h_up M 7 v4.toNatClampNeg (M 7 (v4 + 1).toNatClampNeg)))
set_option maxRecDepth 10000 in
set_option maxHeartbeats 4000000 in
theorem wX10_run_L47 {Z : hZ} {n : Nat} (hz : hOK Z hYm cX10_run RX10 5 (n + 7) (some .int))  (v3 : Int32)   : ∀ (i : Nat) (s : Int32 × hMem), hW Z rtM s.2 47 [(0, .ref (h_b Z + 0)), (3, .int v3), (4, .int s.1)] [] (h_lp (fX10_run_L47 v3) i s) := by
  refine x_loop (Ms := fun s : Int32 × hMem => s.2) (Ls := fun s : Int32 × hMem => [(0, .ref (h_b Z + 0)), (3, .int v3), (4, .int s.1)]) ?_
  intro k47 hk47 s
  show hW Z rtM s.2 47 [(0, .ref (h_b Z + 0)), (3, .int v3), (4, .int s.1)] [] (fX10_run_L47 v3 k47 s)
  unfold fX10_run_L47
  refine x_iload hz dX10_run_47 2 rfl ?_
  refine x_iconst hz 1 dX10_run_49 rfl ?_
  refine x_iadd hz dX10_run_50 ?_
  refine x_aload_n hz dX10_run_51 rfl 0 rfl ?_
  refine x_geti hz sm_0 fl_X10_105 rfl dX10_run_52 ?_
  refine x_icmp_ge hz dX10_run_55 ?_ ?_
  · refine x_aload_n hz dX10_run_128 rfl 0 rfl ?_
    refine x_dup hz dX10_run_129 rfl ?_
    refine x_geti hz sm_0 fl_X10_105 rfl dX10_run_130 ?_
    refine x_iconst hz 1 dX10_run_133 rfl ?_
    refine x_isub hz dX10_run_134 ?_
    refine x_puti hz sm_0 fp_X10_105 rfl dX10_run_135 ?_
    refine x_iload_n hz dX10_run_138 rfl 1 rfl ?_
    exact x_iret hz rfl dX10_run_139
  refine x_aload_n hz dX10_run_58 rfl 0 rfl ?_
  refine x_getr hz sm_0 fl_X10_19 rfl rm_0_4 (by decide) dX10_run_59 ?_
  refine x_iload hz dX10_run_62 2 rfl ?_
  refine x_aload_n hz dX10_run_64 rfl 0 rfl ?_
  refine x_getr hz sm_0 fl_X10_19 rfl rm_0_4 (by decide) dX10_run_65 ?_
  refine x_iload hz dX10_run_68 2 rfl ?_
  refine x_iconst hz 1 dX10_run_70 rfl ?_
  refine x_iadd hz dX10_run_71 ?_
  refine x_iald hz sm_4 dX10_run_72 (fun hi72 => ?_)
  refine x_iast hz sm_4 dX10_run_73 (fun hi73 => ?_)
  refine x_aload_n hz dX10_run_74 rfl 0 rfl ?_
  refine x_getr hz sm_0 fl_X10_22 rfl rm_0_5 (by decide) dX10_run_75 ?_
  refine x_iload hz dX10_run_78 2 rfl ?_
  refine x_aload_n hz dX10_run_80 rfl 0 rfl ?_
  refine x_getr hz sm_0 fl_X10_22 rfl rm_0_5 (by decide) dX10_run_81 ?_
  refine x_iload hz dX10_run_84 2 rfl ?_
  refine x_iconst hz 1 dX10_run_86 rfl ?_
  refine x_iadd hz dX10_run_87 ?_
  refine x_iald hz sm_5 dX10_run_88 (fun hi88 => ?_)
  refine x_iast hz sm_5 dX10_run_89 (fun hi89 => ?_)
  refine x_aload_n hz dX10_run_90 rfl 0 rfl ?_
  refine x_getr hz sm_0 fl_X10_25 rfl rm_0_6 (by decide) dX10_run_91 ?_
  refine x_iload hz dX10_run_94 2 rfl ?_
  refine x_aload_n hz dX10_run_96 rfl 0 rfl ?_
  refine x_getr hz sm_0 fl_X10_25 rfl rm_0_6 (by decide) dX10_run_97 ?_
  refine x_iload hz dX10_run_100 2 rfl ?_
  refine x_iconst hz 1 dX10_run_102 rfl ?_
  refine x_iadd hz dX10_run_103 ?_
  refine x_iald hz sm_6 dX10_run_104 (fun hi104 => ?_)
  refine x_iast hz sm_6 dX10_run_105 (fun hi105 => ?_)
  exact x_sub [0, 1, 2] rfl (wX10_run_L106 hz v3 s.1 (h_up (h_up (h_up s.2 4 s.1.toNatClampNeg (s.2 4 (s.1 + 1).toNatClampNeg)) 5 s.1.toNatClampNeg ((h_up s.2 4 s.1.toNatClampNeg (s.2 4 (s.1 + 1).toNatClampNeg)) 5 (s.1 + 1).toNatClampNeg)) 6 s.1.toNatClampNeg ((h_up (h_up s.2 4 s.1.toNatClampNeg (s.2 4 (s.1 + 1).toNatClampNeg)) 5 s.1.toNatClampNeg ((h_up s.2 4 s.1.toNatClampNeg (s.2 4 (s.1 + 1).toNatClampNeg)) 5 (s.1 + 1).toNatClampNeg)) 6 (s.1 + 1).toNatClampNeg)) hk47)
set_option maxRecDepth 10000 in
set_option maxHeartbeats 4000000 in
theorem wX10_run {Z : hZ} {n : Nat} (hz : hOK Z hYm cX10_run RX10 5 (n + 7) (some .int)) (a1 : Int32) (a2 : Int32) (M : hMem) : hW Z rtM M 0 [(0, .ref (h_b Z + 0)), (1, .int a1), (2, .int a2)] [] (fX10_run a1 a2 M) := by
  unfold fX10_run
  refine x_aload_n hz dX10_run_0 rfl 0 rfl ?_
  refine x_iload_n hz dX10_run_1 rfl 1 rfl ?_
  refine x_iload_n hz dX10_run_2 rfl 2 rfl ?_
  refine x_callV hz mv_X10_255 sm_0 (by decide) rfl rfl (kX10_areThere (n := (n + 4)) a1 a2 M) rfl (av := [.int a1, .int a2]) (rest := []) rfl rfl (Nat.le_of_ble_eq_true rfl) dX10_run_3 ?_
  refine x_if_ne hz dX10_run_6 ?_ ?_
  · refine x_aload_n hz dX10_run_12 rfl 0 rfl ?_
    refine x_iload_n hz dX10_run_13 rfl 1 rfl ?_
    refine x_iload_n hz dX10_run_14 rfl 2 rfl ?_
    refine x_bind (fun q15 hq15 => ?_)
    refine x_callV hz mv_X10_258 sm_0 (by decide) rfl rfl (kX10_hadBy (n := n) a1 a2 M q15 hq15) rfl (av := [.int a1, .int a2]) (rest := []) rfl rfl (Nat.le_of_ble_eq_true rfl) dX10_run_15 ?_
    refine x_istore_n hz [(3, .int q15.1), (0, .ref (h_b Z + 0)), (1, .int a1), (2, .int a2)] dX10_run_18 rfl rfl rfl ?_
    refine x_iload_n hz dX10_run_19 rfl 0 rfl ?_
    refine x_iconst hz (-1) dX10_run_20 rfl ?_
    refine x_icmp_ne hz dX10_run_21 ?_ ?_
    · refine x_aload_n hz dX10_run_27 rfl 1 rfl ?_
      refine x_getr hz sm_0 fl_X10_31 rfl rm_0_9 (by decide) dX10_run_28 ?_
      refine x_iconst hz 3 dX10_run_31 rfl ?_
      refine x_iload_n hz dX10_run_32 rfl 3 rfl ?_
      refine x_imul hz dX10_run_33 ?_
      refine x_aload_n hz dX10_run_34 rfl 1 rfl ?_
      refine x_geti hz sm_0 fl_X10_211 rfl dX10_run_35 ?_
      refine x_iast hz sm_8 dX10_run_38 (fun hi38 => ?_)
      refine x_aload_n hz dX10_run_39 rfl 1 rfl ?_
      refine x_iload_n hz dX10_run_40 rfl 0 rfl ?_
      refine x_bind (fun q41 hq41 => ?_)
      refine x_callV hz mv_X10_242 sm_0 (by decide) rfl rfl (kX10_passes (n := n) q15.1 (h_up q15.2 8 (3 * a2).toNatClampNeg (q15.2 0 36)) q41 hq41) rfl (av := [.int q15.1]) (rest := []) rfl rfl (Nat.le_of_ble_eq_true rfl) dX10_run_41 ?_
      refine x_iload_n hz dX10_run_44 rfl 2 rfl ?_
      refine x_istore hz [(4, .int a1), (3, .int q15.1), (0, .ref (h_b Z + 0)), (1, .int a1), (2, .int a2)] dX10_run_45 rfl rfl ?_
      exact x_sub [2, 1, 0] rfl (wX10_run_L47 hz q15.1 h_FU (a1, q41))
    refine x_bipush hz (-3) dX10_run_24 rfl ?_
    exact x_iret hz rfl dX10_run_26
  refine x_bipush hz (-5) dX10_run_9 rfl ?_
  exact x_iret hz rfl dX10_run_11
theorem kX10_run {l : Launch} {dd : hDD} {b n : Nat} (a1 : Int32) (a2 : Int32) (M : hMem) (r : Int32 × hMem) (h : fX10_run a1 a2 M = some r) : hC l hYm dd b yX10_run cX10_run 5 (some .int) (n + 7) [.ref (b + 0), .int a1, .int a2] M (some (.int r.1), r.2) :=
  h_met (av := fun b => [.ref (b + 0), .int a1, .int a2]) (rt := rtM) (by decide) (Nat.le_of_ble_eq_true rfl) (fun Z hz => wX10_run (n := n) hz a1 a2 M) r h
set_option maxRecDepth 10000 in
set_option maxHeartbeats 4000000 in
theorem wX10_squareHeld {Z : hZ} {n : Nat} (hz : hOK Z hYm cX10_squareHeld RX10 6 (n + 6) (some .int)) (a1 : Int32) (a2 : Int32) (a3 : Int32) (a4 : Int32) (M : hMem) : hW Z rtM M 0 [(0, .ref (h_b Z + 0)), (1, .int a1), (2, .int a2), (3, .int a3), (4, .int a4)] [] (fX10_squareHeld a1 a2 a3 a4 M) := by
  unfold fX10_squareHeld
  refine x_aload_n hz dX10_squareHeld_0 rfl 0 rfl ?_
  refine x_iload_n hz dX10_squareHeld_1 rfl 3 rfl ?_
  refine x_puti hz sm_0 fp_X10_214 rfl dX10_squareHeld_2 ?_
  refine x_aload_n hz dX10_squareHeld_5 rfl 0 rfl ?_
  refine x_iload hz dX10_squareHeld_6 4 rfl ?_
  refine x_puti hz sm_0 fp_X10_217 rfl dX10_squareHeld_8 ?_
  refine x_aload_n hz dX10_squareHeld_11 rfl 0 rfl ?_
  refine x_iload_n hz dX10_squareHeld_12 rfl 1 rfl ?_
  refine x_iload_n hz dX10_squareHeld_13 rfl 2 rfl ?_
  refine x_bind (fun q14 hq14 => ?_)
  refine x_callV hz mv_X10_239 sm_0 (by decide) rfl rfl (kX10_squareBehind (n := n) a1 a2 (h_up (h_up M 0 38 a3) 0 39 a4) q14 hq14) rfl (av := [.int a1, .int a2]) (rest := []) rfl rfl (Nat.le_of_ble_eq_true rfl) dX10_squareHeld_14 ?_
  refine x_istore hz [(5, .int q14.1), (0, .ref (h_b Z + 0)), (1, .int a1), (2, .int a2), (3, .int a3), (4, .int a4)] dX10_squareHeld_17 rfl rfl ?_
  refine x_aload_n hz dX10_squareHeld_19 rfl 1 rfl ?_
  refine x_iconst hz 0 dX10_squareHeld_20 rfl ?_
  refine x_puti hz sm_0 fp_X10_217 rfl dX10_squareHeld_21 ?_
  refine x_iload hz dX10_squareHeld_24 0 rfl ?_
  exact x_iret hz rfl dX10_squareHeld_26
theorem kX10_squareHeld {l : Launch} {dd : hDD} {b n : Nat} (a1 : Int32) (a2 : Int32) (a3 : Int32) (a4 : Int32) (M : hMem) (r : Int32 × hMem) (h : fX10_squareHeld a1 a2 a3 a4 M = some r) : hC l hYm dd b yX10_squareHeld cX10_squareHeld 6 (some .int) (n + 6) [.ref (b + 0), .int a1, .int a2, .int a3, .int a4] M (some (.int r.1), r.2) :=
  h_met (av := fun b => [.ref (b + 0), .int a1, .int a2, .int a3, .int a4]) (rt := rtM) (by decide) (Nat.le_of_ble_eq_true rfl) (fun Z hz => wX10_squareHeld (n := n) hz a1 a2 a3 a4 M) r h
set_option maxRecDepth 10000 in
set_option maxHeartbeats 4000000 in
theorem wX10_held {Z : hZ} {n : Nat} (hz : hOK Z hYm cX10_held RX10 4 (n + 7) (some .int)) (a1 : Int32) (a2 : Int32) (a3 : Int32) (M : hMem) : hW Z rtM M 0 [(0, .ref (h_b Z + 0)), (1, .int a1), (2, .int a2), (3, .int a3)] [] (fX10_held a1 a2 a3 M) := by
  unfold fX10_held
  refine x_aload_n hz dX10_held_0 rfl 0 rfl ?_
  refine x_iload_n hz dX10_held_1 rfl 1 rfl ?_
  refine x_callV hz mv_X10_199 sm_0 (by decide) rfl rfl (kX10_isHat (n := (n + 5)) a1 M) rfl (av := [.int a1]) (rest := []) rfl rfl (Nat.le_of_ble_eq_true rfl) dX10_held_2 ?_
  refine x_if_ne hz dX10_held_5 ?_ ?_
  · refine x_iload_n hz dX10_held_11 rfl 2 rfl ?_
    refine x_callS hz ms_X10_189 (kX10_areSeconds (n := (n + 5)) a2 M) rfl (av := [.int a2]) (rest := []) rfl rfl (Nat.le_of_ble_eq_true rfl) dX10_held_12 ?_
    refine x_if_eq hz dX10_held_15 ?_ ?_
    · refine x_bipush hz (-7) dX10_held_40 rfl ?_
      exact x_iret hz rfl dX10_held_42
    refine x_iload_n hz dX10_held_18 rfl 3 rfl ?_
    refine x_if_lt hz dX10_held_19 ?_ ?_
    · refine x_bipush hz (-7) dX10_held_40 rfl ?_
      exact x_iret hz rfl dX10_held_42
    refine x_iload_n hz dX10_held_22 rfl 3 rfl ?_
    refine x_bipush hz 100 dX10_held_23 rfl ?_
    refine x_idiv hz dX10_held_25 (by decide) ?_
    refine x_bipush hz 24 dX10_held_26 rfl ?_
    refine x_icmp_ge hz dX10_held_28 ?_ ?_
    · refine x_bipush hz (-7) dX10_held_40 rfl ?_
      exact x_iret hz rfl dX10_held_42
    refine x_iload_n hz dX10_held_31 rfl 3 rfl ?_
    refine x_bipush hz 100 dX10_held_32 rfl ?_
    refine x_irem hz dX10_held_34 (by decide) ?_
    refine x_bipush hz 24 dX10_held_35 rfl ?_
    refine x_icmp_le hz dX10_held_37 ?_ ?_
    · refine x_aload_n hz dX10_held_43 rfl 0 rfl ?_
      refine x_iload_n hz dX10_held_44 rfl 1 rfl ?_
      refine x_iload_n hz dX10_held_45 rfl 2 rfl ?_
      refine x_iload_n hz dX10_held_46 rfl 3 rfl ?_
      refine x_bipush hz 100 dX10_held_47 rfl ?_
      refine x_idiv hz dX10_held_49 (by decide) ?_
      refine x_iload_n hz dX10_held_50 rfl 3 rfl ?_
      refine x_bipush hz 100 dX10_held_51 rfl ?_
      refine x_irem hz dX10_held_53 (by decide) ?_
      refine x_bind (fun q54 hq54 => ?_)
      refine x_callV hz mv_X10_270 sm_0 (by decide) rfl rfl (kX10_squareHeld (n := n) a1 a2 (a3 / 100) (h_rem a3 100) M q54 hq54) rfl (av := [.int a1, .int a2, .int (a3 / 100), .int (h_rem a3 100)]) (rest := []) rfl rfl (Nat.le_of_ble_eq_true rfl) dX10_held_54 ?_
      exact x_iret hz rfl dX10_held_57
    refine x_bipush hz (-7) dX10_held_40 rfl ?_
    exact x_iret hz rfl dX10_held_42
  refine x_bipush hz (-5) dX10_held_8 rfl ?_
  exact x_iret hz rfl dX10_held_10
theorem kX10_held {l : Launch} {dd : hDD} {b n : Nat} (a1 : Int32) (a2 : Int32) (a3 : Int32) (M : hMem) (r : Int32 × hMem) (h : fX10_held a1 a2 a3 M = some r) : hC l hYm dd b yX10_held cX10_held 4 (some .int) (n + 7) [.ref (b + 0), .int a1, .int a2, .int a3] M (some (.int r.1), r.2) :=
  h_met (av := fun b => [.ref (b + 0), .int a1, .int a2, .int a3]) (rt := rtM) (by decide) (Nat.le_of_ble_eq_true rfl) (fun Z hz => wX10_held (n := n) hz a1 a2 a3 M) r h
set_option maxRecDepth 10000 in
set_option maxHeartbeats 4000000 in
theorem wX10_save_L38 {Z : hZ} {n : Nat} (hz : hOK Z hYm cX10_save RX10 4 (n + 7) (some .int))  (v1 : Int32) (v2 : Int32)  {k30 : (Int32 × hMem) → Option (Int32 × hMem)} (hk30 : ∀ s, hW Z rtM s.2 30 [(0, .ref (h_b Z + 0)), (1, .int v1), (2, .int s.1)] [] (k30 s)) : ∀ (i : Nat) (s : Int32 × hMem), hW Z rtM s.2 38 [(0, .ref (h_b Z + 0)), (1, .int v1), (2, .int v2), (3, .int s.1)] [] (h_lp (fX10_save_L38 k30 v1 v2) i s) := by
  refine x_loop (Ms := fun s : Int32 × hMem => s.2) (Ls := fun s : Int32 × hMem => [(0, .ref (h_b Z + 0)), (1, .int v1), (2, .int v2), (3, .int s.1)]) ?_
  intro k38 hk38 s
  show hW Z rtM s.2 38 [(0, .ref (h_b Z + 0)), (1, .int v1), (2, .int v2), (3, .int s.1)] [] (fX10_save_L38 k30 v1 v2 k38 s)
  unfold fX10_save_L38
  refine x_iload_n hz dX10_save_38 rfl 3 rfl ?_
  refine x_bipush hz 24 dX10_save_39 rfl ?_
  refine x_icmp_ge hz dX10_save_41 ?_ ?_
  · refine x_iinc hz (v2 + 1) [(2, .int (v2 + 1)), (0, .ref (h_b Z + 0)), (1, .int v1), (3, .int s.1)] dX10_save_74 2 rfl rfl rfl rfl ?_
    refine x_goto hz dX10_save_77 ?_
    exact x_sub [1, 2, 0] rfl (hk30 (v2 + 1, s.2))
  refine x_aload_n hz dX10_save_44 rfl 0 rfl ?_
  refine x_iconst hz 1 dX10_save_45 rfl ?_
  refine x_aload_n hz dX10_save_46 rfl 0 rfl ?_
  refine x_iload_n hz dX10_save_47 rfl 1 rfl ?_
  refine x_bipush hz 24 dX10_save_48 rfl ?_
  refine x_iload_n hz dX10_save_50 rfl 3 rfl ?_
  refine x_iload_n hz dX10_save_51 rfl 2 rfl ?_
  refine x_bind (fun q52 hq52 => ?_)
  refine x_callV hz mv_X10_270 sm_0 (by decide) rfl rfl (kX10_squareHeld (n := n) v1 24 s.1 v2 s.2 q52 hq52) rfl (av := [.int v1, .int 24, .int s.1, .int v2]) (rest := [.int 1, .ref (h_b Z + 0)]) rfl rfl (Nat.le_of_ble_eq_true rfl) dX10_save_52 ?_
  refine x_bind (fun q55 hq55 => ?_)
  refine x_callV hz mv_X10_101 sm_0 (by decide) rfl rfl (kX10_has (n := (n + 6)) 1 q52.1 q52.2 q55 hq55) rfl (av := [.int 1, .int q52.1]) (rest := []) rfl rfl (Nat.le_of_ble_eq_true rfl) dX10_save_55 ?_
  refine x_if_ne hz dX10_save_58 ?_ ?_
  · refine x_iinc hz (s.1 + 1) [(3, .int (s.1 + 1)), (0, .ref (h_b Z + 0)), (1, .int v1), (2, .int v2)] dX10_save_68 3 rfl rfl rfl rfl ?_
    refine x_goto hz dX10_save_71 ?_
    exact x_sub [1, 2, 3, 0] rfl (hk38 (s.1 + 1, q52.2))
  refine x_bipush hz 100 dX10_save_61 rfl ?_
  refine x_iload_n hz dX10_save_63 rfl 3 rfl ?_
  refine x_imul hz dX10_save_64 ?_
  refine x_iload_n hz dX10_save_65 rfl 2 rfl ?_
  refine x_iadd hz dX10_save_66 ?_
  exact x_iret hz rfl dX10_save_67
set_option maxRecDepth 10000 in
set_option maxHeartbeats 4000000 in
theorem wX10_save_L30 {Z : hZ} {n : Nat} (hz : hOK Z hYm cX10_save RX10 4 (n + 7) (some .int))  (v1 : Int32)   : ∀ (i : Nat) (s : Int32 × hMem), hW Z rtM s.2 30 [(0, .ref (h_b Z + 0)), (1, .int v1), (2, .int s.1)] [] (h_lp (fX10_save_L30 v1) i s) := by
  refine x_loop (Ms := fun s : Int32 × hMem => s.2) (Ls := fun s : Int32 × hMem => [(0, .ref (h_b Z + 0)), (1, .int v1), (2, .int s.1)]) ?_
  intro k30 hk30 s
  show hW Z rtM s.2 30 [(0, .ref (h_b Z + 0)), (1, .int v1), (2, .int s.1)] [] (fX10_save_L30 v1 k30 s)
  unfold fX10_save_L30
  refine x_iload_n hz dX10_save_30 rfl 2 rfl ?_
  refine x_bipush hz 24 dX10_save_31 rfl ?_
  refine x_icmp_gt hz dX10_save_33 ?_ ?_
  · refine x_iconst hz (-1) dX10_save_80 rfl ?_
    exact x_iret hz rfl dX10_save_81
  refine x_iconst hz 0 dX10_save_36 rfl ?_
  refine x_istore_n hz [(3, .int 0), (0, .ref (h_b Z + 0)), (1, .int v1), (2, .int s.1)] dX10_save_37 rfl rfl rfl ?_
  exact x_sub [1, 2, 3, 0] rfl (wX10_save_L38 hz v1 s.1 hk30 h_FU (0, s.2))
set_option maxRecDepth 10000 in
set_option maxHeartbeats 4000000 in
theorem wX10_save {Z : hZ} {n : Nat} (hz : hOK Z hYm cX10_save RX10 4 (n + 7) (some .int)) (a1 : Int32) (M : hMem) : hW Z rtM M 0 [(0, .ref (h_b Z + 0)), (1, .int a1)] [] (fX10_save a1 M) := by
  unfold fX10_save
  refine x_aload_n hz dX10_save_0 rfl 0 rfl ?_
  refine x_iload_n hz dX10_save_1 rfl 1 rfl ?_
  refine x_callV hz mv_X10_199 sm_0 (by decide) rfl rfl (kX10_isHat (n := (n + 5)) a1 M) rfl (av := [.int a1]) (rest := []) rfl rfl (Nat.le_of_ble_eq_true rfl) dX10_save_2 ?_
  refine x_if_ne hz dX10_save_5 ?_ ?_
  · refine x_aload_n hz dX10_save_11 rfl 0 rfl ?_
    refine x_iconst hz 1 dX10_save_12 rfl ?_
    refine x_aload_n hz dX10_save_13 rfl 0 rfl ?_
    refine x_iload_n hz dX10_save_14 rfl 1 rfl ?_
    refine x_bipush hz 24 dX10_save_15 rfl ?_
    refine x_bind (fun q17 hq17 => ?_)
    refine x_callV hz mv_X10_239 sm_0 (by decide) rfl rfl (kX10_squareBehind (n := (n + 1)) a1 24 M q17 hq17) rfl (av := [.int a1, .int 24]) (rest := [.int 1, .ref (h_b Z + 0)]) rfl rfl (Nat.le_of_ble_eq_true rfl) dX10_save_17 ?_
    refine x_bind (fun q20 hq20 => ?_)
    refine x_callV hz mv_X10_101 sm_0 (by decide) rfl rfl (kX10_has (n := (n + 6)) 1 q17.1 q17.2 q20 hq20) rfl (av := [.int 1, .int q17.1]) (rest := []) rfl rfl (Nat.le_of_ble_eq_true rfl) dX10_save_20 ?_
    refine x_if_ne hz dX10_save_23 ?_ ?_
    · refine x_iconst hz 1 dX10_save_28 rfl ?_
      refine x_istore_n hz [(2, .int 1), (0, .ref (h_b Z + 0)), (1, .int a1)] dX10_save_29 rfl rfl rfl ?_
      exact x_sub [1, 2, 0] rfl (wX10_save_L30 hz a1 h_FU (1, q17.2))
    refine x_iconst hz 0 dX10_save_26 rfl ?_
    exact x_iret hz rfl dX10_save_27
  refine x_bipush hz (-5) dX10_save_8 rfl ?_
  exact x_iret hz rfl dX10_save_10
theorem kX10_save {l : Launch} {dd : hDD} {b n : Nat} (a1 : Int32) (M : hMem) (r : Int32 × hMem) (h : fX10_save a1 M = some r) : hC l hYm dd b yX10_save cX10_save 4 (some .int) (n + 7) [.ref (b + 0), .int a1] M (some (.int r.1), r.2) :=
  h_met (av := fun b => [.ref (b + 0), .int a1]) (rt := rtM) (by decide) (Nat.le_of_ble_eq_true rfl) (fun Z hz => wX10_save (n := n) hz a1 M) r h
set_option maxRecDepth 10000 in
set_option maxHeartbeats 4000000 in
theorem wX10_turned_L45 {Z : hZ} {n : Nat} (hz : hOK Z hYm cX10_turned RX10 7 (n + 6) (some .int))  (v1 : Int32) (v2 : Int32) (v3 : Int32) (v4 : Int32)   : ∀ (i : Nat) (s : Int32 × Int32 × hMem), hW Z rtM s.2.2 45 [(0, .ref (h_b Z + 0)), (1, .int v1), (2, .int v2), (3, .int v3), (4, .int v4), (5, .int s.1), (6, .int s.2.1)] [] (h_lp (fX10_turned_L45 v1 v2 v3 v4) i s) := by
  refine x_loop (Ms := fun s : Int32 × Int32 × hMem => s.2.2) (Ls := fun s : Int32 × Int32 × hMem => [(0, .ref (h_b Z + 0)), (1, .int v1), (2, .int v2), (3, .int v3), (4, .int v4), (5, .int s.1), (6, .int s.2.1)]) ?_
  intro k45 hk45 s
  show hW Z rtM s.2.2 45 [(0, .ref (h_b Z + 0)), (1, .int v1), (2, .int v2), (3, .int v3), (4, .int v4), (5, .int s.1), (6, .int s.2.1)] [] (fX10_turned_L45 v1 v2 v3 v4 k45 s)
  unfold fX10_turned_L45
  refine x_iload hz dX10_turned_45 6 rfl ?_
  refine x_iconst hz 4 dX10_turned_47 rfl ?_
  refine x_icmp_gt hz dX10_turned_48 ?_ ?_
  · refine x_aload_n hz dX10_turned_89 rfl 0 rfl ?_
    refine x_getr hz sm_0 fl_X10_13 rfl rm_0_1 (by decide) dX10_turned_90 ?_
    refine x_iload_n hz dX10_turned_93 rfl 2 rfl ?_
    refine x_iload hz dX10_turned_94 4 rfl ?_
    refine x_iast hz sm_2 dX10_turned_96 (fun hi96 => ?_)
    refine x_iload hz dX10_turned_97 5 rfl ?_
    exact x_iret hz rfl dX10_turned_99
  refine x_aload_n hz dX10_turned_51 rfl 0 rfl ?_
  refine x_getr hz sm_0 fl_X10_13 rfl rm_0_1 (by decide) dX10_turned_52 ?_
  refine x_iload_n hz dX10_turned_55 rfl 2 rfl ?_
  refine x_iload hz dX10_turned_56 6 rfl ?_
  refine x_iast hz sm_2 dX10_turned_58 (fun hi58 => ?_)
  refine x_iload hz dX10_turned_59 5 rfl ?_
  refine x_aload_n hz dX10_turned_61 rfl 0 rfl ?_
  refine x_iload_n hz dX10_turned_62 rfl 1 rfl ?_
  refine x_bipush hz 24 dX10_turned_63 rfl ?_
  refine x_bind (fun q65 hq65 => ?_)
  refine x_callV hz mv_X10_239 sm_0 (by decide) rfl rfl (kX10_squareBehind (n := n) v1 24 (h_up s.2.2 2 v2.toNatClampNeg s.2.1) q65 hq65) rfl (av := [.int v1, .int 24]) (rest := [.int s.1]) rfl rfl (Nat.le_of_ble_eq_true rfl) dX10_turned_65 ?_
  refine x_iload_n hz dX10_turned_68 rfl 3 rfl ?_
  refine x_icmp_ne hz dX10_turned_69 ?_ ?_
  · refine x_iconst hz 0 dX10_turned_79 rfl ?_
    refine x_ior hz dX10_turned_80 ?_
    refine x_istore hz [(5, .int (s.1 ||| 0)), (0, .ref (h_b Z + 0)), (1, .int v1), (2, .int v2), (3, .int v3), (4, .int v4), (6, .int s.2.1)] dX10_turned_81 rfl rfl ?_
    refine x_iinc hz (s.2.1 + 1) [(6, .int (s.2.1 + 1)), (5, .int (s.1 ||| 0)), (0, .ref (h_b Z + 0)), (1, .int v1), (2, .int v2), (3, .int v3), (4, .int v4)] dX10_turned_83 6 rfl rfl rfl rfl ?_
    refine x_goto hz dX10_turned_86 ?_
    exact x_sub [2, 3, 4, 5, 6, 1, 0] rfl (hk45 (s.1 ||| 0, s.2.1 + 1, q65.2))
  refine x_iconst hz 1 dX10_turned_72 rfl ?_
  refine x_iload hz dX10_turned_73 6 rfl ?_
  refine x_ishl hz dX10_turned_75 ?_
  refine x_goto hz dX10_turned_76 ?_
  refine x_ior hz dX10_turned_80 ?_
  refine x_istore hz [(5, .int (s.1 ||| (1 <<< (s.2.1 &&& 31)))), (0, .ref (h_b Z + 0)), (1, .int v1), (2, .int v2), (3, .int v3), (4, .int v4), (6, .int s.2.1)] dX10_turned_81 rfl rfl ?_
  refine x_iinc hz (s.2.1 + 1) [(6, .int (s.2.1 + 1)), (5, .int (s.1 ||| (1 <<< (s.2.1 &&& 31)))), (0, .ref (h_b Z + 0)), (1, .int v1), (2, .int v2), (3, .int v3), (4, .int v4)] dX10_turned_83 6 rfl rfl rfl rfl ?_
  refine x_goto hz dX10_turned_86 ?_
  exact x_sub [2, 3, 4, 5, 6, 1, 0] rfl (hk45 (s.1 ||| (1 <<< (s.2.1 &&& 31)), s.2.1 + 1, q65.2))
set_option maxRecDepth 10000 in
set_option maxHeartbeats 4000000 in
theorem wX10_turned {Z : hZ} {n : Nat} (hz : hOK Z hYm cX10_turned RX10 7 (n + 6) (some .int)) (a1 : Int32) (a2 : Int32) (a3 : Int32) (M : hMem) : hW Z rtM M 0 [(0, .ref (h_b Z + 0)), (1, .int a1), (2, .int a2), (3, .int a3)] [] (fX10_turned a1 a2 a3 M) := by
  unfold fX10_turned
  refine x_aload_n hz dX10_turned_0 rfl 0 rfl ?_
  refine x_iload_n hz dX10_turned_1 rfl 1 rfl ?_
  refine x_callV hz mv_X10_199 sm_0 (by decide) rfl rfl (kX10_isHat (n := (n + 4)) a1 M) rfl (av := [.int a1]) (rest := []) rfl rfl (Nat.le_of_ble_eq_true rfl) dX10_turned_2 ?_
  refine x_if_ne hz dX10_turned_5 ?_ ?_
  · refine x_iload_n hz dX10_turned_11 rfl 2 rfl ?_
    refine x_iconst hz 0 dX10_turned_12 rfl ?_
    refine x_bipush hz 23 dX10_turned_13 rfl ?_
    refine x_callS hz ms_X10_93 (kX10_in (n := (n + 5)) a2 0 23 M) rfl (av := [.int a2, .int 0, .int 23]) (rest := []) rfl rfl (Nat.le_of_ble_eq_true rfl) dX10_turned_15 ?_
    refine x_if_eq hz dX10_turned_18 ?_ ?_
    · refine x_bipush hz (-7) dX10_turned_28 rfl ?_
      exact x_iret hz rfl dX10_turned_30
    refine x_iload_n hz dX10_turned_21 rfl 3 rfl ?_
    refine x_callS hz ms_X10_97 (kX10_isSquare (n := (n + 4)) a3 M) rfl (av := [.int a3]) (rest := []) rfl rfl (Nat.le_of_ble_eq_true rfl) dX10_turned_22 ?_
    refine x_if_ne hz dX10_turned_25 ?_ ?_
    · refine x_aload_n hz dX10_turned_31 rfl 0 rfl ?_
      refine x_getr hz sm_0 fl_X10_13 rfl rm_0_1 (by decide) dX10_turned_32 ?_
      refine x_iload_n hz dX10_turned_35 rfl 2 rfl ?_
      refine x_iald hz sm_2 dX10_turned_36 (fun hi36 => ?_)
      refine x_istore hz [(4, .int (M 2 a2.toNatClampNeg)), (0, .ref (h_b Z + 0)), (1, .int a1), (2, .int a2), (3, .int a3)] dX10_turned_37 rfl rfl ?_
      refine x_iconst hz 0 dX10_turned_39 rfl ?_
      refine x_istore hz [(5, .int 0), (4, .int (M 2 a2.toNatClampNeg)), (0, .ref (h_b Z + 0)), (1, .int a1), (2, .int a2), (3, .int a3)] dX10_turned_40 rfl rfl ?_
      refine x_iconst hz 0 dX10_turned_42 rfl ?_
      refine x_istore hz [(6, .int 0), (5, .int 0), (4, .int (M 2 a2.toNatClampNeg)), (0, .ref (h_b Z + 0)), (1, .int a1), (2, .int a2), (3, .int a3)] dX10_turned_43 rfl rfl ?_
      exact x_sub [3, 4, 5, 6, 2, 1, 0] rfl (wX10_turned_L45 hz a1 a2 a3 (M 2 a2.toNatClampNeg) h_FU (0, 0, M))
    refine x_bipush hz (-7) dX10_turned_28 rfl ?_
    exact x_iret hz rfl dX10_turned_30
  refine x_bipush hz (-5) dX10_turned_8 rfl ?_
  exact x_iret hz rfl dX10_turned_10
theorem kX10_turned {l : Launch} {dd : hDD} {b n : Nat} (a1 : Int32) (a2 : Int32) (a3 : Int32) (M : hMem) (r : Int32 × hMem) (h : fX10_turned a1 a2 a3 M = some r) : hC l hYm dd b yX10_turned cX10_turned 7 (some .int) (n + 6) [.ref (b + 0), .int a1, .int a2, .int a3] M (some (.int r.1), r.2) :=
  h_met (av := fun b => [.ref (b + 0), .int a1, .int a2, .int a3]) (rt := rtM) (by decide) (Nat.le_of_ble_eq_true rfl) (fun Z hz => wX10_turned (n := n) hz a1 a2 a3 M) r h
set_option maxRecDepth 10000 in
set_option maxHeartbeats 4000000 in
theorem wX10_isSooner {Z : hZ} {n : Nat} (hz : hOK Z hYm cX10_isSooner RX10 2 (n + 0) (some .boolean)) (a0 : Int32) (a1 : Int32) (M : hMem) : hW Z (rtP M) M 0 [(0, .int a0), (1, .int a1)] [] (some (fX10_isSooner a0 a1 M)) := by
  unfold fX10_isSooner
  refine x_iload_n hz dX10_isSooner_0 rfl 0 rfl ?_
  refine x_iconst hz (-1) dX10_isSooner_1 rfl ?_
  refine x_pull ?_
  refine x_icmp_eq hz dX10_isSooner_2 ?_ ?_
  · refine x_iconst hz 0 dX10_isSooner_19 rfl ?_
    exact x_zret hz rfl rfl dX10_isSooner_20
  refine x_iload_n hz dX10_isSooner_5 rfl 1 rfl ?_
  refine x_iconst hz (-1) dX10_isSooner_6 rfl ?_
  refine x_pull ?_
  refine x_icmp_eq hz dX10_isSooner_7 ?_ ?_
  · refine x_iconst hz 1 dX10_isSooner_15 rfl ?_
    refine x_goto hz dX10_isSooner_16 ?_
    exact x_zret hz rfl rfl dX10_isSooner_20
  refine x_iload_n hz dX10_isSooner_10 rfl 0 rfl ?_
  refine x_iload_n hz dX10_isSooner_11 rfl 1 rfl ?_
  refine x_pull ?_
  refine x_icmp_ge hz dX10_isSooner_12 ?_ ?_
  · refine x_iconst hz 0 dX10_isSooner_19 rfl ?_
    exact x_zret hz rfl rfl dX10_isSooner_20
  refine x_iconst hz 1 dX10_isSooner_15 rfl ?_
  refine x_goto hz dX10_isSooner_16 ?_
  exact x_zret hz rfl rfl dX10_isSooner_20
theorem bX10_isSooner (a0 : Int32) (a1 : Int32) (M : hMem) : narrow .boolean (.int (fX10_isSooner a0 a1 M)) = .int (fX10_isSooner a0 a1 M) := by
  unfold fX10_isSooner
  repeat (first | rfl | split)
theorem kX10_isSooner {l : Launch} {dd : hDD} {b n : Nat} (a0 : Int32) (a1 : Int32) (M : hMem) : hC l hYm dd b yX10_isSooner cX10_isSooner 2 (some .boolean) (n + 0) [.int a0, .int a1] M (some (.int (fX10_isSooner a0 a1 M)), M) :=
  h_met (av := fun b => [.int a0, .int a1]) (rt := (rtP M)) (by decide) (Nat.le_of_ble_eq_true rfl) (fun Z hz => wX10_isSooner (n := n) hz a0 a1 M) _ rfl
set_option maxRecDepth 10000 in
set_option maxHeartbeats 4000000 in
theorem wX10_lull_L100 {Z : hZ} {n : Nat} (hz : hOK Z hYm cX10_lull RX10 10 (n + 7) (some .int))  (v1 : Int32) (v2 : Int32) (v3 : Int32) (v5 : Int32) (v6 : Int32) (v8 : Int32) (v9 : Int32) (t0 : Int32) (M : hMem) {k38 : (Int32 × Int32 × Int32 × hMem) → Option (Int32 × hMem)} (hk38 : ∀ s, hW Z rtM s.2.2.2 38 [(0, .ref (h_b Z + 0)), (1, .int v1), (2, .int v2), (3, .int v3), (4, .int s.1), (5, .int s.2.1), (6, .int s.2.2.1)] [] (k38 s)) : hW Z rtM M 100 [(0, .ref (h_b Z + 0)), (1, .int v1), (2, .int v2), (3, .int v3), (5, .int v5), (6, .int v6), (8, .int v8), (9, .int v9)] [.int t0] (fX10_lull_L100 k38 v1 v2 v3 v5 v6 v8 v9 t0 M) := by
  unfold fX10_lull_L100
  refine x_istore hz [(4, .int t0), (0, .ref (h_b Z + 0)), (1, .int v1), (2, .int v2), (3, .int v3), (5, .int v5), (6, .int v6), (8, .int v8), (9, .int v9)] dX10_lull_100 rfl rfl ?_
  refine x_iload hz dX10_lull_102 8 rfl ?_
  refine x_if_eq hz dX10_lull_104 ?_ ?_
  · refine x_iload hz dX10_lull_112 5 rfl ?_
    refine x_istore hz [(5, .int v5), (4, .int t0), (0, .ref (h_b Z + 0)), (1, .int v1), (2, .int v2), (3, .int v3), (6, .int v6), (8, .int v8), (9, .int v9)] dX10_lull_114 rfl rfl ?_
    refine x_iinc hz (v6 + 1) [(6, .int (v6 + 1)), (5, .int v5), (4, .int t0), (0, .ref (h_b Z + 0)), (1, .int v1), (2, .int v2), (3, .int v3), (8, .int v8), (9, .int v9)] dX10_lull_116 6 rfl rfl rfl rfl ?_
    refine x_goto hz dX10_lull_119 ?_
    exact x_sub [3, 4, 5, 6, 2, 1, 0] rfl (hk38 (t0, v5, v6 + 1, M))
  refine x_iload hz dX10_lull_107 7 rfl ?_
  refine x_goto hz dX10_lull_109 ?_
  refine x_istore hz [(5, .int v8), (4, .int t0), (0, .ref (h_b Z + 0)), (1, .int v1), (2, .int v2), (3, .int v3), (6, .int v6), (8, .int v8), (9, .int v9)] dX10_lull_114 rfl rfl ?_
  refine x_iinc hz (v6 + 1) [(6, .int (v6 + 1)), (5, .int v8), (4, .int t0), (0, .ref (h_b Z + 0)), (1, .int v1), (2, .int v2), (3, .int v3), (8, .int v8), (9, .int v9)] dX10_lull_116 6 rfl rfl rfl rfl ?_
  refine x_goto hz dX10_lull_119 ?_
  exact x_sub [3, 4, 5, 6, 2, 1, 0] rfl (hk38 (t0, v8, v6 + 1, M))
set_option maxRecDepth 10000 in
set_option maxHeartbeats 4000000 in
theorem wX10_lull_L38 {Z : hZ} {n : Nat} (hz : hOK Z hYm cX10_lull RX10 10 (n + 7) (some .int))  (v1 : Int32) (v2 : Int32) (v3 : Int32)   : ∀ (i : Nat) (s : Int32 × Int32 × Int32 × hMem), hW Z rtM s.2.2.2 38 [(0, .ref (h_b Z + 0)), (1, .int v1), (2, .int v2), (3, .int v3), (4, .int s.1), (5, .int s.2.1), (6, .int s.2.2.1)] [] (h_lp (fX10_lull_L38 v1 v2 v3) i s) := by
  refine x_loop (Ms := fun s : Int32 × Int32 × Int32 × hMem => s.2.2.2) (Ls := fun s : Int32 × Int32 × Int32 × hMem => [(0, .ref (h_b Z + 0)), (1, .int v1), (2, .int v2), (3, .int v3), (4, .int s.1), (5, .int s.2.1), (6, .int s.2.2.1)]) ?_
  intro k38 hk38 s
  show hW Z rtM s.2.2.2 38 [(0, .ref (h_b Z + 0)), (1, .int v1), (2, .int v2), (3, .int v3), (4, .int s.1), (5, .int s.2.1), (6, .int s.2.2.1)] [] (fX10_lull_L38 v1 v2 v3 k38 s)
  unfold fX10_lull_L38
  refine x_iload hz dX10_lull_38 6 rfl ?_
  refine x_bipush hz 24 dX10_lull_40 rfl ?_
  refine x_icmp_ge hz dX10_lull_42 ?_ ?_
  · refine x_iload_n hz dX10_lull_122 rfl 3 rfl ?_
    refine x_if_ne hz dX10_lull_123 ?_ ?_
    · refine x_iload hz dX10_lull_131 5 rfl ?_
      exact x_iret hz rfl dX10_lull_133
    refine x_iload hz dX10_lull_126 4 rfl ?_
    refine x_goto hz dX10_lull_128 ?_
    exact x_iret hz rfl dX10_lull_133
  refine x_aload_n hz dX10_lull_45 rfl 0 rfl ?_
  refine x_getr hz sm_0 fl_X10_13 rfl rm_0_1 (by decide) dX10_lull_46 ?_
  refine x_iload hz dX10_lull_49 6 rfl ?_
  refine x_iald hz sm_2 dX10_lull_51 (fun hi51 => ?_)
  refine x_istore hz [(7, .int (s.2.2.2 2 s.2.2.1.toNatClampNeg)), (0, .ref (h_b Z + 0)), (1, .int v1), (2, .int v2), (3, .int v3), (4, .int s.1), (5, .int s.2.1), (6, .int s.2.2.1)] dX10_lull_52 rfl rfl ?_
  refine x_aload_n hz dX10_lull_54 rfl 1 rfl ?_
  refine x_getr hz sm_0 fl_X10_13 rfl rm_0_1 (by decide) dX10_lull_55 ?_
  refine x_iload hz dX10_lull_58 7 rfl ?_
  refine x_iconst hz 4 dX10_lull_60 rfl ?_
  refine x_iast hz sm_2 dX10_lull_61 (fun hi61 => ?_)
  refine x_aload_n hz dX10_lull_62 rfl 1 rfl ?_
  refine x_iload_n hz dX10_lull_63 rfl 2 rfl ?_
  refine x_iload_n hz dX10_lull_64 rfl 3 rfl ?_
  refine x_bind (fun q65 hq65 => ?_)
  refine x_callV hz mv_X10_258 sm_0 (by decide) rfl rfl (kX10_hadBy (n := n) v1 v2 (h_up s.2.2.2 2 s.2.2.1.toNatClampNeg 4) q65 hq65) rfl (av := [.int v1, .int v2]) (rest := []) rfl rfl (Nat.le_of_ble_eq_true rfl) dX10_lull_65 ?_
  refine x_istore hz [(8, .int q65.1), (7, .int (s.2.2.2 2 s.2.2.1.toNatClampNeg)), (0, .ref (h_b Z + 0)), (1, .int v1), (2, .int v2), (3, .int v3), (4, .int s.1), (5, .int s.2.1), (6, .int s.2.2.1)] dX10_lull_68 rfl rfl ?_
  refine x_aload_n hz dX10_lull_70 rfl 2 rfl ?_
  refine x_getr hz sm_0 fl_X10_13 rfl rm_0_1 (by decide) dX10_lull_71 ?_
  refine x_iload hz dX10_lull_74 8 rfl ?_
  refine x_iload hz dX10_lull_76 1 rfl ?_
  refine x_iast hz sm_2 dX10_lull_78 (fun hi78 => ?_)
  refine x_iload hz dX10_lull_79 0 rfl ?_
  refine x_iload hz dX10_lull_81 7 rfl ?_
  refine x_callS hz ms_X10_274 (kX10_isSooner (n := (n + 6)) q65.1 s.2.1 (h_up q65.2 2 s.2.2.1.toNatClampNeg (s.2.2.2 2 s.2.2.1.toNatClampNeg))) rfl (av := [.int q65.1, .int s.2.1]) (rest := []) rfl rfl (Nat.le_of_ble_eq_true rfl) dX10_lull_83 ?_
  refine x_istore hz [(9, .int (fX10_isSooner q65.1 s.2.1 (h_up q65.2 2 s.2.2.1.toNatClampNeg (s.2.2.2 2 s.2.2.1.toNatClampNeg)))), (8, .int q65.1), (7, .int (s.2.2.2 2 s.2.2.1.toNatClampNeg)), (0, .ref (h_b Z + 0)), (1, .int v1), (2, .int v2), (3, .int v3), (4, .int s.1), (5, .int s.2.1), (6, .int s.2.2.1)] dX10_lull_86 rfl rfl ?_
  refine x_iload hz dX10_lull_88 0 rfl ?_
  refine x_if_eq hz dX10_lull_90 ?_ ?_
  · refine x_iload hz dX10_lull_98 7 rfl ?_
    exact x_sub [3, 4, 5, 6, 8, 9, 1, 0] rfl (wX10_lull_L100 hz v1 v2 v3 s.2.1 s.2.2.1 q65.1 (fX10_isSooner q65.1 s.2.1 (h_up q65.2 2 s.2.2.1.toNatClampNeg (s.2.2.2 2 s.2.2.1.toNatClampNeg))) s.1 (h_up q65.2 2 s.2.2.1.toNatClampNeg (s.2.2.2 2 s.2.2.1.toNatClampNeg)) hk38)
  refine x_iload hz dX10_lull_93 9 rfl ?_
  refine x_goto hz dX10_lull_95 ?_
  exact x_sub [3, 4, 5, 6, 8, 9, 1, 0] rfl (wX10_lull_L100 hz v1 v2 v3 s.2.1 s.2.2.1 q65.1 (fX10_isSooner q65.1 s.2.1 (h_up q65.2 2 s.2.2.1.toNatClampNeg (s.2.2.2 2 s.2.2.1.toNatClampNeg))) s.2.2.1 (h_up q65.2 2 s.2.2.1.toNatClampNeg (s.2.2.2 2 s.2.2.1.toNatClampNeg)) hk38)
set_option maxRecDepth 10000 in
set_option maxHeartbeats 4000000 in
theorem wX10_lull {Z : hZ} {n : Nat} (hz : hOK Z hYm cX10_lull RX10 10 (n + 7) (some .int)) (a1 : Int32) (a2 : Int32) (a3 : Int32) (M : hMem) : hW Z rtM M 0 [(0, .ref (h_b Z + 0)), (1, .int a1), (2, .int a2), (3, .int a3)] [] (fX10_lull a1 a2 a3 M) := by
  unfold fX10_lull
  refine x_aload_n hz dX10_lull_0 rfl 0 rfl ?_
  refine x_iload_n hz dX10_lull_1 rfl 1 rfl ?_
  refine x_iload_n hz dX10_lull_2 rfl 2 rfl ?_
  refine x_callV hz mv_X10_255 sm_0 (by decide) rfl rfl (kX10_areThere (n := (n + 4)) a1 a2 M) rfl (av := [.int a1, .int a2]) (rest := []) rfl rfl (Nat.le_of_ble_eq_true rfl) dX10_lull_3 ?_
  refine x_if_ne hz dX10_lull_6 ?_ ?_
  · refine x_iload_n hz dX10_lull_12 rfl 3 rfl ?_
    refine x_iconst hz 0 dX10_lull_13 rfl ?_
    refine x_iconst hz 1 dX10_lull_14 rfl ?_
    refine x_callS hz ms_X10_93 (kX10_in (n := (n + 6)) a3 0 1 M) rfl (av := [.int a3, .int 0, .int 1]) (rest := []) rfl rfl (Nat.le_of_ble_eq_true rfl) dX10_lull_15 ?_
    refine x_if_ne hz dX10_lull_18 ?_ ?_
    · refine x_iconst hz (-1) dX10_lull_24 rfl ?_
      refine x_istore hz [(4, .int (-1)), (0, .ref (h_b Z + 0)), (1, .int a1), (2, .int a2), (3, .int a3)] dX10_lull_25 rfl rfl ?_
      refine x_aload_n hz dX10_lull_27 rfl 1 rfl ?_
      refine x_iload_n hz dX10_lull_28 rfl 2 rfl ?_
      refine x_iload_n hz dX10_lull_29 rfl 3 rfl ?_
      refine x_bind (fun q30 hq30 => ?_)
      refine x_callV hz mv_X10_258 sm_0 (by decide) rfl rfl (kX10_hadBy (n := n) a1 a2 M q30 hq30) rfl (av := [.int a1, .int a2]) (rest := []) rfl rfl (Nat.le_of_ble_eq_true rfl) dX10_lull_30 ?_
      refine x_istore hz [(5, .int q30.1), (4, .int (-1)), (0, .ref (h_b Z + 0)), (1, .int a1), (2, .int a2), (3, .int a3)] dX10_lull_33 rfl rfl ?_
      refine x_iconst hz 0 dX10_lull_35 rfl ?_
      refine x_istore hz [(6, .int 0), (5, .int q30.1), (4, .int (-1)), (0, .ref (h_b Z + 0)), (1, .int a1), (2, .int a2), (3, .int a3)] dX10_lull_36 rfl rfl ?_
      exact x_sub [3, 4, 5, 6, 2, 1, 0] rfl (wX10_lull_L38 hz a1 a2 a3 h_FU ((-1), q30.1, 0, q30.2))
    refine x_bipush hz (-7) dX10_lull_21 rfl ?_
    exact x_iret hz rfl dX10_lull_23
  refine x_bipush hz (-5) dX10_lull_9 rfl ?_
  exact x_iret hz rfl dX10_lull_11
theorem kX10_lull {l : Launch} {dd : hDD} {b n : Nat} (a1 : Int32) (a2 : Int32) (a3 : Int32) (M : hMem) (r : Int32 × hMem) (h : fX10_lull a1 a2 a3 M = some r) : hC l hYm dd b yX10_lull cX10_lull 10 (some .int) (n + 7) [.ref (b + 0), .int a1, .int a2, .int a3] M (some (.int r.1), r.2) :=
  h_met (av := fun b => [.ref (b + 0), .int a1, .int a2, .int a3]) (rt := rtM) (by decide) (Nat.le_of_ble_eq_true rfl) (fun Z hz => wX10_lull (n := n) hz a1 a2 a3 M) r h
set_option maxRecDepth 10000 in
set_option maxHeartbeats 4000000 in
theorem wX10_fence_L122 {Z : hZ} {n : Nat} (hz : hOK Z hYm cX10_fence RX10 10 (n + 7) (some .int))  (v1 : Int32) (v2 : Int32) (v3 : Int32) (v5 : Int32) (v6 : Int32) (v7 : Int32) (v8 : Int32) (v9 : Int32) (t0 : Int32) (M : hMem) {k46 : (Int32 × Int32 × Int32 × hMem) → Option (Int32 × hMem)} (hk46 : ∀ s, hW Z rtM s.2.2.2 46 [(0, .ref (h_b Z + 0)), (1, .int v1), (2, .int v2), (3, .int v3), (4, .int s.1), (5, .int s.2.1), (6, .int v6), (7, .int s.2.2.1)] [] (k46 s)) : hW Z rtM M 122 [(0, .ref (h_b Z + 0)), (1, .int v1), (2, .int v2), (3, .int v3), (5, .int v5), (6, .int v6), (7, .int v7), (8, .int v8), (9, .int v9)] [.int t0] (fX10_fence_L122 k46 v1 v2 v3 v5 v6 v7 v8 v9 t0 M) := by
  unfold fX10_fence_L122
  refine x_istore hz [(4, .int t0), (0, .ref (h_b Z + 0)), (1, .int v1), (2, .int v2), (3, .int v3), (5, .int v5), (6, .int v6), (7, .int v7), (8, .int v8), (9, .int v9)] dX10_fence_122 rfl rfl ?_
  refine x_iload hz dX10_fence_124 9 rfl ?_
  refine x_if_eq hz dX10_fence_126 ?_ ?_
  · refine x_iload hz dX10_fence_134 5 rfl ?_
    refine x_istore hz [(5, .int v5), (4, .int t0), (0, .ref (h_b Z + 0)), (1, .int v1), (2, .int v2), (3, .int v3), (6, .int v6), (7, .int v7), (8, .int v8), (9, .int v9)] dX10_fence_136 rfl rfl ?_
    refine x_iinc hz (v7 + 1) [(7, .int (v7 + 1)), (5, .int v5), (4, .int t0), (0, .ref (h_b Z + 0)), (1, .int v1), (2, .int v2), (3, .int v3), (6, .int v6), (8, .int v8), (9, .int v9)] dX10_fence_138 7 rfl rfl rfl rfl ?_
    refine x_goto hz dX10_fence_141 ?_
    exact x_sub [3, 4, 5, 6, 2, 1, 7, 0] rfl (hk46 (t0, v5, v7 + 1, M))
  refine x_iload hz dX10_fence_129 8 rfl ?_
  refine x_goto hz dX10_fence_131 ?_
  refine x_istore hz [(5, .int v8), (4, .int t0), (0, .ref (h_b Z + 0)), (1, .int v1), (2, .int v2), (3, .int v3), (6, .int v6), (7, .int v7), (8, .int v8), (9, .int v9)] dX10_fence_136 rfl rfl ?_
  refine x_iinc hz (v7 + 1) [(7, .int (v7 + 1)), (5, .int v8), (4, .int t0), (0, .ref (h_b Z + 0)), (1, .int v1), (2, .int v2), (3, .int v3), (6, .int v6), (8, .int v8), (9, .int v9)] dX10_fence_138 7 rfl rfl rfl rfl ?_
  refine x_goto hz dX10_fence_141 ?_
  exact x_sub [3, 4, 5, 6, 2, 1, 7, 0] rfl (hk46 (t0, v8, v7 + 1, M))
set_option maxRecDepth 10000 in
set_option maxHeartbeats 4000000 in
theorem wX10_fence_L46 {Z : hZ} {n : Nat} (hz : hOK Z hYm cX10_fence RX10 10 (n + 7) (some .int))  (v1 : Int32) (v2 : Int32) (v3 : Int32) (v6 : Int32)   : ∀ (i : Nat) (s : Int32 × Int32 × Int32 × hMem), hW Z rtM s.2.2.2 46 [(0, .ref (h_b Z + 0)), (1, .int v1), (2, .int v2), (3, .int v3), (4, .int s.1), (5, .int s.2.1), (6, .int v6), (7, .int s.2.2.1)] [] (h_lp (fX10_fence_L46 v1 v2 v3 v6) i s) := by
  refine x_loop (Ms := fun s : Int32 × Int32 × Int32 × hMem => s.2.2.2) (Ls := fun s : Int32 × Int32 × Int32 × hMem => [(0, .ref (h_b Z + 0)), (1, .int v1), (2, .int v2), (3, .int v3), (4, .int s.1), (5, .int s.2.1), (6, .int v6), (7, .int s.2.2.1)]) ?_
  intro k46 hk46 s
  show hW Z rtM s.2.2.2 46 [(0, .ref (h_b Z + 0)), (1, .int v1), (2, .int v2), (3, .int v3), (4, .int s.1), (5, .int s.2.1), (6, .int v6), (7, .int s.2.2.1)] [] (fX10_fence_L46 v1 v2 v3 v6 k46 s)
  unfold fX10_fence_L46
  refine x_iload hz dX10_fence_46 7 rfl ?_
  refine x_bipush hz 32 dX10_fence_48 rfl ?_
  refine x_icmp_ge hz dX10_fence_50 ?_ ?_
  · refine x_iload_n hz dX10_fence_144 rfl 3 rfl ?_
    refine x_if_ne hz dX10_fence_145 ?_ ?_
    · refine x_iload hz dX10_fence_153 5 rfl ?_
      exact x_iret hz rfl dX10_fence_155
    refine x_iload hz dX10_fence_148 4 rfl ?_
    refine x_goto hz dX10_fence_150 ?_
    exact x_iret hz rfl dX10_fence_155
  refine x_aload_n hz dX10_fence_53 rfl 0 rfl ?_
  refine x_iconst hz 0 dX10_fence_54 rfl ?_
  refine x_iload hz dX10_fence_55 7 rfl ?_
  refine x_bind (fun q57 hq57 => ?_)
  refine x_callV hz mv_X10_101 sm_0 (by decide) rfl rfl (kX10_has (n := (n + 6)) 0 s.2.2.1 s.2.2.2 q57 hq57) rfl (av := [.int 0, .int s.2.2.1]) (rest := []) rfl rfl (Nat.le_of_ble_eq_true rfl) dX10_fence_57 ?_
  refine x_if_ne hz dX10_fence_60 ?_ ?_
  · refine x_iinc hz (s.2.2.1 + 1) [(7, .int (s.2.2.1 + 1)), (0, .ref (h_b Z + 0)), (1, .int v1), (2, .int v2), (3, .int v3), (4, .int s.1), (5, .int s.2.1), (6, .int v6)] dX10_fence_138 7 rfl rfl rfl rfl ?_
    refine x_goto hz dX10_fence_141 ?_
    exact x_sub [1, 2, 3, 4, 5, 6, 7, 0] rfl (hk46 (s.1, s.2.1, s.2.2.1 + 1, s.2.2.2))
  refine x_aload_n hz dX10_fence_63 rfl 0 rfl ?_
  refine x_iload hz dX10_fence_64 7 rfl ?_
  refine x_bind (fun q66 hq66 => ?_)
  refine x_callV hz mv_X10_111 sm_0 (by decide) rfl rfl (kX10_isAnyIn (n := (n + 6)) s.2.2.1 s.2.2.2 q66 hq66) rfl (av := [.int s.2.2.1]) (rest := []) rfl rfl (Nat.le_of_ble_eq_true rfl) dX10_fence_66 ?_
  refine x_if_ne hz dX10_fence_69 ?_ ?_
  · refine x_iinc hz (s.2.2.1 + 1) [(7, .int (s.2.2.1 + 1)), (0, .ref (h_b Z + 0)), (1, .int v1), (2, .int v2), (3, .int v3), (4, .int s.1), (5, .int s.2.1), (6, .int v6)] dX10_fence_138 7 rfl rfl rfl rfl ?_
    refine x_goto hz dX10_fence_141 ?_
    exact x_sub [1, 2, 3, 4, 5, 6, 7, 0] rfl (hk46 (s.1, s.2.1, s.2.2.1 + 1, s.2.2.2))
  refine x_aload_n hz dX10_fence_72 rfl 0 rfl ?_
  refine x_getr hz sm_0 fl_X10_7 rfl rm_0_0 (by decide) dX10_fence_73 ?_
  refine x_iconst hz 0 dX10_fence_76 rfl ?_
  refine x_dup2 hz dX10_fence_77 rfl rfl ?_
  refine x_iald0 hz sm_1 (by decide) (v := s.2.2.2 1 0) rfl dX10_fence_78 ?_
  refine x_iconst hz 1 dX10_fence_79 rfl ?_
  refine x_iload hz dX10_fence_80 7 rfl ?_
  refine x_ishl hz dX10_fence_82 ?_
  refine x_ior hz dX10_fence_83 ?_
  refine x_iast0 hz sm_1 (by decide) (j := 0) rfl dX10_fence_84 ?_
  refine x_aload_n hz dX10_fence_85 rfl 0 rfl ?_
  refine x_iload_n hz dX10_fence_86 rfl 1 rfl ?_
  refine x_iload_n hz dX10_fence_87 rfl 2 rfl ?_
  refine x_bind (fun q88 hq88 => ?_)
  refine x_callV hz mv_X10_258 sm_0 (by decide) rfl rfl (kX10_hadBy (n := n) v1 v2 (h_up s.2.2.2 1 0 ((s.2.2.2 1 0) ||| (1 <<< (s.2.2.1 &&& 31)))) q88 hq88) rfl (av := [.int v1, .int v2]) (rest := []) rfl rfl (Nat.le_of_ble_eq_true rfl) dX10_fence_88 ?_
  refine x_istore hz [(8, .int q88.1), (0, .ref (h_b Z + 0)), (1, .int v1), (2, .int v2), (3, .int v3), (4, .int s.1), (5, .int s.2.1), (6, .int v6), (7, .int s.2.2.1)] dX10_fence_91 rfl rfl ?_
  refine x_aload_n hz dX10_fence_93 rfl 1 rfl ?_
  refine x_getr hz sm_0 fl_X10_7 rfl rm_0_0 (by decide) dX10_fence_94 ?_
  refine x_iconst hz 0 dX10_fence_97 rfl ?_
  refine x_iload hz dX10_fence_98 7 rfl ?_
  refine x_iast0 hz sm_1 (by decide) (j := 0) rfl dX10_fence_100 ?_
  refine x_iload hz dX10_fence_101 0 rfl ?_
  refine x_iload hz dX10_fence_103 6 rfl ?_
  refine x_callS hz ms_X10_274 (kX10_isSooner (n := (n + 6)) q88.1 s.2.1 (h_up q88.2 1 0 v6)) rfl (av := [.int q88.1, .int s.2.1]) (rest := []) rfl rfl (Nat.le_of_ble_eq_true rfl) dX10_fence_105 ?_
  refine x_istore hz [(9, .int (fX10_isSooner q88.1 s.2.1 (h_up q88.2 1 0 v6))), (8, .int q88.1), (0, .ref (h_b Z + 0)), (1, .int v1), (2, .int v2), (3, .int v3), (4, .int s.1), (5, .int s.2.1), (6, .int v6), (7, .int s.2.2.1)] dX10_fence_108 rfl rfl ?_
  refine x_iload hz dX10_fence_110 0 rfl ?_
  refine x_if_eq hz dX10_fence_112 ?_ ?_
  · refine x_iload hz dX10_fence_120 6 rfl ?_
    exact x_sub [2, 3, 4, 5, 7, 8, 9, 1, 0] rfl (wX10_fence_L122 hz v1 v2 v3 s.2.1 v6 s.2.2.1 q88.1 (fX10_isSooner q88.1 s.2.1 (h_up q88.2 1 0 v6)) s.1 (h_up q88.2 1 0 v6) hk46)
  refine x_iload hz dX10_fence_115 9 rfl ?_
  refine x_goto hz dX10_fence_117 ?_
  exact x_sub [2, 3, 4, 5, 7, 8, 9, 1, 0] rfl (wX10_fence_L122 hz v1 v2 v3 s.2.1 v6 s.2.2.1 q88.1 (fX10_isSooner q88.1 s.2.1 (h_up q88.2 1 0 v6)) s.2.2.1 (h_up q88.2 1 0 v6) hk46)
set_option maxRecDepth 10000 in
set_option maxHeartbeats 4000000 in
theorem wX10_fence {Z : hZ} {n : Nat} (hz : hOK Z hYm cX10_fence RX10 10 (n + 7) (some .int)) (a1 : Int32) (a2 : Int32) (a3 : Int32) (M : hMem) : hW Z rtM M 0 [(0, .ref (h_b Z + 0)), (1, .int a1), (2, .int a2), (3, .int a3)] [] (fX10_fence a1 a2 a3 M) := by
  unfold fX10_fence
  refine x_aload_n hz dX10_fence_0 rfl 0 rfl ?_
  refine x_iload_n hz dX10_fence_1 rfl 1 rfl ?_
  refine x_iload_n hz dX10_fence_2 rfl 2 rfl ?_
  refine x_callV hz mv_X10_255 sm_0 (by decide) rfl rfl (kX10_areThere (n := (n + 4)) a1 a2 M) rfl (av := [.int a1, .int a2]) (rest := []) rfl rfl (Nat.le_of_ble_eq_true rfl) dX10_fence_3 ?_
  refine x_if_ne hz dX10_fence_6 ?_ ?_
  · refine x_iload_n hz dX10_fence_12 rfl 3 rfl ?_
    refine x_iconst hz 0 dX10_fence_13 rfl ?_
    refine x_iconst hz 1 dX10_fence_14 rfl ?_
    refine x_callS hz ms_X10_93 (kX10_in (n := (n + 6)) a3 0 1 M) rfl (av := [.int a3, .int 0, .int 1]) (rest := []) rfl rfl (Nat.le_of_ble_eq_true rfl) dX10_fence_15 ?_
    refine x_if_ne hz dX10_fence_18 ?_ ?_
    · refine x_iconst hz (-1) dX10_fence_24 rfl ?_
      refine x_istore hz [(4, .int (-1)), (0, .ref (h_b Z + 0)), (1, .int a1), (2, .int a2), (3, .int a3)] dX10_fence_25 rfl rfl ?_
      refine x_aload_n hz dX10_fence_27 rfl 1 rfl ?_
      refine x_iload_n hz dX10_fence_28 rfl 2 rfl ?_
      refine x_iload_n hz dX10_fence_29 rfl 3 rfl ?_
      refine x_bind (fun q30 hq30 => ?_)
      refine x_callV hz mv_X10_258 sm_0 (by decide) rfl rfl (kX10_hadBy (n := n) a1 a2 M q30 hq30) rfl (av := [.int a1, .int a2]) (rest := []) rfl rfl (Nat.le_of_ble_eq_true rfl) dX10_fence_30 ?_
      refine x_istore hz [(5, .int q30.1), (4, .int (-1)), (0, .ref (h_b Z + 0)), (1, .int a1), (2, .int a2), (3, .int a3)] dX10_fence_33 rfl rfl ?_
      refine x_aload_n hz dX10_fence_35 rfl 2 rfl ?_
      refine x_getr hz sm_0 fl_X10_7 rfl rm_0_0 (by decide) dX10_fence_36 ?_
      refine x_iconst hz 0 dX10_fence_39 rfl ?_
      refine x_iald0 hz sm_1 (by decide) (v := q30.2 1 0) rfl dX10_fence_40 ?_
      refine x_istore hz [(6, .int (q30.2 1 0)), (5, .int q30.1), (4, .int (-1)), (0, .ref (h_b Z + 0)), (1, .int a1), (2, .int a2), (3, .int a3)] dX10_fence_41 rfl rfl ?_
      refine x_iconst hz 0 dX10_fence_43 rfl ?_
      refine x_istore hz [(7, .int 0), (6, .int (q30.2 1 0)), (5, .int q30.1), (4, .int (-1)), (0, .ref (h_b Z + 0)), (1, .int a1), (2, .int a2), (3, .int a3)] dX10_fence_44 rfl rfl ?_
      exact x_sub [4, 5, 6, 7, 3, 2, 1, 0] rfl (wX10_fence_L46 hz a1 a2 a3 (q30.2 1 0) h_FU ((-1), q30.1, 0, q30.2))
    refine x_bipush hz (-7) dX10_fence_21 rfl ?_
    exact x_iret hz rfl dX10_fence_23
  refine x_bipush hz (-5) dX10_fence_9 rfl ?_
  exact x_iret hz rfl dX10_fence_11
theorem kX10_fence {l : Launch} {dd : hDD} {b n : Nat} (a1 : Int32) (a2 : Int32) (a3 : Int32) (M : hMem) (r : Int32 × hMem) (h : fX10_fence a1 a2 a3 M = some r) : hC l hYm dd b yX10_fence cX10_fence 10 (some .int) (n + 7) [.ref (b + 0), .int a1, .int a2, .int a3] M (some (.int r.1), r.2) :=
  h_met (av := fun b => [.ref (b + 0), .int a1, .int a2, .int a3]) (rt := rtM) (by decide) (Nat.le_of_ble_eq_true rfl) (fun Z hz => wX10_fence (n := n) hz a1 a2 a3 M) r h
set_option maxRecDepth 10000 in
set_option maxHeartbeats 4000000 in
theorem wX10_sheetWrong {Z : hZ} {n : Nat} (hz : hOK Z hYm cX10_sheetWrong RX10 2 (n + 1) (some .int)) (a1 : Int32) (M : hMem) : hW Z (rtP M) M 0 [(0, .ref (h_b Z + 0)), (1, .int a1)] [] (fX10_sheetWrong a1 M) := by
  unfold fX10_sheetWrong
  refine x_iload_n hz dX10_sheetWrong_0 rfl 1 rfl ?_
  refine x_iconst hz 0 dX10_sheetWrong_1 rfl ?_
  refine x_iconst hz 3 dX10_sheetWrong_2 rfl ?_
  refine x_callS hz ms_X10_93 (kX10_in (n := n) a1 0 3 M) rfl (av := [.int a1, .int 0, .int 3]) (rest := []) rfl rfl (Nat.le_of_ble_eq_true rfl) dX10_sheetWrong_3 ?_
  refine x_if_ne hz dX10_sheetWrong_6 ?_ ?_
  · refine x_aload_n hz dX10_sheetWrong_12 rfl 0 rfl ?_
    refine x_getr hz sm_0 fl_X10_46 rfl rm_0_21 (by decide) dX10_sheetWrong_13 ?_
    refine x_iload_n hz dX10_sheetWrong_16 rfl 1 rfl ?_
    refine x_iald hz sm_13 dX10_sheetWrong_17 (fun hi17 => ?_)
    refine x_iconst hz (-1) dX10_sheetWrong_18 rfl ?_
    refine x_icmp_ne hz dX10_sheetWrong_19 ?_ ?_
    · refine x_aload_n hz dX10_sheetWrong_25 rfl 0 rfl ?_
      refine x_getr hz sm_0 fl_X10_49 rfl rm_0_22 (by decide) dX10_sheetWrong_26 ?_
      refine x_iload_n hz dX10_sheetWrong_29 rfl 1 rfl ?_
      refine x_iald hz sm_14 dX10_sheetWrong_30 (fun hi30 => ?_)
      refine x_bipush hz 25 dX10_sheetWrong_31 rfl ?_
      refine x_icmp_le hz dX10_sheetWrong_33 ?_ ?_
      · refine x_iconst hz 0 dX10_sheetWrong_41 rfl ?_
        exact x_iret hz rfl dX10_sheetWrong_42
      refine x_bipush hz (-2) dX10_sheetWrong_36 rfl ?_
      refine x_goto hz dX10_sheetWrong_38 ?_
      exact x_iret hz rfl dX10_sheetWrong_42
    refine x_bipush hz (-11) dX10_sheetWrong_22 rfl ?_
    exact x_iret hz rfl dX10_sheetWrong_24
  refine x_bipush hz (-2) dX10_sheetWrong_9 rfl ?_
  exact x_iret hz rfl dX10_sheetWrong_11
theorem kX10_sheetWrong {l : Launch} {dd : hDD} {b n : Nat} (a1 : Int32) (M : hMem) (r : Int32) (h : fX10_sheetWrong a1 M = some r) : hC l hYm dd b yX10_sheetWrong cX10_sheetWrong 2 (some .int) (n + 1) [.ref (b + 0), .int a1] M (some (.int r), M) :=
  h_met (av := fun b => [.ref (b + 0), .int a1]) (rt := (rtP M)) (by decide) (Nat.le_of_ble_eq_true rfl) (fun Z hz => wX10_sheetWrong (n := n) hz a1 M) r h
set_option maxRecDepth 10000 in
set_option maxHeartbeats 4000000 in
theorem wX10_toldWrong {Z : hZ} {n : Nat} (hz : hOK Z hYm cX10_toldWrong RX10 4 (n + 2) (some .int)) (a1 : Int32) (a2 : Int32) (M : hMem) : hW Z (rtP M) M 0 [(0, .ref (h_b Z + 0)), (1, .int a1), (2, .int a2)] [] (fX10_toldWrong a1 a2 M) := by
  unfold fX10_toldWrong
  refine x_aload_n hz dX10_toldWrong_0 rfl 0 rfl ?_
  refine x_iload_n hz dX10_toldWrong_1 rfl 1 rfl ?_
  refine x_bind (fun q2 hq2 => ?_)
  refine x_callV hz mv_X10_277 sm_0 (by decide) rfl rfl (kX10_sheetWrong (n := n) a1 M q2 hq2) rfl (av := [.int a1]) (rest := []) rfl rfl (Nat.le_of_ble_eq_true rfl) dX10_toldWrong_2 ?_
  refine x_istore_n hz [(3, .int q2), (0, .ref (h_b Z + 0)), (1, .int a1), (2, .int a2)] dX10_toldWrong_5 rfl rfl rfl ?_
  refine x_iload_n hz dX10_toldWrong_6 rfl 0 rfl ?_
  refine x_if_eq hz dX10_toldWrong_7 ?_ ?_
  · refine x_aload_n hz dX10_toldWrong_14 rfl 1 rfl ?_
    refine x_iload_n hz dX10_toldWrong_15 rfl 3 rfl ?_
    refine x_callV hz mv_X10_199 sm_0 (by decide) rfl rfl (kX10_isHat (n := n) a2 M) rfl (av := [.int a2]) (rest := []) rfl rfl (Nat.le_of_ble_eq_true rfl) dX10_toldWrong_16 ?_
    refine x_if_eq hz dX10_toldWrong_19 ?_ ?_
    · refine x_bipush hz (-5) dX10_toldWrong_26 rfl ?_
      exact x_iret hz rfl dX10_toldWrong_28
    refine x_iconst hz 0 dX10_toldWrong_22 rfl ?_
    refine x_goto hz dX10_toldWrong_23 ?_
    exact x_iret hz rfl dX10_toldWrong_28
  refine x_iload_n hz dX10_toldWrong_10 rfl 0 rfl ?_
  refine x_goto hz dX10_toldWrong_11 ?_
  exact x_iret hz rfl dX10_toldWrong_28
theorem kX10_toldWrong {l : Launch} {dd : hDD} {b n : Nat} (a1 : Int32) (a2 : Int32) (M : hMem) (r : Int32) (h : fX10_toldWrong a1 a2 M = some r) : hC l hYm dd b yX10_toldWrong cX10_toldWrong 4 (some .int) (n + 2) [.ref (b + 0), .int a1, .int a2] M (some (.int r), M) :=
  h_met (av := fun b => [.ref (b + 0), .int a1, .int a2]) (rt := (rtP M)) (by decide) (Nat.le_of_ble_eq_true rfl) (fun Z hz => wX10_toldWrong (n := n) hz a1 a2 M) r h
set_option maxRecDepth 10000 in
set_option maxHeartbeats 4000000 in
theorem wX10_unlike_L2 {Z : hZ} {n : Nat} (hz : hOK Z hYm cX10_unlike RX10 4 (n + 4) (some .int))  (v1 : Int32) (v2 : Int32)   : ∀ (i : Nat) (s : Int32 × hMem), hW Z rtM s.2 2 [(0, .ref (h_b Z + 0)), (1, .int v1), (2, .int v2), (3, .int s.1)] [] (h_lp (fX10_unlike_L2 v1 v2) i s) := by
  refine x_loop (Ms := fun s : Int32 × hMem => s.2) (Ls := fun s : Int32 × hMem => [(0, .ref (h_b Z + 0)), (1, .int v1), (2, .int v2), (3, .int s.1)]) ?_
  intro k2 hk2 s
  show hW Z rtM s.2 2 [(0, .ref (h_b Z + 0)), (1, .int v1), (2, .int v2), (3, .int s.1)] [] (fX10_unlike_L2 v1 v2 k2 s)
  unfold fX10_unlike_L2
  refine x_iload_n hz dX10_unlike_2 rfl 3 rfl ?_
  refine x_aload_n hz dX10_unlike_3 rfl 0 rfl ?_
  refine x_getr hz sm_0 fl_X10_49 rfl rm_0_22 (by decide) dX10_unlike_4 ?_
  refine x_iload_n hz dX10_unlike_7 rfl 1 rfl ?_
  refine x_iald hz sm_14 dX10_unlike_8 (fun hi8 => ?_)
  refine x_icmp_ge hz dX10_unlike_9 ?_ ?_
  · refine x_iconst hz (-1) dX10_unlike_50 rfl ?_
    exact x_iret hz rfl dX10_unlike_51
  refine x_aload_n hz dX10_unlike_12 rfl 0 rfl ?_
  refine x_getr hz sm_0 fl_X10_52 rfl rm_0_23 (by decide) dX10_unlike_13 ?_
  refine x_bipush hz 40 dX10_unlike_16 rfl ?_
  refine x_iload_n hz dX10_unlike_18 rfl 1 rfl ?_
  refine x_imul hz dX10_unlike_19 ?_
  refine x_iload_n hz dX10_unlike_20 rfl 3 rfl ?_
  refine x_iadd hz dX10_unlike_21 ?_
  refine x_iald hz sm_15 dX10_unlike_22 (fun hi22 => ?_)
  refine x_aload_n hz dX10_unlike_23 rfl 0 rfl ?_
  refine x_geti hz sm_0 fl_X10_211 rfl dX10_unlike_24 ?_
  refine x_icmp_eq hz dX10_unlike_27 ?_ ?_
  · refine x_iload_n hz dX10_unlike_32 rfl 3 rfl ?_
    refine x_bipush hz 24 dX10_unlike_33 rfl ?_
    refine x_icmp_ge hz dX10_unlike_35 ?_ ?_
    · refine x_iinc hz (s.1 + 1) [(3, .int (s.1 + 1)), (0, .ref (h_b Z + 0)), (1, .int v1), (2, .int v2)] dX10_unlike_44 3 rfl rfl rfl rfl ?_
      refine x_goto hz dX10_unlike_47 ?_
      exact x_sub [1, 2, 3, 0] rfl (hk2 (s.1 + 1, s.2))
    refine x_aload_n hz dX10_unlike_38 rfl 0 rfl ?_
    refine x_iload_n hz dX10_unlike_39 rfl 2 rfl ?_
    refine x_iload_n hz dX10_unlike_40 rfl 3 rfl ?_
    refine x_bind (fun q41 hq41 => ?_)
    refine x_callV hz mv_X10_229 sm_0 (by decide) rfl rfl (kX10_seconds (n := n) v2 s.1 s.2 q41 hq41) rfl (av := [.int v2, .int s.1]) (rest := []) rfl rfl (Nat.le_of_ble_eq_true rfl) dX10_unlike_41 ?_
    refine x_iinc hz (s.1 + 1) [(3, .int (s.1 + 1)), (0, .ref (h_b Z + 0)), (1, .int v1), (2, .int v2)] dX10_unlike_44 3 rfl rfl rfl rfl ?_
    refine x_goto hz dX10_unlike_47 ?_
    exact x_sub [1, 2, 3, 0] rfl (hk2 (s.1 + 1, q41))
  refine x_iload_n hz dX10_unlike_30 rfl 3 rfl ?_
  exact x_iret hz rfl dX10_unlike_31
set_option maxRecDepth 10000 in
set_option maxHeartbeats 4000000 in
theorem wX10_unlike {Z : hZ} {n : Nat} (hz : hOK Z hYm cX10_unlike RX10 4 (n + 4) (some .int)) (a1 : Int32) (a2 : Int32) (M : hMem) : hW Z rtM M 0 [(0, .ref (h_b Z + 0)), (1, .int a1), (2, .int a2)] [] (fX10_unlike a1 a2 M) := by
  unfold fX10_unlike
  refine x_iconst hz 0 dX10_unlike_0 rfl ?_
  refine x_istore_n hz [(3, .int 0), (0, .ref (h_b Z + 0)), (1, .int a1), (2, .int a2)] dX10_unlike_1 rfl rfl rfl ?_
  exact x_sub [1, 2, 3, 0] rfl (wX10_unlike_L2 hz a1 a2 h_FU (0, M))
theorem kX10_unlike {l : Launch} {dd : hDD} {b n : Nat} (a1 : Int32) (a2 : Int32) (M : hMem) (r : Int32 × hMem) (h : fX10_unlike a1 a2 M = some r) : hC l hYm dd b yX10_unlike cX10_unlike 4 (some .int) (n + 4) [.ref (b + 0), .int a1, .int a2] M (some (.int r.1), r.2) :=
  h_met (av := fun b => [.ref (b + 0), .int a1, .int a2]) (rt := rtM) (by decide) (Nat.le_of_ble_eq_true rfl) (fun Z hz => wX10_unlike (n := n) hz a1 a2 M) r h
set_option maxRecDepth 10000 in
set_option maxHeartbeats 4000000 in
theorem wX10_unlikeNow {Z : hZ} {n : Nat} (hz : hOK Z hYm cX10_unlikeNow RX10 3 (n + 5) (some .int)) (a1 : Int32) (a2 : Int32) (M : hMem) : hW Z rtM M 0 [(0, .ref (h_b Z + 0)), (1, .int a1), (2, .int a2)] [] (fX10_unlikeNow a1 a2 M) := by
  unfold fX10_unlikeNow
  refine x_aload_n hz dX10_unlikeNow_0 rfl 0 rfl ?_
  refine x_iload_n hz dX10_unlikeNow_1 rfl 2 rfl ?_
  refine x_bind (fun q2 hq2 => ?_)
  refine x_callV hz mv_X10_233 sm_0 (by decide) rfl rfl (kX10_begins (n := (n + 4)) a2 M q2 hq2) rfl (av := [.int a2]) (rest := []) rfl rfl (Nat.le_of_ble_eq_true rfl) dX10_unlikeNow_2 ?_
  refine x_aload_n hz dX10_unlikeNow_5 rfl 0 rfl ?_
  refine x_iload_n hz dX10_unlikeNow_6 rfl 1 rfl ?_
  refine x_iload_n hz dX10_unlikeNow_7 rfl 2 rfl ?_
  refine x_bind (fun q8 hq8 => ?_)
  refine x_callV hz mv_X10_280 sm_0 (by decide) rfl rfl (kX10_unlike (n := n) a1 a2 q2 q8 hq8) rfl (av := [.int a1, .int a2]) (rest := []) rfl rfl (Nat.le_of_ble_eq_true rfl) dX10_unlikeNow_8 ?_
  exact x_iret hz rfl dX10_unlikeNow_11
theorem kX10_unlikeNow {l : Launch} {dd : hDD} {b n : Nat} (a1 : Int32) (a2 : Int32) (M : hMem) (r : Int32 × hMem) (h : fX10_unlikeNow a1 a2 M = some r) : hC l hYm dd b yX10_unlikeNow cX10_unlikeNow 3 (some .int) (n + 5) [.ref (b + 0), .int a1, .int a2] M (some (.int r.1), r.2) :=
  h_met (av := fun b => [.ref (b + 0), .int a1, .int a2]) (rt := rtM) (by decide) (Nat.le_of_ble_eq_true rfl) (fun Z hz => wX10_unlikeNow (n := n) hz a1 a2 M) r h
set_option maxRecDepth 10000 in
set_option maxHeartbeats 4000000 in
theorem wX10_judge {Z : hZ} {n : Nat} (hz : hOK Z hYm cX10_judge RX10 4 (n + 6) (some .int)) (a1 : Int32) (a2 : Int32) (M : hMem) : hW Z rtM M 0 [(0, .ref (h_b Z + 0)), (1, .int a1), (2, .int a2)] [] (fX10_judge a1 a2 M) := by
  unfold fX10_judge
  refine x_aload_n hz dX10_judge_0 rfl 0 rfl ?_
  refine x_iload_n hz dX10_judge_1 rfl 1 rfl ?_
  refine x_iload_n hz dX10_judge_2 rfl 2 rfl ?_
  refine x_bind (fun q3 hq3 => ?_)
  refine x_callV hz mv_X10_283 sm_0 (by decide) rfl rfl (kX10_toldWrong (n := (n + 3)) a1 a2 M q3 hq3) rfl (av := [.int a1, .int a2]) (rest := []) rfl rfl (Nat.le_of_ble_eq_true rfl) dX10_judge_3 ?_
  refine x_istore_n hz [(3, .int q3), (0, .ref (h_b Z + 0)), (1, .int a1), (2, .int a2)] dX10_judge_6 rfl rfl rfl ?_
  refine x_iload_n hz dX10_judge_7 rfl 0 rfl ?_
  refine x_if_ne hz dX10_judge_8 ?_ ?_
  · refine x_iload_n hz dX10_judge_20 rfl 0 rfl ?_
    exact x_iret hz rfl dX10_judge_21
  refine x_aload_n hz dX10_judge_11 rfl 1 rfl ?_
  refine x_iload_n hz dX10_judge_12 rfl 2 rfl ?_
  refine x_iload_n hz dX10_judge_13 rfl 3 rfl ?_
  refine x_bind (fun q14 hq14 => ?_)
  refine x_callV hz mv_X10_286 sm_0 (by decide) rfl rfl (kX10_unlikeNow (n := n) a1 a2 M q14 hq14) rfl (av := [.int a1, .int a2]) (rest := []) rfl rfl (Nat.le_of_ble_eq_true rfl) dX10_judge_14 ?_
  refine x_goto hz dX10_judge_17 ?_
  exact x_iret hz rfl dX10_judge_21
theorem kX10_judge {l : Launch} {dd : hDD} {b n : Nat} (a1 : Int32) (a2 : Int32) (M : hMem) (r : Int32 × hMem) (h : fX10_judge a1 a2 M = some r) : hC l hYm dd b yX10_judge cX10_judge 4 (some .int) (n + 6) [.ref (b + 0), .int a1, .int a2] M (some (.int r.1), r.2) :=
  h_met (av := fun b => [.ref (b + 0), .int a1, .int a2]) (rt := rtM) (by decide) (Nat.le_of_ble_eq_true rfl) (fun Z hz => wX10_judge (n := n) hz a1 a2 M) r h
set_option maxRecDepth 10000 in
set_option maxHeartbeats 4000000 in
theorem wX10_whose_L17 {Z : hZ} {n : Nat} (hz : hOK Z hYm cX10_whose RX10 5 (n + 6) (some .int))  (v1 : Int32)   : ∀ (i : Nat) (s : Int32 × Int32 × hMem), hW Z rtM s.2.2 17 [(0, .ref (h_b Z + 0)), (1, .int v1), (3, .int s.1), (4, .int s.2.1)] [] (h_lp (fX10_whose_L17 v1) i s) := by
  refine x_loop (Ms := fun s : Int32 × Int32 × hMem => s.2.2) (Ls := fun s : Int32 × Int32 × hMem => [(0, .ref (h_b Z + 0)), (1, .int v1), (3, .int s.1), (4, .int s.2.1)]) ?_
  intro k17 hk17 s
  show hW Z rtM s.2.2 17 [(0, .ref (h_b Z + 0)), (1, .int v1), (3, .int s.1), (4, .int s.2.1)] [] (fX10_whose_L17 v1 k17 s)
  unfold fX10_whose_L17
  refine x_iload hz dX10_whose_17 3 rfl ?_
  refine x_aload_n hz dX10_whose_19 rfl 0 rfl ?_
  refine x_geti hz sm_0 fl_X10_105 rfl dX10_whose_20 ?_
  refine x_icmp_ge hz dX10_whose_23 ?_ ?_
  · refine x_iload_n hz dX10_whose_54 rfl 2 rfl ?_
    exact x_iret hz rfl dX10_whose_55
  refine x_iload_n hz dX10_whose_26 rfl 2 rfl ?_
  refine x_aload_n hz dX10_whose_27 rfl 0 rfl ?_
  refine x_iload_n hz dX10_whose_28 rfl 1 rfl ?_
  refine x_iload hz dX10_whose_29 3 rfl ?_
  refine x_bind (fun q31 hq31 => ?_)
  refine x_callV hz mv_X10_286 sm_0 (by decide) rfl rfl (kX10_unlikeNow (n := n) v1 s.2.1 s.2.2 q31 hq31) rfl (av := [.int v1, .int s.2.1]) (rest := [.int s.1]) rfl rfl (Nat.le_of_ble_eq_true rfl) dX10_whose_31 ?_
  refine x_iconst hz (-1) dX10_whose_34 rfl ?_
  refine x_icmp_ne hz dX10_whose_35 ?_ ?_
  · refine x_iconst hz 0 dX10_whose_45 rfl ?_
    refine x_ior hz dX10_whose_46 ?_
    refine x_istore_n hz [(3, .int (s.1 ||| 0)), (0, .ref (h_b Z + 0)), (1, .int v1), (4, .int s.2.1)] dX10_whose_47 rfl rfl rfl ?_
    refine x_iinc hz (s.2.1 + 1) [(4, .int (s.2.1 + 1)), (3, .int (s.1 ||| 0)), (0, .ref (h_b Z + 0)), (1, .int v1)] dX10_whose_48 3 rfl rfl rfl rfl ?_
    refine x_goto hz dX10_whose_51 ?_
    exact x_sub [2, 3, 1, 0] rfl (hk17 (s.1 ||| 0, s.2.1 + 1, q31.2))
  refine x_iconst hz 1 dX10_whose_38 rfl ?_
  refine x_iload hz dX10_whose_39 3 rfl ?_
  refine x_ishl hz dX10_whose_41 ?_
  refine x_goto hz dX10_whose_42 ?_
  refine x_ior hz dX10_whose_46 ?_
  refine x_istore_n hz [(3, .int (s.1 ||| (1 <<< (s.2.1 &&& 31)))), (0, .ref (h_b Z + 0)), (1, .int v1), (4, .int s.2.1)] dX10_whose_47 rfl rfl rfl ?_
  refine x_iinc hz (s.2.1 + 1) [(4, .int (s.2.1 + 1)), (3, .int (s.1 ||| (1 <<< (s.2.1 &&& 31)))), (0, .ref (h_b Z + 0)), (1, .int v1)] dX10_whose_48 3 rfl rfl rfl rfl ?_
  refine x_goto hz dX10_whose_51 ?_
  exact x_sub [2, 3, 1, 0] rfl (hk17 (s.1 ||| (1 <<< (s.2.1 &&& 31)), s.2.1 + 1, q31.2))
set_option maxRecDepth 10000 in
set_option maxHeartbeats 4000000 in
theorem wX10_whose {Z : hZ} {n : Nat} (hz : hOK Z hYm cX10_whose RX10 5 (n + 6) (some .int)) (a1 : Int32) (M : hMem) : hW Z rtM M 0 [(0, .ref (h_b Z + 0)), (1, .int a1)] [] (fX10_whose a1 M) := by
  unfold fX10_whose
  refine x_aload_n hz dX10_whose_0 rfl 0 rfl ?_
  refine x_iload_n hz dX10_whose_1 rfl 1 rfl ?_
  refine x_bind (fun q2 hq2 => ?_)
  refine x_callV hz mv_X10_277 sm_0 (by decide) rfl rfl (kX10_sheetWrong (n := (n + 4)) a1 M q2 hq2) rfl (av := [.int a1]) (rest := []) rfl rfl (Nat.le_of_ble_eq_true rfl) dX10_whose_2 ?_
  refine x_istore_n hz [(2, .int q2), (0, .ref (h_b Z + 0)), (1, .int a1)] dX10_whose_5 rfl rfl rfl ?_
  refine x_iload_n hz dX10_whose_6 rfl 0 rfl ?_
  refine x_if_eq hz dX10_whose_7 ?_ ?_
  · refine x_iconst hz 0 dX10_whose_12 rfl ?_
    refine x_istore_n hz [(3, .int 0), (2, .int q2), (0, .ref (h_b Z + 0)), (1, .int a1)] dX10_whose_13 rfl rfl rfl ?_
    refine x_iconst hz 0 dX10_whose_14 rfl ?_
    refine x_istore hz [(4, .int 0), (3, .int 0), (2, .int q2), (0, .ref (h_b Z + 0)), (1, .int a1)] dX10_whose_15 rfl rfl ?_
    exact x_sub [3, 4, 1, 0] rfl (wX10_whose_L17 hz a1 h_FU (0, 0, M))
  refine x_iload_n hz dX10_whose_10 rfl 0 rfl ?_
  exact x_iret hz rfl dX10_whose_11
theorem kX10_whose {l : Launch} {dd : hDD} {b n : Nat} (a1 : Int32) (M : hMem) (r : Int32 × hMem) (h : fX10_whose a1 M = some r) : hC l hYm dd b yX10_whose cX10_whose 5 (some .int) (n + 6) [.ref (b + 0), .int a1] M (some (.int r.1), r.2) :=
  h_met (av := fun b => [.ref (b + 0), .int a1]) (rt := rtM) (by decide) (Nat.le_of_ble_eq_true rfl) (fun Z hz => wX10_whose (n := n) hz a1 M) r h
set_option maxRecDepth 10000 in
set_option maxHeartbeats 4000000 in
theorem wX10_lay_L19 {Z : hZ} {n : Nat} (hz : hOK Z hYm cX10_lay RX10 6 (n + 5) (some .int))  (v1 : Int32) (v2 : Int32)   : ∀ (i : Nat) (s : Int32 × Int32 × hMem), hW Z rtM s.2.2 19 [(0, .ref (h_b Z + 0)), (1, .int v1), (2, .int v2), (4, .int s.1), (5, .int s.2.1)] [] (h_lp (fX10_lay_L19 v1 v2) i s) := by
  refine x_loop (Ms := fun s : Int32 × Int32 × hMem => s.2.2) (Ls := fun s : Int32 × Int32 × hMem => [(0, .ref (h_b Z + 0)), (1, .int v1), (2, .int v2), (4, .int s.1), (5, .int s.2.1)]) ?_
  intro k19 hk19 s
  show hW Z rtM s.2.2 19 [(0, .ref (h_b Z + 0)), (1, .int v1), (2, .int v2), (4, .int s.1), (5, .int s.2.1)] [] (fX10_lay_L19 v1 v2 k19 s)
  unfold fX10_lay_L19
  refine x_iload hz dX10_lay_19 4 rfl ?_
  refine x_bipush hz 96 dX10_lay_21 rfl ?_
  refine x_icmp_ge hz dX10_lay_23 ?_ ?_
  · refine x_iload hz dX10_lay_85 3 rfl ?_
    exact x_iret hz rfl dX10_lay_87
  refine x_aload_n hz dX10_lay_26 rfl 0 rfl ?_
  refine x_iload hz dX10_lay_27 4 rfl ?_
  refine x_iconst hz 3 dX10_lay_29 rfl ?_
  refine x_idiv hz dX10_lay_30 (by decide) ?_
  refine x_puti hz sm_0 fp_X10_211 rfl dX10_lay_31 ?_
  refine x_aload_n hz dX10_lay_34 rfl 0 rfl ?_
  refine x_iload hz dX10_lay_35 4 rfl ?_
  refine x_iconst hz 3 dX10_lay_37 rfl ?_
  refine x_irem hz dX10_lay_38 (by decide) ?_
  refine x_puti hz sm_0 fp_X10_208 rfl dX10_lay_39 ?_
  refine x_iload hz dX10_lay_42 3 rfl ?_
  refine x_aload_n hz dX10_lay_44 rfl 0 rfl ?_
  refine x_iconst hz 0 dX10_lay_45 rfl ?_
  refine x_iload hz dX10_lay_46 4 rfl ?_
  refine x_iconst hz 3 dX10_lay_48 rfl ?_
  refine x_idiv hz dX10_lay_49 (by decide) ?_
  refine x_bind (fun q50 hq50 => ?_)
  refine x_callV hz mv_X10_101 sm_0 (by decide) rfl rfl (kX10_has (n := (n + 4)) 0 (s.2.1 / 3) (h_up (h_up s.2.2 0 36 (s.2.1 / 3)) 0 37 (h_rem s.2.1 3)) q50 hq50) rfl (av := [.int 0, .int (s.2.1 / 3)]) (rest := [.int s.1]) rfl rfl (Nat.le_of_ble_eq_true rfl) dX10_lay_50 ?_
  refine x_if_ne hz dX10_lay_53 ?_ ?_
  · refine x_iconst hz 0 dX10_lay_75 rfl ?_
    refine x_ior hz dX10_lay_76 ?_
    refine x_istore hz [(4, .int (s.1 ||| 0)), (0, .ref (h_b Z + 0)), (1, .int v1), (2, .int v2), (5, .int s.2.1)] dX10_lay_77 rfl rfl ?_
    refine x_iinc hz (s.2.1 + 1) [(5, .int (s.2.1 + 1)), (4, .int (s.1 ||| 0)), (0, .ref (h_b Z + 0)), (1, .int v1), (2, .int v2)] dX10_lay_79 4 rfl rfl rfl rfl ?_
    refine x_goto hz dX10_lay_82 ?_
    exact x_sub [2, 3, 4, 1, 0] rfl (hk19 (s.1 ||| 0, s.2.1 + 1, h_up (h_up s.2.2 0 36 (s.2.1 / 3)) 0 37 (h_rem s.2.1 3)))
  refine x_aload_n hz dX10_lay_56 rfl 0 rfl ?_
  refine x_iload_n hz dX10_lay_57 rfl 1 rfl ?_
  refine x_iload_n hz dX10_lay_58 rfl 2 rfl ?_
  refine x_bind (fun q59 hq59 => ?_)
  refine x_callV hz mv_X10_280 sm_0 (by decide) rfl rfl (kX10_unlike (n := n) v1 v2 (h_up (h_up s.2.2 0 36 (s.2.1 / 3)) 0 37 (h_rem s.2.1 3)) q59 hq59) rfl (av := [.int v1, .int v2]) (rest := [.int s.1]) rfl rfl (Nat.le_of_ble_eq_true rfl) dX10_lay_59 ?_
  refine x_iconst hz (-1) dX10_lay_62 rfl ?_
  refine x_icmp_ne hz dX10_lay_63 ?_ ?_
  · refine x_iconst hz 0 dX10_lay_75 rfl ?_
    refine x_ior hz dX10_lay_76 ?_
    refine x_istore hz [(4, .int (s.1 ||| 0)), (0, .ref (h_b Z + 0)), (1, .int v1), (2, .int v2), (5, .int s.2.1)] dX10_lay_77 rfl rfl ?_
    refine x_iinc hz (s.2.1 + 1) [(5, .int (s.2.1 + 1)), (4, .int (s.1 ||| 0)), (0, .ref (h_b Z + 0)), (1, .int v1), (2, .int v2)] dX10_lay_79 4 rfl rfl rfl rfl ?_
    refine x_goto hz dX10_lay_82 ?_
    exact x_sub [2, 3, 4, 1, 0] rfl (hk19 (s.1 ||| 0, s.2.1 + 1, q59.2))
  refine x_iconst hz 1 dX10_lay_66 rfl ?_
  refine x_iload hz dX10_lay_67 4 rfl ?_
  refine x_iconst hz 3 dX10_lay_69 rfl ?_
  refine x_irem hz dX10_lay_70 (by decide) ?_
  refine x_ishl hz dX10_lay_71 ?_
  refine x_goto hz dX10_lay_72 ?_
  refine x_ior hz dX10_lay_76 ?_
  refine x_istore hz [(4, .int (s.1 ||| (1 <<< ((h_rem s.2.1 3) &&& 31)))), (0, .ref (h_b Z + 0)), (1, .int v1), (2, .int v2), (5, .int s.2.1)] dX10_lay_77 rfl rfl ?_
  refine x_iinc hz (s.2.1 + 1) [(5, .int (s.2.1 + 1)), (4, .int (s.1 ||| (1 <<< ((h_rem s.2.1 3) &&& 31)))), (0, .ref (h_b Z + 0)), (1, .int v1), (2, .int v2)] dX10_lay_79 4 rfl rfl rfl rfl ?_
  refine x_goto hz dX10_lay_82 ?_
  exact x_sub [2, 3, 4, 1, 0] rfl (hk19 (s.1 ||| (1 <<< ((h_rem s.2.1 3) &&& 31)), s.2.1 + 1, q59.2))
set_option maxRecDepth 10000 in
set_option maxHeartbeats 4000000 in
theorem wX10_lay {Z : hZ} {n : Nat} (hz : hOK Z hYm cX10_lay RX10 6 (n + 5) (some .int)) (a1 : Int32) (a2 : Int32) (M : hMem) : hW Z rtM M 0 [(0, .ref (h_b Z + 0)), (1, .int a1), (2, .int a2)] [] (fX10_lay a1 a2 M) := by
  unfold fX10_lay
  refine x_aload_n hz dX10_lay_0 rfl 0 rfl ?_
  refine x_iload_n hz dX10_lay_1 rfl 1 rfl ?_
  refine x_iload_n hz dX10_lay_2 rfl 2 rfl ?_
  refine x_bind (fun q3 hq3 => ?_)
  refine x_callV hz mv_X10_283 sm_0 (by decide) rfl rfl (kX10_toldWrong (n := (n + 2)) a1 a2 M q3 hq3) rfl (av := [.int a1, .int a2]) (rest := []) rfl rfl (Nat.le_of_ble_eq_true rfl) dX10_lay_3 ?_
  refine x_istore_n hz [(3, .int q3), (0, .ref (h_b Z + 0)), (1, .int a1), (2, .int a2)] dX10_lay_6 rfl rfl rfl ?_
  refine x_iload_n hz dX10_lay_7 rfl 0 rfl ?_
  refine x_if_eq hz dX10_lay_8 ?_ ?_
  · refine x_iconst hz 0 dX10_lay_13 rfl ?_
    refine x_istore hz [(4, .int 0), (3, .int q3), (0, .ref (h_b Z + 0)), (1, .int a1), (2, .int a2)] dX10_lay_14 rfl rfl ?_
    refine x_iconst hz 0 dX10_lay_16 rfl ?_
    refine x_istore hz [(5, .int 0), (4, .int 0), (3, .int q3), (0, .ref (h_b Z + 0)), (1, .int a1), (2, .int a2)] dX10_lay_17 rfl rfl ?_
    exact x_sub [3, 4, 5, 1, 0] rfl (wX10_lay_L19 hz a1 a2 h_FU (0, 0, M))
  refine x_iload_n hz dX10_lay_11 rfl 0 rfl ?_
  exact x_iret hz rfl dX10_lay_12
theorem kX10_lay {l : Launch} {dd : hDD} {b n : Nat} (a1 : Int32) (a2 : Int32) (M : hMem) (r : Int32 × hMem) (h : fX10_lay a1 a2 M = some r) : hC l hYm dd b yX10_lay cX10_lay 6 (some .int) (n + 5) [.ref (b + 0), .int a1, .int a2] M (some (.int r.1), r.2) :=
  h_met (av := fun b => [.ref (b + 0), .int a1, .int a2]) (rt := rtM) (by decide) (Nat.le_of_ble_eq_true rfl) (fun Z hz => wX10_lay (n := n) hz a1 a2 M) r h
set_option maxRecDepth 10000 in
set_option maxHeartbeats 4000000 in
theorem wX10_kinds_L100 {Z : hZ} {n : Nat} (hz : hOK Z hYm cX10_kinds RX10 9 (n + 6) (some .int))  (v1 : Int32) (v2 : Int32) (v3 : Int32) (v5 : Int32) (v6 : Int32) (v7 : Int32) (v8 : Int32) (t2 : Int32) (t1 : Int32) (M : hMem) {k50 : (Int32 × Int32 × hMem) → Option (Int32 × hMem)} (hk50 : ∀ s, hW Z rtM s.2.2 50 [(0, .ref (h_b Z + 0)), (1, .int v1), (2, .int v2), (3, .int v3), (5, .int v5), (6, .int v6), (7, .int s.1), (8, .int s.2.1)] [] (k50 s)) : hW Z rtM M 100 [(0, .ref (h_b Z + 0)), (1, .int v1), (2, .int v2), (3, .int v3), (5, .int v5), (6, .int v6), (7, .int v7), (8, .int v8)] [.int t2, .int t1, .ref (h_b Z + 5)] (fX10_kinds_L100 k50 v1 v2 v3 v5 v6 v7 v8 t2 t1 M) := by
  unfold fX10_kinds_L100
  refine x_iast hz sm_5 dX10_kinds_100 (fun hi100 => ?_)
  refine x_iload hz dX10_kinds_101 6 rfl ?_
  refine x_aload_n hz dX10_kinds_103 rfl 0 rfl ?_
  refine x_iload_n hz dX10_kinds_104 rfl 1 rfl ?_
  refine x_iload_n hz dX10_kinds_105 rfl 2 rfl ?_
  refine x_bind (fun q106 hq106 => ?_)
  refine x_callV hz mv_X10_286 sm_0 (by decide) rfl rfl (kX10_unlikeNow (n := n) v1 v2 (h_up M 5 t1.toNatClampNeg t2) q106 hq106) rfl (av := [.int v1, .int v2]) (rest := [.int v7]) rfl rfl (Nat.le_of_ble_eq_true rfl) dX10_kinds_106 ?_
  refine x_iconst hz (-1) dX10_kinds_109 rfl ?_
  refine x_icmp_ne hz dX10_kinds_110 ?_ ?_
  · refine x_iconst hz 0 dX10_kinds_120 rfl ?_
    refine x_ior hz dX10_kinds_121 ?_
    refine x_istore hz [(7, .int (v7 ||| 0)), (0, .ref (h_b Z + 0)), (1, .int v1), (2, .int v2), (3, .int v3), (5, .int v5), (6, .int v6), (8, .int v8)] dX10_kinds_122 rfl rfl ?_
    refine x_iinc hz (v8 + 1) [(8, .int (v8 + 1)), (7, .int (v7 ||| 0)), (0, .ref (h_b Z + 0)), (1, .int v1), (2, .int v2), (3, .int v3), (5, .int v5), (6, .int v6)] dX10_kinds_124 7 rfl rfl rfl rfl ?_
    refine x_goto hz dX10_kinds_127 ?_
    exact x_sub [2, 3, 4, 5, 6, 7, 1, 0] rfl (hk50 (v7 ||| 0, v8 + 1, q106.2))
  refine x_iconst hz 1 dX10_kinds_113 rfl ?_
  refine x_iload hz dX10_kinds_114 7 rfl ?_
  refine x_ishl hz dX10_kinds_116 ?_
  refine x_goto hz dX10_kinds_117 ?_
  refine x_ior hz dX10_kinds_121 ?_
  refine x_istore hz [(7, .int (v7 ||| (1 <<< (v8 &&& 31)))), (0, .ref (h_b Z + 0)), (1, .int v1), (2, .int v2), (3, .int v3), (5, .int v5), (6, .int v6), (8, .int v8)] dX10_kinds_122 rfl rfl ?_
  refine x_iinc hz (v8 + 1) [(8, .int (v8 + 1)), (7, .int (v7 ||| (1 <<< (v8 &&& 31)))), (0, .ref (h_b Z + 0)), (1, .int v1), (2, .int v2), (3, .int v3), (5, .int v5), (6, .int v6)] dX10_kinds_124 7 rfl rfl rfl rfl ?_
  refine x_goto hz dX10_kinds_127 ?_
  exact x_sub [2, 3, 4, 5, 6, 7, 1, 0] rfl (hk50 (v7 ||| (1 <<< (v8 &&& 31)), v8 + 1, q106.2))
set_option maxRecDepth 10000 in
set_option maxHeartbeats 4000000 in
theorem wX10_kinds_L82 {Z : hZ} {n : Nat} (hz : hOK Z hYm cX10_kinds RX10 9 (n + 6) (some .int))  (v1 : Int32) (v2 : Int32) (v3 : Int32) (v5 : Int32) (v6 : Int32) (v7 : Int32) (v8 : Int32) (t2 : Int32) (t1 : Int32) (M : hMem) {k50 : (Int32 × Int32 × hMem) → Option (Int32 × hMem)} (hk50 : ∀ s, hW Z rtM s.2.2 50 [(0, .ref (h_b Z + 0)), (1, .int v1), (2, .int v2), (3, .int v3), (5, .int v5), (6, .int v6), (7, .int s.1), (8, .int s.2.1)] [] (k50 s)) : hW Z rtM M 82 [(0, .ref (h_b Z + 0)), (1, .int v1), (2, .int v2), (3, .int v3), (5, .int v5), (6, .int v6), (7, .int v7), (8, .int v8)] [.int t2, .int t1, .ref (h_b Z + 4)] (fX10_kinds_L82 k50 v1 v2 v3 v5 v6 v7 v8 t2 t1 M) := by
  unfold fX10_kinds_L82
  refine x_iast hz sm_4 dX10_kinds_82 (fun hi82 => ?_)
  refine x_aload_n hz dX10_kinds_83 rfl 0 rfl ?_
  refine x_getr hz sm_0 fl_X10_22 rfl rm_0_5 (by decide) dX10_kinds_84 ?_
  refine x_iload_n hz dX10_kinds_87 rfl 2 rfl ?_
  refine x_iload_n hz dX10_kinds_88 rfl 3 rfl ?_
  refine x_iconst hz 1 dX10_kinds_89 rfl ?_
  refine x_icmp_ne hz dX10_kinds_90 ?_ ?_
  · refine x_iload hz dX10_kinds_98 5 rfl ?_
    exact x_sub [0, 1, 2, 3, 4, 5, 6, 7] rfl (wX10_kinds_L100 hz v1 v2 v3 v5 v6 v7 v8 v6 v2 (h_up M 4 t1.toNatClampNeg t2) hk50)
  refine x_iload hz dX10_kinds_93 7 rfl ?_
  refine x_goto hz dX10_kinds_95 ?_
  exact x_sub [0, 1, 2, 3, 4, 5, 6, 7] rfl (wX10_kinds_L100 hz v1 v2 v3 v5 v6 v7 v8 v8 v2 (h_up M 4 t1.toNatClampNeg t2) hk50)
set_option maxRecDepth 10000 in
set_option maxHeartbeats 4000000 in
theorem wX10_kinds_L63 {Z : hZ} {n : Nat} (hz : hOK Z hYm cX10_kinds RX10 9 (n + 6) (some .int))  (v1 : Int32) (v2 : Int32) (v3 : Int32) (v5 : Int32) (v6 : Int32) (v7 : Int32) (v8 : Int32) (t1 : Int32) (t0 : Int32) (M : hMem) {k50 : (Int32 × Int32 × hMem) → Option (Int32 × hMem)} (hk50 : ∀ s, hW Z rtM s.2.2 50 [(0, .ref (h_b Z + 0)), (1, .int v1), (2, .int v2), (3, .int v3), (5, .int v5), (6, .int v6), (7, .int s.1), (8, .int s.2.1)] [] (k50 s)) : hW Z rtM M 63 [(0, .ref (h_b Z + 0)), (1, .int v1), (2, .int v2), (3, .int v3), (5, .int v5), (6, .int v6), (7, .int v7), (8, .int v8)] [.int t1, .int t0] (fX10_kinds_L63 k50 v1 v2 v3 v5 v6 v7 v8 t1 t0 M) := by
  unfold fX10_kinds_L63
  refine x_icmp_ge hz dX10_kinds_63 ?_ ?_
  · refine x_aload_n hz dX10_kinds_130 rfl 0 rfl ?_
    refine x_getr hz sm_0 fl_X10_19 rfl rm_0_4 (by decide) dX10_kinds_131 ?_
    refine x_iload_n hz dX10_kinds_134 rfl 2 rfl ?_
    refine x_iload hz dX10_kinds_135 4 rfl ?_
    refine x_iast hz sm_4 dX10_kinds_137 (fun hi137 => ?_)
    refine x_aload_n hz dX10_kinds_138 rfl 0 rfl ?_
    refine x_getr hz sm_0 fl_X10_22 rfl rm_0_5 (by decide) dX10_kinds_139 ?_
    refine x_iload_n hz dX10_kinds_142 rfl 2 rfl ?_
    refine x_iload hz dX10_kinds_143 5 rfl ?_
    refine x_iast hz sm_5 dX10_kinds_145 (fun hi145 => ?_)
    refine x_iload hz dX10_kinds_146 6 rfl ?_
    exact x_iret hz rfl dX10_kinds_148
  refine x_aload_n hz dX10_kinds_66 rfl 0 rfl ?_
  refine x_getr hz sm_0 fl_X10_19 rfl rm_0_4 (by decide) dX10_kinds_67 ?_
  refine x_iload_n hz dX10_kinds_70 rfl 2 rfl ?_
  refine x_iload_n hz dX10_kinds_71 rfl 3 rfl ?_
  refine x_if_ne hz dX10_kinds_72 ?_ ?_
  · refine x_iload hz dX10_kinds_80 4 rfl ?_
    exact x_sub [0, 1, 2, 3, 4, 5, 6, 7] rfl (wX10_kinds_L82 hz v1 v2 v3 v5 v6 v7 v8 v5 v2 M hk50)
  refine x_iload hz dX10_kinds_75 7 rfl ?_
  refine x_goto hz dX10_kinds_77 ?_
  exact x_sub [0, 1, 2, 3, 4, 5, 6, 7] rfl (wX10_kinds_L82 hz v1 v2 v3 v5 v6 v7 v8 v8 v2 M hk50)
set_option maxRecDepth 10000 in
set_option maxHeartbeats 4000000 in
theorem wX10_kinds_L50 {Z : hZ} {n : Nat} (hz : hOK Z hYm cX10_kinds RX10 9 (n + 6) (some .int))  (v1 : Int32) (v2 : Int32) (v3 : Int32) (v5 : Int32) (v6 : Int32)   : ∀ (i : Nat) (s : Int32 × Int32 × hMem), hW Z rtM s.2.2 50 [(0, .ref (h_b Z + 0)), (1, .int v1), (2, .int v2), (3, .int v3), (5, .int v5), (6, .int v6), (7, .int s.1), (8, .int s.2.1)] [] (h_lp (fX10_kinds_L50 v1 v2 v3 v5 v6) i s) := by
  refine x_loop (Ms := fun s : Int32 × Int32 × hMem => s.2.2) (Ls := fun s : Int32 × Int32 × hMem => [(0, .ref (h_b Z + 0)), (1, .int v1), (2, .int v2), (3, .int v3), (5, .int v5), (6, .int v6), (7, .int s.1), (8, .int s.2.1)]) ?_
  intro k50 hk50 s
  show hW Z rtM s.2.2 50 [(0, .ref (h_b Z + 0)), (1, .int v1), (2, .int v2), (3, .int v3), (5, .int v5), (6, .int v6), (7, .int s.1), (8, .int s.2.1)] [] (fX10_kinds_L50 v1 v2 v3 v5 v6 k50 s)
  unfold fX10_kinds_L50
  refine x_iload hz dX10_kinds_50 7 rfl ?_
  refine x_iload_n hz dX10_kinds_52 rfl 3 rfl ?_
  refine x_if_ne hz dX10_kinds_53 ?_ ?_
  · refine x_bipush hz 10 dX10_kinds_61 rfl ?_
    exact x_sub [0, 1, 2, 3, 4, 5, 6, 7] rfl (wX10_kinds_L63 hz v1 v2 v3 v5 v6 s.1 s.2.1 10 s.2.1 s.2.2 hk50)
  refine x_bipush hz 6 dX10_kinds_56 rfl ?_
  refine x_goto hz dX10_kinds_58 ?_
  exact x_sub [0, 1, 2, 3, 4, 5, 6, 7] rfl (wX10_kinds_L63 hz v1 v2 v3 v5 v6 s.1 s.2.1 6 s.2.1 s.2.2 hk50)
set_option maxRecDepth 10000 in
set_option maxHeartbeats 4000000 in
theorem wX10_kinds {Z : hZ} {n : Nat} (hz : hOK Z hYm cX10_kinds RX10 9 (n + 6) (some .int)) (a1 : Int32) (a2 : Int32) (a3 : Int32) (M : hMem) : hW Z rtM M 0 [(0, .ref (h_b Z + 0)), (1, .int a1), (2, .int a2), (3, .int a3)] [] (fX10_kinds a1 a2 a3 M) := by
  unfold fX10_kinds
  refine x_aload_n hz dX10_kinds_0 rfl 0 rfl ?_
  refine x_iload_n hz dX10_kinds_1 rfl 1 rfl ?_
  refine x_iload_n hz dX10_kinds_2 rfl 2 rfl ?_
  refine x_bind (fun q3 hq3 => ?_)
  refine x_callV hz mv_X10_283 sm_0 (by decide) rfl rfl (kX10_toldWrong (n := (n + 3)) a1 a2 M q3 hq3) rfl (av := [.int a1, .int a2]) (rest := []) rfl rfl (Nat.le_of_ble_eq_true rfl) dX10_kinds_3 ?_
  refine x_istore hz [(4, .int q3), (0, .ref (h_b Z + 0)), (1, .int a1), (2, .int a2), (3, .int a3)] dX10_kinds_6 rfl rfl ?_
  refine x_iload hz dX10_kinds_8 0 rfl ?_
  refine x_if_eq hz dX10_kinds_10 ?_ ?_
  · refine x_iload_n hz dX10_kinds_16 rfl 4 rfl ?_
    refine x_iconst hz 0 dX10_kinds_17 rfl ?_
    refine x_iconst hz 1 dX10_kinds_18 rfl ?_
    refine x_callS hz ms_X10_93 (kX10_in (n := (n + 5)) a3 0 1 M) rfl (av := [.int a3, .int 0, .int 1]) (rest := []) rfl rfl (Nat.le_of_ble_eq_true rfl) dX10_kinds_19 ?_
    refine x_if_ne hz dX10_kinds_22 ?_ ?_
    · refine x_aload_n hz dX10_kinds_28 rfl 1 rfl ?_
      refine x_getr hz sm_0 fl_X10_19 rfl rm_0_4 (by decide) dX10_kinds_29 ?_
      refine x_iload_n hz dX10_kinds_32 rfl 3 rfl ?_
      refine x_iald hz sm_4 dX10_kinds_33 (fun hi33 => ?_)
      refine x_istore hz [(5, .int (M 4 a2.toNatClampNeg)), (4, .int q3), (0, .ref (h_b Z + 0)), (1, .int a1), (2, .int a2), (3, .int a3)] dX10_kinds_34 rfl rfl ?_
      refine x_aload_n hz dX10_kinds_36 rfl 2 rfl ?_
      refine x_getr hz sm_0 fl_X10_22 rfl rm_0_5 (by decide) dX10_kinds_37 ?_
      refine x_iload_n hz dX10_kinds_40 rfl 4 rfl ?_
      refine x_iald hz sm_5 dX10_kinds_41 (fun hi41 => ?_)
      refine x_istore hz [(6, .int (M 5 a2.toNatClampNeg)), (5, .int (M 4 a2.toNatClampNeg)), (4, .int q3), (0, .ref (h_b Z + 0)), (1, .int a1), (2, .int a2), (3, .int a3)] dX10_kinds_42 rfl rfl ?_
      refine x_iconst hz 0 dX10_kinds_44 rfl ?_
      refine x_istore hz [(7, .int 0), (6, .int (M 5 a2.toNatClampNeg)), (5, .int (M 4 a2.toNatClampNeg)), (4, .int q3), (0, .ref (h_b Z + 0)), (1, .int a1), (2, .int a2), (3, .int a3)] dX10_kinds_45 rfl rfl ?_
      refine x_iconst hz 0 dX10_kinds_47 rfl ?_
      refine x_istore hz [(8, .int 0), (7, .int 0), (6, .int (M 5 a2.toNatClampNeg)), (5, .int (M 4 a2.toNatClampNeg)), (4, .int q3), (0, .ref (h_b Z + 0)), (1, .int a1), (2, .int a2), (3, .int a3)] dX10_kinds_48 rfl rfl ?_
      exact x_sub [5, 6, 7, 8, 3, 2, 1, 0] rfl (wX10_kinds_L50 hz a1 a2 a3 (M 4 a2.toNatClampNeg) (M 5 a2.toNatClampNeg) h_FU (0, 0, M))
    refine x_bipush hz (-7) dX10_kinds_25 rfl ?_
    exact x_iret hz rfl dX10_kinds_27
  refine x_iload hz dX10_kinds_13 0 rfl ?_
  exact x_iret hz rfl dX10_kinds_15
theorem kX10_kinds {l : Launch} {dd : hDD} {b n : Nat} (a1 : Int32) (a2 : Int32) (a3 : Int32) (M : hMem) (r : Int32 × hMem) (h : fX10_kinds a1 a2 a3 M = some r) : hC l hYm dd b yX10_kinds cX10_kinds 9 (some .int) (n + 6) [.ref (b + 0), .int a1, .int a2, .int a3] M (some (.int r.1), r.2) :=
  h_met (av := fun b => [.ref (b + 0), .int a1, .int a2, .int a3]) (rt := rtM) (by decide) (Nat.le_of_ble_eq_true rfl) (fun Z hz => wX10_kinds (n := n) hz a1 a2 a3 M) r h
