set_option maxRecDepth 10000 in
set_option maxHeartbeats 4000000 in
theorem wX9_who_L48 {Z : hZ} {n : Nat} (hz : hOK Z hYx cX9_who RX9 8 (n + 5) (some .int))  (v2 : Int32) (M : hMem)  : ∀ (i : Nat) (s : Int32 × Int32 × Int32), hW Z rtM M 48 [(0, .ref (h_b Z + 0)), (2, .int v2), (3, .int s.1), (4, .int s.2.1), (5, .int s.2.2)] [] (h_lp (fX9_who_L48 v2 M) i s) := by
  refine x_loop (Ms := fun s : Int32 × Int32 × Int32 => M) (Ls := fun s : Int32 × Int32 × Int32 => [(0, .ref (h_b Z + 0)), (2, .int v2), (3, .int s.1), (4, .int s.2.1), (5, .int s.2.2)]) ?_
  intro k48 hk48 s
  show hW Z rtM M 48 [(0, .ref (h_b Z + 0)), (2, .int v2), (3, .int s.1), (4, .int s.2.1), (5, .int s.2.2)] [] (fX9_who_L48 v2 M k48 s)
  unfold fX9_who_L48
  refine x_iload hz dX9_who_48 4 rfl ?_
  refine x_aload_n hz dX9_who_50 rfl 0 rfl ?_
  refine x_getr hz sx_0 fl_X9_12 rfl rx_0_0 (by decide) dX9_who_51 ?_
  refine x_geti hz sx_1 fl_X9_115 rfl dX9_who_54 ?_
  refine x_icmp_ge hz dX9_who_57 ?_ ?_
  · refine x_iload_n hz dX9_who_127 rfl 1 rfl ?_
    refine x_if_ne hz dX9_who_128 ?_ ?_
    · refine x_iload hz dX9_who_135 3 rfl ?_
      exact x_iret hz rfl dX9_who_137
    refine x_iload_n hz dX9_who_131 rfl 2 rfl ?_
    refine x_goto hz dX9_who_132 ?_
    exact x_iret hz rfl dX9_who_137
  refine x_aload_n hz dX9_who_60 rfl 0 rfl ?_
  refine x_getr hz sx_0 fl_X9_12 rfl rx_0_0 (by decide) dX9_who_61 ?_
  refine x_getr hz sx_1 fl_X9_186 rfl rx_1_4 (by decide) dX9_who_64 ?_
  refine x_iload hz dX9_who_67 4 rfl ?_
  refine x_guard (fun hi69 => ?_)
  refine x_aald0 hz (q := (11 + s.2.2.toNatClampNeg)) 2 (fun _ => rfl) sx_6 (by decide) hi69 rfl (by omega) dX9_who_69 ?_
  refine x_astore hz [(6, .ref (h_b Z + (11 + s.2.2.toNatClampNeg))), (0, .ref (h_b Z + 0)), (2, .int v2), (3, .int s.1), (4, .int s.2.1), (5, .int s.2.2)] dX9_who_70 rfl rfl ?_
  refine x_aload_n hz dX9_who_72 rfl 1 rfl ?_
  refine x_getr hz sx_0 fl_X9_49 rfl rx_0_7 (by decide) dX9_who_73 ?_
  refine x_aload_n hz dX9_who_76 rfl 1 rfl ?_
  refine x_getr hz sx_0 fl_X9_49 rfl rx_0_7 (by decide) dX9_who_77 ?_
  refine x_getr hz sx_40 fl_X9_223 rfl rx_40_9 (by decide) dX9_who_80 ?_
  refine x_aload hz dX9_who_83 0 rfl ?_
  refine x_geti hz (ge_6 hi69) fl_X9_190 rfl dX9_who_85 ?_
  refine x_iconst hz 0 dX9_who_88 rfl ?_
  refine x_aload hz dX9_who_89 0 rfl ?_
  refine x_geti hz (ge_6 hi69) fl_X9_195 rfl dX9_who_91 ?_
  refine x_aload hz dX9_who_94 0 rfl ?_
  refine x_geti hz (ge_6 hi69) fl_X9_198 rfl dX9_who_96 ?_
  refine x_bind (fun q99 hq99 => ?_)
  refine x_callV hz mv_X9_236 sx_40 (by decide) rfl rfl (kX8_had (n := (n + 3)) 47 (M (11 + s.2.2.toNatClampNeg) 0) 0 (M (11 + s.2.2.toNatClampNeg) 1) (M (11 + s.2.2.toNatClampNeg) 2) M q99 hq99) rfl (av := [.ref (h_b Z + 47), .int (M (11 + s.2.2.toNatClampNeg) 0), .int 0, .int (M (11 + s.2.2.toNatClampNeg) 1), .int (M (11 + s.2.2.toNatClampNeg) 2)]) (rest := []) rfl rfl (Nat.le_of_ble_eq_true rfl) dX9_who_99 ?_
  refine x_istore hz [(7, .int q99), (6, .ref (h_b Z + (11 + s.2.2.toNatClampNeg))), (0, .ref (h_b Z + 0)), (2, .int v2), (3, .int s.1), (4, .int s.2.1), (5, .int s.2.2)] dX9_who_102 rfl rfl ?_
  refine x_iload hz dX9_who_104 0 rfl ?_
  refine x_iload hz dX9_who_106 5 rfl ?_
  refine x_callS hz ms_X9_240 (kX9_isSooner (n := (n + 4)) q99 s.2.1 M) rfl (av := [.int q99, .int s.2.1]) (rest := []) rfl rfl (Nat.le_of_ble_eq_true rfl) dX9_who_108 ?_
  refine x_if_eq hz dX9_who_111 ?_ ?_
  · refine x_iinc hz (s.2.2 + 1) [(5, .int (s.2.2 + 1)), (7, .int q99), (6, .ref (h_b Z + (11 + s.2.2.toNatClampNeg))), (0, .ref (h_b Z + 0)), (2, .int v2), (3, .int s.1), (4, .int s.2.1)] dX9_who_121 6 rfl rfl rfl rfl ?_
    refine x_goto hz dX9_who_124 ?_
    exact x_sub [3, 4, 5, 6, 0] rfl (hk48 (s.1, s.2.1, s.2.2 + 1))
  refine x_iload hz dX9_who_114 0 rfl ?_
  refine x_istore hz [(4, .int q99), (7, .int q99), (6, .ref (h_b Z + (11 + s.2.2.toNatClampNeg))), (0, .ref (h_b Z + 0)), (2, .int v2), (3, .int s.1), (5, .int s.2.2)] dX9_who_116 rfl rfl ?_
  refine x_iload hz dX9_who_118 6 rfl ?_
  refine x_istore_n hz [(3, .int s.2.2), (4, .int q99), (7, .int q99), (6, .ref (h_b Z + (11 + s.2.2.toNatClampNeg))), (0, .ref (h_b Z + 0)), (2, .int v2), (5, .int s.2.2)] dX9_who_120 rfl rfl rfl ?_
  refine x_iinc hz (s.2.2 + 1) [(5, .int (s.2.2 + 1)), (3, .int s.2.2), (4, .int q99), (7, .int q99), (6, .ref (h_b Z + (11 + s.2.2.toNatClampNeg))), (0, .ref (h_b Z + 0)), (2, .int v2)] dX9_who_121 6 rfl rfl rfl rfl ?_
  refine x_goto hz dX9_who_124 ?_
  exact x_sub [5, 6, 1, 2, 0] rfl (hk48 (s.2.2, q99, s.2.2 + 1))
set_option maxRecDepth 10000 in
set_option maxHeartbeats 4000000 in
theorem wX9_who {Z : hZ} {n : Nat} (hz : hOK Z hYx cX9_who RX9 8 (n + 5) (some .int)) (a1 : Int32) (a2 : Int32) (M : hMem) : hW Z rtM M 0 [(0, .ref (h_b Z + 0)), (1, .int a1), (2, .int a2)] [] (fX9_who a1 a2 M) := by
  unfold fX9_who
  refine x_aload_n hz dX9_who_0 rfl 0 rfl ?_
  refine x_iload_n hz dX9_who_1 rfl 1 rfl ?_
  refine x_callV hz mv_X9_171 sx_0 (by decide) rfl rfl (kX9_isHat (n := (n + 4)) a1 M) rfl (av := [.int a1]) (rest := []) rfl rfl (Nat.le_of_ble_eq_true rfl) dX9_who_2 ?_
  refine x_if_ne hz dX9_who_5 ?_ ?_
  · refine x_iload_n hz dX9_who_11 rfl 2 rfl ?_
    refine x_callS hz ms_X9_204 (kX9_isZeroOrOne (n := (n + 4)) a2 M) rfl (av := [.int a2]) (rest := []) rfl rfl (Nat.le_of_ble_eq_true rfl) dX9_who_12 ?_
    refine x_if_ne hz dX9_who_15 ?_ ?_
    · refine x_aload_n hz dX9_who_21 rfl 0 rfl ?_
      refine x_iload_n hz dX9_who_22 rfl 1 rfl ?_
      refine x_bind (fun q23 hq23 => ?_)
      refine x_callV hz mv_X9_207 sx_0 (by decide) rfl rfl (kX9_think (n := (n + 2)) a1 M q23 hq23) rfl (av := [.int a1]) (rest := []) rfl rfl (Nat.le_of_ble_eq_true rfl) dX9_who_23 ?_
      refine x_aload_n hz dX9_who_26 rfl 0 rfl ?_
      refine x_getr hz sx_0 fl_X9_49 rfl rx_0_7 (by decide) dX9_who_27 ?_
      refine x_aload_n hz dX9_who_30 rfl 0 rfl ?_
      refine x_getr hz sx_0 fl_X9_49 rfl rx_0_7 (by decide) dX9_who_31 ?_
      refine x_getr hz sx_40 fl_X9_223 rfl rx_40_9 (by decide) dX9_who_34 ?_
      refine x_bind (fun q37 hq37 => ?_)
      refine x_callV hz mv_X9_226 sx_40 (by decide) rfl rfl (kX8_follow (n := n) 47 q23 q37 hq37) rfl (av := [.ref (h_b Z + 47)]) (rest := []) rfl rfl (Nat.le_of_ble_eq_true rfl) dX9_who_37 ?_
      refine x_iconst hz (-1) dX9_who_40 rfl ?_
      refine x_istore_n hz [(3, .int (-1)), (0, .ref (h_b Z + 0)), (1, .int a1), (2, .int a2)] dX9_who_41 rfl rfl rfl ?_
      refine x_iconst hz (-1) dX9_who_42 rfl ?_
      refine x_istore hz [(4, .int (-1)), (3, .int (-1)), (0, .ref (h_b Z + 0)), (1, .int a1), (2, .int a2)] dX9_who_43 rfl rfl ?_
      refine x_iconst hz 0 dX9_who_45 rfl ?_
      refine x_istore hz [(5, .int 0), (4, .int (-1)), (3, .int (-1)), (0, .ref (h_b Z + 0)), (1, .int a1), (2, .int a2)] dX9_who_46 rfl rfl ?_
      exact x_sub [3, 5, 2, 1, 0] rfl (wX9_who_L48 hz a2 q37 h_FU ((-1), (-1), 0))
    refine x_bipush hz (-7) dX9_who_18 rfl ?_
    exact x_iret hz rfl dX9_who_20
  refine x_bipush hz (-5) dX9_who_8 rfl ?_
  exact x_iret hz rfl dX9_who_10
theorem kX9_who {l : Launch} {dd : hDD} {b n : Nat} (a1 : Int32) (a2 : Int32) (M : hMem) (r : Int32 × hMem) (h : fX9_who a1 a2 M = some r) : hC l hYx dd b yX9_who cX9_who 8 (some .int) (n + 5) [.ref (b + 0), .int a1, .int a2] M (some (.int r.1), r.2) :=
  h_met (av := fun b => [.ref (b + 0), .int a1, .int a2]) (rt := rtM) (by decide) (Nat.le_of_ble_eq_true rfl) (fun Z hz => wX9_who (n := n) hz a1 a2 M) r h
set_option maxRecDepth 10000 in
set_option maxHeartbeats 4000000 in
theorem wX9_refusalOfPair {Z : hZ} {n : Nat} (hz : hOK Z hYx cX9_refusalOfPair RX9 4 (n + 1) (some .int)) (a1 : Int32) (a2 : Int32) (a3 : Int32) (M : hMem) : hW Z (rtP M) M 0 [(0, .ref (h_b Z + 0)), (1, .int a1), (2, .int a2), (3, .int a3)] [] (some (fX9_refusalOfPair a1 a2 a3 M)) := by
  unfold fX9_refusalOfPair
  refine x_aload_n hz dX9_refusalOfPair_0 rfl 0 rfl ?_
  refine x_iload_n hz dX9_refusalOfPair_1 rfl 1 rfl ?_
  refine x_callV hz mv_X9_171 sx_0 (by decide) rfl rfl (kX9_isHat (n := n) a1 M) rfl (av := [.int a1]) (rest := []) rfl rfl (Nat.le_of_ble_eq_true rfl) dX9_refusalOfPair_2 ?_
  refine x_pull ?_
  refine x_if_eq hz dX9_refusalOfPair_5 ?_ ?_
  · refine x_bipush hz (-5) dX9_refusalOfPair_16 rfl ?_
    exact x_iret hz rfl dX9_refusalOfPair_18
  refine x_aload_n hz dX9_refusalOfPair_8 rfl 0 rfl ?_
  refine x_iload_n hz dX9_refusalOfPair_9 rfl 2 rfl ?_
  refine x_callV hz mv_X9_201 sx_0 (by decide) rfl rfl (kX9_isCatcher (n := n) a2 M) rfl (av := [.int a2]) (rest := []) rfl rfl (Nat.le_of_ble_eq_true rfl) dX9_refusalOfPair_10 ?_
  refine x_pull ?_
  refine x_if_ne hz dX9_refusalOfPair_13 ?_ ?_
  · refine x_iload_n hz dX9_refusalOfPair_19 rfl 3 rfl ?_
    refine x_callS hz ms_X9_204 (kX9_isZeroOrOne (n := n) a3 M) rfl (av := [.int a3]) (rest := []) rfl rfl (Nat.le_of_ble_eq_true rfl) dX9_refusalOfPair_20 ?_
    refine x_pull ?_
    refine x_if_eq hz dX9_refusalOfPair_23 ?_ ?_
    · refine x_bipush hz (-7) dX9_refusalOfPair_30 rfl ?_
      exact x_iret hz rfl dX9_refusalOfPair_32
    refine x_iconst hz 0 dX9_refusalOfPair_26 rfl ?_
    refine x_goto hz dX9_refusalOfPair_27 ?_
    exact x_iret hz rfl dX9_refusalOfPair_32
  refine x_bipush hz (-5) dX9_refusalOfPair_16 rfl ?_
  exact x_iret hz rfl dX9_refusalOfPair_18
theorem kX9_refusalOfPair {l : Launch} {dd : hDD} {b n : Nat} (a1 : Int32) (a2 : Int32) (a3 : Int32) (M : hMem) : hC l hYx dd b yX9_refusalOfPair cX9_refusalOfPair 4 (some .int) (n + 1) [.ref (b + 0), .int a1, .int a2, .int a3] M (some (.int (fX9_refusalOfPair a1 a2 a3 M)), M) :=
  h_met (av := fun b => [.ref (b + 0), .int a1, .int a2, .int a3]) (rt := (rtP M)) (by decide) (Nat.le_of_ble_eq_true rfl) (fun Z hz => wX9_refusalOfPair (n := n) hz a1 a2 a3 M) _ rfl
set_option maxRecDepth 10000 in
set_option maxHeartbeats 4000000 in
theorem wX9_stand_L56 {Z : hZ} {n : Nat} (hz : hOK Z hYx cX9_stand RX9 10 (n + 5) (some .int))  (v3 : Int32) (v5 : Nat) (hv5 : h_is hYx v5 0 0) (M : hMem)  : ∀ (i : Nat) (s : Int32 × Int32 × Int32), hW Z rtM M 56 [(0, .ref (h_b Z + 0)), (3, .int v3), (5, .ref (h_b Z + v5)), (6, .int s.1), (7, .int s.2.1), (8, .int s.2.2)] [] (h_lp (fX9_stand_L56 v3 v5 M) i s) := by
  refine x_loop (Ms := fun s : Int32 × Int32 × Int32 => M) (Ls := fun s : Int32 × Int32 × Int32 => [(0, .ref (h_b Z + 0)), (3, .int v3), (5, .ref (h_b Z + v5)), (6, .int s.1), (7, .int s.2.1), (8, .int s.2.2)]) ?_
  intro k56 hk56 s
  show hW Z rtM M 56 [(0, .ref (h_b Z + 0)), (3, .int v3), (5, .ref (h_b Z + v5)), (6, .int s.1), (7, .int s.2.1), (8, .int s.2.2)] [] (fX9_stand_L56 v3 v5 M k56 s)
  unfold fX9_stand_L56
  refine x_iload hz dX9_stand_56 5 rfl ?_
  refine x_bipush hz 32 dX9_stand_58 rfl ?_
  refine x_icmp_ge hz dX9_stand_60 ?_ ?_
  · refine x_iload_n hz dX9_stand_140 rfl 1 rfl ?_
    refine x_if_ne hz dX9_stand_141 ?_ ?_
    · refine x_iload hz dX9_stand_149 4 rfl ?_
      exact x_iret hz rfl dX9_stand_151
    refine x_iload hz dX9_stand_144 3 rfl ?_
    refine x_goto hz dX9_stand_146 ?_
    exact x_iret hz rfl dX9_stand_151
  refine x_aload_n hz dX9_stand_63 rfl 0 rfl ?_
  refine x_iload hz dX9_stand_64 5 rfl ?_
  refine x_callV hz mv_X9_154 sx_0 (by decide) rfl rfl (kX9_isOpen (n := (n + 3)) s.2.2 M) rfl (av := [.int s.2.2]) (rest := []) rfl rfl (Nat.le_of_ble_eq_true rfl) dX9_stand_66 ?_
  refine x_if_eq hz dX9_stand_69 ?_ ?_
  · refine x_iinc hz (s.2.2 + 1) [(8, .int (s.2.2 + 1)), (0, .ref (h_b Z + 0)), (3, .int v3), (5, .ref (h_b Z + v5)), (6, .int s.1), (7, .int s.2.1)] dX9_stand_134 5 rfl rfl rfl rfl ?_
    refine x_goto hz dX9_stand_137 ?_
    exact x_sub [1, 2, 3, 4, 5, 0] rfl (hk56 (s.1, s.2.1, s.2.2 + 1))
  refine x_iload hz dX9_stand_72 5 rfl ?_
  refine x_aload_n hz dX9_stand_74 rfl 0 rfl ?_
  refine x_getr hz sx_0 fl_X9_49 rfl rx_0_7 (by decide) dX9_stand_75 ?_
  refine x_geti hz sx_40 fl_X9_210 rfl dX9_stand_78 ?_
  refine x_callS hz ms_X9_174 (kX9_squareOf (n := (n + 4)) (M 40 5) M) rfl (av := [.int (M 40 5)]) (rest := [.int s.2.2]) rfl rfl (Nat.le_of_ble_eq_true rfl) dX9_stand_81 ?_
  refine x_icmp_eq hz dX9_stand_84 ?_ ?_
  · refine x_iinc hz (s.2.2 + 1) [(8, .int (s.2.2 + 1)), (0, .ref (h_b Z + 0)), (3, .int v3), (5, .ref (h_b Z + v5)), (6, .int s.1), (7, .int s.2.1)] dX9_stand_134 5 rfl rfl rfl rfl ?_
    refine x_goto hz dX9_stand_137 ?_
    exact x_sub [1, 2, 3, 4, 5, 0] rfl (hk56 (s.1, s.2.1, s.2.2 + 1))
  refine x_aload_n hz dX9_stand_87 rfl 0 rfl ?_
  refine x_getr hz sx_0 fl_X9_49 rfl rx_0_7 (by decide) dX9_stand_88 ?_
  refine x_aload_n hz dX9_stand_91 rfl 0 rfl ?_
  refine x_getr hz sx_0 fl_X9_49 rfl rx_0_7 (by decide) dX9_stand_92 ?_
  refine x_getr hz sx_40 fl_X9_223 rfl rx_40_9 (by decide) dX9_stand_95 ?_
  refine x_iload hz dX9_stand_98 5 rfl ?_
  refine x_iconst hz 0 dX9_stand_100 rfl ?_
  refine x_aload hz dX9_stand_101 2 rfl ?_
  refine x_geti hz hv5 fl_X9_195 rfl dX9_stand_103 ?_
  refine x_aload hz dX9_stand_106 2 rfl ?_
  refine x_geti hz hv5 fl_X9_198 rfl dX9_stand_108 ?_
  refine x_bind (fun q111 hq111 => ?_)
  refine x_callV hz mv_X9_236 sx_40 (by decide) rfl rfl (kX8_had (n := (n + 3)) 47 s.2.2 0 (M v5 1) (M v5 2) M q111 hq111) rfl (av := [.ref (h_b Z + 47), .int s.2.2, .int 0, .int (M v5 1), .int (M v5 2)]) (rest := []) rfl rfl (Nat.le_of_ble_eq_true rfl) dX9_stand_111 ?_
  refine x_istore hz [(9, .int q111), (0, .ref (h_b Z + 0)), (3, .int v3), (5, .ref (h_b Z + v5)), (6, .int s.1), (7, .int s.2.1), (8, .int s.2.2)] dX9_stand_114 rfl rfl ?_
  refine x_iload hz dX9_stand_116 0 rfl ?_
  refine x_iload hz dX9_stand_118 5 rfl ?_
  refine x_callS hz ms_X9_240 (kX9_isSooner (n := (n + 4)) q111 s.2.1 M) rfl (av := [.int q111, .int s.2.1]) (rest := []) rfl rfl (Nat.le_of_ble_eq_true rfl) dX9_stand_120 ?_
  refine x_if_eq hz dX9_stand_123 ?_ ?_
  · refine x_iinc hz (s.2.2 + 1) [(8, .int (s.2.2 + 1)), (9, .int q111), (0, .ref (h_b Z + 0)), (3, .int v3), (5, .ref (h_b Z + v5)), (6, .int s.1), (7, .int s.2.1)] dX9_stand_134 6 rfl rfl rfl rfl ?_
    refine x_goto hz dX9_stand_137 ?_
    exact x_sub [2, 3, 4, 5, 6, 0] rfl (hk56 (s.1, s.2.1, s.2.2 + 1))
  refine x_iload hz dX9_stand_126 0 rfl ?_
  refine x_istore hz [(7, .int q111), (9, .int q111), (0, .ref (h_b Z + 0)), (3, .int v3), (5, .ref (h_b Z + v5)), (6, .int s.1), (8, .int s.2.2)] dX9_stand_128 rfl rfl ?_
  refine x_iload hz dX9_stand_130 6 rfl ?_
  refine x_istore hz [(6, .int s.2.2), (7, .int q111), (9, .int q111), (0, .ref (h_b Z + 0)), (3, .int v3), (5, .ref (h_b Z + v5)), (8, .int s.2.2)] dX9_stand_132 rfl rfl ?_
  refine x_iinc hz (s.2.2 + 1) [(8, .int (s.2.2 + 1)), (6, .int s.2.2), (7, .int q111), (9, .int q111), (0, .ref (h_b Z + 0)), (3, .int v3), (5, .ref (h_b Z + v5))] dX9_stand_134 6 rfl rfl rfl rfl ?_
  refine x_goto hz dX9_stand_137 ?_
  exact x_sub [4, 5, 6, 1, 2, 0] rfl (hk56 (s.2.2, q111, s.2.2 + 1))
set_option maxRecDepth 10000 in
set_option maxHeartbeats 4000000 in
theorem wX9_stand {Z : hZ} {n : Nat} (hz : hOK Z hYx cX9_stand RX9 10 (n + 5) (some .int)) (a1 : Int32) (a2 : Int32) (a3 : Int32) (M : hMem) : hW Z rtM M 0 [(0, .ref (h_b Z + 0)), (1, .int a1), (2, .int a2), (3, .int a3)] [] (fX9_stand a1 a2 a3 M) := by
  unfold fX9_stand
  refine x_aload_n hz dX9_stand_0 rfl 0 rfl ?_
  refine x_iload_n hz dX9_stand_1 rfl 1 rfl ?_
  refine x_iload_n hz dX9_stand_2 rfl 2 rfl ?_
  refine x_iload_n hz dX9_stand_3 rfl 3 rfl ?_
  refine x_callV hz mv_X9_244 sx_0 (by decide) rfl rfl (kX9_refusalOfPair (n := (n + 3)) a1 a2 a3 M) rfl (av := [.int a1, .int a2, .int a3]) (rest := []) rfl rfl (Nat.le_of_ble_eq_true rfl) dX9_stand_4 ?_
  refine x_istore hz [(4, .int (fX9_refusalOfPair a1 a2 a3 M)), (0, .ref (h_b Z + 0)), (1, .int a1), (2, .int a2), (3, .int a3)] dX9_stand_7 rfl rfl ?_
  refine x_iload hz dX9_stand_9 0 rfl ?_
  refine x_if_eq hz dX9_stand_11 ?_ ?_
  · refine x_aload_n hz dX9_stand_17 rfl 1 rfl ?_
    refine x_iload_n hz dX9_stand_18 rfl 2 rfl ?_
    refine x_bind (fun q19 hq19 => ?_)
    refine x_callV hz mv_X9_207 sx_0 (by decide) rfl rfl (kX9_think (n := (n + 2)) a1 M q19 hq19) rfl (av := [.int a1]) (rest := []) rfl rfl (Nat.le_of_ble_eq_true rfl) dX9_stand_19 ?_
    refine x_aload_n hz dX9_stand_22 rfl 1 rfl ?_
    refine x_getr hz sx_0 fl_X9_49 rfl rx_0_7 (by decide) dX9_stand_23 ?_
    refine x_aload_n hz dX9_stand_26 rfl 1 rfl ?_
    refine x_getr hz sx_0 fl_X9_49 rfl rx_0_7 (by decide) dX9_stand_27 ?_
    refine x_getr hz sx_40 fl_X9_223 rfl rx_40_9 (by decide) dX9_stand_30 ?_
    refine x_bind (fun q33 hq33 => ?_)
    refine x_callV hz mv_X9_226 sx_40 (by decide) rfl rfl (kX8_follow (n := n) 47 q19 q33 hq33) rfl (av := [.ref (h_b Z + 47)]) (rest := []) rfl rfl (Nat.le_of_ble_eq_true rfl) dX9_stand_33 ?_
    refine x_aload_n hz dX9_stand_36 rfl 1 rfl ?_
    refine x_getr hz sx_0 fl_X9_12 rfl rx_0_0 (by decide) dX9_stand_37 ?_
    refine x_getr hz sx_1 fl_X9_186 rfl rx_1_4 (by decide) dX9_stand_40 ?_
    refine x_iload_n hz dX9_stand_43 rfl 3 rfl ?_
    refine x_guard (fun hi44 => ?_)
    refine x_aald0 hz (q := (11 + a2.toNatClampNeg)) 2 (fun _ => rfl) sx_6 (by decide) hi44 rfl (by omega) dX9_stand_44 ?_
    refine x_astore hz [(5, .ref (h_b Z + (11 + a2.toNatClampNeg))), (4, .int (fX9_refusalOfPair a1 a2 a3 M)), (0, .ref (h_b Z + 0)), (1, .int a1), (2, .int a2), (3, .int a3)] dX9_stand_45 rfl rfl ?_
    refine x_iconst hz (-1) dX9_stand_47 rfl ?_
    refine x_istore hz [(6, .int (-1)), (5, .ref (h_b Z + (11 + a2.toNatClampNeg))), (4, .int (fX9_refusalOfPair a1 a2 a3 M)), (0, .ref (h_b Z + 0)), (1, .int a1), (2, .int a2), (3, .int a3)] dX9_stand_48 rfl rfl ?_
    refine x_iconst hz (-1) dX9_stand_50 rfl ?_
    refine x_istore hz [(7, .int (-1)), (6, .int (-1)), (5, .ref (h_b Z + (11 + a2.toNatClampNeg))), (4, .int (fX9_refusalOfPair a1 a2 a3 M)), (0, .ref (h_b Z + 0)), (1, .int a1), (2, .int a2), (3, .int a3)] dX9_stand_51 rfl rfl ?_
    refine x_iconst hz 0 dX9_stand_53 rfl ?_
    refine x_istore hz [(8, .int 0), (7, .int (-1)), (6, .int (-1)), (5, .ref (h_b Z + (11 + a2.toNatClampNeg))), (4, .int (fX9_refusalOfPair a1 a2 a3 M)), (0, .ref (h_b Z + 0)), (1, .int a1), (2, .int a2), (3, .int a3)] dX9_stand_54 rfl rfl ?_
    exact x_sub [5, 8, 3, 2, 1, 0] rfl (wX9_stand_L56 hz a3 (11 + a2.toNatClampNeg) (ge_6 hi44) q33 h_FU ((-1), (-1), 0))
  refine x_iload hz dX9_stand_14 0 rfl ?_
  exact x_iret hz rfl dX9_stand_16
theorem kX9_stand {l : Launch} {dd : hDD} {b n : Nat} (a1 : Int32) (a2 : Int32) (a3 : Int32) (M : hMem) (r : Int32 × hMem) (h : fX9_stand a1 a2 a3 M = some r) : hC l hYx dd b yX9_stand cX9_stand 10 (some .int) (n + 5) [.ref (b + 0), .int a1, .int a2, .int a3] M (some (.int r.1), r.2) :=
  h_met (av := fun b => [.ref (b + 0), .int a1, .int a2, .int a3]) (rt := rtM) (by decide) (Nat.le_of_ble_eq_true rfl) (fun Z hz => wX9_stand (n := n) hz a1 a2 a3 M) r h
set_option maxRecDepth 10000 in
set_option maxHeartbeats 4000000 in
theorem wX9_wait_L43 {Z : hZ} {n : Nat} (hz : hOK Z hYx cX9_wait RX9 8 (n + 7) (some .int))  (v3 : Int32) (v4 : Nat) (hv4 : h_is hYx v4 0 0) (M : hMem)  : ∀ (i : Nat) (s : Int32 × Int32), hW Z rtM M 43 [(0, .ref (h_b Z + 0)), (3, .int v3), (4, .ref (h_b Z + v4)), (5, .int s.1), (6, .int s.2)] [] (h_lp (fX9_wait_L43 v3 v4 M) i s) := by
  refine x_loop (Ms := fun s : Int32 × Int32 => M) (Ls := fun s : Int32 × Int32 => [(0, .ref (h_b Z + 0)), (3, .int v3), (4, .ref (h_b Z + v4)), (5, .int s.1), (6, .int s.2)]) ?_
  intro k43 hk43 s
  show hW Z rtM M 43 [(0, .ref (h_b Z + 0)), (3, .int v3), (4, .ref (h_b Z + v4)), (5, .int s.1), (6, .int s.2)] [] (fX9_wait_L43 v3 v4 M k43 s)
  unfold fX9_wait_L43
  refine x_iload hz dX9_wait_43 4 rfl ?_
  refine x_iload_n hz dX9_wait_45 rfl 1 rfl ?_
  refine x_icmp_gt hz dX9_wait_46 ?_ ?_
  · refine x_iload hz dX9_wait_106 3 rfl ?_
    exact x_iret hz rfl dX9_wait_108
  refine x_aload_n hz dX9_wait_49 rfl 0 rfl ?_
  refine x_getr hz sx_0 fl_X9_49 rfl rx_0_7 (by decide) dX9_wait_50 ?_
  refine x_aload_n hz dX9_wait_53 rfl 0 rfl ?_
  refine x_getr hz sx_0 fl_X9_49 rfl rx_0_7 (by decide) dX9_wait_54 ?_
  refine x_getr hz sx_40 fl_X9_223 rfl rx_40_9 (by decide) dX9_wait_57 ?_
  refine x_aload hz dX9_wait_60 2 rfl ?_
  refine x_geti hz hv4 fl_X9_190 rfl dX9_wait_62 ?_
  refine x_iload hz dX9_wait_65 4 rfl ?_
  refine x_aload hz dX9_wait_67 2 rfl ?_
  refine x_geti hz hv4 fl_X9_195 rfl dX9_wait_69 ?_
  refine x_aload hz dX9_wait_72 2 rfl ?_
  refine x_geti hz hv4 fl_X9_198 rfl dX9_wait_74 ?_
  refine x_bind (fun q77 hq77 => ?_)
  refine x_callV hz mv_X9_236 sx_40 (by decide) rfl rfl (kX8_had (n := (n + 5)) 47 (M v4 0) s.2 (M v4 1) (M v4 2) M q77 hq77) rfl (av := [.ref (h_b Z + 47), .int (M v4 0), .int s.2, .int (M v4 1), .int (M v4 2)]) (rest := []) rfl rfl (Nat.le_of_ble_eq_true rfl) dX9_wait_77 ?_
  refine x_istore hz [(7, .int q77), (0, .ref (h_b Z + 0)), (3, .int v3), (4, .ref (h_b Z + v4)), (5, .int s.1), (6, .int s.2)] dX9_wait_80 rfl rfl ?_
  refine x_iload hz dX9_wait_82 0 rfl ?_
  refine x_if_lt hz dX9_wait_84 ?_ ?_
  · refine x_iload hz dX9_wait_106 4 rfl ?_
    exact x_iret hz rfl dX9_wait_108
  refine x_iload hz dX9_wait_87 0 rfl ?_
  refine x_iload_n hz dX9_wait_89 rfl 2 rfl ?_
  refine x_icmp_le hz dX9_wait_90 ?_ ?_
  · refine x_iload hz dX9_wait_96 5 rfl ?_
    refine x_istore hz [(5, .int s.2), (7, .int q77), (0, .ref (h_b Z + 0)), (3, .int v3), (4, .ref (h_b Z + v4)), (6, .int s.2)] dX9_wait_98 rfl rfl ?_
    refine x_iinc hz (s.2 + 1) [(6, .int (s.2 + 1)), (5, .int s.2), (7, .int q77), (0, .ref (h_b Z + 0)), (3, .int v3), (4, .ref (h_b Z + v4))] dX9_wait_100 5 rfl rfl rfl rfl ?_
    refine x_goto hz dX9_wait_103 ?_
    exact x_sub [3, 4, 5, 1, 0] rfl (hk43 (s.2, s.2 + 1))
  refine x_goto hz dX9_wait_93 ?_
  refine x_iload hz dX9_wait_106 4 rfl ?_
  exact x_iret hz rfl dX9_wait_108
set_option maxRecDepth 10000 in
set_option maxHeartbeats 4000000 in
theorem wX9_wait {Z : hZ} {n : Nat} (hz : hOK Z hYx cX9_wait RX9 8 (n + 7) (some .int)) (a1 : Int32) (a2 : Int32) (M : hMem) : hW Z rtM M 0 [(0, .ref (h_b Z + 0)), (1, .int a1), (2, .int a2)] [] (fX9_wait a1 a2 M) := by
  unfold fX9_wait
  refine x_aload_n hz dX9_wait_0 rfl 0 rfl ?_
  refine x_iload_n hz dX9_wait_1 rfl 1 rfl ?_
  refine x_callV hz mv_X9_171 sx_0 (by decide) rfl rfl (kX9_isHat (n := (n + 6)) a1 M) rfl (av := [.int a1]) (rest := []) rfl rfl (Nat.le_of_ble_eq_true rfl) dX9_wait_2 ?_
  refine x_if_eq hz dX9_wait_5 ?_ ?_
  · refine x_bipush hz (-5) dX9_wait_16 rfl ?_
    exact x_iret hz rfl dX9_wait_18
  refine x_aload_n hz dX9_wait_8 rfl 0 rfl ?_
  refine x_iload_n hz dX9_wait_9 rfl 2 rfl ?_
  refine x_callV hz mv_X9_201 sx_0 (by decide) rfl rfl (kX9_isCatcher (n := (n + 6)) a2 M) rfl (av := [.int a2]) (rest := []) rfl rfl (Nat.le_of_ble_eq_true rfl) dX9_wait_10 ?_
  refine x_if_ne hz dX9_wait_13 ?_ ?_
  · refine x_aload_n hz dX9_wait_19 rfl 0 rfl ?_
    refine x_iload_n hz dX9_wait_20 rfl 1 rfl ?_
    refine x_iload_n hz dX9_wait_21 rfl 2 rfl ?_
    refine x_bind (fun q22 hq22 => ?_)
    refine x_callV hz mv_X9_233 sx_0 (by decide) rfl rfl (kX9_hadNow (n := n) a1 a2 M q22 hq22) rfl (av := [.int a1, .int a2]) (rest := []) rfl rfl (Nat.le_of_ble_eq_true rfl) dX9_wait_22 ?_
    refine x_istore_n hz [(3, .int q22.1), (0, .ref (h_b Z + 0)), (1, .int a1), (2, .int a2)] dX9_wait_25 rfl rfl rfl ?_
    refine x_aload_n hz dX9_wait_26 rfl 1 rfl ?_
    refine x_getr hz sx_0 fl_X9_12 rfl rx_0_0 (by decide) dX9_wait_27 ?_
    refine x_getr hz sx_1 fl_X9_186 rfl rx_1_4 (by decide) dX9_wait_30 ?_
    refine x_iload_n hz dX9_wait_33 rfl 3 rfl ?_
    refine x_guard (fun hi34 => ?_)
    refine x_aald0 hz (q := (11 + a2.toNatClampNeg)) 2 (fun _ => rfl) sx_6 (by decide) hi34 rfl (by omega) dX9_wait_34 ?_
    refine x_astore hz [(4, .ref (h_b Z + (11 + a2.toNatClampNeg))), (3, .int q22.1), (0, .ref (h_b Z + 0)), (1, .int a1), (2, .int a2)] dX9_wait_35 rfl rfl ?_
    refine x_iconst hz (-1) dX9_wait_37 rfl ?_
    refine x_istore hz [(5, .int (-1)), (4, .ref (h_b Z + (11 + a2.toNatClampNeg))), (3, .int q22.1), (0, .ref (h_b Z + 0)), (1, .int a1), (2, .int a2)] dX9_wait_38 rfl rfl ?_
    refine x_iconst hz 0 dX9_wait_40 rfl ?_
    refine x_istore hz [(6, .int 0), (5, .int (-1)), (4, .ref (h_b Z + (11 + a2.toNatClampNeg))), (3, .int q22.1), (0, .ref (h_b Z + 0)), (1, .int a1), (2, .int a2)] dX9_wait_41 rfl rfl ?_
    exact x_sub [4, 3, 2, 1, 0] rfl (wX9_wait_L43 hz q22.1 (11 + a2.toNatClampNeg) (ge_6 hi34) q22.2 h_FU ((-1), 0))
  refine x_bipush hz (-5) dX9_wait_16 rfl ?_
  exact x_iret hz rfl dX9_wait_18
theorem kX9_wait {l : Launch} {dd : hDD} {b n : Nat} (a1 : Int32) (a2 : Int32) (M : hMem) (r : Int32 × hMem) (h : fX9_wait a1 a2 M = some r) : hC l hYx dd b yX9_wait cX9_wait 8 (some .int) (n + 7) [.ref (b + 0), .int a1, .int a2] M (some (.int r.1), r.2) :=
  h_met (av := fun b => [.ref (b + 0), .int a1, .int a2]) (rt := rtM) (by decide) (Nat.le_of_ble_eq_true rfl) (fun Z hz => wX9_wait (n := n) hz a1 a2 M) r h
set_option maxRecDepth 10000 in
set_option maxHeartbeats 4000000 in
theorem wX9_pace_L65 {Z : hZ} {n : Nat} (hz : hOK Z hYx cX9_pace RX9 7 (n + 5) (some .int))  (v3 : Int32) (v4 : Nat) (hv4 : h_is hYx v4 0 0) (M : hMem)  : ∀ (i : Nat) (s : Int32), hW Z rtM M 65 [(0, .ref (h_b Z + 0)), (3, .int v3), (4, .ref (h_b Z + v4)), (5, .int s)] [] (h_lp (fX9_pace_L65 v3 v4 M) i s) := by
  refine x_loop (Ms := fun s : Int32 => M) (Ls := fun s : Int32 => [(0, .ref (h_b Z + 0)), (3, .int v3), (4, .ref (h_b Z + v4)), (5, .int s)]) ?_
  intro k65 hk65 s
  show hW Z rtM M 65 [(0, .ref (h_b Z + 0)), (3, .int v3), (4, .ref (h_b Z + v4)), (5, .int s)] [] (fX9_pace_L65 v3 v4 M k65 s)
  unfold fX9_pace_L65
  refine x_iload hz dX9_pace_65 3 rfl ?_
  refine x_iconst hz 4 dX9_pace_67 rfl ?_
  refine x_icmp_gt hz dX9_pace_68 ?_ ?_
  · refine x_iconst hz (-1) dX9_pace_124 rfl ?_
    exact x_iret hz rfl dX9_pace_125
  refine x_aload_n hz dX9_pace_71 rfl 0 rfl ?_
  refine x_getr hz sx_0 fl_X9_49 rfl rx_0_7 (by decide) dX9_pace_72 ?_
  refine x_aload_n hz dX9_pace_75 rfl 0 rfl ?_
  refine x_getr hz sx_0 fl_X9_49 rfl rx_0_7 (by decide) dX9_pace_76 ?_
  refine x_getr hz sx_40 fl_X9_223 rfl rx_40_9 (by decide) dX9_pace_79 ?_
  refine x_aload hz dX9_pace_82 2 rfl ?_
  refine x_geti hz hv4 fl_X9_190 rfl dX9_pace_84 ?_
  refine x_iconst hz 0 dX9_pace_87 rfl ?_
  refine x_iload hz dX9_pace_88 3 rfl ?_
  refine x_aload hz dX9_pace_90 2 rfl ?_
  refine x_geti hz hv4 fl_X9_198 rfl dX9_pace_92 ?_
  refine x_bind (fun q95 hq95 => ?_)
  refine x_callV hz mv_X9_236 sx_40 (by decide) rfl rfl (kX8_had (n := (n + 3)) 47 (M v4 0) 0 s (M v4 2) M q95 hq95) rfl (av := [.ref (h_b Z + 47), .int (M v4 0), .int 0, .int s, .int (M v4 2)]) (rest := []) rfl rfl (Nat.le_of_ble_eq_true rfl) dX9_pace_95 ?_
  refine x_istore hz [(6, .int q95), (0, .ref (h_b Z + 0)), (3, .int v3), (4, .ref (h_b Z + v4)), (5, .int s)] dX9_pace_98 rfl rfl ?_
  refine x_iload hz dX9_pace_100 0 rfl ?_
  refine x_if_lt hz dX9_pace_102 ?_ ?_
  · refine x_iinc hz (s + 1) [(5, .int (s + 1)), (6, .int q95), (0, .ref (h_b Z + 0)), (3, .int v3), (4, .ref (h_b Z + v4))] dX9_pace_118 4 rfl rfl rfl rfl ?_
    refine x_goto hz dX9_pace_121 ?_
    exact x_sub [2, 3, 4, 0] rfl (hk65 (s + 1))
  refine x_iload_n hz dX9_pace_105 rfl 2 rfl ?_
  refine x_if_eq hz dX9_pace_106 ?_ ?_
  · refine x_iload hz dX9_pace_115 4 rfl ?_
    exact x_iret hz rfl dX9_pace_117
  refine x_iload hz dX9_pace_109 0 rfl ?_
  refine x_iload_n hz dX9_pace_111 rfl 2 rfl ?_
  refine x_icmp_ge hz dX9_pace_112 ?_ ?_
  · refine x_iinc hz (s + 1) [(5, .int (s + 1)), (6, .int q95), (0, .ref (h_b Z + 0)), (3, .int v3), (4, .ref (h_b Z + v4))] dX9_pace_118 4 rfl rfl rfl rfl ?_
    refine x_goto hz dX9_pace_121 ?_
    exact x_sub [2, 3, 4, 0] rfl (hk65 (s + 1))
  refine x_iload hz dX9_pace_115 4 rfl ?_
  exact x_iret hz rfl dX9_pace_117
set_option maxRecDepth 10000 in
set_option maxHeartbeats 4000000 in
theorem wX9_pace {Z : hZ} {n : Nat} (hz : hOK Z hYx cX9_pace RX9 7 (n + 5) (some .int)) (a1 : Int32) (a2 : Int32) (a3 : Int32) (M : hMem) : hW Z rtM M 0 [(0, .ref (h_b Z + 0)), (1, .int a1), (2, .int a2), (3, .int a3)] [] (fX9_pace a1 a2 a3 M) := by
  unfold fX9_pace
  refine x_aload_n hz dX9_pace_0 rfl 0 rfl ?_
  refine x_iload_n hz dX9_pace_1 rfl 1 rfl ?_
  refine x_callV hz mv_X9_171 sx_0 (by decide) rfl rfl (kX9_isHat (n := (n + 4)) a1 M) rfl (av := [.int a1]) (rest := []) rfl rfl (Nat.le_of_ble_eq_true rfl) dX9_pace_2 ?_
  refine x_if_eq hz dX9_pace_5 ?_ ?_
  · refine x_bipush hz (-5) dX9_pace_16 rfl ?_
    exact x_iret hz rfl dX9_pace_18
  refine x_aload_n hz dX9_pace_8 rfl 0 rfl ?_
  refine x_iload_n hz dX9_pace_9 rfl 2 rfl ?_
  refine x_callV hz mv_X9_201 sx_0 (by decide) rfl rfl (kX9_isCatcher (n := (n + 4)) a2 M) rfl (av := [.int a2]) (rest := []) rfl rfl (Nat.le_of_ble_eq_true rfl) dX9_pace_10 ?_
  refine x_if_ne hz dX9_pace_13 ?_ ?_
  · refine x_iload_n hz dX9_pace_19 rfl 3 rfl ?_
    refine x_if_lt hz dX9_pace_20 ?_ ?_
    · refine x_bipush hz (-7) dX9_pace_29 rfl ?_
      exact x_iret hz rfl dX9_pace_31
    refine x_iload_n hz dX9_pace_23 rfl 3 rfl ?_
    refine x_bipush hz 24 dX9_pace_24 rfl ?_
    refine x_icmp_le hz dX9_pace_26 ?_ ?_
    · refine x_aload_n hz dX9_pace_32 rfl 0 rfl ?_
      refine x_iload_n hz dX9_pace_33 rfl 1 rfl ?_
      refine x_bind (fun q34 hq34 => ?_)
      refine x_callV hz mv_X9_207 sx_0 (by decide) rfl rfl (kX9_think (n := (n + 2)) a1 M q34 hq34) rfl (av := [.int a1]) (rest := []) rfl rfl (Nat.le_of_ble_eq_true rfl) dX9_pace_34 ?_
      refine x_aload_n hz dX9_pace_37 rfl 0 rfl ?_
      refine x_getr hz sx_0 fl_X9_49 rfl rx_0_7 (by decide) dX9_pace_38 ?_
      refine x_aload_n hz dX9_pace_41 rfl 0 rfl ?_
      refine x_getr hz sx_0 fl_X9_49 rfl rx_0_7 (by decide) dX9_pace_42 ?_
      refine x_getr hz sx_40 fl_X9_223 rfl rx_40_9 (by decide) dX9_pace_45 ?_
      refine x_bind (fun q48 hq48 => ?_)
      refine x_callV hz mv_X9_226 sx_40 (by decide) rfl rfl (kX8_follow (n := n) 47 q34 q48 hq48) rfl (av := [.ref (h_b Z + 47)]) (rest := []) rfl rfl (Nat.le_of_ble_eq_true rfl) dX9_pace_48 ?_
      refine x_aload_n hz dX9_pace_51 rfl 0 rfl ?_
      refine x_getr hz sx_0 fl_X9_12 rfl rx_0_0 (by decide) dX9_pace_52 ?_
      refine x_getr hz sx_1 fl_X9_186 rfl rx_1_4 (by decide) dX9_pace_55 ?_
      refine x_iload_n hz dX9_pace_58 rfl 2 rfl ?_
      refine x_guard (fun hi59 => ?_)
      refine x_aald0 hz (q := (11 + a2.toNatClampNeg)) 2 (fun _ => rfl) sx_6 (by decide) hi59 rfl (by omega) dX9_pace_59 ?_
      refine x_astore hz [(4, .ref (h_b Z + (11 + a2.toNatClampNeg))), (0, .ref (h_b Z + 0)), (1, .int a1), (2, .int a2), (3, .int a3)] dX9_pace_60 rfl rfl ?_
      refine x_iconst hz 0 dX9_pace_62 rfl ?_
      refine x_istore hz [(5, .int 0), (4, .ref (h_b Z + (11 + a2.toNatClampNeg))), (0, .ref (h_b Z + 0)), (1, .int a1), (2, .int a2), (3, .int a3)] dX9_pace_63 rfl rfl ?_
      exact x_sub [2, 5, 1, 0] rfl (wX9_pace_L65 hz a3 (11 + a2.toNatClampNeg) (ge_6 hi59) q48 h_FU 0)
    refine x_bipush hz (-7) dX9_pace_29 rfl ?_
    exact x_iret hz rfl dX9_pace_31
  refine x_bipush hz (-5) dX9_pace_16 rfl ?_
  exact x_iret hz rfl dX9_pace_18
theorem kX9_pace {l : Launch} {dd : hDD} {b n : Nat} (a1 : Int32) (a2 : Int32) (a3 : Int32) (M : hMem) (r : Int32 × hMem) (h : fX9_pace a1 a2 a3 M = some r) : hC l hYx dd b yX9_pace cX9_pace 7 (some .int) (n + 5) [.ref (b + 0), .int a1, .int a2, .int a3] M (some (.int r.1), r.2) :=
  h_met (av := fun b => [.ref (b + 0), .int a1, .int a2, .int a3]) (rt := rtM) (by decide) (Nat.le_of_ble_eq_true rfl) (fun Z hz => wX9_pace (n := n) hz a1 a2 a3 M) r h
def hRC_fetch (l : Launch) (dd : hDD) (b : Nat) (rc : Nat → Int32 → Int32 → Int32 → Int32 → hMem → Option hMem) (d : Nat) : Prop := (∀ (o0 o1 o2 o3 : Int32) (M r : hMem), rc 0 o0 o1 o2 o3 M = some r → hC l hYx dd b yX1_fetch cX1_fetch 8 none d [.ref (b + 49), .ref (b + 40), .int o0, .int o1, .int o2, .int o3] M (none, r))
set_option maxRecDepth 10000 in
set_option maxHeartbeats 4000000 in
theorem wX1_fetch_L39 {Z : hZ} {n : Nat} (hz : hOK Z hYx cX1_fetch RX1 8 (n + 2) none) {rc : Nat → Int32 → Int32 → Int32 → Int32 → hMem → Option hMem} (hrc : hRC_fetch (h_l Z) (h_d Z) (h_b Z) rc (n + 1))  (v2 : Int32) (v3 : Int32) (v4 : Int32) (v5 : Int32)   : ∀ (i : Nat) (s : Int32 × hMem), hW Z rtV s.2 39 [(0, .ref (h_b Z + 49)), (1, .ref (h_b Z + 40)), (2, .int v2), (3, .int v3), (4, .int v4), (5, .int v5), (6, .int s.1)] [] (h_lp (fX1_fetch_L39 rc v2 v3 v4 v5) i s) := by
  refine x_loop (Ms := fun s : Int32 × hMem => s.2) (Ls := fun s : Int32 × hMem => [(0, .ref (h_b Z + 49)), (1, .ref (h_b Z + 40)), (2, .int v2), (3, .int v3), (4, .int v4), (5, .int v5), (6, .int s.1)]) ?_
  intro k39 hk39 s
  show hW Z rtV s.2 39 [(0, .ref (h_b Z + 49)), (1, .ref (h_b Z + 40)), (2, .int v2), (3, .int v3), (4, .int v4), (5, .int v5), (6, .int s.1)] [] (fX1_fetch_L39 rc v2 v3 v4 v5 k39 s)
  unfold fX1_fetch_L39
  refine x_iload hz dX1_fetch_39 6 rfl ?_
  refine x_aload_n hz dX1_fetch_41 rfl 0 rfl ?_
  refine x_geti hz sx_49 fl_X1_23 rfl dX1_fetch_42 ?_
  refine x_icmp_ge hz dX1_fetch_45 ?_ ?_
  · exact x_vret hz rfl dX1_fetch_128
  refine x_iload_n hz dX1_fetch_48 rfl 2 rfl ?_
  refine x_iload hz dX1_fetch_49 6 rfl ?_
  refine x_iushr hz dX1_fetch_51 ?_
  refine x_iconst hz 1 dX1_fetch_52 rfl ?_
  refine x_iand hz dX1_fetch_53 ?_
  refine x_if_ne hz dX1_fetch_54 ?_ ?_
  · refine x_iinc hz (s.1 + 1) [(6, .int (s.1 + 1)), (0, .ref (h_b Z + 49)), (1, .ref (h_b Z + 40)), (2, .int v2), (3, .int v3), (4, .int v4), (5, .int v5)] dX1_fetch_122 6 rfl rfl rfl rfl ?_
    refine x_goto hz dX1_fetch_125 ?_
    exact x_sub [1, 2, 3, 4, 5, 6, 0] rfl (hk39 (s.1 + 1, s.2))
  refine x_aload_n hz dX1_fetch_57 rfl 1 rfl ?_
  refine x_aload_n hz dX1_fetch_58 rfl 0 rfl ?_
  refine x_getr hz sx_49 fl_X1_11 rfl rx_49_0 (by decide) dX1_fetch_59 ?_
  refine x_iload hz dX1_fetch_62 6 rfl ?_
  refine x_guard (fun hi64 => ?_)
  refine x_aalda0 hz (q := (51 + s.1.toNatClampNeg)) sx_50 hi64 rfl (by omega) dX1_fetch_64 ?_
  refine x_iload hz dX1_fetch_65 4 rfl ?_
  refine x_iload hz dX1_fetch_67 5 rfl ?_
  refine x_aload_n hz dX1_fetch_69 rfl 0 rfl ?_
  refine x_geti hz sx_49 fl_X1_31 rfl dX1_fetch_70 ?_
  refine x_aload_n hz dX1_fetch_73 rfl 0 rfl ?_
  refine x_geti hz sx_49 fl_X1_35 rfl dX1_fetch_74 ?_
  refine x_bind (fun q77 hq77 => ?_)
  refine x_callV hz mv_X1_47 sx_40 (by decide) rfl rfl (kX8_had (n := n) (51 + s.1.toNatClampNeg) v4 v5 (s.2 49 4) (s.2 49 5) s.2 q77 hq77) rfl (av := [.ref (h_b Z + (51 + s.1.toNatClampNeg)), .int v4, .int v5, .int (s.2 49 4), .int (s.2 49 5)]) (rest := []) rfl rfl (Nat.le_of_ble_eq_true rfl) dX1_fetch_77 ?_
  refine x_istore hz [(7, .int q77), (0, .ref (h_b Z + 49)), (1, .ref (h_b Z + 40)), (2, .int v2), (3, .int v3), (4, .int v4), (5, .int v5), (6, .int s.1)] dX1_fetch_80 rfl rfl ?_
  refine x_iload hz dX1_fetch_82 0 rfl ?_
  refine x_if_lt hz dX1_fetch_84 ?_ ?_
  · refine x_iinc hz (s.1 + 1) [(6, .int (s.1 + 1)), (7, .int q77), (0, .ref (h_b Z + 49)), (1, .ref (h_b Z + 40)), (2, .int v2), (3, .int v3), (4, .int v4), (5, .int v5)] dX1_fetch_122 7 rfl rfl rfl rfl ?_
    refine x_goto hz dX1_fetch_125 ?_
    exact x_sub [2, 3, 4, 5, 6, 7, 0] rfl (hk39 (s.1 + 1, s.2))
  refine x_aload_n hz dX1_fetch_87 rfl 1 rfl ?_
  refine x_aload_n hz dX1_fetch_88 rfl 2 rfl ?_
  refine x_iload_n hz dX1_fetch_89 rfl 3 rfl ?_
  refine x_iconst hz 1 dX1_fetch_90 rfl ?_
  refine x_iload hz dX1_fetch_91 7 rfl ?_
  refine x_ishl hz dX1_fetch_93 ?_
  refine x_ior hz dX1_fetch_94 ?_
  refine x_bipush hz 10 dX1_fetch_95 rfl ?_
  refine x_iload_n hz dX1_fetch_97 rfl 4 rfl ?_
  refine x_imul hz dX1_fetch_98 ?_
  refine x_iload hz dX1_fetch_99 7 rfl ?_
  refine x_iadd hz dX1_fetch_101 ?_
  refine x_iconst hz 1 dX1_fetch_102 rfl ?_
  refine x_iadd hz dX1_fetch_103 ?_
  refine x_aload_n hz dX1_fetch_104 rfl 1 rfl ?_
  refine x_getr hz sx_49 fl_X1_11 rfl rx_49_0 (by decide) dX1_fetch_105 ?_
  refine x_iload hz dX1_fetch_108 7 rfl ?_
  refine x_guard (fun hi110 => ?_)
  refine x_aalda0 hz (q := (51 + s.1.toNatClampNeg)) sx_50 hi110 rfl (by omega) dX1_fetch_110 ?_
  refine x_iload hz dX1_fetch_111 0 rfl ?_
  refine x_iald hz (ge_50 hi110) dX1_fetch_113 (fun hi113 => ?_)
  refine x_callN hz mn_X1_53 (kX9_squareOf (n := (n + 1)) (s.2 (51 + s.1.toNatClampNeg) q77.toNatClampNeg) s.2) rfl (av := [.int (s.2 (51 + s.1.toNatClampNeg) q77.toNatClampNeg)]) (rest := [.int (((10 * v3) + s.1) + 1), .int (v2 ||| (1 <<< (s.1 &&& 31))), .ref (h_b Z + 40), .ref (h_b Z + 49)]) rfl rfl (Nat.le_of_ble_eq_true rfl) dX1_fetch_114 ?_
  refine x_iload hz dX1_fetch_117 0 rfl ?_
  refine x_bind (fun q119 hq119 => ?_)
  refine x_callV hz mv_X1_39 sx_49 (by decide) rfl rfl (hrc (v2 ||| (1 <<< (s.1 &&& 31))) (((10 * v3) + s.1) + 1) (fX9_squareOf (s.2 (51 + s.1.toNatClampNeg) q77.toNatClampNeg) s.2) q77 s.2 q119 hq119) rfl (av := [.ref (h_b Z + 40), .int (v2 ||| (1 <<< (s.1 &&& 31))), .int (((10 * v3) + s.1) + 1), .int (fX9_squareOf (s.2 (51 + s.1.toNatClampNeg) q77.toNatClampNeg) s.2), .int q77]) (rest := []) rfl rfl (Nat.le_of_ble_eq_true rfl) dX1_fetch_119 ?_
  refine x_iinc hz (s.1 + 1) [(6, .int (s.1 + 1)), (7, .int q77), (0, .ref (h_b Z + 49)), (1, .ref (h_b Z + 40)), (2, .int v2), (3, .int v3), (4, .int v4), (5, .int v5)] dX1_fetch_122 7 rfl rfl rfl rfl ?_
  refine x_goto hz dX1_fetch_125 ?_
  exact x_sub [2, 3, 4, 5, 6, 7, 0] rfl (hk39 (s.1 + 1, q119))
set_option maxRecDepth 10000 in
set_option maxHeartbeats 4000000 in
theorem wX1_fetch {Z : hZ} {n : Nat} (hz : hOK Z hYx cX1_fetch RX1 8 (n + 2) none) {rc : Nat → Int32 → Int32 → Int32 → Int32 → hMem → Option hMem} (hrc : hRC_fetch (h_l Z) (h_d Z) (h_b Z) rc (n + 1)) (a2 : Int32) (a3 : Int32) (a4 : Int32) (a5 : Int32) (M : hMem) : hW Z rtV M 0 [(0, .ref (h_b Z + 49)), (1, .ref (h_b Z + 40)), (2, .int a2), (3, .int a3), (4, .int a4), (5, .int a5)] [] (fX1_fetch rc a2 a3 a4 a5 M) := by
  unfold fX1_fetch
  refine x_iload_n hz dX1_fetch_0 rfl 2 rfl ?_
  refine x_iconst hz 1 dX1_fetch_1 rfl ?_
  refine x_aload_n hz dX1_fetch_2 rfl 0 rfl ?_
  refine x_geti hz sx_49 fl_X1_23 rfl dX1_fetch_3 ?_
  refine x_ishl hz dX1_fetch_6 ?_
  refine x_iconst hz 1 dX1_fetch_7 rfl ?_
  refine x_isub hz dX1_fetch_8 ?_
  refine x_icmp_ne hz dX1_fetch_9 ?_ ?_
  · refine x_iconst hz 0 dX1_fetch_36 rfl ?_
    refine x_istore hz [(6, .int 0), (0, .ref (h_b Z + 49)), (1, .ref (h_b Z + 40)), (2, .int a2), (3, .int a3), (4, .int a4), (5, .int a5)] dX1_fetch_37 rfl rfl ?_
    exact x_sub [1, 2, 3, 4, 5, 6, 0] rfl (wX1_fetch_L39 hz hrc a2 a3 a4 a5 h_FU (0, M))
  refine x_iload hz dX1_fetch_12 5 rfl ?_
  refine x_aload_n hz dX1_fetch_14 rfl 0 rfl ?_
  refine x_geti hz sx_49 fl_X1_20 rfl dX1_fetch_15 ?_
  refine x_callN hz mn_X1_43 (kX9_isSooner (n := (n + 1)) a5 (M 49 2) M) rfl (av := [.int a5, .int (M 49 2)]) (rest := []) rfl rfl (Nat.le_of_ble_eq_true rfl) dX1_fetch_18 ?_
  refine x_if_eq hz dX1_fetch_21 ?_ ?_
  · exact x_vret hz rfl dX1_fetch_35
  refine x_aload_n hz dX1_fetch_24 rfl 0 rfl ?_
  refine x_iload_n hz dX1_fetch_25 rfl 3 rfl ?_
  refine x_puti hz sx_49 fp_X1_16 rfl dX1_fetch_26 ?_
  refine x_aload_n hz dX1_fetch_29 rfl 0 rfl ?_
  refine x_iload hz dX1_fetch_30 5 rfl ?_
  refine x_puti hz sx_49 fp_X1_20 rfl dX1_fetch_32 ?_
  exact x_vret hz rfl dX1_fetch_35
theorem kRR_fetch : ∀ (m n : Nat) (l : Launch) (dd : hDD) (b : Nat), hRC_fetch l dd b (fRR_fetch m) (n + m + 1)
  | 0, n, l, dd, b => fun o0 o1 o2 o3 M r h => (by cases h)
  | m + 1, n, l, dd, b => by
    have ih := kRR_fetch m
    exact fun o0 o1 o2 o3 M r h => h_met (av := fun b => [.ref (b + 49), .ref (b + 40), .int o0, .int o1, .int o2, .int o3]) (rt := rtV) (by decide) (Nat.le_of_ble_eq_true rfl) (fun Z hz => wX1_fetch (n := n + m) hz (ih n (h_l Z) (h_d Z) (h_b Z)) o0 o1 o2 o3 M) r h
theorem kX1_fetch {l : Launch} {dd : hDD} {b n : Nat} (o0 : Int32) (o1 : Int32) (o2 : Int32) (o3 : Int32) (M r : hMem) (h : gX1_fetch o0 o1 o2 o3 M = some r) : hC l hYx dd b yX1_fetch cX1_fetch 8 none (n + 7) [.ref (b + 49), .ref (b + 40), .int o0, .int o1, .int o2, .int o3] M (none, r) := (kRR_fetch 6 n l dd b) o0 o1 o2 o3 M r h
set_option maxRecDepth 10000 in
set_option maxHeartbeats 4000000 in
theorem wX1_plan_L31 {Z : hZ} {n : Nat} (hz : hOK Z hYx cX1_plan RX1 4 (n + 8) none)  (v2 : Nat) (hv2 : h_is hYx v2 0 0) (M : hMem)  : hW Z rtV M 31 [(0, .ref (h_b Z + 49)), (1, .ref (h_b Z + 40)), (2, .ref (h_b Z + v2))] [] (fX1_plan_L31 v2 M) := by
  unfold fX1_plan_L31
  refine x_aload_n hz dX1_plan_31 rfl 0 rfl ?_
  refine x_aload_n hz dX1_plan_32 rfl 1 rfl ?_
  refine x_iconst hz 0 dX1_plan_33 rfl ?_
  refine x_iconst hz 0 dX1_plan_34 rfl ?_
  refine x_aload_n hz dX1_plan_35 rfl 2 rfl ?_
  refine x_geti hz hv2 fl_X1_36 rfl dX1_plan_36 ?_
  refine x_iconst hz 0 dX1_plan_39 rfl ?_
  refine x_bind (fun q40 hq40 => ?_)
  refine x_callV hz mv_X1_39 sx_49 (by decide) rfl rfl (kX1_fetch (n := n) 0 0 (M v2 0) 0 M q40 hq40) rfl (av := [.ref (h_b Z + 40), .int 0, .int 0, .int (M v2 0), .int 0]) (rest := []) rfl rfl (Nat.le_of_ble_eq_true rfl) dX1_plan_40 ?_
  exact x_vret hz rfl dX1_plan_43
set_option maxRecDepth 10000 in
set_option maxHeartbeats 4000000 in
theorem wX1_plan {Z : hZ} {n : Nat} (hz : hOK Z hYx cX1_plan RX1 4 (n + 8) none) (a2 : Nat) (a3 : Int32) (M : hMem) : hW Z rtV M 0 [(0, .ref (h_b Z + 49)), (1, .ref (h_b Z + 40)), (2, .ref (h_b Z + a2)), (3, .int a3)] [] (fX1_plan a2 a3 M) := by
  unfold fX1_plan
  refine x_guard (fun hpa2 => ?_)
  refine x_aload_n hz dX1_plan_0 rfl 0 rfl ?_
  refine x_iconst hz (-1) dX1_plan_1 rfl ?_
  refine x_puti hz sx_49 fp_X1_16 rfl dX1_plan_2 ?_
  refine x_aload_n hz dX1_plan_5 rfl 0 rfl ?_
  refine x_iconst hz (-1) dX1_plan_6 rfl ?_
  refine x_puti hz sx_49 fp_X1_20 rfl dX1_plan_7 ?_
  refine x_aload_n hz dX1_plan_10 rfl 0 rfl ?_
  refine x_iload_n hz dX1_plan_11 rfl 3 rfl ?_
  refine x_puti hz sx_49 fp_X1_23 rfl dX1_plan_12 ?_
  refine x_aload_n hz dX1_plan_15 rfl 0 rfl ?_
  refine x_aload_n hz dX1_plan_16 rfl 2 rfl ?_
  refine x_geti hz (h_isB_is hpa2) fl_X1_26 rfl dX1_plan_17 ?_
  refine x_puti hz sx_49 fp_X1_31 rfl dX1_plan_20 ?_
  refine x_aload_n hz dX1_plan_23 rfl 0 rfl ?_
  refine x_aload_n hz dX1_plan_24 rfl 2 rfl ?_
  refine x_geti hz (h_isB_is hpa2) fl_X1_32 rfl dX1_plan_25 ?_
  refine x_puti hz sx_49 fp_X1_35 rfl dX1_plan_28 ?_
  exact x_sub [0, 1, 2] rfl (wX1_plan_L31 hz a2 (h_isB_is hpa2) (h_up (h_up (h_up (h_up (h_up M 49 1 (-1)) 49 2 (-1)) 49 3 a3) 49 4 ((h_up (h_up (h_up M 49 1 (-1)) 49 2 (-1)) 49 3 a3) a2 1)) 49 5 ((h_up (h_up (h_up (h_up M 49 1 (-1)) 49 2 (-1)) 49 3 a3) 49 4 ((h_up (h_up (h_up M 49 1 (-1)) 49 2 (-1)) 49 3 a3) a2 1)) a2 2)))
theorem kX1_plan {l : Launch} {dd : hDD} {b n : Nat} (a2 : Nat) (a3 : Int32) (M : hMem) (r : hMem) (h : fX1_plan a2 a3 M = some r) : hC l hYx dd b yX1_plan cX1_plan 4 none (n + 8) [.ref (b + 49), .ref (b + 40), .ref (b + a2), .int a3] M (none, r) :=
  h_met (av := fun b => [.ref (b + 49), .ref (b + 40), .ref (b + a2), .int a3]) (rt := rtV) (by decide) (Nat.le_of_ble_eq_true rfl) (fun Z hz => wX1_plan (n := n) hz a2 a3 M) r h
set_option maxRecDepth 10000 in
set_option maxHeartbeats 4000000 in
theorem wX9_order_L23 {Z : hZ} {n : Nat} (hz : hOK Z hYx cX9_order RX9 4 (n + 9) (some .int))  (v1 : Int32) (v2 : Int32)   : ∀ (i : Nat) (s : Int32 × hMem), hW Z rtM s.2 23 [(0, .ref (h_b Z + 0)), (1, .int v1), (2, .int v2), (3, .int s.1)] [] (h_lp (fX9_order_L23 v1 v2) i s) := by
  refine x_loop (Ms := fun s : Int32 × hMem => s.2) (Ls := fun s : Int32 × hMem => [(0, .ref (h_b Z + 0)), (1, .int v1), (2, .int v2), (3, .int s.1)]) ?_
  intro k23 hk23 s
  show hW Z rtM s.2 23 [(0, .ref (h_b Z + 0)), (1, .int v1), (2, .int v2), (3, .int s.1)] [] (fX9_order_L23 v1 v2 k23 s)
  unfold fX9_order_L23
  refine x_iload_n hz dX9_order_23 rfl 3 rfl ?_
  refine x_aload_n hz dX9_order_24 rfl 0 rfl ?_
  refine x_getr hz sx_0 fl_X9_12 rfl rx_0_0 (by decide) dX9_order_25 ?_
  refine x_geti hz sx_1 fl_X9_112 rfl dX9_order_28 ?_
  refine x_icmp_ge hz dX9_order_31 ?_ ?_
  · refine x_aload_n hz dX9_order_61 rfl 0 rfl ?_
    refine x_getr hz sx_0 fl_X9_56 rfl rx_0_8 (by decide) dX9_order_62 ?_
    refine x_aload_n hz dX9_order_65 rfl 0 rfl ?_
    refine x_getr hz sx_0 fl_X9_49 rfl rx_0_7 (by decide) dX9_order_66 ?_
    refine x_aload_n hz dX9_order_69 rfl 0 rfl ?_
    refine x_getr hz sx_0 fl_X9_12 rfl rx_0_0 (by decide) dX9_order_70 ?_
    refine x_getr hz sx_1 fl_X9_186 rfl rx_1_4 (by decide) dX9_order_73 ?_
    refine x_iload_n hz dX9_order_76 rfl 1 rfl ?_
    refine x_guard (fun hi77 => ?_)
    refine x_aald0 hz (q := (11 + v1.toNatClampNeg)) 2 (fun _ => rfl) sx_6 (by decide) hi77 rfl (by omega) dX9_order_77 ?_
    refine x_aload_n hz dX9_order_78 rfl 0 rfl ?_
    refine x_getr hz sx_0 fl_X9_12 rfl rx_0_0 (by decide) dX9_order_79 ?_
    refine x_geti hz sx_1 fl_X9_112 rfl dX9_order_82 ?_
    refine x_bind (fun q85 hq85 => ?_)
    refine x_callV hz mv_X9_251 sx_49 (by decide) rfl rfl (kX1_plan (n := n) (11 + v1.toNatClampNeg) (s.2 1 5) s.2 q85 hq85) rfl (av := [.ref (h_b Z + 40), .ref (h_b Z + (11 + v1.toNatClampNeg)), .int (s.2 1 5)]) (rest := []) rfl rfl (Nat.le_of_ble_eq_true rfl) dX9_order_85 ?_
    refine x_iload_n hz dX9_order_88 rfl 2 rfl ?_
    refine x_if_ne hz dX9_order_89 ?_ ?_
    · refine x_aload_n hz dX9_order_102 rfl 0 rfl ?_
      refine x_getr hz sx_0 fl_X9_56 rfl rx_0_8 (by decide) dX9_order_103 ?_
      refine x_geti hz sx_49 fl_X9_258 rfl dX9_order_106 ?_
      exact x_iret hz rfl dX9_order_109
    refine x_aload_n hz dX9_order_92 rfl 0 rfl ?_
    refine x_getr hz sx_0 fl_X9_56 rfl rx_0_8 (by decide) dX9_order_93 ?_
    refine x_geti hz sx_49 fl_X9_255 rfl dX9_order_96 ?_
    refine x_goto hz dX9_order_99 ?_
    exact x_iret hz rfl dX9_order_109
  refine x_aload_n hz dX9_order_34 rfl 0 rfl ?_
  refine x_iload_n hz dX9_order_35 rfl 3 rfl ?_
  refine x_bind (fun q36 hq36 => ?_)
  refine x_callV hz mv_X9_207 sx_0 (by decide) rfl rfl (kX9_think (n := (n + 6)) s.1 s.2 q36 hq36) rfl (av := [.int s.1]) (rest := []) rfl rfl (Nat.le_of_ble_eq_true rfl) dX9_order_36 ?_
  refine x_aload_n hz dX9_order_39 rfl 0 rfl ?_
  refine x_getr hz sx_0 fl_X9_49 rfl rx_0_7 (by decide) dX9_order_40 ?_
  refine x_aload_n hz dX9_order_43 rfl 0 rfl ?_
  refine x_getr hz sx_0 fl_X9_56 rfl rx_0_8 (by decide) dX9_order_44 ?_
  refine x_getr hz sx_49 fl_X9_247 rfl rx_49_0 (by decide) dX9_order_47 ?_
  refine x_iload_n hz dX9_order_50 rfl 3 rfl ?_
  refine x_guard (fun hi51 => ?_)
  refine x_aalda0 hz (q := (51 + s.1.toNatClampNeg)) sx_50 hi51 rfl (by omega) dX9_order_51 ?_
  refine x_bind (fun q52 hq52 => ?_)
  refine x_callV hz mv_X9_226 sx_40 (by decide) rfl rfl (kX8_follow (n := (n + 4)) (51 + s.1.toNatClampNeg) q36 q52 hq52) rfl (av := [.ref (h_b Z + (51 + s.1.toNatClampNeg))]) (rest := []) rfl rfl (Nat.le_of_ble_eq_true rfl) dX9_order_52 ?_
  refine x_iinc hz (s.1 + 1) [(3, .int (s.1 + 1)), (0, .ref (h_b Z + 0)), (1, .int v1), (2, .int v2)] dX9_order_55 3 rfl rfl rfl rfl ?_
  refine x_goto hz dX9_order_58 ?_
  exact x_sub [1, 2, 3, 0] rfl (hk23 (s.1 + 1, q52))
set_option maxRecDepth 10000 in
set_option maxHeartbeats 4000000 in
theorem wX9_order {Z : hZ} {n : Nat} (hz : hOK Z hYx cX9_order RX9 4 (n + 9) (some .int)) (a1 : Int32) (a2 : Int32) (M : hMem) : hW Z rtM M 0 [(0, .ref (h_b Z + 0)), (1, .int a1), (2, .int a2)] [] (fX9_order a1 a2 M) := by
  unfold fX9_order
  refine x_aload_n hz dX9_order_0 rfl 0 rfl ?_
  refine x_iload_n hz dX9_order_1 rfl 1 rfl ?_
  refine x_callV hz mv_X9_201 sx_0 (by decide) rfl rfl (kX9_isCatcher (n := (n + 8)) a1 M) rfl (av := [.int a1]) (rest := []) rfl rfl (Nat.le_of_ble_eq_true rfl) dX9_order_2 ?_
  refine x_if_ne hz dX9_order_5 ?_ ?_
  · refine x_iload_n hz dX9_order_11 rfl 2 rfl ?_
    refine x_callS hz ms_X9_204 (kX9_isZeroOrOne (n := (n + 8)) a2 M) rfl (av := [.int a2]) (rest := []) rfl rfl (Nat.le_of_ble_eq_true rfl) dX9_order_12 ?_
    refine x_if_ne hz dX9_order_15 ?_ ?_
    · refine x_iconst hz 0 dX9_order_21 rfl ?_
      refine x_istore_n hz [(3, .int 0), (0, .ref (h_b Z + 0)), (1, .int a1), (2, .int a2)] dX9_order_22 rfl rfl rfl ?_
      exact x_sub [1, 2, 3, 0] rfl (wX9_order_L23 hz a1 a2 h_FU (0, M))
    refine x_bipush hz (-7) dX9_order_18 rfl ?_
    exact x_iret hz rfl dX9_order_20
  refine x_bipush hz (-5) dX9_order_8 rfl ?_
  exact x_iret hz rfl dX9_order_10
theorem kX9_order {l : Launch} {dd : hDD} {b n : Nat} (a1 : Int32) (a2 : Int32) (M : hMem) (r : Int32 × hMem) (h : fX9_order a1 a2 M = some r) : hC l hYx dd b yX9_order cX9_order 4 (some .int) (n + 9) [.ref (b + 0), .int a1, .int a2] M (some (.int r.1), r.2) :=
  h_met (av := fun b => [.ref (b + 0), .int a1, .int a2]) (rt := rtM) (by decide) (Nat.le_of_ble_eq_true rfl) (fun Z hz => wX9_order (n := n) hz a1 a2 M) r h
set_option maxRecDepth 10000 in
set_option maxHeartbeats 4000000 in
theorem wX9_worthHad {Z : hZ} {n : Nat} (hz : hOK Z hYx cX9_worthHad RX9 4 (n + 6) (some .int)) (a1 : Int32) (a2 : Int32) (M : hMem) : hW Z rtM M 0 [(0, .ref (h_b Z + 0)), (1, .int a1), (2, .int a2)] [] (fX9_worthHad a1 a2 M) := by
  unfold fX9_worthHad
  refine x_aload_n hz dX9_worthHad_0 rfl 0 rfl ?_
  refine x_iload_n hz dX9_worthHad_1 rfl 1 rfl ?_
  refine x_bind (fun q2 hq2 => ?_)
  refine x_callV hz mv_X9_207 sx_0 (by decide) rfl rfl (kX9_think (n := (n + 3)) a1 M q2 hq2) rfl (av := [.int a1]) (rest := []) rfl rfl (Nat.le_of_ble_eq_true rfl) dX9_worthHad_2 ?_
  refine x_aload_n hz dX9_worthHad_5 rfl 0 rfl ?_
  refine x_getr hz sx_0 fl_X9_49 rfl rx_0_7 (by decide) dX9_worthHad_6 ?_
  refine x_aload_n hz dX9_worthHad_9 rfl 0 rfl ?_
  refine x_getr hz sx_0 fl_X9_12 rfl rx_0_0 (by decide) dX9_worthHad_10 ?_
  refine x_getr hz sx_1 fl_X9_186 rfl rx_1_4 (by decide) dX9_worthHad_13 ?_
  refine x_iload_n hz dX9_worthHad_16 rfl 2 rfl ?_
  refine x_guard (fun hi17 => ?_)
  refine x_aald0 hz (q := (11 + a2.toNatClampNeg)) 2 (fun _ => rfl) sx_6 (by decide) hi17 rfl (by omega) dX9_worthHad_17 ?_
  refine x_bind (fun q18 hq18 => ?_)
  refine x_callV hz mv_X9_276 sx_40 (by decide) rfl rfl (kX8_hadBy (n := n) (11 + a2.toNatClampNeg) q2 q18 hq18) rfl (av := [.ref (h_b Z + (11 + a2.toNatClampNeg))]) (rest := []) rfl rfl (Nat.le_of_ble_eq_true rfl) dX9_worthHad_18 ?_
  refine x_istore_n hz [(3, .int q18.1), (0, .ref (h_b Z + 0)), (1, .int a1), (2, .int a2)] dX9_worthHad_21 rfl rfl rfl ?_
  refine x_iload_n hz dX9_worthHad_22 rfl 0 rfl ?_
  refine x_if_ge hz dX9_worthHad_23 ?_ ?_
  · refine x_aload_n hz dX9_worthHad_29 rfl 1 rfl ?_
    refine x_getr hz sx_0 fl_X9_49 rfl rx_0_7 (by decide) dX9_worthHad_30 ?_
    refine x_aload_n hz dX9_worthHad_33 rfl 1 rfl ?_
    refine x_getr hz sx_0 fl_X9_12 rfl rx_0_0 (by decide) dX9_worthHad_34 ?_
    refine x_getr hz sx_1 fl_X9_186 rfl rx_1_4 (by decide) dX9_worthHad_37 ?_
    refine x_iload_n hz dX9_worthHad_40 rfl 3 rfl ?_
    refine x_guard (fun hi41 => ?_)
    refine x_aald0 hz (q := (11 + a2.toNatClampNeg)) 2 (fun _ => rfl) sx_6 (by decide) hi41 rfl (by omega) dX9_worthHad_41 ?_
    refine x_geti hz (ge_6 hi41) fl_X9_195 rfl dX9_worthHad_42 ?_
    refine x_iload_n hz dX9_worthHad_45 rfl 0 rfl ?_
    refine x_aload_n hz dX9_worthHad_46 rfl 1 rfl ?_
    refine x_getr hz sx_0 fl_X9_49 rfl rx_0_7 (by decide) dX9_worthHad_47 ?_
    refine x_getr hz sx_40 fl_X9_223 rfl rx_40_9 (by decide) dX9_worthHad_50 ?_
    refine x_iload_n hz dX9_worthHad_53 rfl 0 rfl ?_
    refine x_iald hz sx_47 dX9_worthHad_54 (fun hi54 => ?_)
    refine x_bind (fun q55 hq55 => ?_)
    refine x_callV hz mv_X9_143 sx_40 (by decide) rfl rfl (kX8_tell (n := (n + 4)) (q18.2 (11 + a2.toNatClampNeg) 1) q18.1 (q18.2 47 q18.1.toNatClampNeg) q18.2 q55 hq55) rfl (av := [.int (q18.2 (11 + a2.toNatClampNeg) 1), .int q18.1, .int (q18.2 47 q18.1.toNatClampNeg)]) (rest := []) rfl rfl (Nat.le_of_ble_eq_true rfl) dX9_worthHad_55 ?_
    refine x_aload_n hz dX9_worthHad_58 rfl 1 rfl ?_
    refine x_getr hz sx_0 fl_X9_49 rfl rx_0_7 (by decide) dX9_worthHad_59 ?_
    refine x_getd hz sx_40 fl_X9_130 rfl (t := 3) (n2 := 0) rfl dX9_worthHad_62 (fun hg62 => ?_)
    refine x_iconst hz 2 dX9_worthHad_65 rfl ?_
    refine x_aload_n hz dX9_worthHad_66 rfl 1 rfl ?_
    refine x_getr hz sx_0 fl_X9_49 rfl rx_0_7 (by decide) dX9_worthHad_67 ?_
    refine x_getr hz sx_40 fl_X9_147 rfl rx_40_10 (by decide) dX9_worthHad_70 ?_
    refine x_bind (fun q73 hq73 => ?_)
    refine x_callV hz mv_X9_150 (h_isB_is hg62) (by decide) rfl rfl (kX4_says (n := (n + 3)) ((q55 40 6).toNatClampNeg) 2 q55 q73 hq73) rfl (av := [.int 2, .ref (h_b Z + 48)]) (rest := []) rfl rfl (Nat.le_of_ble_eq_true rfl) dX9_worthHad_73 ?_
    exact x_iret hz rfl dX9_worthHad_76
  refine x_bipush hz (-100) dX9_worthHad_26 rfl ?_
  exact x_iret hz rfl dX9_worthHad_28
theorem kX9_worthHad {l : Launch} {dd : hDD} {b n : Nat} (a1 : Int32) (a2 : Int32) (M : hMem) (r : Int32 × hMem) (h : fX9_worthHad a1 a2 M = some r) : hC l hYx dd b yX9_worthHad cX9_worthHad 4 (some .int) (n + 6) [.ref (b + 0), .int a1, .int a2] M (some (.int r.1), r.2) :=
  h_met (av := fun b => [.ref (b + 0), .int a1, .int a2]) (rt := rtM) (by decide) (Nat.le_of_ble_eq_true rfl) (fun Z hz => wX9_worthHad (n := n) hz a1 a2 M) r h
set_option maxRecDepth 10000 in
set_option maxHeartbeats 4000000 in
theorem wX9_gain {Z : hZ} {n : Nat} (hz : hOK Z hYx cX9_gain RX9 3 (n + 7) (some .int)) (a1 : Int32) (a2 : Int32) (M : hMem) : hW Z rtM M 0 [(0, .ref (h_b Z + 0)), (1, .int a1), (2, .int a2)] [] (fX9_gain a1 a2 M) := by
  unfold fX9_gain
  refine x_aload_n hz dX9_gain_0 rfl 0 rfl ?_
  refine x_iload_n hz dX9_gain_1 rfl 1 rfl ?_
  refine x_callV hz mv_X9_171 sx_0 (by decide) rfl rfl (kX9_isHat (n := (n + 6)) a1 M) rfl (av := [.int a1]) (rest := []) rfl rfl (Nat.le_of_ble_eq_true rfl) dX9_gain_2 ?_
  refine x_if_eq hz dX9_gain_5 ?_ ?_
  · refine x_sipush hz (-1000) dX9_gain_25 rfl ?_
    exact x_iret hz rfl dX9_gain_28
  refine x_aload_n hz dX9_gain_8 rfl 0 rfl ?_
  refine x_iload_n hz dX9_gain_9 rfl 2 rfl ?_
  refine x_callV hz mv_X9_201 sx_0 (by decide) rfl rfl (kX9_isCatcher (n := (n + 6)) a2 M) rfl (av := [.int a2]) (rest := []) rfl rfl (Nat.le_of_ble_eq_true rfl) dX9_gain_10 ?_
  refine x_if_eq hz dX9_gain_13 ?_ ?_
  · refine x_sipush hz (-1000) dX9_gain_25 rfl ?_
    exact x_iret hz rfl dX9_gain_28
  refine x_aload_n hz dX9_gain_16 rfl 0 rfl ?_
  refine x_iload_n hz dX9_gain_17 rfl 1 rfl ?_
  refine x_iload_n hz dX9_gain_18 rfl 2 rfl ?_
  refine x_bind (fun q19 hq19 => ?_)
  refine x_callV hz mv_X9_261 sx_0 (by decide) rfl rfl (kX9_worthHad (n := n) a1 a2 M q19 hq19) rfl (av := [.int a1, .int a2]) (rest := []) rfl rfl (Nat.le_of_ble_eq_true rfl) dX9_gain_19 ?_
  refine x_goto hz dX9_gain_22 ?_
  exact x_iret hz rfl dX9_gain_28
theorem kX9_gain {l : Launch} {dd : hDD} {b n : Nat} (a1 : Int32) (a2 : Int32) (M : hMem) (r : Int32 × hMem) (h : fX9_gain a1 a2 M = some r) : hC l hYx dd b yX9_gain cX9_gain 3 (some .int) (n + 7) [.ref (b + 0), .int a1, .int a2] M (some (.int r.1), r.2) :=
  h_met (av := fun b => [.ref (b + 0), .int a1, .int a2]) (rt := rtM) (by decide) (Nat.le_of_ble_eq_true rfl) (fun Z hz => wX9_gain (n := n) hz a1 a2 M) r h
set_option maxRecDepth 10000 in
set_option maxHeartbeats 4000000 in
theorem wX9_whom_L29 {Z : hZ} {n : Nat} (hz : hOK Z hYx cX9_whom RX9 7 (n + 7) (some .int))  (v1 : Int32) (v2 : Int32)   : ∀ (i : Nat) (s : Int32 × Int32 × Int32 × hMem), hW Z rtM s.2.2.2 29 [(0, .ref (h_b Z + 0)), (1, .int v1), (2, .int v2), (3, .int s.1), (4, .int s.2.1), (5, .int s.2.2.1)] [] (h_lp (fX9_whom_L29 v1 v2) i s) := by
  refine x_loop (Ms := fun s : Int32 × Int32 × Int32 × hMem => s.2.2.2) (Ls := fun s : Int32 × Int32 × Int32 × hMem => [(0, .ref (h_b Z + 0)), (1, .int v1), (2, .int v2), (3, .int s.1), (4, .int s.2.1), (5, .int s.2.2.1)]) ?_
  intro k29 hk29 s
  show hW Z rtM s.2.2.2 29 [(0, .ref (h_b Z + 0)), (1, .int v1), (2, .int v2), (3, .int s.1), (4, .int s.2.1), (5, .int s.2.2.1)] [] (fX9_whom_L29 v1 v2 k29 s)
  unfold fX9_whom_L29
  refine x_iload hz dX9_whom_29 5 rfl ?_
  refine x_aload_n hz dX9_whom_31 rfl 0 rfl ?_
  refine x_getr hz sx_0 fl_X9_12 rfl rx_0_0 (by decide) dX9_whom_32 ?_
  refine x_geti hz sx_1 fl_X9_112 rfl dX9_whom_35 ?_
  refine x_icmp_ge hz dX9_whom_38 ?_ ?_
  · refine x_iload_n hz dX9_whom_70 rfl 2 rfl ?_
    refine x_if_ne hz dX9_whom_71 ?_ ?_
    · refine x_iload hz dX9_whom_78 4 rfl ?_
      exact x_iret hz rfl dX9_whom_80
    refine x_iload_n hz dX9_whom_74 rfl 3 rfl ?_
    refine x_goto hz dX9_whom_75 ?_
    exact x_iret hz rfl dX9_whom_80
  refine x_aload_n hz dX9_whom_41 rfl 0 rfl ?_
  refine x_iload hz dX9_whom_42 5 rfl ?_
  refine x_iload_n hz dX9_whom_44 rfl 1 rfl ?_
  refine x_bind (fun q45 hq45 => ?_)
  refine x_callV hz mv_X9_261 sx_0 (by decide) rfl rfl (kX9_worthHad (n := n) s.2.2.1 v1 s.2.2.2 q45 hq45) rfl (av := [.int s.2.2.1, .int v1]) (rest := []) rfl rfl (Nat.le_of_ble_eq_true rfl) dX9_whom_45 ?_
  refine x_istore hz [(6, .int q45.1), (0, .ref (h_b Z + 0)), (1, .int v1), (2, .int v2), (3, .int s.1), (4, .int s.2.1), (5, .int s.2.2.1)] dX9_whom_48 rfl rfl ?_
  refine x_iload hz dX9_whom_50 0 rfl ?_
  refine x_iload hz dX9_whom_52 5 rfl ?_
  refine x_icmp_le hz dX9_whom_54 ?_ ?_
  · refine x_iinc hz (s.2.2.1 + 1) [(5, .int (s.2.2.1 + 1)), (6, .int q45.1), (0, .ref (h_b Z + 0)), (1, .int v1), (2, .int v2), (3, .int s.1), (4, .int s.2.1)] dX9_whom_64 6 rfl rfl rfl rfl ?_
    refine x_goto hz dX9_whom_67 ?_
    exact x_sub [2, 3, 4, 5, 6, 0] rfl (hk29 (s.1, s.2.1, s.2.2.1 + 1, q45.2))
  refine x_iload hz dX9_whom_57 0 rfl ?_
  refine x_istore hz [(4, .int q45.1), (6, .int q45.1), (0, .ref (h_b Z + 0)), (1, .int v1), (2, .int v2), (3, .int s.1), (5, .int s.2.2.1)] dX9_whom_59 rfl rfl ?_
  refine x_iload hz dX9_whom_61 6 rfl ?_
  refine x_istore_n hz [(3, .int s.2.2.1), (4, .int q45.1), (6, .int q45.1), (0, .ref (h_b Z + 0)), (1, .int v1), (2, .int v2), (5, .int s.2.2.1)] dX9_whom_63 rfl rfl rfl ?_
  refine x_iinc hz (s.2.2.1 + 1) [(5, .int (s.2.2.1 + 1)), (3, .int s.2.2.1), (4, .int q45.1), (6, .int q45.1), (0, .ref (h_b Z + 0)), (1, .int v1), (2, .int v2)] dX9_whom_64 6 rfl rfl rfl rfl ?_
  refine x_goto hz dX9_whom_67 ?_
  exact x_sub [4, 5, 6, 1, 2, 0] rfl (hk29 (s.2.2.1, q45.1, s.2.2.1 + 1, q45.2))
set_option maxRecDepth 10000 in
set_option maxHeartbeats 4000000 in
theorem wX9_whom {Z : hZ} {n : Nat} (hz : hOK Z hYx cX9_whom RX9 7 (n + 7) (some .int)) (a1 : Int32) (a2 : Int32) (M : hMem) : hW Z rtM M 0 [(0, .ref (h_b Z + 0)), (1, .int a1), (2, .int a2)] [] (fX9_whom a1 a2 M) := by
  unfold fX9_whom
  refine x_aload_n hz dX9_whom_0 rfl 0 rfl ?_
  refine x_iload_n hz dX9_whom_1 rfl 1 rfl ?_
  refine x_callV hz mv_X9_201 sx_0 (by decide) rfl rfl (kX9_isCatcher (n := (n + 6)) a1 M) rfl (av := [.int a1]) (rest := []) rfl rfl (Nat.le_of_ble_eq_true rfl) dX9_whom_2 ?_
  refine x_if_ne hz dX9_whom_5 ?_ ?_
  · refine x_iload_n hz dX9_whom_11 rfl 2 rfl ?_
    refine x_callS hz ms_X9_204 (kX9_isZeroOrOne (n := (n + 6)) a2 M) rfl (av := [.int a2]) (rest := []) rfl rfl (Nat.le_of_ble_eq_true rfl) dX9_whom_12 ?_
    refine x_if_ne hz dX9_whom_15 ?_ ?_
    · refine x_iconst hz (-1) dX9_whom_21 rfl ?_
      refine x_istore_n hz [(3, .int (-1)), (0, .ref (h_b Z + 0)), (1, .int a1), (2, .int a2)] dX9_whom_22 rfl rfl rfl ?_
      refine x_iconst hz 0 dX9_whom_23 rfl ?_
      refine x_istore hz [(4, .int 0), (3, .int (-1)), (0, .ref (h_b Z + 0)), (1, .int a1), (2, .int a2)] dX9_whom_24 rfl rfl ?_
      refine x_iconst hz 0 dX9_whom_26 rfl ?_
      refine x_istore hz [(5, .int 0), (4, .int 0), (3, .int (-1)), (0, .ref (h_b Z + 0)), (1, .int a1), (2, .int a2)] dX9_whom_27 rfl rfl ?_
      exact x_sub [3, 4, 5, 2, 1, 0] rfl (wX9_whom_L29 hz a1 a2 h_FU ((-1), 0, 0, M))
    refine x_bipush hz (-7) dX9_whom_18 rfl ?_
    exact x_iret hz rfl dX9_whom_20
  refine x_bipush hz (-5) dX9_whom_8 rfl ?_
  exact x_iret hz rfl dX9_whom_10
theorem kX9_whom {l : Launch} {dd : hDD} {b n : Nat} (a1 : Int32) (a2 : Int32) (M : hMem) (r : Int32 × hMem) (h : fX9_whom a1 a2 M = some r) : hC l hYx dd b yX9_whom cX9_whom 7 (some .int) (n + 7) [.ref (b + 0), .int a1, .int a2] M (some (.int r.1), r.2) :=
  h_met (av := fun b => [.ref (b + 0), .int a1, .int a2]) (rt := rtM) (by decide) (Nat.le_of_ble_eq_true rfl) (fun Z hz => wX9_whom (n := n) hz a1 a2 M) r h
set_option maxRecDepth 10000 in
set_option maxHeartbeats 4000000 in
theorem wX2_become {Z : hZ} {n : Nat} (hz : hOK Z hYx cX2_become RX2 2 (n + 0) none) (a0 : Nat) (a1 : Nat) (M : hMem) : hW Z rtV M 0 [(0, .ref (h_b Z + a0)), (1, .ref (h_b Z + a1))] [] (fX2_become a0 a1 M) := by
  unfold fX2_become
  refine x_guard (fun hpa0 => ?_)
  refine x_guard (fun hpa1 => ?_)
  refine x_aload_n hz dX2_become_0 rfl 0 rfl ?_
  refine x_aload_n hz dX2_become_1 rfl 1 rfl ?_
  refine x_geti hz (h_isB_is hpa1) fl_X2_7 rfl dX2_become_2 ?_
  refine x_puti hz (h_isB_is hpa0) fp_X2_7 rfl dX2_become_5 ?_
  refine x_aload_n hz dX2_become_8 rfl 0 rfl ?_
  refine x_aload_n hz dX2_become_9 rfl 1 rfl ?_
  refine x_geti hz (h_isB_is hpa1) fl_X2_13 rfl dX2_become_10 ?_
  refine x_puti hz (h_isB_is hpa0) fp_X2_13 rfl dX2_become_13 ?_
  refine x_aload_n hz dX2_become_16 rfl 0 rfl ?_
  refine x_aload_n hz dX2_become_17 rfl 1 rfl ?_
  refine x_geti hz (h_isB_is hpa1) fl_X2_16 rfl dX2_become_18 ?_
  refine x_puti hz (h_isB_is hpa0) fp_X2_16 rfl dX2_become_21 ?_
  exact x_vret hz rfl dX2_become_24
theorem kX2_become {l : Launch} {dd : hDD} {b n : Nat} (a0 : Nat) (a1 : Nat) (M : hMem) (r : hMem) (h : fX2_become a0 a1 M = some r) : hC l hYx dd b yX2_become cX2_become 2 none (n + 0) [.ref (b + a0), .ref (b + a1)] M (none, r) :=
  h_met (av := fun b => [.ref (b + a0), .ref (b + a1)]) (rt := rtV) (by decide) (Nat.le_of_ble_eq_true rfl) (fun Z hz => wX2_become (n := n) hz a0 a1 M) r h
set_option maxRecDepth 10000 in
set_option maxHeartbeats 4000000 in
theorem wX7_removeHat_L2 {Z : hZ} {n : Nat} (hz : hOK Z hYx cX7_removeHat RX7 3 (n + 1) none)     : ∀ (i : Nat) (s : Int32 × hMem), hW Z rtV s.2 2 [(0, .ref (h_b Z + 1)), (2, .int s.1)] [] (h_lp (fX7_removeHat_L2) i s) := by
  refine x_loop (Ms := fun s : Int32 × hMem => s.2) (Ls := fun s : Int32 × hMem => [(0, .ref (h_b Z + 1)), (2, .int s.1)]) ?_
  intro k2 hk2 s
  show hW Z rtV s.2 2 [(0, .ref (h_b Z + 1)), (2, .int s.1)] [] (fX7_removeHat_L2 k2 s)
  unfold fX7_removeHat_L2
  refine x_iload_n hz dX7_removeHat_2 rfl 1 rfl ?_
  refine x_iconst hz 1 dX7_removeHat_3 rfl ?_
  refine x_iadd hz dX7_removeHat_4 ?_
  refine x_aload_n hz dX7_removeHat_5 rfl 0 rfl ?_
  refine x_geti hz sx_1 fl_X7_48 rfl dX7_removeHat_6 ?_
  refine x_icmp_ge hz dX7_removeHat_9 ?_ ?_
  · refine x_aload_n hz dX7_removeHat_35 rfl 0 rfl ?_
    refine x_dup hz dX7_removeHat_36 rfl ?_
    refine x_geti hz sx_1 fl_X7_48 rfl dX7_removeHat_37 ?_
    refine x_iconst hz 1 dX7_removeHat_40 rfl ?_
    refine x_isub hz dX7_removeHat_41 ?_
    refine x_puti hz sx_1 fp_X7_48 rfl dX7_removeHat_42 ?_
    exact x_vret hz rfl dX7_removeHat_45
  refine x_aload_n hz dX7_removeHat_12 rfl 0 rfl ?_
  refine x_getr hz sx_1 fl_X7_23 rfl rx_1_3 (by decide) dX7_removeHat_13 ?_
  refine x_iload_n hz dX7_removeHat_16 rfl 1 rfl ?_
  refine x_guard (fun hi17 => ?_)
  refine x_aald0 hz (q := (7 + s.1.toNatClampNeg)) 1 (fun _ => rfl) sx_5 (by decide) hi17 rfl (by omega) dX7_removeHat_17 ?_
  refine x_aload_n hz dX7_removeHat_18 rfl 0 rfl ?_
  refine x_getr hz sx_1 fl_X7_23 rfl rx_1_3 (by decide) dX7_removeHat_19 ?_
  refine x_iload_n hz dX7_removeHat_22 rfl 1 rfl ?_
  refine x_iconst hz 1 dX7_removeHat_23 rfl ?_
  refine x_iadd hz dX7_removeHat_24 ?_
  refine x_guard (fun hi25 => ?_)
  refine x_aald0 hz (q := (7 + (s.1 + 1).toNatClampNeg)) 1 (fun _ => rfl) sx_5 (by decide) hi25 rfl (by omega) dX7_removeHat_25 ?_
  refine x_bind (fun q26 hq26 => ?_)
  refine x_callV hz mv_X7_41 (ge_5 hi17) (by decide) rfl rfl (kX2_become (n := n) (7 + s.1.toNatClampNeg) (7 + (s.1 + 1).toNatClampNeg) s.2 q26 hq26) rfl (av := [.ref (h_b Z + (7 + (s.1 + 1).toNatClampNeg))]) (rest := []) rfl rfl (Nat.le_of_ble_eq_true rfl) dX7_removeHat_26 ?_
  refine x_iinc hz (s.1 + 1) [(2, .int (s.1 + 1)), (0, .ref (h_b Z + 1))] dX7_removeHat_29 1 rfl rfl rfl rfl ?_
  refine x_goto hz dX7_removeHat_32 ?_
  exact x_sub [1, 0] rfl (hk2 (s.1 + 1, q26))
set_option maxRecDepth 10000 in
set_option maxHeartbeats 4000000 in
theorem wX7_removeHat {Z : hZ} {n : Nat} (hz : hOK Z hYx cX7_removeHat RX7 3 (n + 1) none) (a1 : Int32) (M : hMem) : hW Z rtV M 0 [(0, .ref (h_b Z + 1)), (1, .int a1)] [] (fX7_removeHat a1 M) := by
  unfold fX7_removeHat
  refine x_iload_n hz dX7_removeHat_0 rfl 1 rfl ?_
  refine x_istore_n hz [(2, .int a1), (0, .ref (h_b Z + 1)), (1, .int a1)] dX7_removeHat_1 rfl rfl rfl ?_
  exact x_sub [1, 0] rfl (wX7_removeHat_L2 hz h_FU (a1, M))
theorem kX7_removeHat {l : Launch} {dd : hDD} {b n : Nat} (a1 : Int32) (M : hMem) (r : hMem) (h : fX7_removeHat a1 M = some r) : hC l hYx dd b yX7_removeHat cX7_removeHat 3 none (n + 1) [.ref (b + 1), .int a1] M (none, r) :=
  h_met (av := fun b => [.ref (b + 1), .int a1]) (rt := rtV) (by decide) (Nat.le_of_ble_eq_true rfl) (fun Z hz => wX7_removeHat (n := n) hz a1 M) r h
set_option maxRecDepth 10000 in
set_option maxHeartbeats 4000000 in
theorem wX9_run {Z : hZ} {n : Nat} (hz : hOK Z hYx cX9_run RX9 4 (n + 7) (some .int)) (a1 : Int32) (a2 : Int32) (M : hMem) : hW Z rtM M 0 [(0, .ref (h_b Z + 0)), (1, .int a1), (2, .int a2)] [] (fX9_run a1 a2 M) := by
  unfold fX9_run
  refine x_aload_n hz dX9_run_0 rfl 0 rfl ?_
  refine x_iload_n hz dX9_run_1 rfl 1 rfl ?_
  refine x_callV hz mv_X9_171 sx_0 (by decide) rfl rfl (kX9_isHat (n := (n + 6)) a1 M) rfl (av := [.int a1]) (rest := []) rfl rfl (Nat.le_of_ble_eq_true rfl) dX9_run_2 ?_
  refine x_if_eq hz dX9_run_5 ?_ ?_
  · refine x_bipush hz (-5) dX9_run_16 rfl ?_
    exact x_iret hz rfl dX9_run_18
  refine x_aload_n hz dX9_run_8 rfl 0 rfl ?_
  refine x_iload_n hz dX9_run_9 rfl 2 rfl ?_
  refine x_callV hz mv_X9_201 sx_0 (by decide) rfl rfl (kX9_isCatcher (n := (n + 6)) a2 M) rfl (av := [.int a2]) (rest := []) rfl rfl (Nat.le_of_ble_eq_true rfl) dX9_run_10 ?_
  refine x_if_ne hz dX9_run_13 ?_ ?_
  · refine x_aload_n hz dX9_run_19 rfl 0 rfl ?_
    refine x_iload_n hz dX9_run_20 rfl 1 rfl ?_
    refine x_iload_n hz dX9_run_21 rfl 2 rfl ?_
    refine x_bind (fun q22 hq22 => ?_)
    refine x_callV hz mv_X9_233 sx_0 (by decide) rfl rfl (kX9_hadNow (n := n) a1 a2 M q22 hq22) rfl (av := [.int a1, .int a2]) (rest := []) rfl rfl (Nat.le_of_ble_eq_true rfl) dX9_run_22 ?_
    refine x_istore_n hz [(3, .int q22.1), (0, .ref (h_b Z + 0)), (1, .int a1), (2, .int a2)] dX9_run_25 rfl rfl rfl ?_
    refine x_iload_n hz dX9_run_26 rfl 0 rfl ?_
    refine x_if_ge hz dX9_run_27 ?_ ?_
    · refine x_aload_n hz dX9_run_33 rfl 1 rfl ?_
      refine x_iload_n hz dX9_run_34 rfl 0 rfl ?_
      refine x_bind (fun q35 hq35 => ?_)
      refine x_callV hz mv_X9_217 sx_0 (by decide) rfl rfl (kX9_letPass (n := (n + 1)) q22.1 q22.2 q35 hq35) rfl (av := [.int q22.1]) (rest := []) rfl rfl (Nat.le_of_ble_eq_true rfl) dX9_run_35 ?_
      refine x_aload_n hz dX9_run_38 rfl 1 rfl ?_
      refine x_getr hz sx_0 fl_X9_12 rfl rx_0_0 (by decide) dX9_run_39 ?_
      refine x_getr hz sx_1 fl_X9_186 rfl rx_1_4 (by decide) dX9_run_42 ?_
      refine x_iload_n hz dX9_run_45 rfl 3 rfl ?_
      refine x_guard (fun hi46 => ?_)
      refine x_aald0 hz (q := (11 + a2.toNatClampNeg)) 2 (fun _ => rfl) sx_6 (by decide) hi46 rfl (by omega) dX9_run_46 ?_
      refine x_aload_n hz dX9_run_47 rfl 1 rfl ?_
      refine x_getr hz sx_0 fl_X9_12 rfl rx_0_0 (by decide) dX9_run_48 ?_
      refine x_getr hz sx_1 fl_X9_160 rfl rx_1_3 (by decide) dX9_run_51 ?_
      refine x_iload_n hz dX9_run_54 rfl 2 rfl ?_
      refine x_guard (fun hi55 => ?_)
      refine x_aald0 hz (q := (7 + a1.toNatClampNeg)) 1 (fun _ => rfl) sx_5 (by decide) hi55 rfl (by omega) dX9_run_55 ?_
      refine x_geti hz (ge_5 hi55) fl_X9_168 rfl dX9_run_56 ?_
      refine x_callS hz ms_X9_174 (kX9_squareOf (n := (n + 6)) (q35 (7 + a1.toNatClampNeg) 2) q35) rfl (av := [.int (q35 (7 + a1.toNatClampNeg) 2)]) (rest := [.ref (h_b Z + (11 + a2.toNatClampNeg))]) rfl rfl (Nat.le_of_ble_eq_true rfl) dX9_run_59 ?_
      refine x_puti hz (ge_6 hi46) fp_X9_190 rfl dX9_run_62 ?_
      refine x_aload_n hz dX9_run_65 rfl 1 rfl ?_
      refine x_getr hz sx_0 fl_X9_12 rfl rx_0_0 (by decide) dX9_run_66 ?_
      refine x_iload_n hz dX9_run_69 rfl 2 rfl ?_
      refine x_bind (fun q70 hq70 => ?_)
      refine x_callV hz mv_X9_264 sx_1 (by decide) rfl rfl (kX7_removeHat (n := (n + 5)) a1 (h_up q35 (11 + a2.toNatClampNeg) 0 (fX9_squareOf (q35 (7 + a1.toNatClampNeg) 2) q35)) q70 hq70) rfl (av := [.int a1]) (rest := []) rfl rfl (Nat.le_of_ble_eq_true rfl) dX9_run_70 ?_
      refine x_iload_n hz dX9_run_73 rfl 0 rfl ?_
      exact x_iret hz rfl dX9_run_74
    refine x_bipush hz (-3) dX9_run_30 rfl ?_
    exact x_iret hz rfl dX9_run_32
  refine x_bipush hz (-5) dX9_run_16 rfl ?_
  exact x_iret hz rfl dX9_run_18
theorem kX9_run {l : Launch} {dd : hDD} {b n : Nat} (a1 : Int32) (a2 : Int32) (M : hMem) (r : Int32 × hMem) (h : fX9_run a1 a2 M = some r) : hC l hYx dd b yX9_run cX9_run 4 (some .int) (n + 7) [.ref (b + 0), .int a1, .int a2] M (some (.int r.1), r.2) :=
  h_met (av := fun b => [.ref (b + 0), .int a1, .int a2]) (rt := rtM) (by decide) (Nat.le_of_ble_eq_true rfl) (fun Z hz => wX9_run (n := n) hz a1 a2 M) r h
set_option maxRecDepth 10000 in
set_option maxHeartbeats 4000000 in
theorem wX9_held {Z : hZ} {n : Nat} (hz : hOK Z hYx cX9_held RX9 7 (n + 5) (some .int)) (a1 : Int32) (a2 : Int32) (a3 : Int32) (M : hMem) : hW Z rtM M 0 [(0, .ref (h_b Z + 0)), (1, .int a1), (2, .int a2), (3, .int a3)] [] (fX9_held a1 a2 a3 M) := by
  unfold fX9_held
  refine x_aload_n hz dX9_held_0 rfl 0 rfl ?_
  refine x_iload_n hz dX9_held_1 rfl 1 rfl ?_
  refine x_callV hz mv_X9_171 sx_0 (by decide) rfl rfl (kX9_isHat (n := (n + 4)) a1 M) rfl (av := [.int a1]) (rest := []) rfl rfl (Nat.le_of_ble_eq_true rfl) dX9_held_2 ?_
  refine x_if_ne hz dX9_held_5 ?_ ?_
  · refine x_iload_n hz dX9_held_11 rfl 2 rfl ?_
    refine x_callS hz ms_X9_127 (kX9_isBehind (n := (n + 4)) a2 M) rfl (av := [.int a2]) (rest := []) rfl rfl (Nat.le_of_ble_eq_true rfl) dX9_held_12 ?_
    refine x_if_eq hz dX9_held_15 ?_ ?_
    · refine x_bipush hz (-7) dX9_held_42 rfl ?_
      exact x_iret hz rfl dX9_held_44
    refine x_iload_n hz dX9_held_18 rfl 3 rfl ?_
    refine x_if_lt hz dX9_held_19 ?_ ?_
    · refine x_bipush hz (-7) dX9_held_42 rfl ?_
      exact x_iret hz rfl dX9_held_44
    refine x_iload_n hz dX9_held_22 rfl 3 rfl ?_
    refine x_bipush hz 100 dX9_held_23 rfl ?_
    refine x_idiv hz dX9_held_25 (by decide) ?_
    refine x_callS hz ms_X9_99 (kX9_isSecond (n := (n + 4)) (a3 / 100) M) rfl (av := [.int (a3 / 100)]) (rest := []) rfl rfl (Nat.le_of_ble_eq_true rfl) dX9_held_26 ?_
    refine x_if_eq hz dX9_held_29 ?_ ?_
    · refine x_bipush hz (-7) dX9_held_42 rfl ?_
      exact x_iret hz rfl dX9_held_44
    refine x_iload_n hz dX9_held_32 rfl 3 rfl ?_
    refine x_bipush hz 100 dX9_held_33 rfl ?_
    refine x_irem hz dX9_held_35 (by decide) ?_
    refine x_callS hz ms_X9_127 (kX9_isBehind (n := (n + 4)) (h_rem a3 100) M) rfl (av := [.int (h_rem a3 100)]) (rest := []) rfl rfl (Nat.le_of_ble_eq_true rfl) dX9_held_36 ?_
    refine x_if_ne hz dX9_held_39 ?_ ?_
    · refine x_aload_n hz dX9_held_45 rfl 0 rfl ?_
      refine x_iload_n hz dX9_held_46 rfl 1 rfl ?_
      refine x_bind (fun q47 hq47 => ?_)
      refine x_callV hz mv_X9_207 sx_0 (by decide) rfl rfl (kX9_think (n := (n + 2)) a1 M q47 hq47) rfl (av := [.int a1]) (rest := []) rfl rfl (Nat.le_of_ble_eq_true rfl) dX9_held_47 ?_
      refine x_iload_n hz dX9_held_50 rfl 2 rfl ?_
      refine x_iload_n hz dX9_held_51 rfl 3 rfl ?_
      refine x_bipush hz 100 dX9_held_52 rfl ?_
      refine x_idiv hz dX9_held_54 (by decide) ?_
      refine x_callS hz ms_X9_267 (kJ9_min_7cf53 (n := (n + 4)) a2 (a3 / 100) q47) rfl (av := [.int a2, .int (a3 / 100)]) (rest := []) rfl rfl (Nat.le_of_ble_eq_true rfl) dX9_held_55 ?_
      refine x_istore hz [(4, .int (fJ9_min_7cf53 a2 (a3 / 100) q47)), (0, .ref (h_b Z + 0)), (1, .int a1), (2, .int a2), (3, .int a3)] dX9_held_58 rfl rfl ?_
      refine x_iload_n hz dX9_held_60 rfl 3 rfl ?_
      refine x_iload_n hz dX9_held_61 rfl 4 rfl ?_
      refine x_bipush hz 100 dX9_held_62 rfl ?_
      refine x_idiv hz dX9_held_64 (by decide) ?_
      refine x_iload_n hz dX9_held_65 rfl 4 rfl ?_
      refine x_bipush hz 100 dX9_held_66 rfl ?_
      refine x_irem hz dX9_held_68 (by decide) ?_
      refine x_iadd hz dX9_held_69 ?_
      refine x_callS hz ms_X9_267 (kJ9_min_7cf53 (n := (n + 4)) a2 ((a3 / 100) + (h_rem a3 100)) q47) rfl (av := [.int a2, .int ((a3 / 100) + (h_rem a3 100))]) (rest := []) rfl rfl (Nat.le_of_ble_eq_true rfl) dX9_held_70 ?_
      refine x_istore hz [(5, .int (fJ9_min_7cf53 a2 ((a3 / 100) + (h_rem a3 100)) q47)), (4, .int (fJ9_min_7cf53 a2 (a3 / 100) q47)), (0, .ref (h_b Z + 0)), (1, .int a1), (2, .int a2), (3, .int a3)] dX9_held_73 rfl rfl ?_
      refine x_aload_n hz dX9_held_75 rfl 2 rfl ?_
      refine x_getr hz sx_0 fl_X9_49 rfl rx_0_7 (by decide) dX9_held_76 ?_
      refine x_aload_n hz dX9_held_79 rfl 2 rfl ?_
      refine x_getr hz sx_0 fl_X9_49 rfl rx_0_7 (by decide) dX9_held_80 ?_
      refine x_geti hz sx_40 fl_X9_210 rfl dX9_held_83 ?_
      refine x_iconst hz 0 dX9_held_86 rfl ?_
      refine x_iload hz dX9_held_87 1 rfl ?_
      refine x_bind (fun q89 hq89 => ?_)
      refine x_callV hz mv_X9_213 sx_40 (by decide) rfl rfl (kX8_later (n := n) (q47 40 5) 0 (fJ9_min_7cf53 a2 (a3 / 100) q47) q47 q89 hq89) rfl (av := [.int (q47 40 5), .int 0, .int (fJ9_min_7cf53 a2 (a3 / 100) q47)]) (rest := []) rfl rfl (Nat.le_of_ble_eq_true rfl) dX9_held_89 ?_
      refine x_istore hz [(6, .int q89.1), (5, .int (fJ9_min_7cf53 a2 ((a3 / 100) + (h_rem a3 100)) q47)), (4, .int (fJ9_min_7cf53 a2 (a3 / 100) q47)), (0, .ref (h_b Z + 0)), (1, .int a1), (2, .int a2), (3, .int a3)] dX9_held_92 rfl rfl ?_
      refine x_aload_n hz dX9_held_94 rfl 3 rfl ?_
      refine x_getr hz sx_0 fl_X9_49 rfl rx_0_7 (by decide) dX9_held_95 ?_
      refine x_iload hz dX9_held_98 0 rfl ?_
      refine x_iload hz dX9_held_100 1 rfl ?_
      refine x_iload_n hz dX9_held_102 rfl 5 rfl ?_
      refine x_bind (fun q103 hq103 => ?_)
      refine x_callV hz mv_X9_213 sx_40 (by decide) rfl rfl (kX8_later (n := n) q89.1 (fJ9_min_7cf53 a2 ((a3 / 100) + (h_rem a3 100)) q47) a2 q89.2 q103 hq103) rfl (av := [.int q89.1, .int (fJ9_min_7cf53 a2 ((a3 / 100) + (h_rem a3 100)) q47), .int a2]) (rest := []) rfl rfl (Nat.le_of_ble_eq_true rfl) dX9_held_103 ?_
      refine x_callS hz ms_X9_174 (kX9_squareOf (n := (n + 4)) q103.1 q103.2) rfl (av := [.int q103.1]) (rest := []) rfl rfl (Nat.le_of_ble_eq_true rfl) dX9_held_106 ?_
      exact x_iret hz rfl dX9_held_109
    refine x_bipush hz (-7) dX9_held_42 rfl ?_
    exact x_iret hz rfl dX9_held_44
  refine x_bipush hz (-5) dX9_held_8 rfl ?_
  exact x_iret hz rfl dX9_held_10
theorem kX9_held {l : Launch} {dd : hDD} {b n : Nat} (a1 : Int32) (a2 : Int32) (a3 : Int32) (M : hMem) (r : Int32 × hMem) (h : fX9_held a1 a2 a3 M = some r) : hC l hYx dd b yX9_held cX9_held 7 (some .int) (n + 5) [.ref (b + 0), .int a1, .int a2, .int a3] M (some (.int r.1), r.2) :=
  h_met (av := fun b => [.ref (b + 0), .int a1, .int a2, .int a3]) (rt := rtM) (by decide) (Nat.le_of_ble_eq_true rfl) (fun Z hz => wX9_held (n := n) hz a1 a2 a3 M) r h
set_option maxRecDepth 10000 in
set_option maxHeartbeats 4000000 in
theorem wX9_save_L62 {Z : hZ} {n : Nat} (hz : hOK Z hYx cX9_save RX9 4 (n + 5) (some .int))  (v2 : Int32)  {k54 : (Int32 × hMem) → Option (Int32 × hMem)} (hk54 : ∀ s, hW Z rtM s.2 54 [(0, .ref (h_b Z + 0)), (2, .int s.1)] [] (k54 s)) : ∀ (i : Nat) (s : Int32 × hMem), hW Z rtM s.2 62 [(0, .ref (h_b Z + 0)), (2, .int v2), (3, .int s.1)] [] (h_lp (fX9_save_L62 k54 v2) i s) := by
  refine x_loop (Ms := fun s : Int32 × hMem => s.2) (Ls := fun s : Int32 × hMem => [(0, .ref (h_b Z + 0)), (2, .int v2), (3, .int s.1)]) ?_
  intro k62 hk62 s
  show hW Z rtM s.2 62 [(0, .ref (h_b Z + 0)), (2, .int v2), (3, .int s.1)] [] (fX9_save_L62 k54 v2 k62 s)
  unfold fX9_save_L62
  refine x_iload_n hz dX9_save_62 rfl 2 rfl ?_
  refine x_iload_n hz dX9_save_63 rfl 1 rfl ?_
  refine x_iadd hz dX9_save_64 ?_
  refine x_bipush hz 24 dX9_save_65 rfl ?_
  refine x_icmp_gt hz dX9_save_67 ?_ ?_
  · refine x_iinc hz (v2 + 1) [(2, .int (v2 + 1)), (0, .ref (h_b Z + 0)), (3, .int s.1)] dX9_save_114 1 rfl rfl rfl rfl ?_
    refine x_goto hz dX9_save_117 ?_
    exact x_sub [1, 0] rfl (hk54 (v2 + 1, s.2))
  refine x_aload_n hz dX9_save_70 rfl 0 rfl ?_
  refine x_getr hz sx_0 fl_X9_49 rfl rx_0_7 (by decide) dX9_save_71 ?_
  refine x_aload_n hz dX9_save_74 rfl 0 rfl ?_
  refine x_getr hz sx_0 fl_X9_49 rfl rx_0_7 (by decide) dX9_save_75 ?_
  refine x_aload_n hz dX9_save_78 rfl 0 rfl ?_
  refine x_getr hz sx_0 fl_X9_49 rfl rx_0_7 (by decide) dX9_save_79 ?_
  refine x_getr hz sx_40 fl_X9_223 rfl rx_40_9 (by decide) dX9_save_82 ?_
  refine x_iload_n hz dX9_save_85 rfl 2 rfl ?_
  refine x_iald hz sx_47 dX9_save_86 (fun hi86 => ?_)
  refine x_iload_n hz dX9_save_87 rfl 2 rfl ?_
  refine x_iload_n hz dX9_save_88 rfl 1 rfl ?_
  refine x_iadd hz dX9_save_89 ?_
  refine x_bipush hz 24 dX9_save_90 rfl ?_
  refine x_bind (fun q92 hq92 => ?_)
  refine x_callV hz mv_X9_213 sx_40 (by decide) rfl rfl (kX8_later (n := n) (s.2 47 s.1.toNatClampNeg) (s.1 + v2) 24 s.2 q92 hq92) rfl (av := [.int (s.2 47 s.1.toNatClampNeg), .int (s.1 + v2), .int 24]) (rest := [.ref (h_b Z + 40)]) rfl rfl (Nat.le_of_ble_eq_true rfl) dX9_save_92 ?_
  refine x_callV hz mv_X9_272 sx_40 (by decide) rfl rfl (kX8_isWet (n := (n + 3)) q92.1 q92.2) rfl (av := [.int q92.1]) (rest := []) rfl rfl (Nat.le_of_ble_eq_true rfl) dX9_save_95 ?_
  refine x_if_ne hz dX9_save_98 ?_ ?_
  · refine x_iinc hz (s.1 + 1) [(3, .int (s.1 + 1)), (0, .ref (h_b Z + 0)), (2, .int v2)] dX9_save_108 2 rfl rfl rfl rfl ?_
    refine x_goto hz dX9_save_111 ?_
    exact x_sub [1, 2, 0] rfl (hk62 (s.1 + 1, q92.2))
  refine x_bipush hz 100 dX9_save_101 rfl ?_
  refine x_iload_n hz dX9_save_103 rfl 2 rfl ?_
  refine x_imul hz dX9_save_104 ?_
  refine x_iload_n hz dX9_save_105 rfl 1 rfl ?_
  refine x_iadd hz dX9_save_106 ?_
  exact x_iret hz rfl dX9_save_107
set_option maxRecDepth 10000 in
set_option maxHeartbeats 4000000 in
theorem wX9_save_L54 {Z : hZ} {n : Nat} (hz : hOK Z hYx cX9_save RX9 4 (n + 5) (some .int))     : ∀ (i : Nat) (s : Int32 × hMem), hW Z rtM s.2 54 [(0, .ref (h_b Z + 0)), (2, .int s.1)] [] (h_lp (fX9_save_L54) i s) := by
  refine x_loop (Ms := fun s : Int32 × hMem => s.2) (Ls := fun s : Int32 × hMem => [(0, .ref (h_b Z + 0)), (2, .int s.1)]) ?_
  intro k54 hk54 s
  show hW Z rtM s.2 54 [(0, .ref (h_b Z + 0)), (2, .int s.1)] [] (fX9_save_L54 k54 s)
  unfold fX9_save_L54
  refine x_iload_n hz dX9_save_54 rfl 1 rfl ?_
  refine x_bipush hz 24 dX9_save_55 rfl ?_
  refine x_icmp_gt hz dX9_save_57 ?_ ?_
  · refine x_iconst hz (-1) dX9_save_120 rfl ?_
    exact x_iret hz rfl dX9_save_121
  refine x_iconst hz 0 dX9_save_60 rfl ?_
  refine x_istore_n hz [(3, .int 0), (0, .ref (h_b Z + 0)), (2, .int s.1)] dX9_save_61 rfl rfl rfl ?_
  exact x_sub [1, 2, 0] rfl (wX9_save_L62 hz s.1 hk54 h_FU (0, s.2))
set_option maxRecDepth 10000 in
set_option maxHeartbeats 4000000 in
theorem wX9_save {Z : hZ} {n : Nat} (hz : hOK Z hYx cX9_save RX9 4 (n + 5) (some .int)) (a1 : Int32) (M : hMem) : hW Z rtM M 0 [(0, .ref (h_b Z + 0)), (1, .int a1)] [] (fX9_save a1 M) := by
  unfold fX9_save
  refine x_aload_n hz dX9_save_0 rfl 0 rfl ?_
  refine x_iload_n hz dX9_save_1 rfl 1 rfl ?_
  refine x_callV hz mv_X9_171 sx_0 (by decide) rfl rfl (kX9_isHat (n := (n + 4)) a1 M) rfl (av := [.int a1]) (rest := []) rfl rfl (Nat.le_of_ble_eq_true rfl) dX9_save_2 ?_
  refine x_if_ne hz dX9_save_5 ?_ ?_
  · refine x_aload_n hz dX9_save_11 rfl 0 rfl ?_
    refine x_iload_n hz dX9_save_12 rfl 1 rfl ?_
    refine x_bind (fun q13 hq13 => ?_)
    refine x_callV hz mv_X9_207 sx_0 (by decide) rfl rfl (kX9_think (n := (n + 2)) a1 M q13 hq13) rfl (av := [.int a1]) (rest := []) rfl rfl (Nat.le_of_ble_eq_true rfl) dX9_save_13 ?_
    refine x_aload_n hz dX9_save_16 rfl 0 rfl ?_
    refine x_getr hz sx_0 fl_X9_49 rfl rx_0_7 (by decide) dX9_save_17 ?_
    refine x_aload_n hz dX9_save_20 rfl 0 rfl ?_
    refine x_getr hz sx_0 fl_X9_49 rfl rx_0_7 (by decide) dX9_save_21 ?_
    refine x_getr hz sx_40 fl_X9_223 rfl rx_40_9 (by decide) dX9_save_24 ?_
    refine x_bind (fun q27 hq27 => ?_)
    refine x_callV hz mv_X9_226 sx_40 (by decide) rfl rfl (kX8_follow (n := n) 47 q13 q27 hq27) rfl (av := [.ref (h_b Z + 47)]) (rest := []) rfl rfl (Nat.le_of_ble_eq_true rfl) dX9_save_27 ?_
    refine x_aload_n hz dX9_save_30 rfl 0 rfl ?_
    refine x_getr hz sx_0 fl_X9_49 rfl rx_0_7 (by decide) dX9_save_31 ?_
    refine x_aload_n hz dX9_save_34 rfl 0 rfl ?_
    refine x_getr hz sx_0 fl_X9_49 rfl rx_0_7 (by decide) dX9_save_35 ?_
    refine x_getr hz sx_40 fl_X9_223 rfl rx_40_9 (by decide) dX9_save_38 ?_
    refine x_bipush hz 24 dX9_save_41 rfl ?_
    refine x_iald0 hz sx_47 (by decide) (v := q27 47 24) rfl dX9_save_43 ?_
    refine x_callV hz mv_X9_272 sx_40 (by decide) rfl rfl (kX8_isWet (n := (n + 3)) (q27 47 24) q27) rfl (av := [.int (q27 47 24)]) (rest := []) rfl rfl (Nat.le_of_ble_eq_true rfl) dX9_save_44 ?_
    refine x_if_ne hz dX9_save_47 ?_ ?_
    · refine x_iconst hz 1 dX9_save_52 rfl ?_
      refine x_istore_n hz [(2, .int 1), (0, .ref (h_b Z + 0)), (1, .int a1)] dX9_save_53 rfl rfl rfl ?_
      exact x_sub [1, 0] rfl (wX9_save_L54 hz h_FU (1, q27))
    refine x_iconst hz 0 dX9_save_50 rfl ?_
    exact x_iret hz rfl dX9_save_51
  refine x_bipush hz (-5) dX9_save_8 rfl ?_
  exact x_iret hz rfl dX9_save_10
theorem kX9_save {l : Launch} {dd : hDD} {b n : Nat} (a1 : Int32) (M : hMem) (r : Int32 × hMem) (h : fX9_save a1 M = some r) : hC l hYx dd b yX9_save cX9_save 4 (some .int) (n + 5) [.ref (b + 0), .int a1] M (some (.int r.1), r.2) :=
  h_met (av := fun b => [.ref (b + 0), .int a1]) (rt := rtM) (by decide) (Nat.le_of_ble_eq_true rfl) (fun Z hz => wX9_save (n := n) hz a1 M) r h
set_option maxRecDepth 10000 in
set_option maxHeartbeats 4000000 in
theorem wX9_turned_L57 {Z : hZ} {n : Nat} (hz : hOK Z hYx cX9_turned RX9 7 (n + 5) (some .int))  (v2 : Int32) (v3 : Int32) (v4 : Int32)   : ∀ (i : Nat) (s : Int32 × Int32 × hMem), hW Z rtM s.2.2 57 [(0, .ref (h_b Z + 0)), (2, .int v2), (3, .int v3), (4, .int v4), (5, .int s.1), (6, .int s.2.1)] [] (h_lp (fX9_turned_L57 v2 v3 v4) i s) := by
  refine x_loop (Ms := fun s : Int32 × Int32 × hMem => s.2.2) (Ls := fun s : Int32 × Int32 × hMem => [(0, .ref (h_b Z + 0)), (2, .int v2), (3, .int v3), (4, .int v4), (5, .int s.1), (6, .int s.2.1)]) ?_
  intro k57 hk57 s
  show hW Z rtM s.2.2 57 [(0, .ref (h_b Z + 0)), (2, .int v2), (3, .int v3), (4, .int v4), (5, .int s.1), (6, .int s.2.1)] [] (fX9_turned_L57 v2 v3 v4 k57 s)
  unfold fX9_turned_L57
  refine x_iload hz dX9_turned_57 5 rfl ?_
  refine x_iconst hz 4 dX9_turned_59 rfl ?_
  refine x_icmp_gt hz dX9_turned_60 ?_ ?_
  · refine x_iload hz dX9_turned_108 4 rfl ?_
    exact x_iret hz rfl dX9_turned_110
  refine x_aload_n hz dX9_turned_63 rfl 0 rfl ?_
  refine x_getr hz sx_0 fl_X9_49 rfl rx_0_7 (by decide) dX9_turned_64 ?_
  refine x_getr hz sx_40 fl_X9_275 rfl rx_40_7 (by decide) dX9_turned_67 ?_
  refine x_iload_n hz dX9_turned_70 rfl 1 rfl ?_
  refine x_iload hz dX9_turned_71 5 rfl ?_
  refine x_iast hz sx_45 dX9_turned_73 (fun hi73 => ?_)
  refine x_aload_n hz dX9_turned_74 rfl 0 rfl ?_
  refine x_getr hz sx_0 fl_X9_49 rfl rx_0_7 (by decide) dX9_turned_75 ?_
  refine x_iload hz dX9_turned_78 3 rfl ?_
  refine x_iload_n hz dX9_turned_80 rfl 1 rfl ?_
  refine x_bipush hz 24 dX9_turned_81 rfl ?_
  refine x_bind (fun q83 hq83 => ?_)
  refine x_callV hz mv_X9_213 sx_40 (by decide) rfl rfl (kX8_later (n := n) v4 v2 24 (h_up s.2.2 45 v2.toNatClampNeg s.2.1) q83 hq83) rfl (av := [.int v4, .int v2, .int 24]) (rest := []) rfl rfl (Nat.le_of_ble_eq_true rfl) dX9_turned_83 ?_
  refine x_callS hz ms_X9_174 (kX9_squareOf (n := (n + 4)) q83.1 q83.2) rfl (av := [.int q83.1]) (rest := []) rfl rfl (Nat.le_of_ble_eq_true rfl) dX9_turned_86 ?_
  refine x_iload_n hz dX9_turned_89 rfl 2 rfl ?_
  refine x_icmp_ne hz dX9_turned_90 ?_ ?_
  · refine x_iinc hz (s.2.1 + 1) [(6, .int (s.2.1 + 1)), (0, .ref (h_b Z + 0)), (2, .int v2), (3, .int v3), (4, .int v4), (5, .int s.1)] dX9_turned_102 5 rfl rfl rfl rfl ?_
    refine x_goto hz dX9_turned_105 ?_
    exact x_sub [1, 2, 3, 4, 5, 0] rfl (hk57 (s.1, s.2.1 + 1, q83.2))
  refine x_iload hz dX9_turned_93 4 rfl ?_
  refine x_iconst hz 1 dX9_turned_95 rfl ?_
  refine x_iload hz dX9_turned_96 5 rfl ?_
  refine x_ishl hz dX9_turned_98 ?_
  refine x_ior hz dX9_turned_99 ?_
  refine x_istore hz [(5, .int (s.1 ||| (1 <<< (s.2.1 &&& 31)))), (0, .ref (h_b Z + 0)), (2, .int v2), (3, .int v3), (4, .int v4), (6, .int s.2.1)] dX9_turned_100 rfl rfl ?_
  refine x_iinc hz (s.2.1 + 1) [(6, .int (s.2.1 + 1)), (5, .int (s.1 ||| (1 <<< (s.2.1 &&& 31)))), (0, .ref (h_b Z + 0)), (2, .int v2), (3, .int v3), (4, .int v4)] dX9_turned_102 5 rfl rfl rfl rfl ?_
  refine x_goto hz dX9_turned_105 ?_
  exact x_sub [2, 3, 4, 5, 1, 0] rfl (hk57 (s.1 ||| (1 <<< (s.2.1 &&& 31)), s.2.1 + 1, q83.2))
set_option maxRecDepth 10000 in
set_option maxHeartbeats 4000000 in
theorem wX9_turned {Z : hZ} {n : Nat} (hz : hOK Z hYx cX9_turned RX9 7 (n + 5) (some .int)) (a1 : Int32) (a2 : Int32) (a3 : Int32) (M : hMem) : hW Z rtM M 0 [(0, .ref (h_b Z + 0)), (1, .int a1), (2, .int a2), (3, .int a3)] [] (fX9_turned a1 a2 a3 M) := by
  unfold fX9_turned
  refine x_aload_n hz dX9_turned_0 rfl 0 rfl ?_
  refine x_iload_n hz dX9_turned_1 rfl 1 rfl ?_
  refine x_callV hz mv_X9_171 sx_0 (by decide) rfl rfl (kX9_isHat (n := (n + 4)) a1 M) rfl (av := [.int a1]) (rest := []) rfl rfl (Nat.le_of_ble_eq_true rfl) dX9_turned_2 ?_
  refine x_if_ne hz dX9_turned_5 ?_ ?_
  · refine x_iload_n hz dX9_turned_11 rfl 2 rfl ?_
    refine x_callS hz ms_X9_99 (kX9_isSecond (n := (n + 4)) a2 M) rfl (av := [.int a2]) (rest := []) rfl rfl (Nat.le_of_ble_eq_true rfl) dX9_turned_12 ?_
    refine x_if_eq hz dX9_turned_15 ?_ ?_
    · refine x_bipush hz (-7) dX9_turned_25 rfl ?_
      exact x_iret hz rfl dX9_turned_27
    refine x_iload_n hz dX9_turned_18 rfl 3 rfl ?_
    refine x_callS hz ms_X9_86 (kX9_isSquare (n := (n + 4)) a3 M) rfl (av := [.int a3]) (rest := []) rfl rfl (Nat.le_of_ble_eq_true rfl) dX9_turned_19 ?_
    refine x_if_ne hz dX9_turned_22 ?_ ?_
    · refine x_aload_n hz dX9_turned_28 rfl 0 rfl ?_
      refine x_iload_n hz dX9_turned_29 rfl 1 rfl ?_
      refine x_bind (fun q30 hq30 => ?_)
      refine x_callV hz mv_X9_207 sx_0 (by decide) rfl rfl (kX9_think (n := (n + 2)) a1 M q30 hq30) rfl (av := [.int a1]) (rest := []) rfl rfl (Nat.le_of_ble_eq_true rfl) dX9_turned_30 ?_
      refine x_aload_n hz dX9_turned_33 rfl 0 rfl ?_
      refine x_getr hz sx_0 fl_X9_49 rfl rx_0_7 (by decide) dX9_turned_34 ?_
      refine x_aload_n hz dX9_turned_37 rfl 0 rfl ?_
      refine x_getr hz sx_0 fl_X9_49 rfl rx_0_7 (by decide) dX9_turned_38 ?_
      refine x_geti hz sx_40 fl_X9_210 rfl dX9_turned_41 ?_
      refine x_iconst hz 0 dX9_turned_44 rfl ?_
      refine x_iload_n hz dX9_turned_45 rfl 2 rfl ?_
      refine x_bind (fun q46 hq46 => ?_)
      refine x_callV hz mv_X9_213 sx_40 (by decide) rfl rfl (kX8_later (n := n) (q30 40 5) 0 a2 q30 q46 hq46) rfl (av := [.int (q30 40 5), .int 0, .int a2]) (rest := []) rfl rfl (Nat.le_of_ble_eq_true rfl) dX9_turned_46 ?_
      refine x_istore hz [(4, .int q46.1), (0, .ref (h_b Z + 0)), (1, .int a1), (2, .int a2), (3, .int a3)] dX9_turned_49 rfl rfl ?_
      refine x_iconst hz 0 dX9_turned_51 rfl ?_
      refine x_istore hz [(5, .int 0), (4, .int q46.1), (0, .ref (h_b Z + 0)), (1, .int a1), (2, .int a2), (3, .int a3)] dX9_turned_52 rfl rfl ?_
      refine x_iconst hz 0 dX9_turned_54 rfl ?_
      refine x_istore hz [(6, .int 0), (5, .int 0), (4, .int q46.1), (0, .ref (h_b Z + 0)), (1, .int a1), (2, .int a2), (3, .int a3)] dX9_turned_55 rfl rfl ?_
      exact x_sub [3, 5, 6, 2, 1, 0] rfl (wX9_turned_L57 hz a2 a3 q46.1 h_FU (0, 0, q46.2))
    refine x_bipush hz (-7) dX9_turned_25 rfl ?_
    exact x_iret hz rfl dX9_turned_27
  refine x_bipush hz (-5) dX9_turned_8 rfl ?_
  exact x_iret hz rfl dX9_turned_10
theorem kX9_turned {l : Launch} {dd : hDD} {b n : Nat} (a1 : Int32) (a2 : Int32) (a3 : Int32) (M : hMem) (r : Int32 × hMem) (h : fX9_turned a1 a2 a3 M = some r) : hC l hYx dd b yX9_turned cX9_turned 7 (some .int) (n + 5) [.ref (b + 0), .int a1, .int a2, .int a3] M (some (.int r.1), r.2) :=
  h_met (av := fun b => [.ref (b + 0), .int a1, .int a2, .int a3]) (rt := rtM) (by decide) (Nat.le_of_ble_eq_true rfl) (fun Z hz => wX9_turned (n := n) hz a1 a2 a3 M) r h
set_option maxRecDepth 10000 in
set_option maxHeartbeats 4000000 in
theorem wX9_lull_L31 {Z : hZ} {n : Nat} (hz : hOK Z hYx cX9_lull RX9 9 (n + 7) (some .int))  (v2 : Int32) (v3 : Int32)   : ∀ (i : Nat) (s : Int32 × Int32 × Int32 × hMem), hW Z rtM s.2.2.2 31 [(0, .ref (h_b Z + 0)), (2, .int v2), (3, .int v3), (5, .int s.1), (6, .int s.2.1), (7, .int s.2.2.1)] [] (h_lp (fX9_lull_L31 v2 v3) i s) := by
  refine x_loop (Ms := fun s : Int32 × Int32 × Int32 × hMem => s.2.2.2) (Ls := fun s : Int32 × Int32 × Int32 × hMem => [(0, .ref (h_b Z + 0)), (2, .int v2), (3, .int v3), (5, .int s.1), (6, .int s.2.1), (7, .int s.2.2.1)]) ?_
  intro k31 hk31 s
  show hW Z rtM s.2.2.2 31 [(0, .ref (h_b Z + 0)), (2, .int v2), (3, .int v3), (5, .int s.1), (6, .int s.2.1), (7, .int s.2.2.1)] [] (fX9_lull_L31 v2 v3 k31 s)
  unfold fX9_lull_L31
  refine x_iload hz dX9_lull_31 5 rfl ?_
  refine x_bipush hz 24 dX9_lull_33 rfl ?_
  refine x_icmp_ge hz dX9_lull_35 ?_ ?_
  · refine x_iload_n hz dX9_lull_111 rfl 2 rfl ?_
    refine x_if_ne hz dX9_lull_112 ?_ ?_
    · refine x_iload hz dX9_lull_120 3 rfl ?_
      exact x_iret hz rfl dX9_lull_122
    refine x_iload hz dX9_lull_115 4 rfl ?_
    refine x_goto hz dX9_lull_117 ?_
    exact x_iret hz rfl dX9_lull_122
  refine x_aload_n hz dX9_lull_38 rfl 0 rfl ?_
  refine x_getr hz sx_0 fl_X9_49 rfl rx_0_7 (by decide) dX9_lull_39 ?_
  refine x_getr hz sx_40 fl_X9_275 rfl rx_40_7 (by decide) dX9_lull_42 ?_
  refine x_iload hz dX9_lull_45 5 rfl ?_
  refine x_iconst hz 4 dX9_lull_47 rfl ?_
  refine x_iast hz sx_45 dX9_lull_48 (fun hi48 => ?_)
  refine x_aload_n hz dX9_lull_49 rfl 0 rfl ?_
  refine x_getr hz sx_0 fl_X9_49 rfl rx_0_7 (by decide) dX9_lull_50 ?_
  refine x_aload_n hz dX9_lull_53 rfl 0 rfl ?_
  refine x_getr hz sx_0 fl_X9_12 rfl rx_0_0 (by decide) dX9_lull_54 ?_
  refine x_getr hz sx_1 fl_X9_186 rfl rx_1_4 (by decide) dX9_lull_57 ?_
  refine x_iload_n hz dX9_lull_60 rfl 1 rfl ?_
  refine x_guard (fun hi61 => ?_)
  refine x_aald0 hz (q := (11 + v2.toNatClampNeg)) 2 (fun _ => rfl) sx_6 (by decide) hi61 rfl (by omega) dX9_lull_61 ?_
  refine x_bind (fun q62 hq62 => ?_)
  refine x_callV hz mv_X9_276 sx_40 (by decide) rfl rfl (kX8_hadBy (n := (n + 1)) (11 + v2.toNatClampNeg) (h_up s.2.2.2 45 s.2.2.1.toNatClampNeg 4) q62 hq62) rfl (av := [.ref (h_b Z + (11 + v2.toNatClampNeg))]) (rest := []) rfl rfl (Nat.le_of_ble_eq_true rfl) dX9_lull_62 ?_
  refine x_istore hz [(8, .int q62.1), (0, .ref (h_b Z + 0)), (2, .int v2), (3, .int v3), (5, .int s.1), (6, .int s.2.1), (7, .int s.2.2.1)] dX9_lull_65 rfl rfl ?_
  refine x_aload_n hz dX9_lull_67 rfl 1 rfl ?_
  refine x_getr hz sx_0 fl_X9_49 rfl rx_0_7 (by decide) dX9_lull_68 ?_
  refine x_getr hz sx_40 fl_X9_275 rfl rx_40_7 (by decide) dX9_lull_71 ?_
  refine x_iload hz dX9_lull_74 6 rfl ?_
  refine x_aload_n hz dX9_lull_76 rfl 1 rfl ?_
  refine x_getr hz sx_0 fl_X9_12 rfl rx_0_0 (by decide) dX9_lull_77 ?_
  refine x_getr hz sx_1 fl_X9_106 rfl rx_1_1 (by decide) dX9_lull_80 ?_
  refine x_iload hz dX9_lull_83 6 rfl ?_
  refine x_iald hz sx_3 dX9_lull_85 (fun hi85 => ?_)
  refine x_iast hz sx_45 dX9_lull_86 (fun hi86 => ?_)
  refine x_iload hz dX9_lull_87 0 rfl ?_
  refine x_iload hz dX9_lull_89 4 rfl ?_
  refine x_callS hz ms_X9_240 (kX9_isSooner (n := (n + 6)) q62.1 s.1 (h_up q62.2 45 s.2.2.1.toNatClampNeg (q62.2 3 s.2.2.1.toNatClampNeg))) rfl (av := [.int q62.1, .int s.1]) (rest := []) rfl rfl (Nat.le_of_ble_eq_true rfl) dX9_lull_91 ?_
  refine x_if_eq hz dX9_lull_94 ?_ ?_
  · refine x_iinc hz (s.2.2.1 + 1) [(7, .int (s.2.2.1 + 1)), (8, .int q62.1), (0, .ref (h_b Z + 0)), (2, .int v2), (3, .int v3), (5, .int s.1), (6, .int s.2.1)] dX9_lull_105 6 rfl rfl rfl rfl ?_
    refine x_goto hz dX9_lull_108 ?_
    exact x_sub [2, 3, 4, 5, 6, 0] rfl (hk31 (s.1, s.2.1, s.2.2.1 + 1, h_up q62.2 45 s.2.2.1.toNatClampNeg (q62.2 3 s.2.2.1.toNatClampNeg)))
  refine x_iload hz dX9_lull_97 0 rfl ?_
  refine x_istore hz [(5, .int q62.1), (8, .int q62.1), (0, .ref (h_b Z + 0)), (2, .int v2), (3, .int v3), (6, .int s.2.1), (7, .int s.2.2.1)] dX9_lull_99 rfl rfl ?_
  refine x_iload hz dX9_lull_101 6 rfl ?_
  refine x_istore hz [(6, .int s.2.2.1), (5, .int q62.1), (8, .int q62.1), (0, .ref (h_b Z + 0)), (2, .int v2), (3, .int v3), (7, .int s.2.2.1)] dX9_lull_103 rfl rfl ?_
  refine x_iinc hz (s.2.2.1 + 1) [(7, .int (s.2.2.1 + 1)), (6, .int s.2.2.1), (5, .int q62.1), (8, .int q62.1), (0, .ref (h_b Z + 0)), (2, .int v2), (3, .int v3)] dX9_lull_105 6 rfl rfl rfl rfl ?_
  refine x_goto hz dX9_lull_108 ?_
  exact x_sub [4, 5, 6, 2, 1, 0] rfl (hk31 (q62.1, s.2.2.1, s.2.2.1 + 1, h_up q62.2 45 s.2.2.1.toNatClampNeg (q62.2 3 s.2.2.1.toNatClampNeg)))
set_option maxRecDepth 10000 in
set_option maxHeartbeats 4000000 in
theorem wX9_lull {Z : hZ} {n : Nat} (hz : hOK Z hYx cX9_lull RX9 9 (n + 7) (some .int)) (a1 : Int32) (a2 : Int32) (a3 : Int32) (M : hMem) : hW Z rtM M 0 [(0, .ref (h_b Z + 0)), (1, .int a1), (2, .int a2), (3, .int a3)] [] (fX9_lull a1 a2 a3 M) := by
  unfold fX9_lull
  refine x_aload_n hz dX9_lull_0 rfl 0 rfl ?_
  refine x_iload_n hz dX9_lull_1 rfl 1 rfl ?_
  refine x_iload_n hz dX9_lull_2 rfl 2 rfl ?_
  refine x_iload_n hz dX9_lull_3 rfl 3 rfl ?_
  refine x_callV hz mv_X9_244 sx_0 (by decide) rfl rfl (kX9_refusalOfPair (n := (n + 5)) a1 a2 a3 M) rfl (av := [.int a1, .int a2, .int a3]) (rest := []) rfl rfl (Nat.le_of_ble_eq_true rfl) dX9_lull_4 ?_
  refine x_istore hz [(4, .int (fX9_refusalOfPair a1 a2 a3 M)), (0, .ref (h_b Z + 0)), (1, .int a1), (2, .int a2), (3, .int a3)] dX9_lull_7 rfl rfl ?_
  refine x_iload hz dX9_lull_9 0 rfl ?_
  refine x_if_eq hz dX9_lull_11 ?_ ?_
  · refine x_aload_n hz dX9_lull_17 rfl 1 rfl ?_
    refine x_iload_n hz dX9_lull_18 rfl 2 rfl ?_
    refine x_iload_n hz dX9_lull_19 rfl 3 rfl ?_
    refine x_bind (fun q20 hq20 => ?_)
    refine x_callV hz mv_X9_233 sx_0 (by decide) rfl rfl (kX9_hadNow (n := n) a1 a2 M q20 hq20) rfl (av := [.int a1, .int a2]) (rest := []) rfl rfl (Nat.le_of_ble_eq_true rfl) dX9_lull_20 ?_
    refine x_istore hz [(5, .int q20.1), (4, .int (fX9_refusalOfPair a1 a2 a3 M)), (0, .ref (h_b Z + 0)), (1, .int a1), (2, .int a2), (3, .int a3)] dX9_lull_23 rfl rfl ?_
    refine x_iconst hz (-1) dX9_lull_25 rfl ?_
    refine x_istore hz [(6, .int (-1)), (5, .int q20.1), (4, .int (fX9_refusalOfPair a1 a2 a3 M)), (0, .ref (h_b Z + 0)), (1, .int a1), (2, .int a2), (3, .int a3)] dX9_lull_26 rfl rfl ?_
    refine x_iconst hz 0 dX9_lull_28 rfl ?_
    refine x_istore hz [(7, .int 0), (6, .int (-1)), (5, .int q20.1), (4, .int (fX9_refusalOfPair a1 a2 a3 M)), (0, .ref (h_b Z + 0)), (1, .int a1), (2, .int a2), (3, .int a3)] dX9_lull_29 rfl rfl ?_
    exact x_sub [4, 6, 7, 2, 1, 0] rfl (wX9_lull_L31 hz a2 a3 h_FU (q20.1, (-1), 0, q20.2))
  refine x_iload hz dX9_lull_14 0 rfl ?_
  exact x_iret hz rfl dX9_lull_16
theorem kX9_lull {l : Launch} {dd : hDD} {b n : Nat} (a1 : Int32) (a2 : Int32) (a3 : Int32) (M : hMem) (r : Int32 × hMem) (h : fX9_lull a1 a2 a3 M = some r) : hC l hYx dd b yX9_lull cX9_lull 9 (some .int) (n + 7) [.ref (b + 0), .int a1, .int a2, .int a3] M (some (.int r.1), r.2) :=
  h_met (av := fun b => [.ref (b + 0), .int a1, .int a2, .int a3]) (rt := rtM) (by decide) (Nat.le_of_ble_eq_true rfl) (fun Z hz => wX9_lull (n := n) hz a1 a2 a3 M) r h
set_option maxRecDepth 10000 in
set_option maxHeartbeats 4000000 in
theorem wX9_fence_L58 {Z : hZ} {n : Nat} (hz : hOK Z hYx cX9_fence RX9 10 (n + 7) (some .int))  (v2 : Int32) (v3 : Int32) (v6 : Int32)   : ∀ (i : Nat) (s : Int32 × Int32 × Int32 × hMem), hW Z rtM s.2.2.2 58 [(0, .ref (h_b Z + 0)), (2, .int v2), (3, .int v3), (5, .int s.1), (6, .int v6), (7, .int s.2.1), (8, .int s.2.2.1)] [] (h_lp (fX9_fence_L58 v2 v3 v6) i s) := by
  refine x_loop (Ms := fun s : Int32 × Int32 × Int32 × hMem => s.2.2.2) (Ls := fun s : Int32 × Int32 × Int32 × hMem => [(0, .ref (h_b Z + 0)), (2, .int v2), (3, .int v3), (5, .int s.1), (6, .int v6), (7, .int s.2.1), (8, .int s.2.2.1)]) ?_
  intro k58 hk58 s
  show hW Z rtM s.2.2.2 58 [(0, .ref (h_b Z + 0)), (2, .int v2), (3, .int v3), (5, .int s.1), (6, .int v6), (7, .int s.2.1), (8, .int s.2.2.1)] [] (fX9_fence_L58 v2 v3 v6 k58 s)
  unfold fX9_fence_L58
  refine x_iload hz dX9_fence_58 6 rfl ?_
  refine x_bipush hz 32 dX9_fence_60 rfl ?_
  refine x_icmp_ge hz dX9_fence_62 ?_ ?_
  · refine x_iload_n hz dX9_fence_138 rfl 2 rfl ?_
    refine x_if_ne hz dX9_fence_139 ?_ ?_
    · refine x_iload hz dX9_fence_147 3 rfl ?_
      exact x_iret hz rfl dX9_fence_149
    refine x_iload hz dX9_fence_142 5 rfl ?_
    refine x_goto hz dX9_fence_144 ?_
    exact x_iret hz rfl dX9_fence_149
  refine x_iload hz dX9_fence_65 4 rfl ?_
  refine x_iload hz dX9_fence_67 6 rfl ?_
  refine x_iushr hz dX9_fence_69 ?_
  refine x_iconst hz 1 dX9_fence_70 rfl ?_
  refine x_iand hz dX9_fence_71 ?_
  refine x_if_ne hz dX9_fence_72 ?_ ?_
  · refine x_iinc hz (s.2.2.1 + 1) [(8, .int (s.2.2.1 + 1)), (0, .ref (h_b Z + 0)), (2, .int v2), (3, .int v3), (5, .int s.1), (6, .int v6), (7, .int s.2.1)] dX9_fence_132 6 rfl rfl rfl rfl ?_
    refine x_goto hz dX9_fence_135 ?_
    exact x_sub [1, 2, 3, 4, 5, 6, 0] rfl (hk58 (s.1, s.2.1, s.2.2.1 + 1, s.2.2.2))
  refine x_aload_n hz dX9_fence_75 rfl 0 rfl ?_
  refine x_getr hz sx_0 fl_X9_49 rfl rx_0_7 (by decide) dX9_fence_76 ?_
  refine x_aload_n hz dX9_fence_79 rfl 0 rfl ?_
  refine x_getr hz sx_0 fl_X9_12 rfl rx_0_0 (by decide) dX9_fence_80 ?_
  refine x_getr hz sx_1 fl_X9_96 rfl rx_1_0 (by decide) dX9_fence_83 ?_
  refine x_iconst hz 0 dX9_fence_86 rfl ?_
  refine x_iald0 hz sx_2 (by decide) (v := s.2.2.2 2 0) rfl dX9_fence_87 ?_
  refine x_iconst hz 1 dX9_fence_88 rfl ?_
  refine x_iload hz dX9_fence_89 6 rfl ?_
  refine x_ishl hz dX9_fence_91 ?_
  refine x_ior hz dX9_fence_92 ?_
  refine x_puti hz sx_40 fp_X9_280 rfl dX9_fence_93 ?_
  refine x_aload_n hz dX9_fence_96 rfl 0 rfl ?_
  refine x_getr hz sx_0 fl_X9_49 rfl rx_0_7 (by decide) dX9_fence_97 ?_
  refine x_aload_n hz dX9_fence_100 rfl 0 rfl ?_
  refine x_getr hz sx_0 fl_X9_12 rfl rx_0_0 (by decide) dX9_fence_101 ?_
  refine x_getr hz sx_1 fl_X9_186 rfl rx_1_4 (by decide) dX9_fence_104 ?_
  refine x_iload_n hz dX9_fence_107 rfl 1 rfl ?_
  refine x_guard (fun hi108 => ?_)
  refine x_aald0 hz (q := (11 + v2.toNatClampNeg)) 2 (fun _ => rfl) sx_6 (by decide) hi108 rfl (by omega) dX9_fence_108 ?_
  refine x_bind (fun q109 hq109 => ?_)
  refine x_callV hz mv_X9_276 sx_40 (by decide) rfl rfl (kX8_hadBy (n := (n + 1)) (11 + v2.toNatClampNeg) (h_up s.2.2.2 40 0 ((s.2.2.2 2 0) ||| (1 <<< (s.2.2.1 &&& 31)))) q109 hq109) rfl (av := [.ref (h_b Z + (11 + v2.toNatClampNeg))]) (rest := []) rfl rfl (Nat.le_of_ble_eq_true rfl) dX9_fence_109 ?_
  refine x_istore hz [(9, .int q109.1), (0, .ref (h_b Z + 0)), (2, .int v2), (3, .int v3), (5, .int s.1), (6, .int v6), (7, .int s.2.1), (8, .int s.2.2.1)] dX9_fence_112 rfl rfl ?_
  refine x_iload hz dX9_fence_114 0 rfl ?_
  refine x_iload hz dX9_fence_116 4 rfl ?_
  refine x_callS hz ms_X9_240 (kX9_isSooner (n := (n + 6)) q109.1 s.1 q109.2) rfl (av := [.int q109.1, .int s.1]) (rest := []) rfl rfl (Nat.le_of_ble_eq_true rfl) dX9_fence_118 ?_
  refine x_if_eq hz dX9_fence_121 ?_ ?_
  · refine x_iinc hz (s.2.2.1 + 1) [(8, .int (s.2.2.1 + 1)), (9, .int q109.1), (0, .ref (h_b Z + 0)), (2, .int v2), (3, .int v3), (5, .int s.1), (6, .int v6), (7, .int s.2.1)] dX9_fence_132 7 rfl rfl rfl rfl ?_
    refine x_goto hz dX9_fence_135 ?_
    exact x_sub [2, 3, 4, 5, 6, 7, 0] rfl (hk58 (s.1, s.2.1, s.2.2.1 + 1, q109.2))
  refine x_iload hz dX9_fence_124 0 rfl ?_
  refine x_istore hz [(5, .int q109.1), (9, .int q109.1), (0, .ref (h_b Z + 0)), (2, .int v2), (3, .int v3), (6, .int v6), (7, .int s.2.1), (8, .int s.2.2.1)] dX9_fence_126 rfl rfl ?_
  refine x_iload hz dX9_fence_128 7 rfl ?_
  refine x_istore hz [(7, .int s.2.2.1), (5, .int q109.1), (9, .int q109.1), (0, .ref (h_b Z + 0)), (2, .int v2), (3, .int v3), (6, .int v6), (8, .int s.2.2.1)] dX9_fence_130 rfl rfl ?_
  refine x_iinc hz (s.2.2.1 + 1) [(8, .int (s.2.2.1 + 1)), (7, .int s.2.2.1), (5, .int q109.1), (9, .int q109.1), (0, .ref (h_b Z + 0)), (2, .int v2), (3, .int v3), (6, .int v6)] dX9_fence_132 7 rfl rfl rfl rfl ?_
  refine x_goto hz dX9_fence_135 ?_
  exact x_sub [4, 5, 6, 2, 7, 1, 0] rfl (hk58 (q109.1, s.2.2.1, s.2.2.1 + 1, q109.2))
set_option maxRecDepth 10000 in
set_option maxHeartbeats 4000000 in
theorem wX9_fence {Z : hZ} {n : Nat} (hz : hOK Z hYx cX9_fence RX9 10 (n + 7) (some .int)) (a1 : Int32) (a2 : Int32) (a3 : Int32) (M : hMem) : hW Z rtM M 0 [(0, .ref (h_b Z + 0)), (1, .int a1), (2, .int a2), (3, .int a3)] [] (fX9_fence a1 a2 a3 M) := by
  unfold fX9_fence
  refine x_aload_n hz dX9_fence_0 rfl 0 rfl ?_
  refine x_iload_n hz dX9_fence_1 rfl 1 rfl ?_
  refine x_iload_n hz dX9_fence_2 rfl 2 rfl ?_
  refine x_iload_n hz dX9_fence_3 rfl 3 rfl ?_
  refine x_callV hz mv_X9_244 sx_0 (by decide) rfl rfl (kX9_refusalOfPair (n := (n + 5)) a1 a2 a3 M) rfl (av := [.int a1, .int a2, .int a3]) (rest := []) rfl rfl (Nat.le_of_ble_eq_true rfl) dX9_fence_4 ?_
  refine x_istore hz [(4, .int (fX9_refusalOfPair a1 a2 a3 M)), (0, .ref (h_b Z + 0)), (1, .int a1), (2, .int a2), (3, .int a3)] dX9_fence_7 rfl rfl ?_
  refine x_iload hz dX9_fence_9 0 rfl ?_
  refine x_if_eq hz dX9_fence_11 ?_ ?_
  · refine x_aload_n hz dX9_fence_17 rfl 1 rfl ?_
    refine x_iload_n hz dX9_fence_18 rfl 2 rfl ?_
    refine x_iload_n hz dX9_fence_19 rfl 3 rfl ?_
    refine x_bind (fun q20 hq20 => ?_)
    refine x_callV hz mv_X9_233 sx_0 (by decide) rfl rfl (kX9_hadNow (n := n) a1 a2 M q20 hq20) rfl (av := [.int a1, .int a2]) (rest := []) rfl rfl (Nat.le_of_ble_eq_true rfl) dX9_fence_20 ?_
    refine x_istore hz [(5, .int q20.1), (4, .int (fX9_refusalOfPair a1 a2 a3 M)), (0, .ref (h_b Z + 0)), (1, .int a1), (2, .int a2), (3, .int a3)] dX9_fence_23 rfl rfl ?_
    refine x_aload_n hz dX9_fence_25 rfl 2 rfl ?_
    refine x_getr hz sx_0 fl_X9_12 rfl rx_0_0 (by decide) dX9_fence_26 ?_
    refine x_getr hz sx_1 fl_X9_96 rfl rx_1_0 (by decide) dX9_fence_29 ?_
    refine x_iconst hz 0 dX9_fence_32 rfl ?_
    refine x_iald0 hz sx_2 (by decide) (v := q20.2 2 0) rfl dX9_fence_33 ?_
    refine x_aload_n hz dX9_fence_34 rfl 2 rfl ?_
    refine x_getr hz sx_0 fl_X9_12 rfl rx_0_0 (by decide) dX9_fence_35 ?_
    refine x_bind (fun q38 hq38 => ?_)
    refine x_callV hz mv_X9_90 sx_1 (by decide) rfl rfl (kX7_hatSquares (n := (n + 5))  q20.2 q38 hq38) rfl (av := []) (rest := [.int (q20.2 2 0)]) rfl rfl (Nat.le_of_ble_eq_true rfl) dX9_fence_38 ?_
    refine x_ior hz dX9_fence_41 ?_
    refine x_aload_n hz dX9_fence_42 rfl 2 rfl ?_
    refine x_getr hz sx_0 fl_X9_12 rfl rx_0_0 (by decide) dX9_fence_43 ?_
    refine x_bind (fun q46 hq46 => ?_)
    refine x_callV hz mv_X9_93 sx_1 (by decide) rfl rfl (kX7_catcherSquares (n := (n + 6))  q20.2 q46 hq46) rfl (av := []) (rest := [.int ((q20.2 2 0) ||| q38)]) rfl rfl (Nat.le_of_ble_eq_true rfl) dX9_fence_46 ?_
    refine x_ior hz dX9_fence_49 ?_
    refine x_istore hz [(6, .int (((q20.2 2 0) ||| q38) ||| q46)), (5, .int q20.1), (4, .int (fX9_refusalOfPair a1 a2 a3 M)), (0, .ref (h_b Z + 0)), (1, .int a1), (2, .int a2), (3, .int a3)] dX9_fence_50 rfl rfl ?_
    refine x_iconst hz (-1) dX9_fence_52 rfl ?_
    refine x_istore hz [(7, .int (-1)), (6, .int (((q20.2 2 0) ||| q38) ||| q46)), (5, .int q20.1), (4, .int (fX9_refusalOfPair a1 a2 a3 M)), (0, .ref (h_b Z + 0)), (1, .int a1), (2, .int a2), (3, .int a3)] dX9_fence_53 rfl rfl ?_
    refine x_iconst hz 0 dX9_fence_55 rfl ?_
    refine x_istore hz [(8, .int 0), (7, .int (-1)), (6, .int (((q20.2 2 0) ||| q38) ||| q46)), (5, .int q20.1), (4, .int (fX9_refusalOfPair a1 a2 a3 M)), (0, .ref (h_b Z + 0)), (1, .int a1), (2, .int a2), (3, .int a3)] dX9_fence_56 rfl rfl ?_
    exact x_sub [5, 7, 8, 3, 2, 1, 0] rfl (wX9_fence_L58 hz a2 a3 (((q20.2 2 0) ||| q38) ||| q46) h_FU (q20.1, (-1), 0, q20.2))
  refine x_iload hz dX9_fence_14 0 rfl ?_
  exact x_iret hz rfl dX9_fence_16
theorem kX9_fence {l : Launch} {dd : hDD} {b n : Nat} (a1 : Int32) (a2 : Int32) (a3 : Int32) (M : hMem) (r : Int32 × hMem) (h : fX9_fence a1 a2 a3 M = some r) : hC l hYx dd b yX9_fence cX9_fence 10 (some .int) (n + 7) [.ref (b + 0), .int a1, .int a2, .int a3] M (some (.int r.1), r.2) :=
  h_met (av := fun b => [.ref (b + 0), .int a1, .int a2, .int a3]) (rt := rtM) (by decide) (Nat.le_of_ble_eq_true rfl) (fun Z hz => wX9_fence (n := n) hz a1 a2 a3 M) r h
