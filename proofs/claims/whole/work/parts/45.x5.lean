set_option maxRecDepth 10000 in
set_option maxHeartbeats 4000000 in
theorem wX9_taken {Z : hZ} {n : Nat} (hz : hOK Z hYx cX9_taken RX9 4 (n + 1) (some .int)) (a1 : Int32) (a2 : Int32) (M : hMem) : hW Z (rtP M) M 0 [(0, .ref (h_b Z + 0)), (1, .int a1), (2, .int a2)] [] (fX9_taken a1 a2 M) := by
  unfold fX9_taken
  refine x_iload_n hz dX9_taken_0 rfl 2 rfl ?_
  refine x_if_lt hz dX9_taken_1 ?_ ?_
  · refine x_bipush hz (-2) dX9_taken_10 rfl ?_
    exact x_iret hz rfl dX9_taken_12
  refine x_iload_n hz dX9_taken_4 rfl 2 rfl ?_
  refine x_bipush hz 6 dX9_taken_5 rfl ?_
  refine x_icmp_le hz dX9_taken_7 ?_ ?_
  · refine x_iload_n hz dX9_taken_13 rfl 1 rfl ?_
    refine x_if_lt hz dX9_taken_14 ?_ ?_
    · refine x_bipush hz (-12) dX9_taken_23 rfl ?_
      exact x_iret hz rfl dX9_taken_25
    refine x_iload_n hz dX9_taken_17 rfl 1 rfl ?_
    refine x_bipush hz 36 dX9_taken_18 rfl ?_
    refine x_icmp_lt hz dX9_taken_20 ?_ ?_
    · refine x_iload_n hz dX9_taken_26 rfl 1 rfl ?_
      refine x_bipush hz 32 dX9_taken_27 rfl ?_
      refine x_icmp_ge hz dX9_taken_29 ?_ ?_
      · refine x_iload_n hz dX9_taken_86 rfl 1 rfl ?_
        refine x_bipush hz 32 dX9_taken_87 rfl ?_
        refine x_isub hz dX9_taken_89 ?_
        refine x_istore_n hz [(3, .int (a1 - 32)), (0, .ref (h_b Z + 0)), (1, .int a1), (2, .int a2)] dX9_taken_90 rfl rfl rfl ?_
        refine x_aload_n hz dX9_taken_91 rfl 1 rfl ?_
        refine x_iload_n hz dX9_taken_92 rfl 0 rfl ?_
        refine x_callV hz mv_X9_171 sx_0 (by decide) rfl rfl (kX9_isHat (n := n) (a1 - 32) M) rfl (av := [.int (a1 - 32)]) (rest := []) rfl rfl (Nat.le_of_ble_eq_true rfl) dX9_taken_93 ?_
        refine x_if_ne hz dX9_taken_96 ?_ ?_
        · refine x_iload_n hz dX9_taken_102 rfl 3 rfl ?_
          refine x_bipush hz 6 dX9_taken_103 rfl ?_
          refine x_icmp_eq hz dX9_taken_105 ?_ ?_
          · refine x_bipush hz (-13) dX9_taken_131 rfl ?_
            exact x_iret hz rfl dX9_taken_133
          refine x_aload_n hz dX9_taken_108 rfl 1 rfl ?_
          refine x_getr hz sx_0 fl_X9_12 rfl rx_0_0 (by decide) dX9_taken_109 ?_
          refine x_getr hz sx_1 fl_X9_160 rfl rx_1_3 (by decide) dX9_taken_112 ?_
          refine x_iload_n hz dX9_taken_115 rfl 0 rfl ?_
          refine x_guard (fun hi116 => ?_)
          refine x_aald0 hz (q := (7 + (a1 - 32).toNatClampNeg)) 1 (fun _ => rfl) sx_5 (by decide) hi116 rfl (by omega) dX9_taken_116 ?_
          refine x_geti hz (ge_5 hi116) fl_X9_164 rfl dX9_taken_117 ?_
          refine x_iload_n hz dX9_taken_120 rfl 3 rfl ?_
          refine x_bind (fun q121 hq121 => ?_)
          refine x_callS hz ms_X9_335 (kX3_isOne (n := n) (M (7 + (a1 - 32).toNatClampNeg) 0) a2 M q121 hq121) rfl (av := [.int (M (7 + (a1 - 32).toNatClampNeg) 0), .int a2]) (rest := []) rfl rfl (Nat.le_of_ble_eq_true rfl) dX9_taken_121 ?_
          refine x_if_eq hz dX9_taken_124 ?_ ?_
          · refine x_bipush hz (-13) dX9_taken_131 rfl ?_
            exact x_iret hz rfl dX9_taken_133
          refine x_iload_n hz dX9_taken_127 rfl 0 rfl ?_
          refine x_goto hz dX9_taken_128 ?_
          exact x_iret hz rfl dX9_taken_133
        refine x_bipush hz (-11) dX9_taken_99 rfl ?_
        exact x_iret hz rfl dX9_taken_101
      refine x_aload_n hz dX9_taken_32 rfl 0 rfl ?_
      refine x_getr hz sx_0 fl_X9_12 rfl rx_0_0 (by decide) dX9_taken_33 ?_
      refine x_getr hz sx_1 fl_X9_96 rfl rx_1_0 (by decide) dX9_taken_36 ?_
      refine x_iconst hz 1 dX9_taken_39 rfl ?_
      refine x_iald0 hz sx_2 (by decide) (v := M 2 1) rfl dX9_taken_40 ?_
      refine x_aload_n hz dX9_taken_41 rfl 0 rfl ?_
      refine x_getr hz sx_0 fl_X9_12 rfl rx_0_0 (by decide) dX9_taken_42 ?_
      refine x_getr hz sx_1 fl_X9_96 rfl rx_1_0 (by decide) dX9_taken_45 ?_
      refine x_iconst hz 2 dX9_taken_48 rfl ?_
      refine x_iald0 hz sx_2 (by decide) (v := M 2 2) rfl dX9_taken_49 ?_
      refine x_ior hz dX9_taken_50 ?_
      refine x_iload_n hz dX9_taken_51 rfl 1 rfl ?_
      refine x_iushr hz dX9_taken_52 ?_
      refine x_iconst hz 1 dX9_taken_53 rfl ?_
      refine x_iand hz dX9_taken_54 ?_
      refine x_if_ne hz dX9_taken_55 ?_ ?_
      · refine x_iload_n hz dX9_taken_61 rfl 2 rfl ?_
        refine x_bipush hz 6 dX9_taken_62 rfl ?_
        refine x_icmp_ne hz dX9_taken_64 ?_ ?_
        · refine x_bipush hz (-13) dX9_taken_83 rfl ?_
          exact x_iret hz rfl dX9_taken_85
        refine x_aload_n hz dX9_taken_67 rfl 0 rfl ?_
        refine x_getr hz sx_0 fl_X9_12 rfl rx_0_0 (by decide) dX9_taken_68 ?_
        refine x_getr hz sx_1 fl_X9_96 rfl rx_1_0 (by decide) dX9_taken_71 ?_
        refine x_iconst hz 1 dX9_taken_74 rfl ?_
        refine x_iald0 hz sx_2 (by decide) (v := M 2 1) rfl dX9_taken_75 ?_
        refine x_iload_n hz dX9_taken_76 rfl 1 rfl ?_
        refine x_iushr hz dX9_taken_77 ?_
        refine x_iconst hz 1 dX9_taken_78 rfl ?_
        refine x_iand hz dX9_taken_79 ?_
        refine x_goto hz dX9_taken_80 ?_
        exact x_iret hz rfl dX9_taken_85
      refine x_bipush hz (-11) dX9_taken_58 rfl ?_
      exact x_iret hz rfl dX9_taken_60
    refine x_bipush hz (-12) dX9_taken_23 rfl ?_
    exact x_iret hz rfl dX9_taken_25
  refine x_bipush hz (-2) dX9_taken_10 rfl ?_
  exact x_iret hz rfl dX9_taken_12
theorem kX9_taken {l : Launch} {dd : hDD} {b n : Nat} (a1 : Int32) (a2 : Int32) (M : hMem) (r : Int32) (h : fX9_taken a1 a2 M = some r) : hC l hYx dd b yX9_taken cX9_taken 4 (some .int) (n + 1) [.ref (b + 0), .int a1, .int a2] M (some (.int r), M) :=
  h_met (av := fun b => [.ref (b + 0), .int a1, .int a2]) (rt := (rtP M)) (by decide) (Nat.le_of_ble_eq_true rfl) (fun Z hz => wX9_taken (n := n) hz a1 a2 M) r h
