set_option maxRecDepth 10000 in
set_option maxHeartbeats 4000000 in
theorem wX10_taken_L55 {Z : hZ} {n : Nat} (hz : hOK Z hYm cX10_taken RX10 3 (n + 1) (some .int))  (v1 : Int32) (v2 : Int32) (M : hMem)  : hW Z (rtP M) M 55 [(0, .ref (h_b Z + 0)), (1, .int v1), (2, .int v2)] [] (fX10_taken_L55 v1 v2 M) := by
  unfold fX10_taken_L55
  refine x_iload_n hz dX10_taken_55 rfl 2 rfl ?_
  refine x_bipush hz 6 dX10_taken_56 rfl ?_
  refine x_icmp_eq hz dX10_taken_58 ?_ ?_
  · refine x_aload_n hz dX10_taken_66 rfl 0 rfl ?_
    refine x_iconst hz 1 dX10_taken_67 rfl ?_
    refine x_iload_n hz dX10_taken_68 rfl 1 rfl ?_
    refine x_bind (fun q69 hq69 => ?_)
    refine x_callV hz mv_X10_101 sm_0 (by decide) rfl rfl (kX10_has (n := n) 1 v1 M q69 hq69) rfl (av := [.int 1, .int v1]) (rest := []) rfl rfl (Nat.le_of_ble_eq_true rfl) dX10_taken_69 ?_
    refine x_if_eq hz dX10_taken_72 ?_ ?_
    · refine x_iconst hz 0 dX10_taken_79 rfl ?_
      exact x_iret hz rfl dX10_taken_80
    refine x_iconst hz 1 dX10_taken_75 rfl ?_
    refine x_goto hz dX10_taken_76 ?_
    exact x_iret hz rfl dX10_taken_80
  refine x_bipush hz (-13) dX10_taken_61 rfl ?_
  refine x_goto hz dX10_taken_63 ?_
  exact x_iret hz rfl dX10_taken_80
set_option maxRecDepth 10000 in
set_option maxHeartbeats 4000000 in
theorem wX10_taken {Z : hZ} {n : Nat} (hz : hOK Z hYm cX10_taken RX10 3 (n + 1) (some .int)) (a1 : Int32) (a2 : Int32) (M : hMem) : hW Z (rtP M) M 0 [(0, .ref (h_b Z + 0)), (1, .int a1), (2, .int a2)] [] (fX10_taken a1 a2 M) := by
  unfold fX10_taken
  refine x_iload_n hz dX10_taken_0 rfl 2 rfl ?_
  refine x_iconst hz 0 dX10_taken_1 rfl ?_
  refine x_bipush hz 6 dX10_taken_2 rfl ?_
  refine x_callS hz ms_X10_93 (kX10_in (n := n) a2 0 6 M) rfl (av := [.int a2, .int 0, .int 6]) (rest := []) rfl rfl (Nat.le_of_ble_eq_true rfl) dX10_taken_4 ?_
  refine x_if_ne hz dX10_taken_7 ?_ ?_
  · refine x_iload_n hz dX10_taken_13 rfl 1 rfl ?_
    refine x_iconst hz 0 dX10_taken_14 rfl ?_
    refine x_bipush hz 35 dX10_taken_15 rfl ?_
    refine x_callS hz ms_X10_93 (kX10_in (n := n) a1 0 35 M) rfl (av := [.int a1, .int 0, .int 35]) (rest := []) rfl rfl (Nat.le_of_ble_eq_true rfl) dX10_taken_17 ?_
    refine x_if_ne hz dX10_taken_20 ?_ ?_
    · refine x_iload_n hz dX10_taken_26 rfl 1 rfl ?_
      refine x_bipush hz 32 dX10_taken_27 rfl ?_
      refine x_icmp_ge hz dX10_taken_29 ?_ ?_
      · refine x_iload_n hz dX10_taken_81 rfl 1 rfl ?_
        refine x_bipush hz 32 dX10_taken_82 rfl ?_
        refine x_isub hz dX10_taken_84 ?_
        refine x_aload_n hz dX10_taken_85 rfl 0 rfl ?_
        refine x_geti hz sm_0 fl_X10_105 rfl dX10_taken_86 ?_
        refine x_icmp_lt hz dX10_taken_89 ?_ ?_
        · refine x_iload_n hz dX10_taken_97 rfl 2 rfl ?_
          refine x_bipush hz 6 dX10_taken_98 rfl ?_
          refine x_icmp_ge hz dX10_taken_100 ?_ ?_
          · refine x_bipush hz (-13) dX10_taken_126 rfl ?_
            exact x_iret hz rfl dX10_taken_128
          refine x_aload_n hz dX10_taken_103 rfl 0 rfl ?_
          refine x_getr hz sm_0 fl_X10_19 rfl rm_0_4 (by decide) dX10_taken_104 ?_
          refine x_iload_n hz dX10_taken_107 rfl 1 rfl ?_
          refine x_bipush hz 32 dX10_taken_108 rfl ?_
          refine x_isub hz dX10_taken_110 ?_
          refine x_iald hz sm_4 dX10_taken_111 (fun hi111 => ?_)
          refine x_iload_n hz dX10_taken_112 rfl 2 rfl ?_
          refine x_callS hz ms_X10_326 (kX10_isUnder (n := n) (M 4 (a1 - 32).toNatClampNeg) a2 M) rfl (av := [.int (M 4 (a1 - 32).toNatClampNeg), .int a2]) (rest := []) rfl rfl (Nat.le_of_ble_eq_true rfl) dX10_taken_113 ?_
          refine x_if_eq hz dX10_taken_116 ?_ ?_
          · refine x_bipush hz (-13) dX10_taken_126 rfl ?_
            exact x_iret hz rfl dX10_taken_128
          refine x_iload_n hz dX10_taken_119 rfl 1 rfl ?_
          refine x_bipush hz 32 dX10_taken_120 rfl ?_
          refine x_isub hz dX10_taken_122 ?_
          refine x_goto hz dX10_taken_123 ?_
          exact x_iret hz rfl dX10_taken_128
        refine x_bipush hz (-11) dX10_taken_92 rfl ?_
        refine x_goto hz dX10_taken_94 ?_
        exact x_iret hz rfl dX10_taken_128
      refine x_aload_n hz dX10_taken_32 rfl 0 rfl ?_
      refine x_iconst hz 1 dX10_taken_33 rfl ?_
      refine x_iload_n hz dX10_taken_34 rfl 1 rfl ?_
      refine x_bind (fun q35 hq35 => ?_)
      refine x_callV hz mv_X10_101 sm_0 (by decide) rfl rfl (kX10_has (n := n) 1 a1 M q35 hq35) rfl (av := [.int 1, .int a1]) (rest := []) rfl rfl (Nat.le_of_ble_eq_true rfl) dX10_taken_35 ?_
      refine x_if_ne hz dX10_taken_38 ?_ ?_
      · exact x_sub [0, 1, 2] rfl (wX10_taken_L55 hz a1 a2 M)
      refine x_aload_n hz dX10_taken_41 rfl 0 rfl ?_
      refine x_iconst hz 2 dX10_taken_42 rfl ?_
      refine x_iload_n hz dX10_taken_43 rfl 1 rfl ?_
      refine x_bind (fun q44 hq44 => ?_)
      refine x_callV hz mv_X10_101 sm_0 (by decide) rfl rfl (kX10_has (n := n) 2 a1 M q44 hq44) rfl (av := [.int 2, .int a1]) (rest := []) rfl rfl (Nat.le_of_ble_eq_true rfl) dX10_taken_44 ?_
      refine x_if_ne hz dX10_taken_47 ?_ ?_
      · exact x_sub [0, 1, 2] rfl (wX10_taken_L55 hz a1 a2 M)
      refine x_bipush hz (-11) dX10_taken_50 rfl ?_
      refine x_goto hz dX10_taken_52 ?_
      exact x_iret hz rfl dX10_taken_80
    refine x_bipush hz (-12) dX10_taken_23 rfl ?_
    exact x_iret hz rfl dX10_taken_25
  refine x_bipush hz (-2) dX10_taken_10 rfl ?_
  exact x_iret hz rfl dX10_taken_12
theorem kX10_taken {l : Launch} {dd : hDD} {b n : Nat} (a1 : Int32) (a2 : Int32) (M : hMem) (r : Int32) (h : fX10_taken a1 a2 M = some r) : hC l hYm dd b yX10_taken cX10_taken 3 (some .int) (n + 1) [.ref (b + 0), .int a1, .int a2] M (some (.int r), M) :=
  h_met (av := fun b => [.ref (b + 0), .int a1, .int a2]) (rt := (rtP M)) (by decide) (Nat.le_of_ble_eq_true rfl) (fun Z hz => wX10_taken (n := n) hz a1 a2 M) r h
