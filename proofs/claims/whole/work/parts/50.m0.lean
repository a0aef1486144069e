set_option maxRecDepth 10000 in
set_option maxHeartbeats 4000000 in
theorem wX10_holds {Z : hZ} {n : Nat} (hz : hOK Z hYm cX10_holds RX10 2 (n + 0) none) (a1 : Int32) (M : hMem) : hW Z rtV M 0 [(0, .ref (h_b Z + 0)), (1, .int a1)] [] (fX10_holds a1 M) := by
  unfold fX10_holds
  refine x_aload_n hz dX10_holds_0 rfl 0 rfl ?_
  refine x_getr hz sm_0 fl_X10_61 rfl rm_0_30 (by decide) dX10_holds_1 ?_
  refine x_aload_n hz dX10_holds_4 rfl 0 rfl ?_
  refine x_geti hz sm_0 fl_X10_142 rfl dX10_holds_5 ?_
  refine x_iload_n hz dX10_holds_8 rfl 1 rfl ?_
  refine x_iast hz sm_18 dX10_holds_9 (fun hi9 => ?_)
  refine x_aload_n hz dX10_holds_10 rfl 0 rfl ?_
  refine x_dup hz dX10_holds_11 rfl ?_
  refine x_geti hz sm_0 fl_X10_142 rfl dX10_holds_12 ?_
  refine x_iconst hz 1 dX10_holds_15 rfl ?_
  refine x_iadd hz dX10_holds_16 ?_
  refine x_puti hz sm_0 fp_X10_142 rfl dX10_holds_17 ?_
  exact x_vret hz rfl dX10_holds_20
theorem kX10_holds {l : Launch} {dd : hDD} {b n : Nat} (a1 : Int32) (M : hMem) (r : hMem) (h : fX10_holds a1 M = some r) : hC l hYm dd b yX10_holds cX10_holds 2 none (n + 0) [.ref (b + 0), .int a1] M (none, r) :=
  h_met (av := fun b => [.ref (b + 0), .int a1]) (rt := rtV) (by decide) (Nat.le_of_ble_eq_true rfl) (fun Z hz => wX10_holds (n := n) hz a1 M) r h
set_option maxRecDepth 10000 in
set_option maxHeartbeats 4000000 in
theorem wX10_rank {Z : hZ} {n : Nat} (hz : hOK Z hYm cX10_rank RX10 1 (n + 0) (some .int)) (a0 : Int32) (M : hMem) : hW Z (rtP M) M 0 [(0, .int a0)] [] (some (fX10_rank a0 M)) := by
  unfold fX10_rank
  refine x_iload_n hz dX10_rank_0 rfl 0 rfl ?_
  refine x_pull ?_
  refine x_if_ne hz dX10_rank_1 ?_ ?_
  · refine x_iload_n hz dX10_rank_8 rfl 0 rfl ?_
    refine x_bipush hz 11 dX10_rank_9 rfl ?_
    refine x_pull ?_
    refine x_icmp_ne hz dX10_rank_11 ?_ ?_
    · refine x_iload_n hz dX10_rank_18 rfl 0 rfl ?_
      refine x_bipush hz 12 dX10_rank_19 rfl ?_
      refine x_pull ?_
      refine x_icmp_ne hz dX10_rank_21 ?_ ?_
      · refine x_iload_n hz dX10_rank_28 rfl 0 rfl ?_
        refine x_bipush hz 13 dX10_rank_29 rfl ?_
        refine x_pull ?_
        refine x_icmp_ne hz dX10_rank_31 ?_ ?_
        · refine x_iload_n hz dX10_rank_38 rfl 0 rfl ?_
          refine x_bipush hz 15 dX10_rank_39 rfl ?_
          refine x_pull ?_
          refine x_icmp_gt hz dX10_rank_41 ?_ ?_
          · refine x_iload_n hz dX10_rank_48 rfl 0 rfl ?_
            refine x_bipush hz 17 dX10_rank_49 rfl ?_
            refine x_pull ?_
            refine x_icmp_gt hz dX10_rank_51 ?_ ?_
            · refine x_iload_n hz dX10_rank_58 rfl 0 rfl ?_
              refine x_bipush hz 18 dX10_rank_59 rfl ?_
              refine x_pull ?_
              refine x_icmp_ne hz dX10_rank_61 ?_ ?_
              · refine x_bipush hz 7 dX10_rank_69 rfl ?_
                exact x_iret hz rfl dX10_rank_71
              refine x_bipush hz 6 dX10_rank_64 rfl ?_
              refine x_goto hz dX10_rank_66 ?_
              exact x_iret hz rfl dX10_rank_71
            refine x_iconst hz 5 dX10_rank_54 rfl ?_
            refine x_goto hz dX10_rank_55 ?_
            exact x_iret hz rfl dX10_rank_71
          refine x_iconst hz 4 dX10_rank_44 rfl ?_
          refine x_goto hz dX10_rank_45 ?_
          exact x_iret hz rfl dX10_rank_71
        refine x_iconst hz 3 dX10_rank_34 rfl ?_
        refine x_goto hz dX10_rank_35 ?_
        exact x_iret hz rfl dX10_rank_71
      refine x_iconst hz 2 dX10_rank_24 rfl ?_
      refine x_goto hz dX10_rank_25 ?_
      exact x_iret hz rfl dX10_rank_71
    refine x_iconst hz 1 dX10_rank_14 rfl ?_
    refine x_goto hz dX10_rank_15 ?_
    exact x_iret hz rfl dX10_rank_71
  refine x_iconst hz 0 dX10_rank_4 rfl ?_
  refine x_goto hz dX10_rank_5 ?_
  exact x_iret hz rfl dX10_rank_71
theorem kX10_rank {l : Launch} {dd : hDD} {b n : Nat} (a0 : Int32) (M : hMem) : hC l hYm dd b yX10_rank cX10_rank 1 (some .int) (n + 0) [.int a0] M (some (.int (fX10_rank a0 M)), M) :=
  h_met (av := fun b => [.int a0]) (rt := (rtP M)) (by decide) (Nat.le_of_ble_eq_true rfl) (fun Z hz => wX10_rank (n := n) hz a0 M) _ rfl
set_option maxRecDepth 10000 in
set_option maxHeartbeats 4000000 in
theorem wX10_puts {Z : hZ} {n : Nat} (hz : hOK Z hYm cX10_puts RX10 2 (n + 0) none) (a1 : Int32) (M : hMem) : hW Z rtV M 0 [(0, .ref (h_b Z + 0)), (1, .int a1)] [] (fX10_puts a1 M) := by
  unfold fX10_puts
  refine x_aload_n hz dX10_puts_0 rfl 0 rfl ?_
  refine x_getr hz sm_0 fl_X10_37 rfl rm_0_12 (by decide) dX10_puts_1 ?_
  refine x_sipush hz 200 dX10_puts_4 rfl ?_
  refine x_aload_n hz dX10_puts_7 rfl 0 rfl ?_
  refine x_geti hz sm_0 fl_X10_114 rfl dX10_puts_8 ?_
  refine x_imul hz dX10_puts_11 ?_
  refine x_aload_n hz dX10_puts_12 rfl 0 rfl ?_
  refine x_geti hz sm_0 fl_X10_139 rfl dX10_puts_13 ?_
  refine x_iadd hz dX10_puts_16 ?_
  refine x_iload_n hz dX10_puts_17 rfl 1 rfl ?_
  refine x_iast hz sm_10 dX10_puts_18 (fun hi18 => ?_)
  refine x_aload_n hz dX10_puts_19 rfl 0 rfl ?_
  refine x_dup hz dX10_puts_20 rfl ?_
  refine x_geti hz sm_0 fl_X10_139 rfl dX10_puts_21 ?_
  refine x_iconst hz 1 dX10_puts_24 rfl ?_
  refine x_iadd hz dX10_puts_25 ?_
  refine x_puti hz sm_0 fp_X10_139 rfl dX10_puts_26 ?_
  exact x_vret hz rfl dX10_puts_29
theorem kX10_puts {l : Launch} {dd : hDD} {b n : Nat} (a1 : Int32) (M : hMem) (r : hMem) (h : fX10_puts a1 M = some r) : hC l hYm dd b yX10_puts cX10_puts 2 none (n + 0) [.ref (b + 0), .int a1] M (none, r) :=
  h_met (av := fun b => [.ref (b + 0), .int a1]) (rt := rtV) (by decide) (Nat.le_of_ble_eq_true rfl) (fun Z hz => wX10_puts (n := n) hz a1 M) r h
set_option maxRecDepth 10000 in
set_option maxHeartbeats 4000000 in
theorem wX10_unwinds_L62 {Z : hZ} {n : Nat} (hz : hOK Z hYm cX10_unwinds RX10 3 (n + 1) none)  (v1 : Int32) (v2 : Int32) (t1 : Int32) (M : hMem) {k0 : hMem → Option hMem} (hk0 : ∀ s, hW Z rtV s 0 [(0, .ref (h_b Z + 0)), (1, .int v1)] [] (k0 s)) : hW Z rtV M 62 [(0, .ref (h_b Z + 0)), (1, .int v1), (2, .int v2)] [.int t1, .ref (h_b Z + 0)] (fX10_unwinds_L62 k0 v1 v2 t1 M) := by
  unfold fX10_unwinds_L62
  refine x_iconst hz 1 dX10_unwinds_62 rfl ?_
  refine x_goto hz dX10_unwinds_63 ?_
  refine x_isub hz dX10_unwinds_67 ?_
  refine x_puti hz sm_0 fp_X10_149 rfl dX10_unwinds_68 ?_
  refine x_aload_n hz dX10_unwinds_71 rfl 0 rfl ?_
  refine x_iload_n hz dX10_unwinds_72 rfl 2 rfl ?_
  refine x_bind (fun q73 hq73 => ?_)
  refine x_callV hz mv_X10_152 sm_0 (by decide) rfl rfl (kX10_puts (n := n) v2 (h_up M 0 32 (t1 - 1)) q73 hq73) rfl (av := [.int v2]) (rest := []) rfl rfl (Nat.le_of_ble_eq_true rfl) dX10_unwinds_73 ?_
  refine x_goto hz dX10_unwinds_76 ?_
  exact x_sub [0, 1] rfl (hk0 q73)
set_option maxRecDepth 10000 in
set_option maxHeartbeats 4000000 in
theorem wX10_unwinds_L0 {Z : hZ} {n : Nat} (hz : hOK Z hYm cX10_unwinds RX10 3 (n + 1) none)  (v1 : Int32)   : ∀ (i : Nat) (s : hMem), hW Z rtV s 0 [(0, .ref (h_b Z + 0)), (1, .int v1)] [] (h_lp (fX10_unwinds_L0 v1) i s) := by
  refine x_loop (Ms := fun s : hMem => s) (Ls := fun s : hMem => [(0, .ref (h_b Z + 0)), (1, .int v1)]) ?_
  intro k0 hk0 s
  show hW Z rtV s 0 [(0, .ref (h_b Z + 0)), (1, .int v1)] [] (fX10_unwinds_L0 v1 k0 s)
  unfold fX10_unwinds_L0
  refine x_aload_n hz dX10_unwinds_0 rfl 0 rfl ?_
  refine x_geti hz sm_0 fl_X10_142 rfl dX10_unwinds_1 ?_
  refine x_if_le hz dX10_unwinds_4 ?_ ?_
  · exact x_vret hz rfl dX10_unwinds_79
  refine x_aload_n hz dX10_unwinds_7 rfl 0 rfl ?_
  refine x_getr hz sm_0 fl_X10_61 rfl rm_0_30 (by decide) dX10_unwinds_8 ?_
  refine x_aload_n hz dX10_unwinds_11 rfl 0 rfl ?_
  refine x_geti hz sm_0 fl_X10_142 rfl dX10_unwinds_12 ?_
  refine x_iconst hz 1 dX10_unwinds_15 rfl ?_
  refine x_isub hz dX10_unwinds_16 ?_
  refine x_iald hz sm_18 dX10_unwinds_17 (fun hi17 => ?_)
  refine x_callS hz ms_X10_145 (kX10_rank (n := n) (s 18 ((s 0 31) - 1).toNatClampNeg) s) rfl (av := [.int (s 18 ((s 0 31) - 1).toNatClampNeg)]) (rest := []) rfl rfl (Nat.le_of_ble_eq_true rfl) dX10_unwinds_18 ?_
  refine x_iload_n hz dX10_unwinds_21 rfl 1 rfl ?_
  refine x_icmp_lt hz dX10_unwinds_22 ?_ ?_
  · exact x_vret hz rfl dX10_unwinds_79
  refine x_aload_n hz dX10_unwinds_25 rfl 0 rfl ?_
  refine x_dup hz dX10_unwinds_26 rfl ?_
  refine x_geti hz sm_0 fl_X10_142 rfl dX10_unwinds_27 ?_
  refine x_iconst hz 1 dX10_unwinds_30 rfl ?_
  refine x_isub hz dX10_unwinds_31 ?_
  refine x_puti hz sm_0 fp_X10_142 rfl dX10_unwinds_32 ?_
  refine x_aload_n hz dX10_unwinds_35 rfl 0 rfl ?_
  refine x_getr hz sm_0 fl_X10_61 rfl rm_0_30 (by decide) dX10_unwinds_36 ?_
  refine x_aload_n hz dX10_unwinds_39 rfl 0 rfl ?_
  refine x_geti hz sm_0 fl_X10_142 rfl dX10_unwinds_40 ?_
  refine x_iald hz sm_18 dX10_unwinds_43 (fun hi43 => ?_)
  refine x_istore_n hz [(2, .int ((h_up s 0 31 ((s 0 31) - 1)) 18 ((h_up s 0 31 ((s 0 31) - 1)) 0 31).toNatClampNeg)), (0, .ref (h_b Z + 0)), (1, .int v1)] dX10_unwinds_44 rfl rfl rfl ?_
  refine x_aload_n hz dX10_unwinds_45 rfl 1 rfl ?_
  refine x_dup hz dX10_unwinds_46 rfl ?_
  refine x_geti hz sm_0 fl_X10_149 rfl dX10_unwinds_47 ?_
  refine x_iload_n hz dX10_unwinds_50 rfl 0 rfl ?_
  refine x_bipush hz 13 dX10_unwinds_51 rfl ?_
  refine x_icmp_eq hz dX10_unwinds_53 ?_ ?_
  · exact x_sub [1, 2, 0] rfl (wX10_unwinds_L62 hz v1 ((h_up s 0 31 ((s 0 31) - 1)) 18 ((h_up s 0 31 ((s 0 31) - 1)) 0 31).toNatClampNeg) ((h_up s 0 31 ((s 0 31) - 1)) 0 32) (h_up s 0 31 ((s 0 31) - 1)) hk0)
  refine x_iload_n hz dX10_unwinds_56 rfl 0 rfl ?_
  refine x_bipush hz 19 dX10_unwinds_57 rfl ?_
  refine x_icmp_ne hz dX10_unwinds_59 ?_ ?_
  · refine x_iconst hz 0 dX10_unwinds_66 rfl ?_
    refine x_isub hz dX10_unwinds_67 ?_
    refine x_puti hz sm_0 fp_X10_149 rfl dX10_unwinds_68 ?_
    refine x_aload_n hz dX10_unwinds_71 rfl 1 rfl ?_
    refine x_iload_n hz dX10_unwinds_72 rfl 0 rfl ?_
    refine x_bind (fun q73 hq73 => ?_)
    refine x_callV hz mv_X10_152 sm_0 (by decide) rfl rfl (kX10_puts (n := n) ((h_up s 0 31 ((s 0 31) - 1)) 18 ((h_up s 0 31 ((s 0 31) - 1)) 0 31).toNatClampNeg) (h_up (h_up s 0 31 ((s 0 31) - 1)) 0 32 (((h_up s 0 31 ((s 0 31) - 1)) 0 32) - 0)) q73 hq73) rfl (av := [.int ((h_up s 0 31 ((s 0 31) - 1)) 18 ((h_up s 0 31 ((s 0 31) - 1)) 0 31).toNatClampNeg)]) (rest := []) rfl rfl (Nat.le_of_ble_eq_true rfl) dX10_unwinds_73 ?_
    refine x_goto hz dX10_unwinds_76 ?_
    exact x_sub [1, 2] rfl (hk0 q73)
  exact x_sub [1, 2, 0] rfl (wX10_unwinds_L62 hz v1 ((h_up s 0 31 ((s 0 31) - 1)) 18 ((h_up s 0 31 ((s 0 31) - 1)) 0 31).toNatClampNeg) ((h_up s 0 31 ((s 0 31) - 1)) 0 32) (h_up s 0 31 ((s 0 31) - 1)) hk0)
set_option maxRecDepth 10000 in
set_option maxHeartbeats 4000000 in
theorem wX10_unwinds {Z : hZ} {n : Nat} (hz : hOK Z hYm cX10_unwinds RX10 3 (n + 1) none) (a1 : Int32) (M : hMem) : hW Z rtV M 0 [(0, .ref (h_b Z + 0)), (1, .int a1)] [] (fX10_unwinds a1 M) := by
  unfold fX10_unwinds
  exact x_sub [0, 1] rfl (wX10_unwinds_L0 hz a1 h_FU M)
theorem kX10_unwinds {l : Launch} {dd : hDD} {b n : Nat} (a1 : Int32) (M : hMem) (r : hMem) (h : fX10_unwinds a1 M = some r) : hC l hYm dd b yX10_unwinds cX10_unwinds 3 none (n + 1) [.ref (b + 0), .int a1] M (none, r) :=
  h_met (av := fun b => [.ref (b + 0), .int a1]) (rt := rtV) (by decide) (Nat.le_of_ble_eq_true rfl) (fun Z hz => wX10_unwinds (n := n) hz a1 M) r h
set_option maxRecDepth 10000 in
set_option maxHeartbeats 4000000 in
theorem wX10_between_L17 {Z : hZ} {n : Nat} (hz : hOK Z hYm cX10_between RX10 2 (n + 2) (some .boolean))  (v1 : Int32) (t1 : Int32) (M : hMem)  : hW Z rtM M 17 [(0, .ref (h_b Z + 0)), (1, .int v1)] [.int t1, .ref (h_b Z + 0)] (fX10_between_L17 v1 t1 M) := by
  unfold fX10_between_L17
  refine x_bind (fun q17 hq17 => ?_)
  refine x_callV hz mv_X10_159 sm_0 (by decide) rfl rfl (kX10_unwinds (n := n) t1 M q17 hq17) rfl (av := [.int t1]) (rest := []) rfl rfl (Nat.le_of_ble_eq_true rfl) dX10_between_17 ?_
  refine x_iload_n hz dX10_between_20 rfl 1 rfl ?_
  refine x_callS hz ms_X10_145 (kX10_rank (n := (n + 1)) v1 q17) rfl (av := [.int v1]) (rest := []) rfl rfl (Nat.le_of_ble_eq_true rfl) dX10_between_21 ?_
  refine x_iconst hz 4 dX10_between_24 rfl ?_
  refine x_icmp_ne hz dX10_between_25 ?_ ?_
  · refine x_aload_n hz dX10_between_55 rfl 0 rfl ?_
    refine x_iload_n hz dX10_between_56 rfl 1 rfl ?_
    refine x_bind (fun q57 hq57 => ?_)
    refine x_callV hz mv_X10_156 sm_0 (by decide) rfl rfl (kX10_holds (n := (n + 1)) v1 q17 q57 hq57) rfl (av := [.int v1]) (rest := []) rfl rfl (Nat.le_of_ble_eq_true rfl) dX10_between_57 ?_
    refine x_iconst hz 1 dX10_between_60 rfl ?_
    exact x_zret hz rfl rfl dX10_between_61
  refine x_aload_n hz dX10_between_28 rfl 0 rfl ?_
  refine x_geti hz sm_0 fl_X10_142 rfl dX10_between_29 ?_
  refine x_if_le hz dX10_between_32 ?_ ?_
  · refine x_aload_n hz dX10_between_55 rfl 0 rfl ?_
    refine x_iload_n hz dX10_between_56 rfl 1 rfl ?_
    refine x_bind (fun q57 hq57 => ?_)
    refine x_callV hz mv_X10_156 sm_0 (by decide) rfl rfl (kX10_holds (n := (n + 1)) v1 q17 q57 hq57) rfl (av := [.int v1]) (rest := []) rfl rfl (Nat.le_of_ble_eq_true rfl) dX10_between_57 ?_
    refine x_iconst hz 1 dX10_between_60 rfl ?_
    exact x_zret hz rfl rfl dX10_between_61
  refine x_aload_n hz dX10_between_35 rfl 0 rfl ?_
  refine x_getr hz sm_0 fl_X10_61 rfl rm_0_30 (by decide) dX10_between_36 ?_
  refine x_aload_n hz dX10_between_39 rfl 0 rfl ?_
  refine x_geti hz sm_0 fl_X10_142 rfl dX10_between_40 ?_
  refine x_iconst hz 1 dX10_between_43 rfl ?_
  refine x_isub hz dX10_between_44 ?_
  refine x_iald hz sm_18 dX10_between_45 (fun hi45 => ?_)
  refine x_callS hz ms_X10_145 (kX10_rank (n := (n + 1)) (q17 18 ((q17 0 31) - 1).toNatClampNeg) q17) rfl (av := [.int (q17 18 ((q17 0 31) - 1).toNatClampNeg)]) (rest := []) rfl rfl (Nat.le_of_ble_eq_true rfl) dX10_between_46 ?_
  refine x_iconst hz 4 dX10_between_49 rfl ?_
  refine x_icmp_ne hz dX10_between_50 ?_ ?_
  · refine x_aload_n hz dX10_between_55 rfl 0 rfl ?_
    refine x_iload_n hz dX10_between_56 rfl 1 rfl ?_
    refine x_bind (fun q57 hq57 => ?_)
    refine x_callV hz mv_X10_156 sm_0 (by decide) rfl rfl (kX10_holds (n := (n + 1)) v1 q17 q57 hq57) rfl (av := [.int v1]) (rest := []) rfl rfl (Nat.le_of_ble_eq_true rfl) dX10_between_57 ?_
    refine x_iconst hz 1 dX10_between_60 rfl ?_
    exact x_zret hz rfl rfl dX10_between_61
  refine x_iconst hz 0 dX10_between_53 rfl ?_
  exact x_zret hz rfl rfl dX10_between_54
set_option maxRecDepth 10000 in
set_option maxHeartbeats 4000000 in
theorem wX10_between {Z : hZ} {n : Nat} (hz : hOK Z hYm cX10_between RX10 2 (n + 2) (some .boolean)) (a1 : Int32) (M : hMem) : hW Z rtM M 0 [(0, .ref (h_b Z + 0)), (1, .int a1)] [] (fX10_between a1 M) := by
  unfold fX10_between
  refine x_aload_n hz dX10_between_0 rfl 0 rfl ?_
  refine x_iload_n hz dX10_between_1 rfl 1 rfl ?_
  refine x_callS hz ms_X10_145 (kX10_rank (n := (n + 1)) a1 M) rfl (av := [.int a1]) (rest := [.ref (h_b Z + 0)]) rfl rfl (Nat.le_of_ble_eq_true rfl) dX10_between_2 ?_
  refine x_iconst hz 4 dX10_between_5 rfl ?_
  refine x_icmp_ne hz dX10_between_6 ?_ ?_
  · refine x_iload_n hz dX10_between_13 rfl 1 rfl ?_
    refine x_callS hz ms_X10_145 (kX10_rank (n := (n + 1)) a1 M) rfl (av := [.int a1]) (rest := [.ref (h_b Z + 0)]) rfl rfl (Nat.le_of_ble_eq_true rfl) dX10_between_14 ?_
    exact x_sub [0, 1] rfl (wX10_between_L17 hz a1 (fX10_rank a1 M) M)
  refine x_iconst hz 5 dX10_between_9 rfl ?_
  refine x_goto hz dX10_between_10 ?_
  exact x_sub [0, 1] rfl (wX10_between_L17 hz a1 5 M)
theorem kX10_between {l : Launch} {dd : hDD} {b n : Nat} (a1 : Int32) (M : hMem) (r : Int32 × hMem) (h : fX10_between a1 M = some r) : hC l hYm dd b yX10_between cX10_between 2 (some .boolean) (n + 2) [.ref (b + 0), .int a1] M (some (.int r.1), r.2) :=
  h_met (av := fun b => [.ref (b + 0), .int a1]) (rt := rtM) (by decide) (Nat.le_of_ble_eq_true rfl) (fun Z hz => wX10_between (n := n) hz a1 M) r h
set_option maxRecDepth 10000 in
set_option maxHeartbeats 4000000 in
theorem wX10_in {Z : hZ} {n : Nat} (hz : hOK Z hYm cX10_in RX10 3 (n + 0) (some .boolean)) (a0 : Int32) (a1 : Int32) (a2 : Int32) (M : hMem) : hW Z (rtP M) M 0 [(0, .int a0), (1, .int a1), (2, .int a2)] [] (some (fX10_in a0 a1 a2 M)) := by
  unfold fX10_in
  refine x_iload_n hz dX10_in_0 rfl 0 rfl ?_
  refine x_iload_n hz dX10_in_1 rfl 1 rfl ?_
  refine x_pull ?_
  refine x_icmp_lt hz dX10_in_2 ?_ ?_
  · refine x_iconst hz 0 dX10_in_14 rfl ?_
    exact x_zret hz rfl rfl dX10_in_15
  refine x_iload_n hz dX10_in_5 rfl 0 rfl ?_
  refine x_iload_n hz dX10_in_6 rfl 2 rfl ?_
  refine x_pull ?_
  refine x_icmp_gt hz dX10_in_7 ?_ ?_
  · refine x_iconst hz 0 dX10_in_14 rfl ?_
    exact x_zret hz rfl rfl dX10_in_15
  refine x_iconst hz 1 dX10_in_10 rfl ?_
  refine x_goto hz dX10_in_11 ?_
  exact x_zret hz rfl rfl dX10_in_15
theorem bX10_in (a0 : Int32) (a1 : Int32) (a2 : Int32) (M : hMem) : narrow .boolean (.int (fX10_in a0 a1 a2 M)) = .int (fX10_in a0 a1 a2 M) := by
  unfold fX10_in
  repeat (first | rfl | split)
theorem kX10_in {l : Launch} {dd : hDD} {b n : Nat} (a0 : Int32) (a1 : Int32) (a2 : Int32) (M : hMem) : hC l hYm dd b yX10_in cX10_in 3 (some .boolean) (n + 0) [.int a0, .int a1, .int a2] M (some (.int (fX10_in a0 a1 a2 M)), M) :=
  h_met (av := fun b => [.int a0, .int a1, .int a2]) (rt := (rtP M)) (by decide) (Nat.le_of_ble_eq_true rfl) (fun Z hz => wX10_in (n := n) hz a0 a1 a2 M) _ rfl
set_option maxRecDepth 10000 in
set_option maxHeartbeats 4000000 in
theorem wX10_wordFrom_L72 {Z : hZ} {n : Nat} (hz : hOK Z hYm cX10_wordFrom RX10 6 (n + 0) (some .int))  (v1 : Int32) (v2 : Int32) (v3 : Int32) (v5 : Int32) (t1 : Int32) (t0 : Int32) (M : hMem) {k2 : Int32 → Option Int32} (hk2 : ∀ s, hW Z (rtP M) M 2 [(0, .ref (h_b Z + 0)), (1, .int v1), (2, .int v2), (3, .int s)] [] (k2 s)) {k26 : (Int32 × Int32) → Option Int32} (hk26 : ∀ s, hW Z (rtP M) M 26 [(0, .ref (h_b Z + 0)), (1, .int v1), (2, .int v2), (3, .int v3), (4, .int s.1), (5, .int s.2)] [] (k26 s)) : hW Z (rtP M) M 72 [(0, .ref (h_b Z + 0)), (1, .int v1), (2, .int v2), (3, .int v3), (5, .int v5)] [.int t1, .int t0] (fX10_wordFrom_L72 k2 k26 v1 v2 v3 v5 t1 t0 M) := by
  unfold fX10_wordFrom_L72
  refine x_icmp_ne hz dX10_wordFrom_72 ?_ ?_
  · refine x_iconst hz 0 dX10_wordFrom_79 rfl ?_
    refine x_istore hz [(4, .int 0), (0, .ref (h_b Z + 0)), (1, .int v1), (2, .int v2), (3, .int v3), (5, .int v5)] dX10_wordFrom_80 rfl rfl ?_
    refine x_iinc hz (v5 + 1) [(5, .int (v5 + 1)), (4, .int 0), (0, .ref (h_b Z + 0)), (1, .int v1), (2, .int v2), (3, .int v3)] dX10_wordFrom_82 5 rfl rfl rfl rfl ?_
    refine x_goto hz dX10_wordFrom_85 ?_
    exact x_sub [2, 3, 4, 5, 1, 0] rfl (hk26 (0, v5 + 1))
  refine x_iconst hz 1 dX10_wordFrom_75 rfl ?_
  refine x_goto hz dX10_wordFrom_76 ?_
  refine x_istore hz [(4, .int 1), (0, .ref (h_b Z + 0)), (1, .int v1), (2, .int v2), (3, .int v3), (5, .int v5)] dX10_wordFrom_80 rfl rfl ?_
  refine x_iinc hz (v5 + 1) [(5, .int (v5 + 1)), (4, .int 1), (0, .ref (h_b Z + 0)), (1, .int v1), (2, .int v2), (3, .int v3)] dX10_wordFrom_82 5 rfl rfl rfl rfl ?_
  refine x_goto hz dX10_wordFrom_85 ?_
  exact x_sub [2, 3, 4, 5, 1, 0] rfl (hk26 (1, v5 + 1))
set_option maxRecDepth 10000 in
set_option maxHeartbeats 4000000 in
theorem wX10_wordFrom_L26 {Z : hZ} {n : Nat} (hz : hOK Z hYm cX10_wordFrom RX10 6 (n + 0) (some .int))  (v1 : Int32) (v2 : Int32) (v3 : Int32) (M : hMem) {k2 : Int32 → Option Int32} (hk2 : ∀ s, hW Z (rtP M) M 2 [(0, .ref (h_b Z + 0)), (1, .int v1), (2, .int v2), (3, .int s)] [] (k2 s)) : ∀ (i : Nat) (s : Int32 × Int32), hW Z (rtP M) M 26 [(0, .ref (h_b Z + 0)), (1, .int v1), (2, .int v2), (3, .int v3), (4, .int s.1), (5, .int s.2)] [] (h_lp (fX10_wordFrom_L26 k2 v1 v2 v3 M) i s) := by
  refine x_loop (Ms := fun s : Int32 × Int32 => M) (Ls := fun s : Int32 × Int32 => [(0, .ref (h_b Z + 0)), (1, .int v1), (2, .int v2), (3, .int v3), (4, .int s.1), (5, .int s.2)]) ?_
  intro k26 hk26 s
  show hW Z (rtP M) M 26 [(0, .ref (h_b Z + 0)), (1, .int v1), (2, .int v2), (3, .int v3), (4, .int s.1), (5, .int s.2)] [] (fX10_wordFrom_L26 k2 v1 v2 v3 M k26 s)
  unfold fX10_wordFrom_L26
  refine x_iload hz dX10_wordFrom_26 5 rfl ?_
  refine x_bipush hz 8 dX10_wordFrom_28 rfl ?_
  refine x_icmp_ge hz dX10_wordFrom_30 ?_ ?_
  · refine x_iload hz dX10_wordFrom_88 4 rfl ?_
    refine x_if_eq hz dX10_wordFrom_90 ?_ ?_
    · refine x_iinc hz (v3 + 1) [(3, .int (v3 + 1)), (0, .ref (h_b Z + 0)), (1, .int v1), (2, .int v2), (4, .int s.1), (5, .int s.2)] dX10_wordFrom_95 3 rfl rfl rfl rfl ?_
      refine x_goto hz dX10_wordFrom_98 ?_
      exact x_sub [1, 2, 3, 0] rfl (hk2 (v3 + 1))
    refine x_iload_n hz dX10_wordFrom_93 rfl 3 rfl ?_
    exact x_iret hz rfl dX10_wordFrom_94
  refine x_iload hz dX10_wordFrom_33 4 rfl ?_
  refine x_if_eq hz dX10_wordFrom_35 ?_ ?_
  · refine x_iload hz dX10_wordFrom_88 4 rfl ?_
    refine x_if_eq hz dX10_wordFrom_90 ?_ ?_
    · refine x_iinc hz (v3 + 1) [(3, .int (v3 + 1)), (0, .ref (h_b Z + 0)), (1, .int v1), (2, .int v2), (4, .int s.1), (5, .int s.2)] dX10_wordFrom_95 3 rfl rfl rfl rfl ?_
      refine x_goto hz dX10_wordFrom_98 ?_
      exact x_sub [1, 2, 3, 0] rfl (hk2 (v3 + 1))
    refine x_iload_n hz dX10_wordFrom_93 rfl 3 rfl ?_
    exact x_iret hz rfl dX10_wordFrom_94
  refine x_aload_n hz dX10_wordFrom_38 rfl 0 rfl ?_
  refine x_getr hz sm_0 fl_X10_58 rfl rm_0_29 (by decide) dX10_wordFrom_39 ?_
  refine x_bipush hz 8 dX10_wordFrom_42 rfl ?_
  refine x_iload_n hz dX10_wordFrom_44 rfl 3 rfl ?_
  refine x_imul hz dX10_wordFrom_45 ?_
  refine x_iload hz dX10_wordFrom_46 5 rfl ?_
  refine x_iadd hz dX10_wordFrom_48 ?_
  refine x_iald hz sm_17 dX10_wordFrom_49 (fun hi49 => ?_)
  refine x_iload_n hz dX10_wordFrom_50 rfl 1 rfl ?_
  refine x_iload hz dX10_wordFrom_51 5 rfl ?_
  refine x_iadd hz dX10_wordFrom_53 ?_
  refine x_iload_n hz dX10_wordFrom_54 rfl 2 rfl ?_
  refine x_icmp_ge hz dX10_wordFrom_55 ?_ ?_
  · refine x_bipush hz 32 dX10_wordFrom_70 rfl ?_
    exact x_sub [0, 1, 2, 3, 5] rfl (wX10_wordFrom_L72 hz v1 v2 v3 s.2 32 (M 17 ((8 * v3) + s.2).toNatClampNeg) M hk2 hk26)
  refine x_aload_n hz dX10_wordFrom_58 rfl 0 rfl ?_
  refine x_getr hz sm_0 fl_X10_34 rfl rm_0_10 (by decide) dX10_wordFrom_59 ?_
  refine x_iload_n hz dX10_wordFrom_62 rfl 1 rfl ?_
  refine x_iload hz dX10_wordFrom_63 5 rfl ?_
  refine x_iadd hz dX10_wordFrom_65 ?_
  refine x_iald hz sm_9 dX10_wordFrom_66 (fun hi66 => ?_)
  refine x_goto hz dX10_wordFrom_67 ?_
  exact x_sub [0, 1, 2, 3, 5] rfl (wX10_wordFrom_L72 hz v1 v2 v3 s.2 (M 9 (v1 + s.2).toNatClampNeg) (M 17 ((8 * v3) + s.2).toNatClampNeg) M hk2 hk26)
set_option maxRecDepth 10000 in
set_option maxHeartbeats 4000000 in
theorem wX10_wordFrom_L2 {Z : hZ} {n : Nat} (hz : hOK Z hYm cX10_wordFrom RX10 6 (n + 0) (some .int))  (v1 : Int32) (v2 : Int32) (M : hMem)  : ∀ (i : Nat) (s : Int32), hW Z (rtP M) M 2 [(0, .ref (h_b Z + 0)), (1, .int v1), (2, .int v2), (3, .int s)] [] (h_lp (fX10_wordFrom_L2 v1 v2 M) i s) := by
  refine x_loop (Ms := fun s : Int32 => M) (Ls := fun s : Int32 => [(0, .ref (h_b Z + 0)), (1, .int v1), (2, .int v2), (3, .int s)]) ?_
  intro k2 hk2 s
  show hW Z (rtP M) M 2 [(0, .ref (h_b Z + 0)), (1, .int v1), (2, .int v2), (3, .int s)] [] (fX10_wordFrom_L2 v1 v2 M k2 s)
  unfold fX10_wordFrom_L2
  refine x_iload_n hz dX10_wordFrom_2 rfl 3 rfl ?_
  refine x_bipush hz 12 dX10_wordFrom_3 rfl ?_
  refine x_icmp_ge hz dX10_wordFrom_5 ?_ ?_
  · refine x_bipush hz 12 dX10_wordFrom_101 rfl ?_
    exact x_iret hz rfl dX10_wordFrom_103
  refine x_iload_n hz dX10_wordFrom_8 rfl 2 rfl ?_
  refine x_iload_n hz dX10_wordFrom_9 rfl 1 rfl ?_
  refine x_isub hz dX10_wordFrom_10 ?_
  refine x_bipush hz 8 dX10_wordFrom_11 rfl ?_
  refine x_icmp_gt hz dX10_wordFrom_13 ?_ ?_
  · refine x_iconst hz 0 dX10_wordFrom_20 rfl ?_
    refine x_istore hz [(4, .int 0), (0, .ref (h_b Z + 0)), (1, .int v1), (2, .int v2), (3, .int s)] dX10_wordFrom_21 rfl rfl ?_
    refine x_iconst hz 0 dX10_wordFrom_23 rfl ?_
    refine x_istore hz [(5, .int 0), (4, .int 0), (0, .ref (h_b Z + 0)), (1, .int v1), (2, .int v2), (3, .int s)] dX10_wordFrom_24 rfl rfl ?_
    exact x_sub [2, 3, 4, 5, 1, 0] rfl (wX10_wordFrom_L26 hz v1 v2 s M hk2 h_FU (0, 0))
  refine x_iconst hz 1 dX10_wordFrom_16 rfl ?_
  refine x_goto hz dX10_wordFrom_17 ?_
  refine x_istore hz [(4, .int 1), (0, .ref (h_b Z + 0)), (1, .int v1), (2, .int v2), (3, .int s)] dX10_wordFrom_21 rfl rfl ?_
  refine x_iconst hz 0 dX10_wordFrom_23 rfl ?_
  refine x_istore hz [(5, .int 0), (4, .int 1), (0, .ref (h_b Z + 0)), (1, .int v1), (2, .int v2), (3, .int s)] dX10_wordFrom_24 rfl rfl ?_
  exact x_sub [2, 3, 4, 5, 1, 0] rfl (wX10_wordFrom_L26 hz v1 v2 s M hk2 h_FU (1, 0))
set_option maxRecDepth 10000 in
set_option maxHeartbeats 4000000 in
theorem wX10_wordFrom {Z : hZ} {n : Nat} (hz : hOK Z hYm cX10_wordFrom RX10 6 (n + 0) (some .int)) (a1 : Int32) (a2 : Int32) (M : hMem) : hW Z (rtP M) M 0 [(0, .ref (h_b Z + 0)), (1, .int a1), (2, .int a2)] [] (fX10_wordFrom a1 a2 M) := by
  unfold fX10_wordFrom
  refine x_iconst hz 0 dX10_wordFrom_0 rfl ?_
  refine x_istore_n hz [(3, .int 0), (0, .ref (h_b Z + 0)), (1, .int a1), (2, .int a2)] dX10_wordFrom_1 rfl rfl rfl ?_
  exact x_sub [1, 2, 3, 0] rfl (wX10_wordFrom_L2 hz a1 a2 M h_FU 0)
theorem kX10_wordFrom {l : Launch} {dd : hDD} {b n : Nat} (a1 : Int32) (a2 : Int32) (M : hMem) (r : Int32) (h : fX10_wordFrom a1 a2 M = some r) : hC l hYm dd b yX10_wordFrom cX10_wordFrom 6 (some .int) (n + 0) [.ref (b + 0), .int a1, .int a2] M (some (.int r), M) :=
  h_met (av := fun b => [.ref (b + 0), .int a1, .int a2]) (rt := (rtP M)) (by decide) (Nat.le_of_ble_eq_true rfl) (fun Z hz => wX10_wordFrom (n := n) hz a1 a2 M) r h
set_option maxRecDepth 10000 in
set_option maxHeartbeats 4000000 in
theorem wX10_next_L39 {Z : hZ} {n : Nat} (hz : hOK Z hYm cX10_next RX10 3 (n + 1) none)   (M : hMem) {k0 : hMem → Option hMem} (hk0 : ∀ s, hW Z rtV s 0 [(0, .ref (h_b Z + 0))] [] (k0 s)) : hW Z rtV M 39 [(0, .ref (h_b Z + 0))] [] (fX10_next_L39 k0 M) := by
  unfold fX10_next_L39
  refine x_aload_n hz dX10_next_39 rfl 0 rfl ?_
  refine x_dup hz dX10_next_40 rfl ?_
  refine x_geti hz sm_0 fl_X10_123 rfl dX10_next_41 ?_
  refine x_iconst hz 1 dX10_next_44 rfl ?_
  refine x_iadd hz dX10_next_45 ?_
  refine x_puti hz sm_0 fp_X10_123 rfl dX10_next_46 ?_
  refine x_goto hz dX10_next_49 ?_
  exact x_sub [0] rfl (hk0 (h_up M 0 25 ((M 0 25) + 1)))
set_option maxRecDepth 10000 in
set_option maxHeartbeats 4000000 in
theorem wX10_next_L379 {Z : hZ} {n : Nat} (hz : hOK Z hYm cX10_next RX10 3 (n + 1) none)  (v1 : Int32) (t0 : Int32) (M : hMem)  : hW Z rtV M 379 [(0, .ref (h_b Z + 0)), (1, .int v1)] [.int t0] (fX10_next_L379 v1 t0 M) := by
  unfold fX10_next_L379
  refine x_istore_n hz [(2, .int t0), (0, .ref (h_b Z + 0)), (1, .int v1)] dX10_next_379 rfl rfl rfl ?_
  refine x_aload_n hz dX10_next_380 rfl 1 rfl ?_
  refine x_iload_n hz dX10_next_381 rfl 0 rfl ?_
  refine x_if_eq hz dX10_next_382 ?_ ?_
  · refine x_iconst hz (-1) dX10_next_389 rfl ?_
    refine x_puti hz sm_0 fp_X10_129 rfl dX10_next_390 ?_
    refine x_aload_n hz dX10_next_393 rfl 1 rfl ?_
    refine x_dup hz dX10_next_394 rfl ?_
    refine x_geti hz sm_0 fl_X10_123 rfl dX10_next_395 ?_
    refine x_iconst hz 1 dX10_next_398 rfl ?_
    refine x_iadd hz dX10_next_399 ?_
    refine x_puti hz sm_0 fp_X10_123 rfl dX10_next_400 ?_
    exact x_vret hz rfl dX10_next_403
  refine x_iload_n hz dX10_next_385 rfl 2 rfl ?_
  refine x_goto hz dX10_next_386 ?_
  refine x_puti hz sm_0 fp_X10_129 rfl dX10_next_390 ?_
  refine x_aload_n hz dX10_next_393 rfl 1 rfl ?_
  refine x_dup hz dX10_next_394 rfl ?_
  refine x_geti hz sm_0 fl_X10_123 rfl dX10_next_395 ?_
  refine x_iconst hz 1 dX10_next_398 rfl ?_
  refine x_iadd hz dX10_next_399 ?_
  refine x_puti hz sm_0 fp_X10_123 rfl dX10_next_400 ?_
  exact x_vret hz rfl dX10_next_403
set_option maxRecDepth 10000 in
set_option maxHeartbeats 4000000 in
theorem wX10_next_L309 {Z : hZ} {n : Nat} (hz : hOK Z hYm cX10_next RX10 3 (n + 1) none)  (v2 : Int32) (M : hMem)  : hW Z rtV M 309 [(0, .ref (h_b Z + 0)), (2, .int v2)] [] (fX10_next_L309 v2 M) := by
  unfold fX10_next_L309
  refine x_aload_n hz dX10_next_309 rfl 0 rfl ?_
  refine x_iload_n hz dX10_next_310 rfl 1 rfl ?_
  refine x_iconst hz 4 dX10_next_311 rfl ?_
  refine x_icmp_le hz dX10_next_312 ?_ ?_
  · refine x_iconst hz 1 dX10_next_319 rfl ?_
    refine x_puti hz sm_0 fp_X10_129 rfl dX10_next_320 ?_
    refine x_goto hz dX10_next_323 ?_
    exact x_vret hz rfl dX10_next_403
  refine x_iconst hz (-1) dX10_next_315 rfl ?_
  refine x_goto hz dX10_next_316 ?_
  refine x_puti hz sm_0 fp_X10_129 rfl dX10_next_320 ?_
  refine x_goto hz dX10_next_323 ?_
  exact x_vret hz rfl dX10_next_403
set_option maxRecDepth 10000 in
set_option maxHeartbeats 4000000 in
theorem wX10_next_L290 {Z : hZ} {n : Nat} (hz : hOK Z hYm cX10_next RX10 3 (n + 1) none)  (v2 : Int32) (t1 : Int32) (M : hMem) {k230 : (Int32 × hMem) → Option hMem} (hk230 : ∀ s, hW Z rtV s.2 230 [(0, .ref (h_b Z + 0)), (2, .int s.1)] [] (k230 s)) : hW Z rtV M 290 [(0, .ref (h_b Z + 0)), (2, .int v2)] [.int t1, .ref (h_b Z + 0)] (fX10_next_L290 k230 v2 t1 M) := by
  unfold fX10_next_L290
  refine x_puti hz sm_0 fp_X10_132 rfl dX10_next_290 ?_
  refine x_iinc hz (v2 + 1) [(2, .int (v2 + 1)), (0, .ref (h_b Z + 0))] dX10_next_293 1 rfl rfl rfl rfl ?_
  refine x_aload_n hz dX10_next_296 rfl 1 rfl ?_
  refine x_dup hz dX10_next_297 rfl ?_
  refine x_geti hz sm_0 fl_X10_123 rfl dX10_next_298 ?_
  refine x_iconst hz 1 dX10_next_301 rfl ?_
  refine x_iadd hz dX10_next_302 ?_
  refine x_puti hz sm_0 fp_X10_123 rfl dX10_next_303 ?_
  refine x_goto hz dX10_next_306 ?_
  exact x_sub [1, 0] rfl (hk230 (v2 + 1, h_up (h_up M 0 28 t1) 0 25 (((h_up M 0 28 t1) 0 25) + 1)))
set_option maxRecDepth 10000 in
set_option maxHeartbeats 4000000 in
theorem wX10_next_L195 {Z : hZ} {n : Nat} (hz : hOK Z hYm cX10_next RX10 3 (n + 1) none)  (v2 : Int32) (t1 : Int32) (M : hMem)  : hW Z rtV M 195 [(0, .ref (h_b Z + 0)), (2, .int v2)] [.int t1, .ref (h_b Z + 0)] (fX10_next_L195 v2 t1 M) := by
  unfold fX10_next_L195
  refine x_puti hz sm_0 fp_X10_129 rfl dX10_next_195 ?_
  refine x_aload_n hz dX10_next_198 rfl 0 rfl ?_
  refine x_iload_n hz dX10_next_199 rfl 1 rfl ?_
  refine x_iconst hz 3 dX10_next_200 rfl ?_
  refine x_icmp_ge hz dX10_next_201 ?_ ?_
  · refine x_iload_n hz dX10_next_208 rfl 1 rfl ?_
    refine x_iconst hz 3 dX10_next_209 rfl ?_
    refine x_isub hz dX10_next_210 ?_
    refine x_puti hz sm_0 fp_X10_132 rfl dX10_next_211 ?_
    refine x_goto hz dX10_next_214 ?_
    exact x_vret hz rfl dX10_next_403
  refine x_iload_n hz dX10_next_204 rfl 1 rfl ?_
  refine x_goto hz dX10_next_205 ?_
  refine x_puti hz sm_0 fp_X10_132 rfl dX10_next_211 ?_
  refine x_goto hz dX10_next_214 ?_
  exact x_vret hz rfl dX10_next_403
set_option maxRecDepth 10000 in
set_option maxHeartbeats 4000000 in
theorem wX10_next_L374 {Z : hZ} {n : Nat} (hz : hOK Z hYm cX10_next RX10 3 (n + 1) none)  (v1 : Int32) (M : hMem)  : hW Z rtV M 374 [(0, .ref (h_b Z + 0)), (1, .int v1)] [] (fX10_next_L374 v1 M) := by
  unfold fX10_next_L374
  refine x_iconst hz 1 dX10_next_374 rfl ?_
  refine x_goto hz dX10_next_375 ?_
  exact x_sub [0, 1] rfl (wX10_next_L379 hz v1 1 M)
set_option maxRecDepth 10000 in
set_option maxHeartbeats 4000000 in
theorem wX10_next_L230 {Z : hZ} {n : Nat} (hz : hOK Z hYm cX10_next RX10 3 (n + 1) none)     : ∀ (i : Nat) (s : Int32 × hMem), hW Z rtV s.2 230 [(0, .ref (h_b Z + 0)), (2, .int s.1)] [] (h_lp (fX10_next_L230) i s) := by
  refine x_loop (Ms := fun s : Int32 × hMem => s.2) (Ls := fun s : Int32 × hMem => [(0, .ref (h_b Z + 0)), (2, .int s.1)]) ?_
  intro k230 hk230 s
  show hW Z rtV s.2 230 [(0, .ref (h_b Z + 0)), (2, .int s.1)] [] (fX10_next_L230 k230 s)
  unfold fX10_next_L230
  refine x_aload_n hz dX10_next_230 rfl 0 rfl ?_
  refine x_geti hz sm_0 fl_X10_123 rfl dX10_next_231 ?_
  refine x_aload_n hz dX10_next_234 rfl 0 rfl ?_
  refine x_geti hz sm_0 fl_X10_85 rfl dX10_next_235 ?_
  refine x_icmp_ge hz dX10_next_238 ?_ ?_
  · exact x_sub [0, 1] rfl (wX10_next_L309 hz s.1 s.2)
  refine x_aload_n hz dX10_next_241 rfl 0 rfl ?_
  refine x_getr hz sm_0 fl_X10_34 rfl rm_0_10 (by decide) dX10_next_242 ?_
  refine x_aload_n hz dX10_next_245 rfl 0 rfl ?_
  refine x_geti hz sm_0 fl_X10_123 rfl dX10_next_246 ?_
  refine x_iald hz sm_9 dX10_next_249 (fun hi249 => ?_)
  refine x_bipush hz 48 dX10_next_250 rfl ?_
  refine x_bipush hz 57 dX10_next_252 rfl ?_
  refine x_callS hz ms_X10_93 (kX10_in (n := n) (s.2 9 (s.2 0 25).toNatClampNeg) 48 57 s.2) rfl (av := [.int (s.2 9 (s.2 0 25).toNatClampNeg), .int 48, .int 57]) (rest := []) rfl rfl (Nat.le_of_ble_eq_true rfl) dX10_next_254 ?_
  refine x_if_eq hz dX10_next_257 ?_ ?_
  · exact x_sub [0, 1] rfl (wX10_next_L309 hz s.1 s.2)
  refine x_aload_n hz dX10_next_260 rfl 0 rfl ?_
  refine x_iload_n hz dX10_next_261 rfl 1 rfl ?_
  refine x_iconst hz 4 dX10_next_262 rfl ?_
  refine x_icmp_ge hz dX10_next_263 ?_ ?_
  · refine x_iconst hz 0 dX10_next_289 rfl ?_
    exact x_sub [0, 1] rfl (wX10_next_L290 hz s.1 0 s.2 hk230)
  refine x_bipush hz 10 dX10_next_266 rfl ?_
  refine x_aload_n hz dX10_next_268 rfl 0 rfl ?_
  refine x_geti hz sm_0 fl_X10_132 rfl dX10_next_269 ?_
  refine x_imul hz dX10_next_272 ?_
  refine x_aload_n hz dX10_next_273 rfl 0 rfl ?_
  refine x_getr hz sm_0 fl_X10_34 rfl rm_0_10 (by decide) dX10_next_274 ?_
  refine x_aload_n hz dX10_next_277 rfl 0 rfl ?_
  refine x_geti hz sm_0 fl_X10_123 rfl dX10_next_278 ?_
  refine x_iald hz sm_9 dX10_next_281 (fun hi281 => ?_)
  refine x_iadd hz dX10_next_282 ?_
  refine x_bipush hz 48 dX10_next_283 rfl ?_
  refine x_isub hz dX10_next_285 ?_
  refine x_goto hz dX10_next_286 ?_
  exact x_sub [0, 1] rfl (wX10_next_L290 hz s.1 (((10 * (s.2 0 28)) + (s.2 9 (s.2 0 25).toNatClampNeg)) - 48) s.2 hk230)
set_option maxRecDepth 10000 in
set_option maxHeartbeats 4000000 in
theorem wX10_next_L146 {Z : hZ} {n : Nat} (hz : hOK Z hYm cX10_next RX10 3 (n + 1) none)   (M : hMem)  : hW Z rtV M 146 [(0, .ref (h_b Z + 0))] [] (fX10_next_L146 M) := by
  unfold fX10_next_L146
  refine x_aload_n hz dX10_next_146 rfl 0 rfl ?_
  refine x_aload_n hz dX10_next_147 rfl 0 rfl ?_
  refine x_geti hz sm_0 fl_X10_126 rfl dX10_next_148 ?_
  refine x_aload_n hz dX10_next_151 rfl 0 rfl ?_
  refine x_geti hz sm_0 fl_X10_123 rfl dX10_next_152 ?_
  refine x_bind (fun q155 hq155 => ?_)
  refine x_callV hz mv_X10_135 sm_0 (by decide) rfl rfl (kX10_wordFrom (n := n) (M 0 26) (M 0 25) M q155 hq155) rfl (av := [.int (M 0 26), .int (M 0 25)]) (rest := []) rfl rfl (Nat.le_of_ble_eq_true rfl) dX10_next_155 ?_
  refine x_istore_n hz [(2, .int q155), (0, .ref (h_b Z + 0))] dX10_next_158 rfl rfl rfl ?_
  refine x_aload_n hz dX10_next_159 rfl 1 rfl ?_
  refine x_iload_n hz dX10_next_160 rfl 0 rfl ?_
  refine x_iconst hz 3 dX10_next_161 rfl ?_
  refine x_icmp_ge hz dX10_next_162 ?_ ?_
  · refine x_iload_n hz dX10_next_169 rfl 0 rfl ?_
    refine x_bipush hz 9 dX10_next_170 rfl ?_
    refine x_icmp_ge hz dX10_next_172 ?_ ?_
    · refine x_iload_n hz dX10_next_179 rfl 0 rfl ?_
      refine x_bipush hz 12 dX10_next_180 rfl ?_
      refine x_icmp_ne hz dX10_next_182 ?_ ?_
      · refine x_iconst hz 4 dX10_next_189 rfl ?_
        refine x_iload_n hz dX10_next_190 rfl 0 rfl ?_
        refine x_iadd hz dX10_next_191 ?_
        refine x_bipush hz 9 dX10_next_192 rfl ?_
        refine x_isub hz dX10_next_194 ?_
        exact x_sub [1, 0] rfl (wX10_next_L195 hz q155 ((4 + q155) - 9) M)
      refine x_iconst hz (-1) dX10_next_185 rfl ?_
      refine x_goto hz dX10_next_186 ?_
      exact x_sub [1, 0] rfl (wX10_next_L195 hz q155 (-1) M)
    refine x_iconst hz 2 dX10_next_175 rfl ?_
    refine x_goto hz dX10_next_176 ?_
    exact x_sub [1, 0] rfl (wX10_next_L195 hz q155 2 M)
  refine x_iconst hz 3 dX10_next_165 rfl ?_
  refine x_goto hz dX10_next_166 ?_
  exact x_sub [1, 0] rfl (wX10_next_L195 hz q155 3 M)
set_option maxRecDepth 10000 in
set_option maxHeartbeats 4000000 in
theorem wX10_next_L103 {Z : hZ} {n : Nat} (hz : hOK Z hYm cX10_next RX10 3 (n + 1) none)     : ∀ (i : Nat) (s : hMem), hW Z rtV s 103 [(0, .ref (h_b Z + 0))] [] (h_lp (fX10_next_L103) i s) := by
  refine x_loop (Ms := fun s : hMem => s) (Ls := fun s : hMem => [(0, .ref (h_b Z + 0))]) ?_
  intro k103 hk103 s
  show hW Z rtV s 103 [(0, .ref (h_b Z + 0))] [] (fX10_next_L103 k103 s)
  unfold fX10_next_L103
  refine x_aload_n hz dX10_next_103 rfl 0 rfl ?_
  refine x_geti hz sm_0 fl_X10_123 rfl dX10_next_104 ?_
  refine x_aload_n hz dX10_next_107 rfl 0 rfl ?_
  refine x_geti hz sm_0 fl_X10_85 rfl dX10_next_108 ?_
  refine x_icmp_ge hz dX10_next_111 ?_ ?_
  · exact x_sub [0] rfl (wX10_next_L146 hz s)
  refine x_aload_n hz dX10_next_114 rfl 0 rfl ?_
  refine x_getr hz sm_0 fl_X10_34 rfl rm_0_10 (by decide) dX10_next_115 ?_
  refine x_aload_n hz dX10_next_118 rfl 0 rfl ?_
  refine x_geti hz sm_0 fl_X10_123 rfl dX10_next_119 ?_
  refine x_iald hz sm_9 dX10_next_122 (fun hi122 => ?_)
  refine x_bipush hz 97 dX10_next_123 rfl ?_
  refine x_bipush hz 122 dX10_next_125 rfl ?_
  refine x_callS hz ms_X10_93 (kX10_in (n := n) (s 9 (s 0 25).toNatClampNeg) 97 122 s) rfl (av := [.int (s 9 (s 0 25).toNatClampNeg), .int 97, .int 122]) (rest := []) rfl rfl (Nat.le_of_ble_eq_true rfl) dX10_next_127 ?_
  refine x_if_eq hz dX10_next_130 ?_ ?_
  · exact x_sub [0] rfl (wX10_next_L146 hz s)
  refine x_aload_n hz dX10_next_133 rfl 0 rfl ?_
  refine x_dup hz dX10_next_134 rfl ?_
  refine x_geti hz sm_0 fl_X10_123 rfl dX10_next_135 ?_
  refine x_iconst hz 1 dX10_next_138 rfl ?_
  refine x_iadd hz dX10_next_139 ?_
  refine x_puti hz sm_0 fp_X10_123 rfl dX10_next_140 ?_
  refine x_goto hz dX10_next_143 ?_
  exact x_sub [0] rfl (hk103 (h_up s 0 25 ((s 0 25) + 1)))
set_option maxRecDepth 10000 in
set_option maxHeartbeats 4000000 in
theorem wX10_next_L52 {Z : hZ} {n : Nat} (hz : hOK Z hYm cX10_next RX10 3 (n + 1) none)   (M : hMem)  : hW Z rtV M 52 [(0, .ref (h_b Z + 0))] [] (fX10_next_L52 M) := by
  unfold fX10_next_L52
  refine x_aload_n hz dX10_next_52 rfl 0 rfl ?_
  refine x_aload_n hz dX10_next_53 rfl 0 rfl ?_
  refine x_geti hz sm_0 fl_X10_123 rfl dX10_next_54 ?_
  refine x_puti hz sm_0 fp_X10_126 rfl dX10_next_57 ?_
  refine x_aload_n hz dX10_next_60 rfl 0 rfl ?_
  refine x_iconst hz 0 dX10_next_61 rfl ?_
  refine x_puti hz sm_0 fp_X10_129 rfl dX10_next_62 ?_
  refine x_aload_n hz dX10_next_65 rfl 0 rfl ?_
  refine x_iconst hz 0 dX10_next_66 rfl ?_
  refine x_puti hz sm_0 fp_X10_132 rfl dX10_next_67 ?_
  refine x_aload_n hz dX10_next_70 rfl 0 rfl ?_
  refine x_geti hz sm_0 fl_X10_123 rfl dX10_next_71 ?_
  refine x_aload_n hz dX10_next_74 rfl 0 rfl ?_
  refine x_geti hz sm_0 fl_X10_85 rfl dX10_next_75 ?_
  refine x_icmp_ne hz dX10_next_78 ?_ ?_
  · refine x_aload_n hz dX10_next_82 rfl 0 rfl ?_
    refine x_getr hz sm_0 fl_X10_34 rfl rm_0_10 (by decide) dX10_next_83 ?_
    refine x_aload_n hz dX10_next_86 rfl 0 rfl ?_
    refine x_geti hz sm_0 fl_X10_123 rfl dX10_next_87 ?_
    refine x_iald hz sm_9 dX10_next_90 (fun hi90 => ?_)
    refine x_istore_n hz [(1, .int ((h_up (h_up (h_up M 0 26 (M 0 25)) 0 27 0) 0 28 0) 9 ((h_up (h_up (h_up M 0 26 (M 0 25)) 0 27 0) 0 28 0) 0 25).toNatClampNeg)), (0, .ref (h_b Z + 0))] dX10_next_91 rfl rfl rfl ?_
    refine x_iload_n hz dX10_next_92 rfl 0 rfl ?_
    refine x_bipush hz 97 dX10_next_93 rfl ?_
    refine x_bipush hz 122 dX10_next_95 rfl ?_
    refine x_callS hz ms_X10_93 (kX10_in (n := n) ((h_up (h_up (h_up M 0 26 (M 0 25)) 0 27 0) 0 28 0) 9 ((h_up (h_up (h_up M 0 26 (M 0 25)) 0 27 0) 0 28 0) 0 25).toNatClampNeg) 97 122 (h_up (h_up (h_up M 0 26 (M 0 25)) 0 27 0) 0 28 0)) rfl (av := [.int ((h_up (h_up (h_up M 0 26 (M 0 25)) 0 27 0) 0 28 0) 9 ((h_up (h_up (h_up M 0 26 (M 0 25)) 0 27 0) 0 28 0) 0 25).toNatClampNeg), .int 97, .int 122]) (rest := []) rfl rfl (Nat.le_of_ble_eq_true rfl) dX10_next_97 ?_
    refine x_if_eq hz dX10_next_100 ?_ ?_
    · refine x_iload_n hz dX10_next_217 rfl 0 rfl ?_
      refine x_bipush hz 48 dX10_next_218 rfl ?_
      refine x_bipush hz 57 dX10_next_220 rfl ?_
      refine x_callS hz ms_X10_93 (kX10_in (n := n) ((h_up (h_up (h_up M 0 26 (M 0 25)) 0 27 0) 0 28 0) 9 ((h_up (h_up (h_up M 0 26 (M 0 25)) 0 27 0) 0 28 0) 0 25).toNatClampNeg) 48 57 (h_up (h_up (h_up M 0 26 (M 0 25)) 0 27 0) 0 28 0)) rfl (av := [.int ((h_up (h_up (h_up M 0 26 (M 0 25)) 0 27 0) 0 28 0) 9 ((h_up (h_up (h_up M 0 26 (M 0 25)) 0 27 0) 0 28 0) 0 25).toNatClampNeg), .int 48, .int 57]) (rest := []) rfl rfl (Nat.le_of_ble_eq_true rfl) dX10_next_222 ?_
      refine x_if_eq hz dX10_next_225 ?_ ?_
      · refine x_iload_n hz dX10_next_326 rfl 0 rfl ?_
        refine x_bipush hz 40 dX10_next_327 rfl ?_
        refine x_icmp_eq hz dX10_next_329 ?_ ?_
        · exact x_sub [1, 0] rfl (wX10_next_L374 hz ((h_up (h_up (h_up M 0 26 (M 0 25)) 0 27 0) 0 28 0) 9 ((h_up (h_up (h_up M 0 26 (M 0 25)) 0 27 0) 0 28 0) 0 25).toNatClampNeg) (h_up (h_up (h_up M 0 26 (M 0 25)) 0 27 0) 0 28 0))
        refine x_iload_n hz dX10_next_332 rfl 0 rfl ?_
        refine x_bipush hz 41 dX10_next_333 rfl ?_
        refine x_icmp_eq hz dX10_next_335 ?_ ?_
        · exact x_sub [1, 0] rfl (wX10_next_L374 hz ((h_up (h_up (h_up M 0 26 (M 0 25)) 0 27 0) 0 28 0) 9 ((h_up (h_up (h_up M 0 26 (M 0 25)) 0 27 0) 0 28 0) 0 25).toNatClampNeg) (h_up (h_up (h_up M 0 26 (M 0 25)) 0 27 0) 0 28 0))
        refine x_iload_n hz dX10_next_338 rfl 0 rfl ?_
        refine x_bipush hz 59 dX10_next_339 rfl ?_
        refine x_icmp_eq hz dX10_next_341 ?_ ?_
        · exact x_sub [1, 0] rfl (wX10_next_L374 hz ((h_up (h_up (h_up M 0 26 (M 0 25)) 0 27 0) 0 28 0) 9 ((h_up (h_up (h_up M 0 26 (M 0 25)) 0 27 0) 0 28 0) 0 25).toNatClampNeg) (h_up (h_up (h_up M 0 26 (M 0 25)) 0 27 0) 0 28 0))
        refine x_iload_n hz dX10_next_344 rfl 0 rfl ?_
        refine x_bipush hz 43 dX10_next_345 rfl ?_
        refine x_icmp_eq hz dX10_next_347 ?_ ?_
        · exact x_sub [1, 0] rfl (wX10_next_L374 hz ((h_up (h_up (h_up M 0 26 (M 0 25)) 0 27 0) 0 28 0) 9 ((h_up (h_up (h_up M 0 26 (M 0 25)) 0 27 0) 0 28 0) 0 25).toNatClampNeg) (h_up (h_up (h_up M 0 26 (M 0 25)) 0 27 0) 0 28 0))
        refine x_iload_n hz dX10_next_350 rfl 0 rfl ?_
        refine x_bipush hz 45 dX10_next_351 rfl ?_
        refine x_icmp_eq hz dX10_next_353 ?_ ?_
        · exact x_sub [1, 0] rfl (wX10_next_L374 hz ((h_up (h_up (h_up M 0 26 (M 0 25)) 0 27 0) 0 28 0) 9 ((h_up (h_up (h_up M 0 26 (M 0 25)) 0 27 0) 0 28 0) 0 25).toNatClampNeg) (h_up (h_up (h_up M 0 26 (M 0 25)) 0 27 0) 0 28 0))
        refine x_iload_n hz dX10_next_356 rfl 0 rfl ?_
        refine x_bipush hz 42 dX10_next_357 rfl ?_
        refine x_icmp_eq hz dX10_next_359 ?_ ?_
        · exact x_sub [1, 0] rfl (wX10_next_L374 hz ((h_up (h_up (h_up M 0 26 (M 0 25)) 0 27 0) 0 28 0) 9 ((h_up (h_up (h_up M 0 26 (M 0 25)) 0 27 0) 0 28 0) 0 25).toNatClampNeg) (h_up (h_up (h_up M 0 26 (M 0 25)) 0 27 0) 0 28 0))
        refine x_iload_n hz dX10_next_362 rfl 0 rfl ?_
        refine x_bipush hz 60 dX10_next_363 rfl ?_
        refine x_icmp_eq hz dX10_next_365 ?_ ?_
        · exact x_sub [1, 0] rfl (wX10_next_L374 hz ((h_up (h_up (h_up M 0 26 (M 0 25)) 0 27 0) 0 28 0) 9 ((h_up (h_up (h_up M 0 26 (M 0 25)) 0 27 0) 0 28 0) 0 25).toNatClampNeg) (h_up (h_up (h_up M 0 26 (M 0 25)) 0 27 0) 0 28 0))
        refine x_iload_n hz dX10_next_368 rfl 0 rfl ?_
        refine x_bipush hz 61 dX10_next_369 rfl ?_
        refine x_icmp_ne hz dX10_next_371 ?_ ?_
        · refine x_iconst hz 0 dX10_next_378 rfl ?_
          exact x_sub [1, 0] rfl (wX10_next_L379 hz ((h_up (h_up (h_up M 0 26 (M 0 25)) 0 27 0) 0 28 0) 9 ((h_up (h_up (h_up M 0 26 (M 0 25)) 0 27 0) 0 28 0) 0 25).toNatClampNeg) 0 (h_up (h_up (h_up M 0 26 (M 0 25)) 0 27 0) 0 28 0))
        exact x_sub [1, 0] rfl (wX10_next_L374 hz ((h_up (h_up (h_up M 0 26 (M 0 25)) 0 27 0) 0 28 0) 9 ((h_up (h_up (h_up M 0 26 (M 0 25)) 0 27 0) 0 28 0) 0 25).toNatClampNeg) (h_up (h_up (h_up M 0 26 (M 0 25)) 0 27 0) 0 28 0))
      refine x_iconst hz 0 dX10_next_228 rfl ?_
      refine x_istore_n hz [(2, .int 0), (1, .int ((h_up (h_up (h_up M 0 26 (M 0 25)) 0 27 0) 0 28 0) 9 ((h_up (h_up (h_up M 0 26 (M 0 25)) 0 27 0) 0 28 0) 0 25).toNatClampNeg)), (0, .ref (h_b Z + 0))] dX10_next_229 rfl rfl rfl ?_
      exact x_sub [2, 0] rfl (wX10_next_L230 hz h_FU (0, h_up (h_up (h_up M 0 26 (M 0 25)) 0 27 0) 0 28 0))
    exact x_sub [1] rfl (wX10_next_L103 hz h_FU (h_up (h_up (h_up M 0 26 (M 0 25)) 0 27 0) 0 28 0))
  exact x_vret hz rfl dX10_next_81
set_option maxRecDepth 10000 in
set_option maxHeartbeats 4000000 in
theorem wX10_next_L0 {Z : hZ} {n : Nat} (hz : hOK Z hYm cX10_next RX10 3 (n + 1) none)     : ∀ (i : Nat) (s : hMem), hW Z rtV s 0 [(0, .ref (h_b Z + 0))] [] (h_lp (fX10_next_L0) i s) := by
  refine x_loop (Ms := fun s : hMem => s) (Ls := fun s : hMem => [(0, .ref (h_b Z + 0))]) ?_
  intro k0 hk0 s
  show hW Z rtV s 0 [(0, .ref (h_b Z + 0))] [] (fX10_next_L0 k0 s)
  unfold fX10_next_L0
  refine x_aload_n hz dX10_next_0 rfl 0 rfl ?_
  refine x_geti hz sm_0 fl_X10_123 rfl dX10_next_1 ?_
  refine x_aload_n hz dX10_next_4 rfl 0 rfl ?_
  refine x_geti hz sm_0 fl_X10_85 rfl dX10_next_5 ?_
  refine x_icmp_ge hz dX10_next_8 ?_ ?_
  · exact x_sub [0] rfl (wX10_next_L52 hz s)
  refine x_aload_n hz dX10_next_11 rfl 0 rfl ?_
  refine x_getr hz sm_0 fl_X10_34 rfl rm_0_10 (by decide) dX10_next_12 ?_
  refine x_aload_n hz dX10_next_15 rfl 0 rfl ?_
  refine x_geti hz sm_0 fl_X10_123 rfl dX10_next_16 ?_
  refine x_iald hz sm_9 dX10_next_19 (fun hi19 => ?_)
  refine x_bipush hz 32 dX10_next_20 rfl ?_
  refine x_icmp_eq hz dX10_next_22 ?_ ?_
  · exact x_sub [0] rfl (wX10_next_L39 hz s hk0)
  refine x_aload_n hz dX10_next_25 rfl 0 rfl ?_
  refine x_getr hz sm_0 fl_X10_34 rfl rm_0_10 (by decide) dX10_next_26 ?_
  refine x_aload_n hz dX10_next_29 rfl 0 rfl ?_
  refine x_geti hz sm_0 fl_X10_123 rfl dX10_next_30 ?_
  refine x_iald hz sm_9 dX10_next_33 (fun hi33 => ?_)
  refine x_bipush hz 10 dX10_next_34 rfl ?_
  refine x_icmp_ne hz dX10_next_36 ?_ ?_
  · exact x_sub [0] rfl (wX10_next_L52 hz s)
  exact x_sub [0] rfl (wX10_next_L39 hz s hk0)
set_option maxRecDepth 10000 in
set_option maxHeartbeats 4000000 in
theorem wX10_next {Z : hZ} {n : Nat} (hz : hOK Z hYm cX10_next RX10 3 (n + 1) none)  (M : hMem) : hW Z rtV M 0 [(0, .ref (h_b Z + 0))] [] (fX10_next M) := by
  unfold fX10_next
  exact x_sub [0] rfl (wX10_next_L0 hz h_FU M)
theorem kX10_next {l : Launch} {dd : hDD} {b n : Nat}  (M : hMem) (r : hMem) (h : fX10_next M = some r) : hC l hYm dd b yX10_next cX10_next 3 none (n + 1) [.ref (b + 0)] M (none, r) :=
  h_met (av := fun b => [.ref (b + 0)]) (rt := rtV) (by decide) (Nat.le_of_ble_eq_true rfl) (fun Z hz => wX10_next (n := n) hz  M) r h
set_option maxRecDepth 10000 in
set_option maxHeartbeats 4000000 in
theorem wX10_opensOne {Z : hZ} {n : Nat} (hz : hOK Z hYm cX10_opensOne RX10 2 (n + 1) (some .boolean)) (a1 : Int32) (M : hMem) : hW Z rtM M 0 [(0, .ref (h_b Z + 0)), (1, .int a1)] [] (fX10_opensOne a1 M) := by
  unfold fX10_opensOne
  refine x_aload_n hz dX10_opensOne_0 rfl 0 rfl ?_
  refine x_geti hz sm_0 fl_X10_149 rfl dX10_opensOne_1 ?_
  refine x_iconst hz 5 dX10_opensOne_4 rfl ?_
  refine x_icmp_ne hz dX10_opensOne_5 ?_ ?_
  · refine x_aload_n hz dX10_opensOne_10 rfl 0 rfl ?_
    refine x_dup hz dX10_opensOne_11 rfl ?_
    refine x_geti hz sm_0 fl_X10_149 rfl dX10_opensOne_12 ?_
    refine x_iconst hz 1 dX10_opensOne_15 rfl ?_
    refine x_iadd hz dX10_opensOne_16 ?_
    refine x_puti hz sm_0 fp_X10_149 rfl dX10_opensOne_17 ?_
    refine x_aload_n hz dX10_opensOne_20 rfl 0 rfl ?_
    refine x_iload_n hz dX10_opensOne_21 rfl 1 rfl ?_
    refine x_bind (fun q22 hq22 => ?_)
    refine x_callV hz mv_X10_156 sm_0 (by decide) rfl rfl (kX10_holds (n := n) a1 (h_up M 0 32 ((M 0 32) + 1)) q22 hq22) rfl (av := [.int a1]) (rest := []) rfl rfl (Nat.le_of_ble_eq_true rfl) dX10_opensOne_22 ?_
    refine x_iconst hz 1 dX10_opensOne_25 rfl ?_
    exact x_zret hz rfl rfl dX10_opensOne_26
  refine x_iconst hz 0 dX10_opensOne_8 rfl ?_
  exact x_zret hz rfl rfl dX10_opensOne_9
theorem kX10_opensOne {l : Launch} {dd : hDD} {b n : Nat} (a1 : Int32) (M : hMem) (r : Int32 × hMem) (h : fX10_opensOne a1 M = some r) : hC l hYm dd b yX10_opensOne cX10_opensOne 2 (some .boolean) (n + 1) [.ref (b + 0), .int a1] M (some (.int r.1), r.2) :=
  h_met (av := fun b => [.ref (b + 0), .int a1]) (rt := rtM) (by decide) (Nat.le_of_ble_eq_true rfl) (fun Z hz => wX10_opensOne (n := n) hz a1 M) r h
set_option maxRecDepth 10000 in
set_option maxHeartbeats 4000000 in
theorem wX10_signOf {Z : hZ} {n : Nat} (hz : hOK Z hYm cX10_signOf RX10 1 (n + 0) (some .int))  (M : hMem) : hW Z (rtP M) M 0 [(0, .ref (h_b Z + 0))] [] (some (fX10_signOf M)) := by
  unfold fX10_signOf
  refine x_aload_n hz dX10_signOf_0 rfl 0 rfl ?_
  refine x_geti hz sm_0 fl_X10_129 rfl dX10_signOf_1 ?_
  refine x_iconst hz 4 dX10_signOf_4 rfl ?_
  refine x_pull ?_
  refine x_icmp_ne hz dX10_signOf_5 ?_ ?_
  · refine x_aload_n hz dX10_signOf_13 rfl 0 rfl ?_
    refine x_geti hz sm_0 fl_X10_129 rfl dX10_signOf_14 ?_
    refine x_iconst hz 5 dX10_signOf_17 rfl ?_
    refine x_pull ?_
    refine x_icmp_ne hz dX10_signOf_18 ?_ ?_
    · refine x_aload_n hz dX10_signOf_26 rfl 0 rfl ?_
      refine x_geti hz sm_0 fl_X10_129 rfl dX10_signOf_27 ?_
      refine x_bipush hz 60 dX10_signOf_30 rfl ?_
      refine x_pull ?_
      refine x_icmp_ne hz dX10_signOf_32 ?_ ?_
      · refine x_aload_n hz dX10_signOf_40 rfl 0 rfl ?_
        refine x_geti hz sm_0 fl_X10_129 rfl dX10_signOf_41 ?_
        refine x_bipush hz 61 dX10_signOf_44 rfl ?_
        refine x_pull ?_
        refine x_icmp_ne hz dX10_signOf_46 ?_ ?_
        · refine x_aload_n hz dX10_signOf_54 rfl 0 rfl ?_
          refine x_geti hz sm_0 fl_X10_129 rfl dX10_signOf_55 ?_
          refine x_bipush hz 43 dX10_signOf_58 rfl ?_
          refine x_pull ?_
          refine x_icmp_ne hz dX10_signOf_60 ?_ ?_
          · refine x_aload_n hz dX10_signOf_68 rfl 0 rfl ?_
            refine x_geti hz sm_0 fl_X10_129 rfl dX10_signOf_69 ?_
            refine x_bipush hz 45 dX10_signOf_72 rfl ?_
            refine x_pull ?_
            refine x_icmp_ne hz dX10_signOf_74 ?_ ?_
            · refine x_aload_n hz dX10_signOf_82 rfl 0 rfl ?_
              refine x_geti hz sm_0 fl_X10_129 rfl dX10_signOf_83 ?_
              refine x_bipush hz 42 dX10_signOf_86 rfl ?_
              refine x_pull ?_
              refine x_icmp_ne hz dX10_signOf_88 ?_ ?_
              · refine x_iconst hz (-1) dX10_signOf_96 rfl ?_
                exact x_iret hz rfl dX10_signOf_97
              refine x_bipush hz 18 dX10_signOf_91 rfl ?_
              refine x_goto hz dX10_signOf_93 ?_
              exact x_iret hz rfl dX10_signOf_97
            refine x_bipush hz 17 dX10_signOf_77 rfl ?_
            refine x_goto hz dX10_signOf_79 ?_
            exact x_iret hz rfl dX10_signOf_97
          refine x_bipush hz 16 dX10_signOf_63 rfl ?_
          refine x_goto hz dX10_signOf_65 ?_
          exact x_iret hz rfl dX10_signOf_97
        refine x_bipush hz 15 dX10_signOf_49 rfl ?_
        refine x_goto hz dX10_signOf_51 ?_
        exact x_iret hz rfl dX10_signOf_97
      refine x_bipush hz 14 dX10_signOf_35 rfl ?_
      refine x_goto hz dX10_signOf_37 ?_
      exact x_iret hz rfl dX10_signOf_97
    refine x_bipush hz 12 dX10_signOf_21 rfl ?_
    refine x_goto hz dX10_signOf_23 ?_
    exact x_iret hz rfl dX10_signOf_97
  refine x_bipush hz 11 dX10_signOf_8 rfl ?_
  refine x_goto hz dX10_signOf_10 ?_
  exact x_iret hz rfl dX10_signOf_97
theorem kX10_signOf {l : Launch} {dd : hDD} {b n : Nat}  (M : hMem) : hC l hYm dd b yX10_signOf cX10_signOf 1 (some .int) (n + 0) [.ref (b + 0)] M (some (.int (fX10_signOf M)), M) :=
  h_met (av := fun b => [.ref (b + 0)]) (rt := (rtP M)) (by decide) (Nat.le_of_ble_eq_true rfl) (fun Z hz => wX10_signOf (n := n) hz  M) _ rfl
set_option maxRecDepth 10000 in
set_option maxHeartbeats 4000000 in
theorem wX10_eRead_L99 {Z : hZ} {n : Nat} (hz : hOK Z hYm cX10_eRead RX10 4 (n + 3) (some .boolean))  (v1 : Int32) (M : hMem) {k14 : (Int32 × Int32 × hMem) → Option (Int32 × hMem)} (hk14 : ∀ s, hW Z rtM s.2.2 14 [(0, .ref (h_b Z + 0)), (1, .int s.1), (2, .int s.2.1)] [] (k14 s)) : hW Z rtM M 99 [(0, .ref (h_b Z + 0)), (1, .int v1)] [] (fX10_eRead_L99 k14 v1 M) := by
  unfold fX10_eRead_L99
  refine x_aload_n hz dX10_eRead_99 rfl 0 rfl ?_
  refine x_geti hz sm_0 fl_X10_129 rfl dX10_eRead_100 ?_
  refine x_bipush hz 45 dX10_eRead_103 rfl ?_
  refine x_icmp_ne hz dX10_eRead_105 ?_ ?_
  · refine x_aload_n hz dX10_eRead_124 rfl 0 rfl ?_
    refine x_geti hz sm_0 fl_X10_129 rfl dX10_eRead_125 ?_
    refine x_bipush hz 40 dX10_eRead_128 rfl ?_
    refine x_icmp_ne hz dX10_eRead_130 ?_ ?_
    · refine x_iconst hz 0 dX10_eRead_148 rfl ?_
      exact x_zret hz rfl rfl dX10_eRead_149
    refine x_aload_n hz dX10_eRead_133 rfl 0 rfl ?_
    refine x_iconst hz 0 dX10_eRead_134 rfl ?_
    refine x_bind (fun q135 hq135 => ?_)
    refine x_callV hz mv_X10_166 sm_0 (by decide) rfl rfl (kX10_opensOne (n := (n + 1)) 0 M q135 hq135) rfl (av := [.int 0]) (rest := []) rfl rfl (Nat.le_of_ble_eq_true rfl) dX10_eRead_135 ?_
    refine x_if_ne hz dX10_eRead_138 ?_ ?_
    · refine x_iconst hz 1 dX10_eRead_143 rfl ?_
      refine x_istore_n hz [(2, .int 1), (0, .ref (h_b Z + 0)), (1, .int v1)] dX10_eRead_144 rfl rfl rfl ?_
      refine x_goto hz dX10_eRead_145 ?_
      exact x_sub [1, 2, 0] rfl (hk14 (v1, 1, q135.2))
    refine x_iconst hz 0 dX10_eRead_141 rfl ?_
    exact x_zret hz rfl rfl dX10_eRead_142
  refine x_aload_n hz dX10_eRead_108 rfl 0 rfl ?_
  refine x_bipush hz 19 dX10_eRead_109 rfl ?_
  refine x_bind (fun q111 hq111 => ?_)
  refine x_callV hz mv_X10_166 sm_0 (by decide) rfl rfl (kX10_opensOne (n := (n + 1)) 19 M q111 hq111) rfl (av := [.int 19]) (rest := []) rfl rfl (Nat.le_of_ble_eq_true rfl) dX10_eRead_111 ?_
  refine x_if_ne hz dX10_eRead_114 ?_ ?_
  · refine x_iconst hz 0 dX10_eRead_119 rfl ?_
    refine x_istore_n hz [(2, .int 0), (0, .ref (h_b Z + 0)), (1, .int v1)] dX10_eRead_120 rfl rfl rfl ?_
    refine x_goto hz dX10_eRead_121 ?_
    exact x_sub [1, 2, 0] rfl (hk14 (v1, 0, q111.2))
  refine x_iconst hz 0 dX10_eRead_117 rfl ?_
  exact x_zret hz rfl rfl dX10_eRead_118
set_option maxRecDepth 10000 in
set_option maxHeartbeats 4000000 in
theorem wX10_eRead_L61 {Z : hZ} {n : Nat} (hz : hOK Z hYm cX10_eRead RX10 4 (n + 3) (some .boolean))  (v2 : Int32) (t1 : Int32) (M : hMem) {k14 : (Int32 × Int32 × hMem) → Option (Int32 × hMem)} (hk14 : ∀ s, hW Z rtM s.2.2 14 [(0, .ref (h_b Z + 0)), (1, .int s.1), (2, .int s.2.1)] [] (k14 s)) : hW Z rtM M 61 [(0, .ref (h_b Z + 0)), (2, .int v2)] [.int t1, .ref (h_b Z + 0)] (fX10_eRead_L61 k14 v2 t1 M) := by
  unfold fX10_eRead_L61
  refine x_bind (fun q61 hq61 => ?_)
  refine x_callV hz mv_X10_152 sm_0 (by decide) rfl rfl (kX10_puts (n := (n + 2)) t1 M q61 hq61) rfl (av := [.int t1]) (rest := []) rfl rfl (Nat.le_of_ble_eq_true rfl) dX10_eRead_61 ?_
  refine x_aload_n hz dX10_eRead_64 rfl 0 rfl ?_
  refine x_bipush hz 7 dX10_eRead_65 rfl ?_
  refine x_bind (fun q67 hq67 => ?_)
  refine x_callV hz mv_X10_159 sm_0 (by decide) rfl rfl (kX10_unwinds (n := (n + 1)) 7 q61 q67 hq67) rfl (av := [.int 7]) (rest := []) rfl rfl (Nat.le_of_ble_eq_true rfl) dX10_eRead_67 ?_
  refine x_iconst hz 0 dX10_eRead_70 rfl ?_
  refine x_istore_n hz [(1, .int 0), (0, .ref (h_b Z + 0)), (2, .int v2)] dX10_eRead_71 rfl rfl rfl ?_
  refine x_goto hz dX10_eRead_72 ?_
  exact x_sub [1, 0, 2] rfl (hk14 (0, v2, q67))
set_option maxRecDepth 10000 in
set_option maxHeartbeats 4000000 in
theorem wX10_eRead_L38 {Z : hZ} {n : Nat} (hz : hOK Z hYm cX10_eRead RX10 4 (n + 3) (some .boolean))  (v2 : Int32) (M : hMem) {k14 : (Int32 × Int32 × hMem) → Option (Int32 × hMem)} (hk14 : ∀ s, hW Z rtM s.2.2 14 [(0, .ref (h_b Z + 0)), (1, .int s.1), (2, .int s.2.1)] [] (k14 s)) : hW Z rtM M 38 [(0, .ref (h_b Z + 0)), (2, .int v2)] [] (fX10_eRead_L38 k14 v2 M) := by
  unfold fX10_eRead_L38
  refine x_aload_n hz dX10_eRead_38 rfl 0 rfl ?_
  refine x_aload_n hz dX10_eRead_39 rfl 0 rfl ?_
  refine x_geti hz sm_0 fl_X10_129 rfl dX10_eRead_40 ?_
  refine x_iconst hz 1 dX10_eRead_43 rfl ?_
  refine x_icmp_ne hz dX10_eRead_44 ?_ ?_
  · refine x_aload_n hz dX10_eRead_57 rfl 0 rfl ?_
    refine x_geti hz sm_0 fl_X10_132 rfl dX10_eRead_58 ?_
    exact x_sub [0, 1] rfl (wX10_eRead_L61 hz v2 (M 0 28) M hk14)
  refine x_ldc hz 100000 dX10_eRead_47 kc_X10_165 ?_
  refine x_aload_n hz dX10_eRead_49 rfl 0 rfl ?_
  refine x_geti hz sm_0 fl_X10_132 rfl dX10_eRead_50 ?_
  refine x_iadd hz dX10_eRead_53 ?_
  refine x_goto hz dX10_eRead_54 ?_
  exact x_sub [0, 1] rfl (wX10_eRead_L61 hz v2 (100000 + (M 0 28)) M hk14)
set_option maxRecDepth 10000 in
set_option maxHeartbeats 4000000 in
theorem wX10_eRead_L14 {Z : hZ} {n : Nat} (hz : hOK Z hYm cX10_eRead RX10 4 (n + 3) (some .boolean))     : ∀ (i : Nat) (s : Int32 × Int32 × hMem), hW Z rtM s.2.2 14 [(0, .ref (h_b Z + 0)), (1, .int s.1), (2, .int s.2.1)] [] (h_lp (fX10_eRead_L14) i s) := by
  refine x_loop (Ms := fun s : Int32 × Int32 × hMem => s.2.2) (Ls := fun s : Int32 × Int32 × hMem => [(0, .ref (h_b Z + 0)), (1, .int s.1), (2, .int s.2.1)]) ?_
  intro k14 hk14 s
  show hW Z rtM s.2.2 14 [(0, .ref (h_b Z + 0)), (1, .int s.1), (2, .int s.2.1)] [] (fX10_eRead_L14 k14 s)
  unfold fX10_eRead_L14
  refine x_aload_n hz dX10_eRead_14 rfl 0 rfl ?_
  refine x_bind (fun q15 hq15 => ?_)
  refine x_callV hz mv_X10_162 sm_0 (by decide) rfl rfl (kX10_next (n := (n + 1))  s.2.2 q15 hq15) rfl (av := []) (rest := []) rfl rfl (Nat.le_of_ble_eq_true rfl) dX10_eRead_15 ?_
  refine x_iload_n hz dX10_eRead_18 rfl 1 rfl ?_
  refine x_if_eq hz dX10_eRead_19 ?_ ?_
  · refine x_aload_n hz dX10_eRead_150 rfl 0 rfl ?_
    refine x_geti hz sm_0 fl_X10_129 rfl dX10_eRead_151 ?_
    refine x_bipush hz 59 dX10_eRead_154 rfl ?_
    refine x_icmp_ne hz dX10_eRead_156 ?_ ?_
    · refine x_aload_n hz dX10_eRead_177 rfl 0 rfl ?_
      refine x_geti hz sm_0 fl_X10_129 rfl dX10_eRead_178 ?_
      refine x_bipush hz 41 dX10_eRead_181 rfl ?_
      refine x_icmp_ne hz dX10_eRead_183 ?_ ?_
      · refine x_aload_n hz dX10_eRead_229 rfl 0 rfl ?_
        refine x_callV hz mv_X10_169 sm_0 (by decide) rfl rfl (kX10_signOf (n := (n + 2))  q15) rfl (av := []) (rest := []) rfl rfl (Nat.le_of_ble_eq_true rfl) dX10_eRead_230 ?_
        refine x_istore_n hz [(3, .int (fX10_signOf q15)), (0, .ref (h_b Z + 0)), (1, .int s.1), (2, .int s.2.1)] dX10_eRead_233 rfl rfl rfl ?_
        refine x_iload_n hz dX10_eRead_234 rfl 0 rfl ?_
        refine x_iconst hz (-1) dX10_eRead_235 rfl ?_
        refine x_icmp_eq hz dX10_eRead_236 ?_ ?_
        · refine x_iconst hz 0 dX10_eRead_247 rfl ?_
          exact x_zret hz rfl rfl dX10_eRead_248
        refine x_aload_n hz dX10_eRead_239 rfl 1 rfl ?_
        refine x_iload_n hz dX10_eRead_240 rfl 0 rfl ?_
        refine x_bind (fun q241 hq241 => ?_)
        refine x_callV hz mv_X10_172 sm_0 (by decide) rfl rfl (kX10_between (n := n) (fX10_signOf q15) q15 q241 hq241) rfl (av := [.int (fX10_signOf q15)]) (rest := []) rfl rfl (Nat.le_of_ble_eq_true rfl) dX10_eRead_241 ?_
        refine x_if_ne hz dX10_eRead_244 ?_ ?_
        · refine x_iconst hz 1 dX10_eRead_249 rfl ?_
          refine x_istore_n hz [(1, .int 1), (3, .int (fX10_signOf q15)), (0, .ref (h_b Z + 0)), (2, .int s.2.1)] dX10_eRead_250 rfl rfl rfl ?_
          refine x_iload_n hz dX10_eRead_251 rfl 1 rfl ?_
          refine x_bipush hz 12 dX10_eRead_252 rfl ?_
          refine x_icmp_gt hz dX10_eRead_254 ?_ ?_
          · refine x_iconst hz 0 dX10_eRead_261 rfl ?_
            refine x_istore_n hz [(2, .int 0), (1, .int 1), (3, .int (fX10_signOf q15)), (0, .ref (h_b Z + 0))] dX10_eRead_262 rfl rfl rfl ?_
            refine x_goto hz dX10_eRead_263 ?_
            exact x_sub [3, 1, 0] rfl (hk14 (1, 0, q241.2))
          refine x_iconst hz 1 dX10_eRead_257 rfl ?_
          refine x_goto hz dX10_eRead_258 ?_
          refine x_istore_n hz [(2, .int 1), (1, .int 1), (3, .int (fX10_signOf q15)), (0, .ref (h_b Z + 0))] dX10_eRead_262 rfl rfl rfl ?_
          refine x_goto hz dX10_eRead_263 ?_
          exact x_sub [3, 1, 0] rfl (hk14 (1, 1, q241.2))
        refine x_iconst hz 0 dX10_eRead_247 rfl ?_
        exact x_zret hz rfl rfl dX10_eRead_248
      refine x_aload_n hz dX10_eRead_186 rfl 0 rfl ?_
      refine x_iconst hz 1 dX10_eRead_187 rfl ?_
      refine x_bind (fun q188 hq188 => ?_)
      refine x_callV hz mv_X10_159 sm_0 (by decide) rfl rfl (kX10_unwinds (n := (n + 1)) 1 q15 q188 hq188) rfl (av := [.int 1]) (rest := []) rfl rfl (Nat.le_of_ble_eq_true rfl) dX10_eRead_188 ?_
      refine x_aload_n hz dX10_eRead_191 rfl 0 rfl ?_
      refine x_geti hz sm_0 fl_X10_142 rfl dX10_eRead_192 ?_
      refine x_if_ne hz dX10_eRead_195 ?_ ?_
      · refine x_aload_n hz dX10_eRead_200 rfl 0 rfl ?_
        refine x_dup hz dX10_eRead_201 rfl ?_
        refine x_geti hz sm_0 fl_X10_142 rfl dX10_eRead_202 ?_
        refine x_iconst hz 1 dX10_eRead_205 rfl ?_
        refine x_isub hz dX10_eRead_206 ?_
        refine x_puti hz sm_0 fp_X10_142 rfl dX10_eRead_207 ?_
        refine x_aload_n hz dX10_eRead_210 rfl 0 rfl ?_
        refine x_dup hz dX10_eRead_211 rfl ?_
        refine x_geti hz sm_0 fl_X10_149 rfl dX10_eRead_212 ?_
        refine x_iconst hz 1 dX10_eRead_215 rfl ?_
        refine x_isub hz dX10_eRead_216 ?_
        refine x_puti hz sm_0 fp_X10_149 rfl dX10_eRead_217 ?_
        refine x_aload_n hz dX10_eRead_220 rfl 0 rfl ?_
        refine x_bipush hz 7 dX10_eRead_221 rfl ?_
        refine x_bind (fun q223 hq223 => ?_)
        refine x_callV hz mv_X10_159 sm_0 (by decide) rfl rfl (kX10_unwinds (n := (n + 1)) 7 (h_up (h_up q188 0 31 ((q188 0 31) - 1)) 0 32 (((h_up q188 0 31 ((q188 0 31) - 1)) 0 32) - 1)) q223 hq223) rfl (av := [.int 7]) (rest := []) rfl rfl (Nat.le_of_ble_eq_true rfl) dX10_eRead_223 ?_
        refine x_goto hz dX10_eRead_226 ?_
        exact x_sub [0, 1, 2] rfl (hk14 (s.1, s.2.1, q223))
      refine x_iconst hz 0 dX10_eRead_198 rfl ?_
      exact x_zret hz rfl rfl dX10_eRead_199
    refine x_aload_n hz dX10_eRead_159 rfl 0 rfl ?_
    refine x_iconst hz 1 dX10_eRead_160 rfl ?_
    refine x_bind (fun q161 hq161 => ?_)
    refine x_callV hz mv_X10_159 sm_0 (by decide) rfl rfl (kX10_unwinds (n := (n + 1)) 1 q15 q161 hq161) rfl (av := [.int 1]) (rest := []) rfl rfl (Nat.le_of_ble_eq_true rfl) dX10_eRead_161 ?_
    refine x_aload_n hz dX10_eRead_164 rfl 0 rfl ?_
    refine x_geti hz sm_0 fl_X10_142 rfl dX10_eRead_165 ?_
    refine x_if_ne hz dX10_eRead_168 ?_ ?_
    · refine x_iconst hz 0 dX10_eRead_175 rfl ?_
      exact x_zret hz rfl rfl dX10_eRead_176
    refine x_iconst hz 1 dX10_eRead_171 rfl ?_
    refine x_goto hz dX10_eRead_172 ?_
    exact x_zret hz rfl rfl dX10_eRead_176
  refine x_aload_n hz dX10_eRead_22 rfl 0 rfl ?_
  refine x_geti hz sm_0 fl_X10_129 rfl dX10_eRead_23 ?_
  refine x_iconst hz 1 dX10_eRead_26 rfl ?_
  refine x_icmp_eq hz dX10_eRead_27 ?_ ?_
  · exact x_sub [0, 2] rfl (wX10_eRead_L38 hz s.2.1 q15 hk14)
  refine x_aload_n hz dX10_eRead_30 rfl 0 rfl ?_
  refine x_geti hz sm_0 fl_X10_129 rfl dX10_eRead_31 ?_
  refine x_iconst hz 2 dX10_eRead_34 rfl ?_
  refine x_icmp_ne hz dX10_eRead_35 ?_ ?_
  · refine x_aload_n hz dX10_eRead_75 rfl 0 rfl ?_
    refine x_geti hz sm_0 fl_X10_129 rfl dX10_eRead_76 ?_
    refine x_bipush hz 6 dX10_eRead_79 rfl ?_
    refine x_icmp_ne hz dX10_eRead_81 ?_ ?_
    · exact x_sub [0, 1] rfl (wX10_eRead_L99 hz s.1 q15 hk14)
    refine x_iload_n hz dX10_eRead_84 rfl 2 rfl ?_
    refine x_if_eq hz dX10_eRead_85 ?_ ?_
    · exact x_sub [0, 1] rfl (wX10_eRead_L99 hz s.1 q15 hk14)
    refine x_aload_n hz dX10_eRead_88 rfl 0 rfl ?_
    refine x_bipush hz 13 dX10_eRead_89 rfl ?_
    refine x_bind (fun q91 hq91 => ?_)
    refine x_callV hz mv_X10_166 sm_0 (by decide) rfl rfl (kX10_opensOne (n := (n + 1)) 13 q15 q91 hq91) rfl (av := [.int 13]) (rest := []) rfl rfl (Nat.le_of_ble_eq_true rfl) dX10_eRead_91 ?_
    refine x_if_ne hz dX10_eRead_94 ?_ ?_
    · exact x_sub [0, 1, 2] rfl (hk14 (s.1, s.2.1, q91.2))
    refine x_iconst hz 0 dX10_eRead_97 rfl ?_
    exact x_zret hz rfl rfl dX10_eRead_98
  exact x_sub [0, 2] rfl (wX10_eRead_L38 hz s.2.1 q15 hk14)
set_option maxRecDepth 10000 in
set_option maxHeartbeats 4000000 in
theorem wX10_eRead {Z : hZ} {n : Nat} (hz : hOK Z hYm cX10_eRead RX10 4 (n + 3) (some .boolean))  (M : hMem) : hW Z rtM M 0 [(0, .ref (h_b Z + 0))] [] (fX10_eRead M) := by
  unfold fX10_eRead
  refine x_aload_n hz dX10_eRead_0 rfl 0 rfl ?_
  refine x_iconst hz 0 dX10_eRead_1 rfl ?_
  refine x_puti hz sm_0 fp_X10_142 rfl dX10_eRead_2 ?_
  refine x_aload_n hz dX10_eRead_5 rfl 0 rfl ?_
  refine x_iconst hz 0 dX10_eRead_6 rfl ?_
  refine x_puti hz sm_0 fp_X10_149 rfl dX10_eRead_7 ?_
  refine x_iconst hz 1 dX10_eRead_10 rfl ?_
  refine x_istore_n hz [(1, .int 1), (0, .ref (h_b Z + 0))] dX10_eRead_11 rfl rfl rfl ?_
  refine x_iconst hz 1 dX10_eRead_12 rfl ?_
  refine x_istore_n hz [(2, .int 1), (1, .int 1), (0, .ref (h_b Z + 0))] dX10_eRead_13 rfl rfl rfl ?_
  exact x_sub [2, 1, 0] rfl (wX10_eRead_L14 hz h_FU (1, 1, h_up (h_up M 0 31 0) 0 32 0))
theorem kX10_eRead {l : Launch} {dd : hDD} {b n : Nat}  (M : hMem) (r : Int32 × hMem) (h : fX10_eRead M = some r) : hC l hYm dd b yX10_eRead cX10_eRead 4 (some .boolean) (n + 3) [.ref (b + 0)] M (some (.int r.1), r.2) :=
  h_met (av := fun b => [.ref (b + 0)]) (rt := rtM) (by decide) (Nat.le_of_ble_eq_true rfl) (fun Z hz => wX10_eRead (n := n) hz  M) r h
set_option maxRecDepth 10000 in
set_option maxHeartbeats 4000000 in
theorem wX10_text_L60 {Z : hZ} {n : Nat} (hz : hOK Z hYm cX10_text RX10 3 (n + 4) (some .int))  (v2 : Int32) (t0 : Int32) (M : hMem) {k26 : (Int32 × Int32 × hMem) → Option (Int32 × hMem)} (hk26 : ∀ s, hW Z rtM s.2.2 26 [(0, .ref (h_b Z + 0)), (1, .int s.1), (2, .int s.2.1)] [] (k26 s)) : hW Z rtM M 60 [(0, .ref (h_b Z + 0)), (2, .int v2)] [.int t0] (fX10_text_L60 k26 v2 t0 M) := by
  unfold fX10_text_L60
  refine x_istore_n hz [(1, .int t0), (0, .ref (h_b Z + 0)), (2, .int v2)] dX10_text_60 rfl rfl rfl ?_
  refine x_aload_n hz dX10_text_61 rfl 1 rfl ?_
  refine x_getr hz sm_0 fl_X10_40 rfl rm_0_13 (by decide) dX10_text_62 ?_
  refine x_iconst hz 4 dX10_text_65 rfl ?_
  refine x_aload_n hz dX10_text_66 rfl 1 rfl ?_
  refine x_geti hz sm_0 fl_X10_114 rfl dX10_text_67 ?_
  refine x_imul hz dX10_text_70 ?_
  refine x_iload_n hz dX10_text_71 rfl 2 rfl ?_
  refine x_iadd hz dX10_text_72 ?_
  refine x_aload_n hz dX10_text_73 rfl 1 rfl ?_
  refine x_geti hz sm_0 fl_X10_139 rfl dX10_text_74 ?_
  refine x_iast hz sm_11 dX10_text_77 (fun hi77 => ?_)
  refine x_iload_n hz dX10_text_78 rfl 0 rfl ?_
  refine x_if_eq hz dX10_text_79 ?_ ?_
  · refine x_iconst hz 0 dX10_text_93 rfl ?_
    refine x_istore_n hz [(1, .int 0), (0, .ref (h_b Z + 0)), (2, .int v2)] dX10_text_94 rfl rfl rfl ?_
    refine x_iinc hz (v2 + 1) [(2, .int (v2 + 1)), (1, .int 0), (0, .ref (h_b Z + 0))] dX10_text_95 2 rfl rfl rfl rfl ?_
    refine x_goto hz dX10_text_98 ?_
    exact x_sub [2, 1, 0] rfl (hk26 (0, v2 + 1, h_up M 11 ((4 * (M 0 14)) + v2).toNatClampNeg (M 0 33)))
  refine x_aload_n hz dX10_text_82 rfl 1 rfl ?_
  refine x_bind (fun q83 hq83 => ?_)
  refine x_callV hz mv_X10_175 sm_0 (by decide) rfl rfl (kX10_eRead (n := n)  (h_up M 11 ((4 * (M 0 14)) + v2).toNatClampNeg (M 0 33)) q83 hq83) rfl (av := []) (rest := []) rfl rfl (Nat.le_of_ble_eq_true rfl) dX10_text_83 ?_
  refine x_if_eq hz dX10_text_86 ?_ ?_
  · refine x_iconst hz 0 dX10_text_93 rfl ?_
    refine x_istore_n hz [(1, .int 0), (0, .ref (h_b Z + 0)), (2, .int v2)] dX10_text_94 rfl rfl rfl ?_
    refine x_iinc hz (v2 + 1) [(2, .int (v2 + 1)), (1, .int 0), (0, .ref (h_b Z + 0))] dX10_text_95 2 rfl rfl rfl rfl ?_
    refine x_goto hz dX10_text_98 ?_
    exact x_sub [2, 1, 0] rfl (hk26 (0, v2 + 1, q83.2))
  refine x_iconst hz 1 dX10_text_89 rfl ?_
  refine x_goto hz dX10_text_90 ?_
  refine x_istore_n hz [(1, .int 1), (0, .ref (h_b Z + 0)), (2, .int v2)] dX10_text_94 rfl rfl rfl ?_
  refine x_iinc hz (v2 + 1) [(2, .int (v2 + 1)), (1, .int 1), (0, .ref (h_b Z + 0))] dX10_text_95 2 rfl rfl rfl rfl ?_
  refine x_goto hz dX10_text_98 ?_
  exact x_sub [2, 1, 0] rfl (hk26 (1, v2 + 1, q83.2))
set_option maxRecDepth 10000 in
set_option maxHeartbeats 4000000 in
theorem wX10_text_L122 {Z : hZ} {n : Nat} (hz : hOK Z hYm cX10_text RX10 3 (n + 4) (some .int))  (v1 : Int32) (M : hMem)  : hW Z rtM M 122 [(0, .ref (h_b Z + 0)), (1, .int v1)] [] (fX10_text_L122 v1 M) := by
  unfold fX10_text_L122
  refine x_aload_n hz dX10_text_122 rfl 0 rfl ?_
  refine x_getr hz sm_0 fl_X10_40 rfl rm_0_13 (by decide) dX10_text_123 ?_
  refine x_iconst hz 4 dX10_text_126 rfl ?_
  refine x_aload_n hz dX10_text_127 rfl 0 rfl ?_
  refine x_geti hz sm_0 fl_X10_114 rfl dX10_text_128 ?_
  refine x_imul hz dX10_text_131 ?_
  refine x_iconst hz 3 dX10_text_132 rfl ?_
  refine x_iadd hz dX10_text_133 ?_
  refine x_aload_n hz dX10_text_134 rfl 0 rfl ?_
  refine x_geti hz sm_0 fl_X10_139 rfl dX10_text_135 ?_
  refine x_iast hz sm_11 dX10_text_138 (fun hi138 => ?_)
  refine x_aload_n hz dX10_text_139 rfl 0 rfl ?_
  refine x_iconst hz 0 dX10_text_140 rfl ?_
  refine x_puti hz sm_0 fp_X10_85 rfl dX10_text_141 ?_
  refine x_iload_n hz dX10_text_144 rfl 1 rfl ?_
  refine x_if_ne hz dX10_text_145 ?_ ?_
  · refine x_aload_n hz dX10_text_156 rfl 0 rfl ?_
    refine x_dup hz dX10_text_157 rfl ?_
    refine x_geti hz sm_0 fl_X10_114 rfl dX10_text_158 ?_
    refine x_iconst hz 1 dX10_text_161 rfl ?_
    refine x_iadd hz dX10_text_162 ?_
    refine x_puti hz sm_0 fp_X10_114 rfl dX10_text_163 ?_
    refine x_aload_n hz dX10_text_166 rfl 0 rfl ?_
    refine x_geti hz sm_0 fl_X10_114 rfl dX10_text_167 ?_
    refine x_iconst hz 1 dX10_text_170 rfl ?_
    refine x_isub hz dX10_text_171 ?_
    exact x_iret hz rfl dX10_text_172
  refine x_bipush hz (-100) dX10_text_148 rfl ?_
  refine x_aload_n hz dX10_text_150 rfl 0 rfl ?_
  refine x_geti hz sm_0 fl_X10_126 rfl dX10_text_151 ?_
  refine x_isub hz dX10_text_154 ?_
  exact x_iret hz rfl dX10_text_155
set_option maxRecDepth 10000 in
set_option maxHeartbeats 4000000 in
theorem wX10_text_L59 {Z : hZ} {n : Nat} (hz : hOK Z hYm cX10_text RX10 3 (n + 4) (some .int))  (v2 : Int32) (M : hMem) {k26 : (Int32 × Int32 × hMem) → Option (Int32 × hMem)} (hk26 : ∀ s, hW Z rtM s.2.2 26 [(0, .ref (h_b Z + 0)), (1, .int s.1), (2, .int s.2.1)] [] (k26 s)) : hW Z rtM M 59 [(0, .ref (h_b Z + 0)), (2, .int v2)] [] (fX10_text_L59 k26 v2 M) := by
  unfold fX10_text_L59
  refine x_iconst hz 0 dX10_text_59 rfl ?_
  exact x_sub [0, 1] rfl (wX10_text_L60 hz v2 0 M hk26)
set_option maxRecDepth 10000 in
set_option maxHeartbeats 4000000 in
theorem wX10_text_L121 {Z : hZ} {n : Nat} (hz : hOK Z hYm cX10_text RX10 3 (n + 4) (some .int))  (t0 : Int32) (M : hMem)  : hW Z rtM M 121 [(0, .ref (h_b Z + 0))] [.int t0] (fX10_text_L121 t0 M) := by
  unfold fX10_text_L121
  refine x_istore_n hz [(1, .int t0), (0, .ref (h_b Z + 0))] dX10_text_121 rfl rfl rfl ?_
  exact x_sub [1, 0] rfl (wX10_text_L122 hz t0 M)
set_option maxRecDepth 10000 in
set_option maxHeartbeats 4000000 in
theorem wX10_text_L101 {Z : hZ} {n : Nat} (hz : hOK Z hYm cX10_text RX10 3 (n + 4) (some .int))  (v1 : Int32) (M : hMem)  : hW Z rtM M 101 [(0, .ref (h_b Z + 0)), (1, .int v1)] [] (fX10_text_L101 v1 M) := by
  unfold fX10_text_L101
  refine x_iload_n hz dX10_text_101 rfl 1 rfl ?_
  refine x_if_eq hz dX10_text_102 ?_ ?_
  · exact x_sub [0, 1] rfl (wX10_text_L122 hz v1 M)
  refine x_aload_n hz dX10_text_105 rfl 0 rfl ?_
  refine x_bind (fun q106 hq106 => ?_)
  refine x_callV hz mv_X10_162 sm_0 (by decide) rfl rfl (kX10_next (n := (n + 2))  M q106 hq106) rfl (av := []) (rest := []) rfl rfl (Nat.le_of_ble_eq_true rfl) dX10_text_106 ?_
  refine x_aload_n hz dX10_text_109 rfl 0 rfl ?_
  refine x_geti hz sm_0 fl_X10_129 rfl dX10_text_110 ?_
  refine x_if_ne hz dX10_text_113 ?_ ?_
  · refine x_iconst hz 0 dX10_text_120 rfl ?_
    exact x_sub [0] rfl (wX10_text_L121 hz 0 q106)
  refine x_iconst hz 1 dX10_text_116 rfl ?_
  refine x_goto hz dX10_text_117 ?_
  exact x_sub [0] rfl (wX10_text_L121 hz 1 q106)
set_option maxRecDepth 10000 in
set_option maxHeartbeats 4000000 in
theorem wX10_text_L26 {Z : hZ} {n : Nat} (hz : hOK Z hYm cX10_text RX10 3 (n + 4) (some .int))     : ∀ (i : Nat) (s : Int32 × Int32 × hMem), hW Z rtM s.2.2 26 [(0, .ref (h_b Z + 0)), (1, .int s.1), (2, .int s.2.1)] [] (h_lp (fX10_text_L26) i s) := by
  refine x_loop (Ms := fun s : Int32 × Int32 × hMem => s.2.2) (Ls := fun s : Int32 × Int32 × hMem => [(0, .ref (h_b Z + 0)), (1, .int s.1), (2, .int s.2.1)]) ?_
  intro k26 hk26 s
  show hW Z rtM s.2.2 26 [(0, .ref (h_b Z + 0)), (1, .int s.1), (2, .int s.2.1)] [] (fX10_text_L26 k26 s)
  unfold fX10_text_L26
  refine x_iload_n hz dX10_text_26 rfl 2 rfl ?_
  refine x_iconst hz 3 dX10_text_27 rfl ?_
  refine x_icmp_ge hz dX10_text_28 ?_ ?_
  · exact x_sub [0, 1] rfl (wX10_text_L101 hz s.1 s.2.2)
  refine x_iload_n hz dX10_text_31 rfl 1 rfl ?_
  refine x_if_eq hz dX10_text_32 ?_ ?_
  · exact x_sub [0, 1] rfl (wX10_text_L101 hz s.1 s.2.2)
  refine x_aload_n hz dX10_text_35 rfl 0 rfl ?_
  refine x_bind (fun q36 hq36 => ?_)
  refine x_callV hz mv_X10_162 sm_0 (by decide) rfl rfl (kX10_next (n := (n + 2))  s.2.2 q36 hq36) rfl (av := []) (rest := []) rfl rfl (Nat.le_of_ble_eq_true rfl) dX10_text_36 ?_
  refine x_aload_n hz dX10_text_39 rfl 0 rfl ?_
  refine x_geti hz sm_0 fl_X10_129 rfl dX10_text_40 ?_
  refine x_iconst hz 3 dX10_text_43 rfl ?_
  refine x_icmp_ne hz dX10_text_44 ?_ ?_
  · exact x_sub [0, 2] rfl (wX10_text_L59 hz s.2.1 q36 hk26)
  refine x_aload_n hz dX10_text_47 rfl 0 rfl ?_
  refine x_geti hz sm_0 fl_X10_132 rfl dX10_text_48 ?_
  refine x_iload_n hz dX10_text_51 rfl 2 rfl ?_
  refine x_icmp_ne hz dX10_text_52 ?_ ?_
  · exact x_sub [0, 2] rfl (wX10_text_L59 hz s.2.1 q36 hk26)
  refine x_iconst hz 1 dX10_text_55 rfl ?_
  refine x_goto hz dX10_text_56 ?_
  exact x_sub [0, 2] rfl (wX10_text_L60 hz s.2.1 1 q36 hk26)
set_option maxRecDepth 10000 in
set_option maxHeartbeats 4000000 in
theorem wX10_text {Z : hZ} {n : Nat} (hz : hOK Z hYm cX10_text RX10 3 (n + 4) (some .int))  (M : hMem) : hW Z rtM M 0 [(0, .ref (h_b Z + 0))] [] (fX10_text M) := by
  unfold fX10_text
  refine x_aload_n hz dX10_text_0 rfl 0 rfl ?_
  refine x_geti hz sm_0 fl_X10_114 rfl dX10_text_1 ?_
  refine x_bipush hz 6 dX10_text_4 rfl ?_
  refine x_icmp_ne hz dX10_text_6 ?_ ?_
  · refine x_aload_n hz dX10_text_12 rfl 0 rfl ?_
    refine x_iconst hz 0 dX10_text_13 rfl ?_
    refine x_puti hz sm_0 fp_X10_123 rfl dX10_text_14 ?_
    refine x_aload_n hz dX10_text_17 rfl 0 rfl ?_
    refine x_iconst hz 0 dX10_text_18 rfl ?_
    refine x_puti hz sm_0 fp_X10_139 rfl dX10_text_19 ?_
    refine x_iconst hz 1 dX10_text_22 rfl ?_
    refine x_istore_n hz [(1, .int 1), (0, .ref (h_b Z + 0))] dX10_text_23 rfl rfl rfl ?_
    refine x_iconst hz 0 dX10_text_24 rfl ?_
    refine x_istore_n hz [(2, .int 0), (1, .int 1), (0, .ref (h_b Z + 0))] dX10_text_25 rfl rfl rfl ?_
    exact x_sub [2, 1, 0] rfl (wX10_text_L26 hz h_FU (1, 0, h_up (h_up M 0 25 0) 0 33 0))
  refine x_bipush hz (-4) dX10_text_9 rfl ?_
  exact x_iret hz rfl dX10_text_11
theorem kX10_text {l : Launch} {dd : hDD} {b n : Nat}  (M : hMem) (r : Int32 × hMem) (h : fX10_text M = some r) : hC l hYm dd b yX10_text cX10_text 3 (some .int) (n + 4) [.ref (b + 0)] M (some (.int r.1), r.2) :=
  h_met (av := fun b => [.ref (b + 0)]) (rt := rtM) (by decide) (Nat.le_of_ble_eq_true rfl) (fun Z hz => wX10_text (n := n) hz  M) r h
set_option maxRecDepth 10000 in
set_option maxHeartbeats 4000000 in
theorem wX10_has {Z : hZ} {n : Nat} (hz : hOK Z hYm cX10_has RX10 3 (n + 0) (some .boolean)) (a1 : Int32) (a2 : Int32) (M : hMem) : hW Z (rtP M) M 0 [(0, .ref (h_b Z + 0)), (1, .int a1), (2, .int a2)] [] (fX10_has a1 a2 M) := by
  unfold fX10_has
  refine x_aload_n hz dX10_has_0 rfl 0 rfl ?_
  refine x_getr hz sm_0 fl_X10_7 rfl rm_0_0 (by decide) dX10_has_1 ?_
  refine x_iload_n hz dX10_has_4 rfl 1 rfl ?_
  refine x_iald hz sm_1 dX10_has_5 (fun hi5 => ?_)
  refine x_iload_n hz dX10_has_6 rfl 2 rfl ?_
  refine x_ishr hz dX10_has_7 ?_
  refine x_iconst hz 1 dX10_has_8 rfl ?_
  refine x_iand hz dX10_has_9 ?_
  refine x_iconst hz 1 dX10_has_10 rfl ?_
  refine x_icmp_ne hz dX10_has_11 ?_ ?_
  · refine x_iconst hz 0 dX10_has_18 rfl ?_
    exact x_zret hz rfl rfl dX10_has_19
  refine x_iconst hz 1 dX10_has_14 rfl ?_
  refine x_goto hz dX10_has_15 ?_
  exact x_zret hz rfl rfl dX10_has_19
theorem kX10_has {l : Launch} {dd : hDD} {b n : Nat} (a1 : Int32) (a2 : Int32) (M : hMem) (r : Int32) (h : fX10_has a1 a2 M = some r) : hC l hYm dd b yX10_has cX10_has 3 (some .boolean) (n + 0) [.ref (b + 0), .int a1, .int a2] M (some (.int r), M) :=
  h_met (av := fun b => [.ref (b + 0), .int a1, .int a2]) (rt := (rtP M)) (by decide) (Nat.le_of_ble_eq_true rfl) (fun Z hz => wX10_has (n := n) hz a1 a2 M) r h
set_option maxRecDepth 10000 in
set_option maxHeartbeats 4000000 in
theorem wX10_isAnyIn_L25 {Z : hZ} {n : Nat} (hz : hOK Z hYm cX10_isAnyIn RX10 3 (n + 0) (some .boolean))  (v1 : Int32) (v2 : Int32) (M : hMem) {k2 : Int32 → Option Int32} (hk2 : ∀ s, hW Z (rtP M) M 2 [(0, .ref (h_b Z + 0)), (1, .int v1), (2, .int s)] [] (k2 s)) : hW Z (rtP M) M 25 [(0, .ref (h_b Z + 0)), (1, .int v1), (2, .int v2)] [] (fX10_isAnyIn_L25 k2 v1 v2 M) := by
  unfold fX10_isAnyIn_L25
  refine x_iload_n hz dX10_isAnyIn_25 rfl 2 rfl ?_
  refine x_aload_n hz dX10_isAnyIn_26 rfl 0 rfl ?_
  refine x_geti hz sm_0 fl_X10_108 rfl dX10_isAnyIn_27 ?_
  refine x_icmp_ge hz dX10_isAnyIn_30 ?_ ?_
  · refine x_iinc hz (v2 + 1) [(2, .int (v2 + 1)), (0, .ref (h_b Z + 0)), (1, .int v1)] dX10_isAnyIn_47 2 rfl rfl rfl rfl ?_
    refine x_goto hz dX10_isAnyIn_50 ?_
    exact x_sub [1, 2, 0] rfl (hk2 (v2 + 1))
  refine x_aload_n hz dX10_isAnyIn_33 rfl 0 rfl ?_
  refine x_getr hz sm_0 fl_X10_31 rfl rm_0_9 (by decide) dX10_isAnyIn_34 ?_
  refine x_iconst hz 3 dX10_isAnyIn_37 rfl ?_
  refine x_iload_n hz dX10_isAnyIn_38 rfl 2 rfl ?_
  refine x_imul hz dX10_isAnyIn_39 ?_
  refine x_iald hz sm_8 dX10_isAnyIn_40 (fun hi40 => ?_)
  refine x_iload_n hz dX10_isAnyIn_41 rfl 1 rfl ?_
  refine x_icmp_ne hz dX10_isAnyIn_42 ?_ ?_
  · refine x_iinc hz (v2 + 1) [(2, .int (v2 + 1)), (0, .ref (h_b Z + 0)), (1, .int v1)] dX10_isAnyIn_47 2 rfl rfl rfl rfl ?_
    refine x_goto hz dX10_isAnyIn_50 ?_
    exact x_sub [1, 2, 0] rfl (hk2 (v2 + 1))
  refine x_iconst hz 1 dX10_isAnyIn_45 rfl ?_
  exact x_zret hz rfl rfl dX10_isAnyIn_46
set_option maxRecDepth 10000 in
set_option maxHeartbeats 4000000 in
theorem wX10_isAnyIn_L2 {Z : hZ} {n : Nat} (hz : hOK Z hYm cX10_isAnyIn RX10 3 (n + 0) (some .boolean))  (v1 : Int32) (M : hMem)  : ∀ (i : Nat) (s : Int32), hW Z (rtP M) M 2 [(0, .ref (h_b Z + 0)), (1, .int v1), (2, .int s)] [] (h_lp (fX10_isAnyIn_L2 v1 M) i s) := by
  refine x_loop (Ms := fun s : Int32 => M) (Ls := fun s : Int32 => [(0, .ref (h_b Z + 0)), (1, .int v1), (2, .int s)]) ?_
  intro k2 hk2 s
  show hW Z (rtP M) M 2 [(0, .ref (h_b Z + 0)), (1, .int v1), (2, .int s)] [] (fX10_isAnyIn_L2 v1 M k2 s)
  unfold fX10_isAnyIn_L2
  refine x_iload_n hz dX10_isAnyIn_2 rfl 2 rfl ?_
  refine x_iconst hz 4 dX10_isAnyIn_3 rfl ?_
  refine x_icmp_ge hz dX10_isAnyIn_4 ?_ ?_
  · refine x_iconst hz 0 dX10_isAnyIn_53 rfl ?_
    exact x_zret hz rfl rfl dX10_isAnyIn_54
  refine x_iload_n hz dX10_isAnyIn_7 rfl 2 rfl ?_
  refine x_aload_n hz dX10_isAnyIn_8 rfl 0 rfl ?_
  refine x_geti hz sm_0 fl_X10_105 rfl dX10_isAnyIn_9 ?_
  refine x_icmp_ge hz dX10_isAnyIn_12 ?_ ?_
  · exact x_sub [0, 1, 2] rfl (wX10_isAnyIn_L25 hz v1 s M hk2)
  refine x_aload_n hz dX10_isAnyIn_15 rfl 0 rfl ?_
  refine x_getr hz sm_0 fl_X10_25 rfl rm_0_6 (by decide) dX10_isAnyIn_16 ?_
  refine x_iload_n hz dX10_isAnyIn_19 rfl 2 rfl ?_
  refine x_iald hz sm_6 dX10_isAnyIn_20 (fun hi20 => ?_)
  refine x_iload_n hz dX10_isAnyIn_21 rfl 1 rfl ?_
  refine x_icmp_eq hz dX10_isAnyIn_22 ?_ ?_
  · refine x_iconst hz 1 dX10_isAnyIn_45 rfl ?_
    exact x_zret hz rfl rfl dX10_isAnyIn_46
  exact x_sub [0, 1, 2] rfl (wX10_isAnyIn_L25 hz v1 s M hk2)
set_option maxRecDepth 10000 in
set_option maxHeartbeats 4000000 in
theorem wX10_isAnyIn {Z : hZ} {n : Nat} (hz : hOK Z hYm cX10_isAnyIn RX10 3 (n + 0) (some .boolean)) (a1 : Int32) (M : hMem) : hW Z (rtP M) M 0 [(0, .ref (h_b Z + 0)), (1, .int a1)] [] (fX10_isAnyIn a1 M) := by
  unfold fX10_isAnyIn
  refine x_iconst hz 0 dX10_isAnyIn_0 rfl ?_
  refine x_istore_n hz [(2, .int 0), (0, .ref (h_b Z + 0)), (1, .int a1)] dX10_isAnyIn_1 rfl rfl rfl ?_
  exact x_sub [1, 2, 0] rfl (wX10_isAnyIn_L2 hz a1 M h_FU 0)
theorem kX10_isAnyIn {l : Launch} {dd : hDD} {b n : Nat} (a1 : Int32) (M : hMem) (r : Int32) (h : fX10_isAnyIn a1 M = some r) : hC l hYm dd b yX10_isAnyIn cX10_isAnyIn 3 (some .boolean) (n + 0) [.ref (b + 0), .int a1] M (some (.int r), M) :=
  h_met (av := fun b => [.ref (b + 0), .int a1]) (rt := (rtP M)) (by decide) (Nat.le_of_ble_eq_true rfl) (fun Z hz => wX10_isAnyIn (n := n) hz a1 M) r h
set_option maxRecDepth 10000 in
set_option maxHeartbeats 4000000 in
theorem wX10_isSquare {Z : hZ} {n : Nat} (hz : hOK Z hYm cX10_isSquare RX10 1 (n + 1) (some .boolean)) (a0 : Int32) (M : hMem) : hW Z (rtP M) M 0 [(0, .int a0)] [] (some (fX10_isSquare a0 M)) := by
  unfold fX10_isSquare
  refine x_iload_n hz dX10_isSquare_0 rfl 0 rfl ?_
  refine x_iconst hz 0 dX10_isSquare_1 rfl ?_
  refine x_bipush hz 31 dX10_isSquare_2 rfl ?_
  refine x_callS hz ms_X10_93 (kX10_in (n := n) a0 0 31 M) rfl (av := [.int a0, .int 0, .int 31]) (rest := []) rfl rfl (Nat.le_of_ble_eq_true rfl) dX10_isSquare_4 ?_
  exact x_zret hz (bX10_in a0 0 31 M) rfl dX10_isSquare_7
theorem bX10_isSquare (a0 : Int32) (M : hMem) : narrow .boolean (.int (fX10_isSquare a0 M)) = .int (fX10_isSquare a0 M) := by
  unfold fX10_isSquare
  exact bX10_in a0 0 31 M
theorem kX10_isSquare {l : Launch} {dd : hDD} {b n : Nat} (a0 : Int32) (M : hMem) : hC l hYm dd b yX10_isSquare cX10_isSquare 1 (some .boolean) (n + 1) [.int a0] M (some (.int (fX10_isSquare a0 M)), M) :=
  h_met (av := fun b => [.int a0]) (rt := (rtP M)) (by decide) (Nat.le_of_ble_eq_true rfl) (fun Z hz => wX10_isSquare (n := n) hz a0 M) _ rfl
set_option maxRecDepth 10000 in
set_option maxHeartbeats 4000000 in
theorem wX10_street_L64 {Z : hZ} {n : Nat} (hz : hOK Z hYm cX10_street RX10 5 (n + 2) (some .int))  (v1 : Int32) (v2 : Int32) (v3 : Int32) (t0 : Int32) (M : hMem)  : hW Z rtM M 64 [(0, .ref (h_b Z + 0)), (1, .int v1), (2, .int v2), (3, .int v3)] [.int t0] (fX10_street_L64 v1 v2 v3 t0 M) := by
  unfold fX10_street_L64
  refine x_istore hz [(4, .int t0), (0, .ref (h_b Z + 0)), (1, .int v1), (2, .int v2), (3, .int v3)] dX10_street_64 rfl rfl ?_
  refine x_aload_n hz dX10_street_66 rfl 1 rfl ?_
  refine x_getr hz sm_0 fl_X10_7 rfl rm_0_0 (by decide) dX10_street_67 ?_
  refine x_iload_n hz dX10_street_70 rfl 2 rfl ?_
  refine x_iload_n hz dX10_street_71 rfl 4 rfl ?_
  refine x_iconst hz 1 dX10_street_72 rfl ?_
  refine x_icmp_ne hz dX10_street_73 ?_ ?_
  · refine x_aload_n hz dX10_street_89 rfl 1 rfl ?_
    refine x_getr hz sm_0 fl_X10_7 rfl rm_0_0 (by decide) dX10_street_90 ?_
    refine x_iload_n hz dX10_street_93 rfl 2 rfl ?_
    refine x_iald hz sm_1 dX10_street_94 (fun hi94 => ?_)
    refine x_iconst hz 1 dX10_street_95 rfl ?_
    refine x_iload_n hz dX10_street_96 rfl 3 rfl ?_
    refine x_ishl hz dX10_street_97 ?_
    refine x_iconst hz (-1) dX10_street_98 rfl ?_
    refine x_ixor hz dX10_street_99 ?_
    refine x_iand hz dX10_street_100 ?_
    refine x_iast hz sm_1 dX10_street_101 (fun hi101 => ?_)
    refine x_iload hz dX10_street_102 0 rfl ?_
    exact x_iret hz rfl dX10_street_104
  refine x_aload_n hz dX10_street_76 rfl 1 rfl ?_
  refine x_getr hz sm_0 fl_X10_7 rfl rm_0_0 (by decide) dX10_street_77 ?_
  refine x_iload_n hz dX10_street_80 rfl 2 rfl ?_
  refine x_iald hz sm_1 dX10_street_81 (fun hi81 => ?_)
  refine x_iconst hz 1 dX10_street_82 rfl ?_
  refine x_iload_n hz dX10_street_83 rfl 3 rfl ?_
  refine x_ishl hz dX10_street_84 ?_
  refine x_ior hz dX10_street_85 ?_
  refine x_goto hz dX10_street_86 ?_
  refine x_iast hz sm_1 dX10_street_101 (fun hi101 => ?_)
  refine x_iload hz dX10_street_102 0 rfl ?_
  exact x_iret hz rfl dX10_street_104
set_option maxRecDepth 10000 in
set_option maxHeartbeats 4000000 in
theorem wX10_street_L50 {Z : hZ} {n : Nat} (hz : hOK Z hYm cX10_street RX10 5 (n + 2) (some .int))  (v1 : Int32) (v2 : Int32) (v3 : Int32) (M : hMem)  : hW Z rtM M 50 [(0, .ref (h_b Z + 0)), (1, .int v1), (2, .int v2), (3, .int v3)] [] (fX10_street_L50 v1 v2 v3 M) := by
  unfold fX10_street_L50
  refine x_aload_n hz dX10_street_50 rfl 0 rfl ?_
  refine x_iload_n hz dX10_street_51 rfl 1 rfl ?_
  refine x_iload_n hz dX10_street_52 rfl 2 rfl ?_
  refine x_bind (fun q53 hq53 => ?_)
  refine x_callV hz mv_X10_101 sm_0 (by decide) rfl rfl (kX10_has (n := (n + 1)) v1 v2 M q53 hq53) rfl (av := [.int v1, .int v2]) (rest := []) rfl rfl (Nat.le_of_ble_eq_true rfl) dX10_street_53 ?_
  refine x_if_eq hz dX10_street_56 ?_ ?_
  · refine x_iconst hz 0 dX10_street_63 rfl ?_
    exact x_sub [0, 1, 2, 3] rfl (wX10_street_L64 hz v1 v2 v3 0 M)
  refine x_iconst hz 1 dX10_street_59 rfl ?_
  refine x_goto hz dX10_street_60 ?_
  exact x_sub [0, 1, 2, 3] rfl (wX10_street_L64 hz v1 v2 v3 1 M)
set_option maxRecDepth 10000 in
set_option maxHeartbeats 4000000 in
theorem wX10_street {Z : hZ} {n : Nat} (hz : hOK Z hYm cX10_street RX10 5 (n + 2) (some .int)) (a1 : Int32) (a2 : Int32) (a3 : Int32) (M : hMem) : hW Z rtM M 0 [(0, .ref (h_b Z + 0)), (1, .int a1), (2, .int a2), (3, .int a3)] [] (fX10_street a1 a2 a3 M) := by
  unfold fX10_street
  refine x_iload_n hz dX10_street_0 rfl 1 rfl ?_
  refine x_iconst hz 0 dX10_street_1 rfl ?_
  refine x_iconst hz 2 dX10_street_2 rfl ?_
  refine x_callS hz ms_X10_93 (kX10_in (n := (n + 1)) a1 0 2 M) rfl (av := [.int a1, .int 0, .int 2]) (rest := []) rfl rfl (Nat.le_of_ble_eq_true rfl) dX10_street_3 ?_
  refine x_if_ne hz dX10_street_6 ?_ ?_
  · refine x_iload_n hz dX10_street_11 rfl 2 rfl ?_
    refine x_callS hz ms_X10_97 (kX10_isSquare (n := n) a2 M) rfl (av := [.int a2]) (rest := []) rfl rfl (Nat.le_of_ble_eq_true rfl) dX10_street_12 ?_
    refine x_if_eq hz dX10_street_15 ?_ ?_
    · refine x_bipush hz (-2) dX10_street_27 rfl ?_
      exact x_iret hz rfl dX10_street_29
    refine x_iload_n hz dX10_street_18 rfl 3 rfl ?_
    refine x_iconst hz 0 dX10_street_19 rfl ?_
    refine x_iconst hz 1 dX10_street_20 rfl ?_
    refine x_callS hz ms_X10_93 (kX10_in (n := (n + 1)) a3 0 1 M) rfl (av := [.int a3, .int 0, .int 1]) (rest := []) rfl rfl (Nat.le_of_ble_eq_true rfl) dX10_street_21 ?_
    refine x_if_ne hz dX10_street_24 ?_ ?_
    · refine x_iload_n hz dX10_street_30 rfl 1 rfl ?_
      refine x_if_ne hz dX10_street_31 ?_ ?_
      · exact x_sub [0, 1, 2, 3] rfl (wX10_street_L50 hz a1 a2 a3 M)
      refine x_iload_n hz dX10_street_34 rfl 3 rfl ?_
      refine x_iconst hz 1 dX10_street_35 rfl ?_
      refine x_icmp_ne hz dX10_street_36 ?_ ?_
      · exact x_sub [0, 1, 2, 3] rfl (wX10_street_L50 hz a1 a2 a3 M)
      refine x_aload_n hz dX10_street_39 rfl 0 rfl ?_
      refine x_iload_n hz dX10_street_40 rfl 2 rfl ?_
      refine x_bind (fun q41 hq41 => ?_)
      refine x_callV hz mv_X10_111 sm_0 (by decide) rfl rfl (kX10_isAnyIn (n := (n + 1)) a2 M q41 hq41) rfl (av := [.int a2]) (rest := []) rfl rfl (Nat.le_of_ble_eq_true rfl) dX10_street_41 ?_
      refine x_if_eq hz dX10_street_44 ?_ ?_
      · exact x_sub [0, 1, 2, 3] rfl (wX10_street_L50 hz a1 a2 a3 M)
      refine x_bipush hz (-3) dX10_street_47 rfl ?_
      exact x_iret hz rfl dX10_street_49
    refine x_bipush hz (-2) dX10_street_27 rfl ?_
    exact x_iret hz rfl dX10_street_29
  refine x_iconst hz (-1) dX10_street_9 rfl ?_
  exact x_iret hz rfl dX10_street_10
theorem kX10_street {l : Launch} {dd : hDD} {b n : Nat} (a1 : Int32) (a2 : Int32) (a3 : Int32) (M : hMem) (r : Int32 × hMem) (h : fX10_street a1 a2 a3 M = some r) : hC l hYm dd b yX10_street cX10_street 5 (some .int) (n + 2) [.ref (b + 0), .int a1, .int a2, .int a3] M (some (.int r.1), r.2) :=
  h_met (av := fun b => [.ref (b + 0), .int a1, .int a2, .int a3]) (rt := rtM) (by decide) (Nat.le_of_ble_eq_true rfl) (fun Z hz => wX10_street (n := n) hz a1 a2 a3 M) r h
set_option maxRecDepth 10000 in
set_option maxHeartbeats 4000000 in
theorem wX10_blow {Z : hZ} {n : Nat} (hz : hOK Z hYm cX10_blow RX10 5 (n + 1) (some .int)) (a1 : Int32) (a2 : Int32) (a3 : Int32) (M : hMem) : hW Z rtM M 0 [(0, .ref (h_b Z + 0)), (1, .int a1), (2, .int a2), (3, .int a3)] [] (fX10_blow a1 a2 a3 M) := by
  unfold fX10_blow
  refine x_iload_n hz dX10_blow_0 rfl 1 rfl ?_
  refine x_iconst hz 0 dX10_blow_1 rfl ?_
  refine x_bipush hz 23 dX10_blow_2 rfl ?_
  refine x_callS hz ms_X10_93 (kX10_in (n := n) a1 0 23 M) rfl (av := [.int a1, .int 0, .int 23]) (rest := []) rfl rfl (Nat.le_of_ble_eq_true rfl) dX10_blow_4 ?_
  refine x_if_ne hz dX10_blow_7 ?_ ?_
  · refine x_iload_n hz dX10_blow_13 rfl 2 rfl ?_
    refine x_iconst hz 0 dX10_blow_14 rfl ?_
    refine x_iconst hz 4 dX10_blow_15 rfl ?_
    refine x_callS hz ms_X10_93 (kX10_in (n := n) a2 0 4 M) rfl (av := [.int a2, .int 0, .int 4]) (rest := []) rfl rfl (Nat.le_of_ble_eq_true rfl) dX10_blow_16 ?_
    refine x_if_eq hz dX10_blow_19 ?_ ?_
    · refine x_bipush hz (-7) dX10_blow_32 rfl ?_
      exact x_iret hz rfl dX10_blow_34
    refine x_iload_n hz dX10_blow_22 rfl 3 rfl ?_
    refine x_iconst hz 0 dX10_blow_23 rfl ?_
    refine x_bipush hz 9 dX10_blow_24 rfl ?_
    refine x_callS hz ms_X10_93 (kX10_in (n := n) a3 0 9 M) rfl (av := [.int a3, .int 0, .int 9]) (rest := []) rfl rfl (Nat.le_of_ble_eq_true rfl) dX10_blow_26 ?_
    refine x_if_ne hz dX10_blow_29 ?_ ?_
    · refine x_bipush hz 10 dX10_blow_35 rfl ?_
      refine x_aload_n hz dX10_blow_37 rfl 0 rfl ?_
      refine x_getr hz sm_0 fl_X10_13 rfl rm_0_1 (by decide) dX10_blow_38 ?_
      refine x_iload_n hz dX10_blow_41 rfl 1 rfl ?_
      refine x_iald hz sm_2 dX10_blow_42 (fun hi42 => ?_)
      refine x_imul hz dX10_blow_43 ?_
      refine x_aload_n hz dX10_blow_44 rfl 0 rfl ?_
      refine x_getr hz sm_0 fl_X10_16 rfl rm_0_2 (by decide) dX10_blow_45 ?_
      refine x_iload_n hz dX10_blow_48 rfl 1 rfl ?_
      refine x_iald hz sm_3 dX10_blow_49 (fun hi49 => ?_)
      refine x_iadd hz dX10_blow_50 ?_
      refine x_istore hz [(4, .int ((10 * (M 2 a1.toNatClampNeg)) + (M 3 a1.toNatClampNeg))), (0, .ref (h_b Z + 0)), (1, .int a1), (2, .int a2), (3, .int a3)] dX10_blow_51 rfl rfl ?_
      refine x_aload_n hz dX10_blow_53 rfl 1 rfl ?_
      refine x_getr hz sm_0 fl_X10_13 rfl rm_0_1 (by decide) dX10_blow_54 ?_
      refine x_iload_n hz dX10_blow_57 rfl 2 rfl ?_
      refine x_iload_n hz dX10_blow_58 rfl 3 rfl ?_
      refine x_iast hz sm_2 dX10_blow_59 (fun hi59 => ?_)
      refine x_aload_n hz dX10_blow_60 rfl 1 rfl ?_
      refine x_getr hz sm_0 fl_X10_16 rfl rm_0_2 (by decide) dX10_blow_61 ?_
      refine x_iload_n hz dX10_blow_64 rfl 2 rfl ?_
      refine x_iload_n hz dX10_blow_65 rfl 4 rfl ?_
      refine x_iast hz sm_3 dX10_blow_66 (fun hi66 => ?_)
      refine x_iload hz dX10_blow_67 0 rfl ?_
      exact x_iret hz rfl dX10_blow_69
    refine x_bipush hz (-7) dX10_blow_32 rfl ?_
    exact x_iret hz rfl dX10_blow_34
  refine x_bipush hz (-5) dX10_blow_10 rfl ?_
  exact x_iret hz rfl dX10_blow_12
theorem kX10_blow {l : Launch} {dd : hDD} {b n : Nat} (a1 : Int32) (a2 : Int32) (a3 : Int32) (M : hMem) (r : Int32 × hMem) (h : fX10_blow a1 a2 a3 M = some r) : hC l hYm dd b yX10_blow cX10_blow 5 (some .int) (n + 1) [.ref (b + 0), .int a1, .int a2, .int a3] M (some (.int r.1), r.2) :=
  h_met (av := fun b => [.ref (b + 0), .int a1, .int a2, .int a3]) (rt := rtM) (by decide) (Nat.le_of_ble_eq_true rfl) (fun Z hz => wX10_blow (n := n) hz a1 a2 a3 M) r h
set_option maxRecDepth 10000 in
set_option maxHeartbeats 4000000 in
theorem wX10_wind {Z : hZ} {n : Nat} (hz : hOK Z hYm cX10_wind RX10 2 (n + 1) (some .int)) (a1 : Int32) (M : hMem) : hW Z (rtP M) M 0 [(0, .ref (h_b Z + 0)), (1, .int a1)] [] (fX10_wind a1 M) := by
  unfold fX10_wind
  refine x_iload_n hz dX10_wind_0 rfl 1 rfl ?_
  refine x_iconst hz 0 dX10_wind_1 rfl ?_
  refine x_bipush hz 23 dX10_wind_2 rfl ?_
  refine x_callS hz ms_X10_93 (kX10_in (n := n) a1 0 23 M) rfl (av := [.int a1, .int 0, .int 23]) (rest := []) rfl rfl (Nat.le_of_ble_eq_true rfl) dX10_wind_4 ?_
  refine x_if_eq hz dX10_wind_7 ?_ ?_
  · refine x_bipush hz (-5) dX10_wind_29 rfl ?_
    exact x_iret hz rfl dX10_wind_31
  refine x_bipush hz 10 dX10_wind_10 rfl ?_
  refine x_aload_n hz dX10_wind_12 rfl 0 rfl ?_
  refine x_getr hz sm_0 fl_X10_13 rfl rm_0_1 (by decide) dX10_wind_13 ?_
  refine x_iload_n hz dX10_wind_16 rfl 1 rfl ?_
  refine x_iald hz sm_2 dX10_wind_17 (fun hi17 => ?_)
  refine x_imul hz dX10_wind_18 ?_
  refine x_aload_n hz dX10_wind_19 rfl 0 rfl ?_
  refine x_getr hz sm_0 fl_X10_16 rfl rm_0_2 (by decide) dX10_wind_20 ?_
  refine x_iload_n hz dX10_wind_23 rfl 1 rfl ?_
  refine x_iald hz sm_3 dX10_wind_24 (fun hi24 => ?_)
  refine x_iadd hz dX10_wind_25 ?_
  refine x_goto hz dX10_wind_26 ?_
  exact x_iret hz rfl dX10_wind_31
theorem kX10_wind {l : Launch} {dd : hDD} {b n : Nat} (a1 : Int32) (M : hMem) (r : Int32) (h : fX10_wind a1 M = some r) : hC l hYm dd b yX10_wind cX10_wind 2 (some .int) (n + 1) [.ref (b + 0), .int a1] M (some (.int r), M) :=
  h_met (av := fun b => [.ref (b + 0), .int a1]) (rt := (rtP M)) (by decide) (Nat.le_of_ble_eq_true rfl) (fun Z hz => wX10_wind (n := n) hz a1 M) r h
